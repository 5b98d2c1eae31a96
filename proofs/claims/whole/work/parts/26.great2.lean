/-- what the node a and its mates below add to the set rest -/
def ff (w : Nat → Nat → Option Nat) (a rest : Nat) : Nat → Option Qt := fun b => if rest.testBit b = true then (w a b).map (fun k => qsh k (Tq w (dif rest (2 ^ b)))) else none
theorem Tq_hi' {w : Nat → Nat → Option Nat} {a S : Nat} (ha : a < 12) (hb : S.testBit a = true) (hS : S < 2 ^ (a + 1)) : Tq w S = fb (ff w a (dif S (2 ^ a))) (Tq w (dif S (2 ^ a))) a := Tq_hi ha hb hS
theorem fct_le : ∀ a, a < 12 → (a + 1) * fct a < 2 ^ 29 := by decide
theorem ff_le {w : Nat → Nat → Option Nat} (hw : ∀ a b k, w a b = some k → k ≤ 999) {a rest b : Nat} (ha : a < 12) (hr : rest < 2 ^ a) (hb : b ≤ a) : qle (a + 1) ((b + 1) * fct a) (999 * (a + 1)) (fb (ff w a rest) (Tq w rest) b) := by
  have h0 : qle (a + 1) (fct a) (999 * (a + 1)) (Tq w rest) := by
    unfold Tq
    rw [FT_up hr (by omega : a ≤ 12)]
    obtain ⟨a1, a2, a3, a4⟩ := FT_le hw a rest
    exact ⟨by omega, a2, by omega, by omega⟩
  exact fb_le h0 b (f := ff w a rest) (fun c q hc hq => by
    unfold ff at hq
    split at hq
    · cases hk : w a c with
      | none => rw [hk] at hq; cases hq
      | some k =>
        rw [hk] at hq
        simp only [Option.map_some, Option.some.injEq] at hq
        have hkk := hw a c k hk
        have hl : dif rest (2 ^ c) < 2 ^ a := Nat.lt_of_le_of_lt (dif_le _ _) hr
        have h2 := FT_le hw a (dif rest (2 ^ c))
        have h3 : Tq w (dif rest (2 ^ c)) = FT w a (dif rest (2 ^ c)) := FT_up hl (by omega)
        rw [← h3] at h2
        obtain ⟨a1, a2, a3, a4⟩ := h2
        rw [← hq]
        unfold qsh
        exact ⟨by show _ + 1 ≤ _; omega, a2, by show _ + k ≤ _; omega, by show _ + k ≤ _; omega⟩
    · cases hq)
theorem ff_bd {w : Nat → Nat → Option Nat} (hw : ∀ a b k, w a b = some k → k ≤ 999) {a rest b : Nat} (ha : a < 12) (hr : rest < 2 ^ a) (hb : b ≤ a) : qbd (fb (ff w a rest) (Tq w rest) b) := by
  obtain ⟨a1, a2, a3, a4⟩ := ff_le hw ha hr hb
  have h4 := fct_le a ha
  have h5 : (b + 1) * fct a ≤ (a + 1) * fct a := Nat.mul_le_mul_right _ (by omega)
  exact ⟨Nat.lt_of_le_of_lt a1 (by omega), by omega, Nat.lt_of_le_of_lt a3 (by omega), Nat.lt_of_le_of_lt a4 (by omega)⟩
theorem ff_cnt {w : Nat → Nat → Option Nat} {a rest b : Nat} (ha : a < 12) (hr : rest < 2 ^ a) (hb : b ≤ a) : (fb (ff w a rest) (Tq w rest) b).2.1 ≤ MM (cb rest a + 1) (fb (ff w a rest) (Tq w rest) b).1 := by
  have e0 : Tq w rest = FT w a rest := FT_up hr (by omega)
  have h0 : (Tq w rest).2.1 ≤ MM (cb rest a) (Tq w rest).1 := by rw [e0]; exact FT_cnt w a rest
  have h1 := fb_cnt (f := ff w a rest) (T := rest) (c := a) h0 (fun c q hc hq => by
    unfold ff at hq
    split at hq
    case isTrue hs =>
      refine ⟨hs, (Tq w (dif rest (2 ^ c))).1, ?_⟩
      cases hk : w a c with
      | none => rw [hk] at hq; cases hq
      | some k =>
        rw [hk] at hq
        simp only [Option.map_some, Option.some.injEq] at hq
        rw [← hq]
        refine ⟨rfl, ?_⟩
        have hl : dif rest (2 ^ c) < 2 ^ a := Nat.lt_of_le_of_lt (dif_le _ _) hr
        have e1 : Tq w (dif rest (2 ^ c)) = FT w a (dif rest (2 ^ c)) := FT_up hl (by omega)
        show (Tq w (dif rest (2 ^ c))).2.1 ≤ _
        have h2 := FT_cnt w a (dif rest (2 ^ c))
        have h3 := cb_dif hc hs
        rw [e1, show cb rest a - 1 = cb (dif rest (2 ^ c)) a by omega]
        exact h2
    case isFalse => cases hq) b hb
  rw [← GG_top]
  exact Nat.le_trans h1 (GG_mono (cb_mono rest hb) _)
theorem ff_Qb {w : Nat → Nat → Option Nat} (hw : ∀ a b k, w a b = some k → k ≤ 999) {a rest b : Nat} (ha : a < 12) (hr : rest < 2 ^ a) (hb : b ≤ a) : Qb (fb (ff w a rest) (Tq w rest) b) := by
  obtain ⟨a1, -, a3, a4⟩ := ff_le hw ha hr hb
  have h1 := ff_cnt (w := w) ha hr hb
  have h2 := cb_le rest a
  have h3 := MM_le (cb rest a + 1) (by omega) _ (Nat.le_trans a1 (by omega))
  exact ⟨by omega, by omega, by omega, by omega⟩
theorem qsh_Qb {w : Nat → Nat → Option Nat} (hw : ∀ a b k, w a b = some k → k ≤ 999) {a T k : Nat} (ha : a < 12) (hT : T < 2 ^ a) (hk : k ≤ 999) : Qb (qsh k (Tq w T)) := by
  have e1 : Tq w T = FT w a T := FT_up hT (by omega)
  obtain ⟨a1, -, a3, a4⟩ := FT_le hw a T
  have h1 := (Tq_Qb hw T).2.1
  rw [← e1] at a1 a3 a4
  unfold qsh
  exact ⟨by show _ + 1 ≤ _; omega, h1, by show _ + k < _; omega, by show _ + k < _; omega⟩
theorem p12 {a : Nat} (ha : a ≤ 12) : 2 ^ a ≤ 4096 := Nat.pow_le_pow_right (by decide) ha
theorem dif_hi {S a : Nat} (hS : S < 2 ^ (a + 1)) : dif S (2 ^ a) < 2 ^ a := lt_of_bits (fun i hi => by
  rw [dif_bit]
  by_cases h : i = a
  · subst h; simp
  · rw [bit_hi hS (by omega)]; rfl)
theorem bit_top {S a : Nat} (h1 : 2 ^ a ≤ S) (h2 : S < 2 ^ (a + 1)) : S.testBit a = true := by
  rw [Nat.testBit_eq_decide_div_mod_eq]
  have h3 : S / 2 ^ a = 1 := by
    have hp : 0 < 2 ^ a := Nat.two_pow_pos a
    rw [Nat.pow_succ] at h2
    exact Nat.div_eq_of_lt_le (by omega) (by omega)
  rw [h3]; rfl
/-- a net as it is told: its nodes, lines, weights, pairs -/
def Wfn (g : Nw) : Prop := (1 ≤ g.1 ∧ g.1 ≤ 12) ∧ (∀ x y, g.2.1 x y = g.2.1 y x) ∧ (∀ a, g.2.1 a a = none) ∧ (∀ a b k, g.2.1 a b = some k → a < g.1 ∧ b < g.1 ∧ k ≤ 999) ∧ (∀ a b, g.2.2 a = some b → g.2.2 b = some a ∧ a < g.1 ∧ b < g.1 ∧ a ≠ b)
theorem Wfn.w {g : Nw} (h : Wfn g) : ∀ a b k, g.2.1 a b = some k → k ≤ 999 := fun a b k hk => (h.2.2.2.1 a b k hk).2.2
theorem Wfn.m {g : Nw} (h : Wfn g) : ∀ a k, g.2.2 a = some k → k < 12 := fun a k hk => Nat.lt_of_lt_of_le (h.2.2.2.2 a k hk).2.2.1 h.1.2
/-- what stands in the cell 16 is of g -/
def GR (M : Mm) (g : Nw) : Prop := ∀ S, S < 4096 → M.2.2.1 16 S = 0 ∨ M.2.2.1 16 S = pk (Tq g.2.1 S)
theorem fb_no {f : Nat → Option Qt} {x : Qt} : ∀ n, (∀ b, b < n → f b = none) → fb f x n = x := by
  intro n
  induction n with
  | zero => intro _; rfl
  | succ n ih =>
    intro h
    rw [fb_s, h n (by omega)]
    exact ih (fun b hb => h b (by omega))
theorem dif_id {S a : Nat} (h : ¬ S.testBit a = true) : dif S (2 ^ a) = S := by
  apply Nat.eq_of_testBit_eq
  intro i
  rw [dif_bit, Nat.testBit_two_pow]
  by_cases hi : a = i
  · subst hi
    simp at h
    rw [h]; rfl
  · simp [hi]
/-- what an answer of Greatest leaves -/
abbrev GP (g : Nw) (M : Mm) : Mm → Prop := fun N => GR N g ∧ Fj M N
theorem c_workOut {B : Bd} {g : Nw} (wf : Wfn g) {c : Nat} (hc : c < 12) (IH : ∀ M S, OkM M → NetRep M 2 g → GR M g → S < 2 ^ c → Ct B mX0_greatestBelow (2 * c + 2) 0 0 [.ref 14, .int (nI c), .int (nI S)] M (Rt (fun u N => u = some (.long (pk (Tq g.2.1 S))) ∧ GP g M N))) {M : Mm} {S : Nat} (ok : OkM M) (h : NetRep M 2 g) (hg : GR M g) (hS : S < 2 ^ (c + 1)) : Ct B mX0_workOut (2 * c + 3) 0 0 [.ref 14, .int (nI c), .int (nI S)] M (Rt (fun u N => u = some (.long (pk (Tq g.2.1 S))) ∧ GP g M N)) := by
  have hw := wf.w
  have hp := p12 (a := c + 1) (by omega)
  have hpc := p12 (a := c) (by omega)
  have hrl := dif_hi hS
  generalize hre : dif S (2 ^ c) = rest at hrl
  -- whom the node c may be joined to
  have main : ∃ mm, mm < 4096 ∧ (∀ N, NetRep N 2 g → OkM N → ∀ st, Ev B mX0_workOut (2 * c + 3) 0 0 (Rt (fun u N => u = some (.long (pk (Tq g.2.1 S))) ∧ GP g M N)) 39 [some (.ref 14), some (.int (nI c)), some (.int (nI S)), some (.int (nI rest)), some (.long st), none, none, none, none] [.int (nI mm)] N → Ev B mX0_workOut (2 * c + 3) 0 0 (Rt (fun u N => u = some (.long (pk (Tq g.2.1 S))) ∧ GP g M N)) 16 [some (.ref 14), some (.int (nI c)), some (.int (nI S)), some (.int (nI rest)), some (.long st), none, none, none, none] [] N) ∧ ∃ f, Tq g.2.1 S = fb f (Tq g.2.1 rest) c ∧ ∀ b, b ≤ c → Qb (fb f (Tq g.2.1 rest) b) ∧ (b < c → (mm.testBit b = true → ∃ k, g.2.1 c b = some k ∧ f b = some (qsh k (Tq g.2.1 (dif rest (2 ^ b))))) ∧ (¬ mm.testBit b = true → f b = none)) := by
    by_cases hb : S.testBit c = true
    · refine ⟨nbr g.2.1 c &&& rest, Nat.lt_of_le_of_lt Nat.and_le_right (by omega), fun N hN okN st k => ?_, ff g.2.1 c rest, ?_, fun b hbc => ⟨ff_Qb hw hc hrl hbc, fun hb2 => ?_⟩⟩
      · refine e_iload_n dX0_workOut_16 rfl rfl ?_
        refine e_iload_n dX0_workOut_17 rfl rfl ?_
        refine e_callN0i [_, _] dX0_workOut_18 msmX5_hasBit nest_0 rfl rfl (Nat.le_of_ble_eq_true rfl) (by omega) (c_hasBit (by omega) (by omega)) ?_
        rw [if_pos hb]
        refine e_if_eq (tgt := 38) dX0_workOut_21 (by decide) (fun hq => absurd hq (by decide)) (fun hq => ?_)
        refine e_aload_n dX0_workOut_24 rfl rfl ?_
        refine e_getR dX0_workOut_25 fRX0_23 (by first | exact okN.sh rfl | exact hN.1.1 | exact hN.1.2.2.1) (by first | exact okN.rf rfl | exact hN.1.2.2.2.2.2.1) (fun _ => rfl) ?_
        refine e_getR dX0_workOut_28 fRX0_54 (by first | exact okN.sh rfl | exact hN.1.1 | exact hN.1.2.2.1) (by first | exact okN.rf rfl | exact hN.1.2.2.2.2.2.1) (fun _ => rfl) ?_
        refine e_iload_n dX0_workOut_31 rfl rfl ?_
        refine e_iaload dX0_workOut_32 (by first | exact okN.sh rfl | exact hN.1.1 | exact hN.1.2.2.1) (by exact vp_in_nI (show c < 12 by omega) (by decide)) ?_
        rw [nI_clamp (by omega), hN.2.2.2.2.1 c (by omega)]
        refine e_iload_n dX0_workOut_33 rfl rfl ?_
        refine e_iand dX0_workOut_34 ?_
        rw [fa_and]
        refine e_goto (tgt := 39) dX0_workOut_35 (by decide) ?_
        exact k
      · rw [Tq_hi' hc hb hS, hre]
      · refine ⟨fun hm => ?_, fun hm => ?_⟩
        · rw [Nat.testBit_and, nbr_bit] at hm
          simp only [Bool.and_eq_true] at hm
          obtain ⟨k, hk⟩ := Option.isSome_iff_exists.mp hm.1.2
          refine ⟨k, hk, ?_⟩
          unfold ff
          rw [if_pos hm.2, hk]; rfl
        · unfold ff
          by_cases hr2 : rest.testBit b = true
          · rw [if_pos hr2]
            cases hk : g.2.1 c b with
            | none => rfl
            | some k =>
              refine absurd ?_ hm
              rw [Nat.testBit_and, nbr_bit, hk, hr2, decide_eq_true (by omega : b < 12)]
              rfl
          · rw [if_neg hr2]
    · have hrS : rest = S := by rw [← hre]; exact dif_id hb
      have hno : ∀ b, fb (fun _ => (none : Option Qt)) (Tq g.2.1 rest) b = Tq g.2.1 rest := fun b => fb_no b (fun _ _ => rfl)
      refine ⟨0, by decide, fun N hN okN st k => ?_, fun _ => none, ?_, fun b hbc => ⟨?_, fun _ => ⟨fun hm => ?_, fun _ => rfl⟩⟩⟩
      · refine e_iload_n dX0_workOut_16 rfl rfl ?_
        refine e_iload_n dX0_workOut_17 rfl rfl ?_
        refine e_callN0i [_, _] dX0_workOut_18 msmX5_hasBit nest_0 rfl rfl (Nat.le_of_ble_eq_true rfl) (by omega) (c_hasBit (by omega) (by omega)) ?_
        rw [if_neg hb]
        refine e_if_eq (tgt := 38) dX0_workOut_21 (by decide) (fun hq => ?_) (fun hq => absurd rfl hq)
        refine e_iconst (v := 0) dX0_workOut_38 (by decide) ?_
        exact k
      · rw [hno, hrS]
      · rw [hno]; exact Tq_Qb hw _
      · simp at hm
  obtain ⟨mm, hmm, step, f, hTf, hf⟩ := main
  refine Ct.of (by decide) rfl rfl (Nat.le_of_ble_eq_true rfl) ?_
  refine e_iload_n dX0_workOut_0 rfl rfl ?_
  refine e_iconst (v := 1) dX0_workOut_1 (by decide) ?_
  refine e_iload_n dX0_workOut_2 rfl rfl ?_
  refine e_ishl dX0_workOut_3 ?_
  rw [shl_1 (by omega)]
  refine e_iconst (v := (-1)) dX0_workOut_4 (by decide) ?_
  refine e_ixor dX0_workOut_5 ?_
  refine e_iand dX0_workOut_6 ?_
  rw [andn_nI, hre]
  refine e_istore_n dX0_workOut_7 rfl (by decide) rfl rfl ?_
  refine e_aload_n dX0_workOut_8 rfl rfl ?_
  refine e_iload_n dX0_workOut_9 rfl rfl ?_
  refine e_iload_n dX0_workOut_10 rfl rfl ?_
  refine e_callV1l [_, _] dX0_workOut_11 mvmX0_greatestBelow lkRX0_39 (by exact ok.sh rfl) ⟨by decide, rfl⟩ rfl rfl (Nat.le_of_ble_eq_true rfl) (by omega) (IH M rest ok h hg hrl) (fun N1 h1 => ?_)
  obtain ⟨g1, f1⟩ := h1
  refine e_lstore dX0_workOut_14 (by decide) rfl rfl ?_
  refine step N1 (h.fl f1) (ok.fl f1) _ ?_
  have loop : ∀ j b N (t : Option Value), b + j = c → GP g M N → Ev B mX0_workOut (2 * c + 3) 0 0 (Rt (fun u N => u = some (.long (pk (Tq g.2.1 S))) ∧ GP g M N)) 44 [some (.ref 14), some (.int (nI c)), some (.int (nI S)), some (.int (nI rest)), some (.long (pk (fb f (Tq g.2.1 rest) b))), none, some (.int (nI mm)), some (.int (nI b)), t] [] N := by
    intro j
    induction j with
    | zero =>
      intro b N t hbj hN
      have hbc : b = c := by omega
      refine e_iload dX0_workOut_44 rfl ?_
      refine e_iload_n dX0_workOut_46 rfl rfl ?_
      refine e_icmp_ge (tgt := 108) dX0_workOut_47 (by decide) (fun hq => ?_) (fun hq => ?_)
      · refine e_lload dX0_workOut_108 rfl ?_
        rw [hbc, ← hTf]
        exact e_lret dX0_workOut_110 rfl (⟨_, rfl, rfl, hN⟩)
      · exact absurd (nI_le (by omega : c ≤ b) (by omega)) hq
    | succ j ih =>
      intro b N t hbj hN
      obtain ⟨gN, fN⟩ := hN
      have okN := ok.fl fN
      have hNN : NetRep N 2 g := h.fl fN
      obtain ⟨qb, hfb⟩ := hf b (by omega)
      obtain ⟨hfy, hfn⟩ := hfb (by omega)
      refine e_iload dX0_workOut_44 rfl ?_
      refine e_iload_n dX0_workOut_46 rfl rfl ?_
      refine e_icmp_ge (tgt := 108) dX0_workOut_47 (by decide) (fun hq => ?_) (fun hq => ?_)
      · exact absurd hq (nI_ge (by omega) (by omega))
      · have go : ∀ (N' : Mm) (x : Int64) (t : Option Value), GP g M N' → x = pk (fb f (Tq g.2.1 rest) (b + 1)) → Ev B mX0_workOut (2 * c + 3) 0 0 (Rt (fun u N => u = some (.long (pk (Tq g.2.1 S))) ∧ GP g M N)) 102 [some (.ref 14), some (.int (nI c)), some (.int (nI S)), some (.int (nI rest)), some (.long x), none, some (.int (nI mm)), some (.int (nI b)), t] [] N' := by
          intro N' x t hN' hx
          refine e_iinc (v := nI (b + 1)) dX0_workOut_102 rfl (nI_1 b) (by decide) rfl rfl ?_
          refine e_goto (tgt := 44) dX0_workOut_105 (by decide) ?_
          rw [hx]
          exact ih (b + 1) N' t (by omega) hN'
        refine e_iload dX0_workOut_50 rfl ?_
        refine e_iload dX0_workOut_52 rfl ?_
        refine e_callN0i [_, _] dX0_workOut_54 msmX5_hasBit nest_0 rfl rfl (Nat.le_of_ble_eq_true rfl) (by omega) (c_hasBit (by omega) (by omega)) ?_
        by_cases hbt : mm.testBit b = true
        · obtain ⟨k, hk, hfk⟩ := hfy hbt
          have hk9 := hw _ _ _ hk
          have hdl : dif rest (2 ^ b) < 2 ^ c := Nat.lt_of_le_of_lt (dif_le _ _) hrl
          have q2 := qsh_Qb (w := g.2.1) hw hc hdl hk9
          have e3 : fb f (Tq g.2.1 rest) (b + 1) = qadd (fb f (Tq g.2.1 rest) b) (qsh k (Tq g.2.1 (dif rest (2 ^ b)))) := by rw [fb_s, hfk]
          have q3 := (hf (b + 1) (by omega)).1
          rw [if_pos hbt]
          refine e_if_eq (tgt := 102) dX0_workOut_57 (by decide) (fun hz => absurd hz (by decide)) (fun _ => ?_)
          refine e_aload_n dX0_workOut_60 rfl rfl ?_
          refine e_getR dX0_workOut_61 fRX0_23 (by exact okN.sh rfl) (by exact okN.rf rfl) (fun _ => rfl) ?_
          refine e_iload_n dX0_workOut_64 rfl rfl ?_
          refine e_iload dX0_workOut_65 rfl ?_
          refine e_callV0i [_, _] dX0_workOut_67 mvmX1_weightOf lkRX0_57 (by exact okN.sh rfl) ⟨by decide, rfl⟩ rfl rfl (Nat.le_of_ble_eq_true rfl) (by omega) (c_weightOf hNN (by omega) (by omega)) ?_
          rw [hk]
          show Ev _ _ _ _ _ _ 70 _ [.int (nI k)] _
          refine e_istore dX0_workOut_70 (by decide) rfl rfl ?_
          refine e_lload dX0_workOut_72 rfl ?_
          refine e_aload_n dX0_workOut_74 rfl rfl ?_
          refine e_iload_n dX0_workOut_75 rfl rfl ?_
          refine e_iload_n dX0_workOut_76 rfl rfl ?_
          refine e_iconst (v := 1) dX0_workOut_77 (by decide) ?_
          refine e_iload dX0_workOut_78 rfl ?_
          refine e_ishl dX0_workOut_80 ?_
          rw [shl_1 (by omega)]
          refine e_iconst (v := (-1)) dX0_workOut_81 (by decide) ?_
          refine e_ixor dX0_workOut_82 ?_
          refine e_iand dX0_workOut_83 ?_
          rw [andn_nI]
          refine e_callV1l [_, _] dX0_workOut_84 mvmX0_greatestBelow lkRX0_39 (by exact okN.sh rfl) ⟨by decide, rfl⟩ rfl rfl (Nat.le_of_ble_eq_true rfl) (by omega) (IH N _ okN hNN gN hdl) (fun N2 h2 => ?_)
          obtain ⟨g2, f2⟩ := h2
          refine e_iconst (v := 1) dX0_workOut_87 (by decide) ?_
          refine e_iconst (v := 0) dX0_workOut_88 (by decide) ?_
          refine e_iload dX0_workOut_89 rfl ?_
          refine e_iload dX0_workOut_91 rfl ?_
          refine e_callS0l [_, _, _, _] dX0_workOut_93 msmX0_pack lkRX0_43 rfl rfl (Nat.le_of_ble_eq_true rfl) (by omega) (c_pack (d := k) (a := 1) (b := 0) (c := k) ⟨by show 1 ≤ 16; decide, by show 0 < 65536; decide, by show k < 65536; omega, by show k < 65536; omega⟩) ?_
          refine e_ladd dX0_workOut_96 ?_
          rw [pk_qsh]
          refine e_callS0l [_, _] dX0_workOut_97 msmX0_both lkRX0_61 rfl rfl (Nat.le_of_ble_eq_true rfl) (by omega) (c_both qb q2 (by rw [← e3]; exact q3)) ?_
          refine e_lstore dX0_workOut_100 (by decide) rfl rfl ?_
          exact go N2 _ _ ⟨g2, fN.trans f2⟩ (by rw [e3])
        · rw [if_neg hbt]
          refine e_if_eq (tgt := 102) dX0_workOut_57 (by decide) (fun _ => ?_) (fun hz => absurd rfl hz)
          exact go N _ _ ⟨gN, fN⟩ (by rw [fb_s, hfn hbt])
  refine e_istore dX0_workOut_39 (by decide) rfl rfl ?_
  refine e_iconst (v := 0) dX0_workOut_41 (by decide) ?_
  refine e_istore dX0_workOut_42 (by decide) rfl rfl ?_
  exact loop c 0 N1 none (by omega) ⟨g1, f1⟩
theorem c_greatestBelow {B : Bd} {g : Nw} (wf : Wfn g) : ∀ c, c ≤ 12 → ∀ M S, OkM M → NetRep M 2 g → GR M g → S < 2 ^ c → Ct B mX0_greatestBelow (2 * c + 2) 0 0 [.ref 14, .int (nI c), .int (nI S)] M (Rt (fun u N => u = some (.long (pk (Tq g.2.1 S))) ∧ GP g M N)) := by
  intro c
  induction c with
  | zero =>
    intro _ M S ok h hg hS
    have hS0 : S = 0 := by
      have : 2 ^ 0 = 1 := rfl
      omega
    subst hS0
    refine Ct.of (by decide) rfl rfl (Nat.le_of_ble_eq_true rfl) ?_
    refine e_iload_n dX0_greatestBelow_0 rfl rfl ?_
    refine e_if_le (tgt := 15) dX0_greatestBelow_1 (by decide) (fun _ => ?_) (fun hz => absurd (by decide) hz)
    refine e_iconst (v := 0) dX0_greatestBelow_15 (by decide) ?_
    refine e_iconst (v := 1) dX0_greatestBelow_16 (by decide) ?_
    refine e_iconst (v := 0) dX0_greatestBelow_17 (by decide) ?_
    refine e_iconst (v := 0) dX0_greatestBelow_18 (by decide) ?_
    refine e_callS0l [_, _, _, _] dX0_greatestBelow_19 msmX0_pack lkRX0_43 rfl rfl (Nat.le_of_ble_eq_true rfl) (by omega) (c_pack (a := 0) (b := 1) (c := 0) (d := 0) ⟨by decide, by decide, by decide, by decide⟩) ?_
    exact e_lret dX0_greatestBelow_22 rfl (⟨_, rfl, by rw [Tq_0], hg, Fj.rf⟩)
  | succ c ih =>
    intro hc M S ok h hg hS
    have hp := p12 (a := c + 1) hc
    have hS9 : S < 4096 := by omega
    refine Ct.of (by decide) rfl rfl (Nat.le_of_ble_eq_true rfl) ?_
    refine e_iload_n dX0_greatestBelow_0 rfl rfl ?_
    refine e_if_le (tgt := 15) dX0_greatestBelow_1 (by decide) (fun hz => ?_) (fun _ => ?_)
    · have h1 : nI (c + 1) ≤ nI 0 := hz
      rw [nI_leI (by omega) (by omega)] at h1
      omega
    · refine e_iload_n dX0_greatestBelow_4 rfl rfl ?_
      by_cases hS0 : S = 0
      · subst hS0
        refine e_if_le (tgt := 15) dX0_greatestBelow_5 (by decide) (fun _ => ?_) (fun hz => absurd (by decide) hz)
        refine e_iconst (v := 0) dX0_greatestBelow_15 (by decide) ?_
        refine e_iconst (v := 1) dX0_greatestBelow_16 (by decide) ?_
        refine e_iconst (v := 0) dX0_greatestBelow_17 (by decide) ?_
        refine e_iconst (v := 0) dX0_greatestBelow_18 (by decide) ?_
        refine e_callS0l [_, _, _, _] dX0_greatestBelow_19 msmX0_pack lkRX0_43 rfl rfl (Nat.le_of_ble_eq_true rfl) (by omega) (c_pack (a := 0) (b := 1) (c := 0) (d := 0) ⟨by decide, by decide, by decide, by decide⟩) ?_
        exact e_lret dX0_greatestBelow_22 rfl (⟨_, rfl, by rw [Tq_0], hg, Fj.rf⟩)
      · refine e_if_le (tgt := 15) dX0_greatestBelow_5 (by decide) (fun hz => ?_) (fun _ => ?_)
        · have h1 : nI S ≤ nI 0 := hz
          rw [nI_leI (by omega) (by omega)] at h1
          omega
        · refine e_iload_n dX0_greatestBelow_8 rfl rfl ?_
          refine e_sipush (v := 4096) dX0_greatestBelow_9 (by decide) ?_
          rw [show (4096 : Int32) = nI 4096 from fa_lit 4096]
          refine e_icmp_lt (tgt := 23) dX0_greatestBelow_12 (by decide) (fun _ => ?_) (fun hz => absurd (nI_lt (by omega) (by omega)) hz)
          have cS : (nI S).toNatClampNeg = S := nI_clamp (by omega)
          refine e_aload_n dX0_greatestBelow_23 rfl rfl ?_
          refine e_getR dX0_greatestBelow_24 fRX0_19 (by exact ok.sh rfl) (by exact ok.rf rfl) (fun _ => rfl) ?_
          refine e_iload_n dX0_greatestBelow_27 rfl rfl ?_
          refine e_laload dX0_greatestBelow_28 (by exact ok.sh rfl) (by exact vp_in_nI hS9 (by decide)) ?_
          rw [cS]
          refine e_lconst (v := 0) dX0_greatestBelow_29 (by decide) ?_
          refine e_lcmp dX0_greatestBelow_30 ?_
          have hcmp := lg_cmp_eq (M.2.2.1 16 S) 0
          by_cases hz : M.2.2.1 16 S = 0
          · refine e_if_ne (tgt := 48) dX0_greatestBelow_31 (by decide) (fun hq => absurd (hcmp.mpr hz) hq) (fun _ => ?_)
            refine e_aload_n dX0_greatestBelow_34 rfl rfl ?_
            refine e_getR dX0_greatestBelow_35 fRX0_19 (by exact ok.sh rfl) (by exact ok.rf rfl) (fun _ => rfl) ?_
            refine e_iload_n dX0_greatestBelow_38 rfl rfl ?_
            refine e_aload_n dX0_greatestBelow_39 rfl rfl ?_
            refine e_iload_n dX0_greatestBelow_40 rfl rfl ?_
            refine e_iconst (v := 1) dX0_greatestBelow_41 (by decide) ?_
            refine e_isub dX0_greatestBelow_42 ?_
            rw [show nI (c + 1) - 1 = nI c by rw [← nI_1, Int32.add_sub_cancel]]
            refine e_iload_n dX0_greatestBelow_43 rfl rfl ?_
            refine e_callV1l [_, _] dX0_greatestBelow_44 mvmX0_workOut lkRX0_47 (by exact ok.sh rfl) ⟨by decide, rfl⟩ rfl rfl (Nat.le_of_ble_eq_true rfl) (by omega) (c_workOut wf (by omega) (ih (by omega)) ok h hg hS) (fun N1 h1 => ?_)
            obtain ⟨g1, f1⟩ := h1
            have ok1 := ok.fl f1
            refine e_lastore dX0_greatestBelow_47 (by exact ok1.lo) (by exact ok1.sh rfl) (by exact vp_in_nI hS9 (by decide)) ?_
            refine e_aload_n dX0_greatestBelow_48 rfl rfl ?_
            refine e_getR dX0_greatestBelow_49 fRX0_19 (by exact ok1.sh rfl) (by exact ok1.rf rfl) (fun _ => rfl) ?_
            refine e_iload_n dX0_greatestBelow_52 rfl rfl ?_
            refine e_laload dX0_greatestBelow_53 (by exact ok1.sh rfl) (by exact vp_in_nI hS9 (by decide)) ?_
            rw [cS]
            have e9 : (sJ N1 16 S (pk (Tq g.2.1 S))).2.2.1 16 S = pk (Tq g.2.1 S) := by
              show u2 N1.2.2.1 16 S _ 16 S = _
              rw [u2_self]; simp
            rw [e9]
            refine e_lret dX0_greatestBelow_54 rfl ⟨_, rfl, rfl, fun T hT => ?_, f1.sJ⟩
            show u2 N1.2.2.1 16 S _ 16 T = 0 ∨ u2 N1.2.2.1 16 S _ 16 T = _
            rw [u2_self]
            dsimp only
            by_cases hTS : T = S
            · right; rw [if_pos hTS, hTS]
            · rw [if_neg hTS]; exact g1 T hT
          · refine e_if_ne (tgt := 48) dX0_greatestBelow_31 (by decide) (fun _ => ?_) (fun hq => absurd (hcmp.mp hq) hz)
            have e9 := (hg S hS9).resolve_left hz
            refine e_aload_n dX0_greatestBelow_48 rfl rfl ?_
            refine e_getR dX0_greatestBelow_49 fRX0_19 (by exact ok.sh rfl) (by exact ok.rf rfl) (fun _ => rfl) ?_
            refine e_iload_n dX0_greatestBelow_52 rfl rfl ?_
            refine e_laload dX0_greatestBelow_53 (by exact ok.sh rfl) (by exact vp_in_nI hS9 (by decide)) ?_
            rw [cS, e9]
            exact e_lret dX0_greatestBelow_54 rfl (⟨_, rfl, rfl, hg, Fj.rf⟩)

