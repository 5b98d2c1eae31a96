/-- what the node a and its mates below add to the set rest -/
def ff (w : Nat → Nat → Option Nat) (a rest : Nat) : Nat → Option Qt := fun b => if rest.testBit b = true then (w a b).map (fun k => qsh k (Tq w (dif rest (2 ^ b)))) else none
theorem Tq_hi' {w : Nat → Nat → Option Nat} {a S : Nat} (ha : a < 12) (hb : S.testBit a = true) (hS : S < 2 ^ (a + 1)) : Tq w S = fb (ff w a (dif S (2 ^ a))) (Tq w (dif S (2 ^ a))) a := Tq_hi ha hb hS
theorem fct_le : ∀ a, a < 12 → (a + 1) * fct a < 2 ^ 29 := by decide
theorem ff_bd {w : Nat → Nat → Option Nat} (hw : ∀ a b k, w a b = some k → k ≤ 999) {a rest b : Nat} (ha : a < 12) (hr : rest < 2 ^ a) (hb : b ≤ a) : qbd (fb (ff w a rest) (Tq w rest) b) := by
  have h0 : qle (a + 1) (fct a) (999 * (a + 1)) (Tq w rest) := by
    unfold Tq
    rw [FT_up hr (by omega : a ≤ 12)]
    obtain ⟨a1, a2, a3, a4⟩ := FT_le hw a rest
    exact ⟨by omega, a2, by omega, by omega⟩
  have h1 := fb_le h0 b (f := ff w a rest) (fun c q hc hq => by
    unfold ff at hq
    split at hq
    · cases hk : w a c with
      | none => rw [hk] at hq; cases hq
      | some k =>
        rw [hk] at hq
        simp only [Option.map_some, Option.some.injEq] at hq
        have hkk := hw a c k hk
        have hl : dif rest (2 ^ c) < 2 ^ a := Nat.lt_of_le_of_lt (dif_le _ _) hr
        have h2 := FT_le hw a (dif rest (2 ^ c))
        have h3 : Tq w (dif rest (2 ^ c)) = FT w a (dif rest (2 ^ c)) := FT_up hl (by omega)
        rw [← h3] at h2
        obtain ⟨a1, a2, a3, a4⟩ := h2
        rw [← hq]
        unfold qsh
        exact ⟨by show _ + 1 ≤ _; omega, a2, by show _ + k ≤ _; omega, by show _ + k ≤ _; omega⟩
    · cases hq)
  obtain ⟨a1, a2, a3, a4⟩ := h1
  have h4 := fct_le a ha
  have h5 : (b + 1) * fct a ≤ (a + 1) * fct a := Nat.mul_le_mul_right _ (by omega)
  exact ⟨Nat.lt_of_le_of_lt a1 (by omega), by omega, Nat.lt_of_le_of_lt a3 (by omega), Nat.lt_of_le_of_lt a4 (by omega)⟩
theorem p12 {a : Nat} (ha : a ≤ 12) : 2 ^ a ≤ 4096 := Nat.pow_le_pow_right (by decide) ha
theorem dif_hi {S a : Nat} (hS : S < 2 ^ (a + 1)) : dif S (2 ^ a) < 2 ^ a := lt_of_bits (fun i hi => by
  rw [dif_bit]
  by_cases h : i = a
  · subst h; simp
  · rw [bit_hi hS (by omega)]; rfl)
theorem bit_top {S a : Nat} (h1 : 2 ^ a ≤ S) (h2 : S < 2 ^ (a + 1)) : S.testBit a = true := by
  rw [Nat.testBit_eq_decide_div_mod_eq]
  have h3 : S / 2 ^ a = 1 := by
    have hp : 0 < 2 ^ a := Nat.two_pow_pos a
    rw [Nat.pow_succ] at h2
    exact Nat.div_eq_of_lt_le (by omega) (by omega)
  rw [h3]; rfl
/-- a net as it is told: its nodes, lines, weights, pairs -/
def Wfn (g : Nw) : Prop := (1 ≤ g.1 ∧ g.1 ≤ 12) ∧ (∀ x y, g.2.1 x y = g.2.1 y x) ∧ (∀ a, g.2.1 a a = none) ∧ (∀ a b k, g.2.1 a b = some k → a < g.1 ∧ b < g.1 ∧ k ≤ 999) ∧ (∀ a b, g.2.2 a = some b → g.2.2 b = some a ∧ a < g.1 ∧ b < g.1 ∧ a ≠ b)
theorem Wfn.w {g : Nw} (h : Wfn g) : ∀ a b k, g.2.1 a b = some k → k ≤ 999 := fun a b k hk => (h.2.2.2.1 a b k hk).2.2
theorem Wfn.m {g : Nw} (h : Wfn g) : ∀ a k, g.2.2 a = some k → k < 12 := fun a k hk => Nat.lt_of_lt_of_le (h.2.2.2.2 a k hk).2.2.1 h.1.2
theorem c_learnSet {B : Bd} {M : Mm} {a S : Nat} {g : Nw} (ok : OkM M) (h : NetRep M 2 g) (wf : Wfn g) (ha : a < 12) (h1 : 2 ^ a ≤ S) (h2 : S < 2 ^ (a + 1)) (hT : ∀ T, T < S → QR M T (Tq g.2.1 T)) : Ct B mX0_learnSet 2 0 0 [.ref 14, .ref 2, .int (nI a), .int (nI S)] M (Rt (fun v N => v = none ∧ QR N S (Tq g.2.1 S) ∧ Fq S M N)) := by
  have hN := h.1
  have hbt := bit_top h1 h2
  have hrl := dif_hi h2
  have hp := p12 (a := a + 1) (by omega)
  have hpa := p12 (a := a) (by omega)
  have hrl0 : dif S (2 ^ a) < S := by omega
  rw [Tq_hi' ha hbt h2]
  refine Ct.of (by decide) rfl rfl (Nat.le_of_ble_eq_true rfl) ?_
  refine e_iload_n dX0_learnSet_0 rfl rfl ?_
  refine e_iconst (v := 1) dX0_learnSet_1 (by decide) ?_
  refine e_iload_n dX0_learnSet_2 rfl rfl ?_
  generalize hre : dif S (2 ^ a) = rest at hrl hrl0
  have cS : (nI S).toNatClampNeg = S := nI_clamp (by omega)
  have cR : (nI rest).toNatClampNeg = rest := nI_clamp (by omega)
  obtain ⟨t1, t2, t3, t4⟩ := hT rest hrl0
  refine e_ishl dX0_learnSet_3 ?_
  rw [shl_1 (by omega)]
  refine e_iconst (v := (-1)) dX0_learnSet_4 (by decide) ?_
  refine e_ixor dX0_learnSet_5 ?_
  refine e_iand dX0_learnSet_6 ?_
  rw [andn_nI, hre]
  refine e_istore dX0_learnSet_7 (by decide) rfl rfl ?_
  refine e_aload_n dX0_learnSet_9 rfl rfl ?_
  refine e_getR dX0_learnSet_10 fRX0_26 (by first | exact ok.sh rfl) (by first | exact ok.rf rfl) (fun _ => rfl) ?_
  refine e_iload_n dX0_learnSet_13 rfl rfl ?_
  refine e_aload_n dX0_learnSet_14 rfl rfl ?_
  refine e_getR dX0_learnSet_15 fRX0_26 (by first | exact ok.sh rfl) (by first | exact ok.rf rfl) (fun _ => rfl) ?_
  refine e_iload dX0_learnSet_18 rfl ?_
  refine e_iaload dX0_learnSet_20 (by first | exact ok.sh rfl) (by first | exact vp_in_nI (show S < 4096 by omega) (by decide) | exact vp_in_nI (show rest < 4096 by omega) (by decide) | exact vp_in_nI (show a < 12 by omega) (by decide)) ?_
  rw [cR, t1]
  refine e_iastore dX0_learnSet_21 (by first | exact ok.sh rfl) (by first | exact vp_in_nI (show S < 4096 by omega) (by decide) | exact vp_in_nI (show rest < 4096 by omega) (by decide) | exact vp_in_nI (show a < 12 by omega) (by decide)) ?_
  refine e_aload_n dX0_learnSet_22 rfl rfl ?_
  refine e_getR dX0_learnSet_23 fRX0_29 (by first | exact ok.sh rfl) (by first | exact ok.rf rfl) (fun _ => rfl) ?_
  refine e_iload_n dX0_learnSet_26 rfl rfl ?_
  refine e_aload_n dX0_learnSet_27 rfl rfl ?_
  refine e_getR dX0_learnSet_28 fRX0_29 (by first | exact ok.sh rfl) (by first | exact ok.rf rfl) (fun _ => rfl) ?_
  refine e_iload dX0_learnSet_31 rfl ?_
  refine e_iaload dX0_learnSet_33 (by first | exact ok.sh rfl) (by first | exact vp_in_nI (show S < 4096 by omega) (by decide) | exact vp_in_nI (show rest < 4096 by omega) (by decide) | exact vp_in_nI (show a < 12 by omega) (by decide)) ?_
  rw [cR, rd_na (by decide), t2]
  refine e_iastore dX0_learnSet_34 (by first | exact ok.sh rfl) (by first | exact vp_in_nI (show S < 4096 by omega) (by decide) | exact vp_in_nI (show rest < 4096 by omega) (by decide) | exact vp_in_nI (show a < 12 by omega) (by decide)) ?_
  refine e_aload_n dX0_learnSet_35 rfl rfl ?_
  refine e_getR dX0_learnSet_36 fRX0_32 (by first | exact ok.sh rfl) (by first | exact ok.rf rfl) (fun _ => rfl) ?_
  refine e_iload_n dX0_learnSet_39 rfl rfl ?_
  refine e_aload_n dX0_learnSet_40 rfl rfl ?_
  refine e_getR dX0_learnSet_41 fRX0_32 (by first | exact ok.sh rfl) (by first | exact ok.rf rfl) (fun _ => rfl) ?_
  refine e_iload dX0_learnSet_44 rfl ?_
  refine e_iaload dX0_learnSet_46 (by first | exact ok.sh rfl) (by first | exact vp_in_nI (show S < 4096 by omega) (by decide) | exact vp_in_nI (show rest < 4096 by omega) (by decide) | exact vp_in_nI (show a < 12 by omega) (by decide)) ?_
  rw [cR, rd_na (by decide), rd_na (by decide), t3]
  refine e_iastore dX0_learnSet_47 (by first | exact ok.sh rfl) (by first | exact vp_in_nI (show S < 4096 by omega) (by decide) | exact vp_in_nI (show rest < 4096 by omega) (by decide) | exact vp_in_nI (show a < 12 by omega) (by decide)) ?_
  refine e_aload_n dX0_learnSet_48 rfl rfl ?_
  refine e_getR dX0_learnSet_49 fRX0_35 (by first | exact ok.sh rfl) (by first | exact ok.rf rfl) (fun _ => rfl) ?_
  refine e_iload_n dX0_learnSet_52 rfl rfl ?_
  refine e_aload_n dX0_learnSet_53 rfl rfl ?_
  refine e_getR dX0_learnSet_54 fRX0_35 (by first | exact ok.sh rfl) (by first | exact ok.rf rfl) (fun _ => rfl) ?_
  refine e_iload dX0_learnSet_57 rfl ?_
  refine e_iaload dX0_learnSet_59 (by first | exact ok.sh rfl) (by first | exact vp_in_nI (show S < 4096 by omega) (by decide) | exact vp_in_nI (show rest < 4096 by omega) (by decide) | exact vp_in_nI (show a < 12 by omega) (by decide)) ?_
  rw [cR, rd_na (by decide), rd_na (by decide), rd_na (by decide), t4]
  refine e_iastore dX0_learnSet_60 (by first | exact ok.sh rfl) (by first | exact vp_in_nI (show S < 4096 by omega) (by decide) | exact vp_in_nI (show rest < 4096 by omega) (by decide) | exact vp_in_nI (show a < 12 by omega) (by decide)) ?_
  refine e_aload_n dX0_learnSet_61 rfl rfl ?_
  refine e_getR dX0_learnSet_62 fRX0_48 (by first | exact ok.sh rfl) (by first | exact ok.rf rfl) (fun _ => rfl) ?_
  refine e_iload_n dX0_learnSet_65 rfl rfl ?_
  refine e_iaload dX0_learnSet_66 (by first | exact ok.sh rfl) (by first | exact vp_in_nI (show S < 4096 by omega) (by decide) | exact vp_in_nI (show rest < 4096 by omega) (by decide) | exact vp_in_nI (show a < 12 by omega) (by decide)) ?_
  rw [cS, nI_clamp (by omega), rd_na (by decide), rd_na (by decide), rd_na (by decide), rd_na (by decide), h.2.2.2.2.1 a ha]
  refine e_iload dX0_learnSet_67 rfl ?_
  refine e_iand dX0_learnSet_69 ?_
  rw [fa_and]
  refine e_istore dX0_learnSet_70 (by decide) rfl rfl ?_
  refine e_iconst (v := 0) dX0_learnSet_72 (by decide) ?_
  refine e_istore dX0_learnSet_73 (by decide) rfl rfl ?_
  have loop : ∀ k b N, b + k = a → QR N S (fb (ff g.2.1 a rest) (Tq g.2.1 rest) b) → Fq S M N → Ev B mX0_learnSet 2 0 0 (Rt (fun v N => v = none ∧ QR N S (fb (ff g.2.1 a rest) (Tq g.2.1 rest) a) ∧ Fq S M N)) 75 [some (.ref 14), some (.ref 2), some (.int (nI a)), some (.int (nI S)), some (.int (nI rest)), some (.int (nI (nbr g.2.1 a &&& rest))), some (.int (nI b))] [] N := by
    intro k
    induction k with
    | zero =>
      intro b N hb hq hf
      have hba : b = a := by omega
      subst hba
      refine e_iload dX0_learnSet_75 rfl ?_
      refine e_iload_n dX0_learnSet_77 rfl rfl ?_
      refine e_icmp_ge (tgt := 118) dX0_learnSet_78 (by decide) (fun hc => ?_) (fun hc => ?_)
      · exact e_vret dX0_learnSet_118 rfl ⟨none, rfl, rfl, hq, hf⟩
      · exact absurd (nI_le (Nat.le_refl b) (by omega)) hc
    | succ k ih =>
      intro b N hb hq hf
      have okN : OkM N := ok.fr hf.Fr
      have hNN : NetRep N 2 g := h.fr hf.Fr (by omega)
      refine e_iload dX0_learnSet_75 rfl ?_
      refine e_iload_n dX0_learnSet_77 rfl rfl ?_
      refine e_icmp_ge (tgt := 118) dX0_learnSet_78 (by decide) (fun hc => ?_) (fun hc => ?_)
      · exact absurd hc (nI_ge (by omega) (by omega))
      · refine e_iload dX0_learnSet_81 rfl ?_
        refine e_iload dX0_learnSet_83 rfl ?_
        have hmk : nbr g.2.1 a &&& rest < 2 ^ 31 := Nat.lt_of_le_of_lt Nat.and_le_left (Nat.lt_trans (nbr_lt g.2.1 a) (by decide))
        refine e_callN0i [_, _] dX0_learnSet_85 msmX5_hasBit nest_0 rfl rfl (Nat.le_of_ble_eq_true rfl) (by decide) (c_hasBit hmk (by omega)) ?_
        have go : ∀ N', QR N' S (fb (ff g.2.1 a rest) (Tq g.2.1 rest) (b + 1)) → Fq S M N' → Ev B mX0_learnSet 2 0 0 (Rt (fun v N => v = none ∧ QR N S (fb (ff g.2.1 a rest) (Tq g.2.1 rest) a) ∧ Fq S M N)) 112 [some (.ref 14), some (.ref 2), some (.int (nI a)), some (.int (nI S)), some (.int (nI rest)), some (.int (nI (nbr g.2.1 a &&& rest))), some (.int (nI b))] [] N' := by
          intro N' hq' hf'
          refine e_iinc (v := nI (b + 1)) dX0_learnSet_112 rfl (nI_1 b) (by decide) rfl rfl ?_
          refine e_goto (tgt := 75) dX0_learnSet_115 (by decide) ?_
          exact ih (b + 1) N' (by omega) hq' hf'
        have hbit : (nbr g.2.1 a &&& rest).testBit b = ((g.2.1 a b).isSome && rest.testBit b) := by
          rw [Nat.testBit_and, nbr_bit]
          simp [show b < 12 by omega]
        by_cases hcond : (nbr g.2.1 a &&& rest).testBit b = true
        · refine e_if_eq (tgt := 112) dX0_learnSet_88 (by decide) (fun hq3 => ?_) (fun hq3 => ?_)
          · rw [if_pos hcond] at hq3; exact absurd hq3 (by decide)
          · rw [hbit, Bool.and_eq_true] at hcond
            obtain ⟨w, hw⟩ := Option.isSome_iff_exists.mp hcond.1
            refine e_aload_n dX0_learnSet_91 rfl rfl ?_
            refine e_iload_n dX0_learnSet_92 rfl rfl ?_
            refine e_iload dX0_learnSet_93 rfl ?_
            refine e_iconst (v := 1) dX0_learnSet_95 (by decide) ?_
            refine e_iload dX0_learnSet_96 rfl ?_
            refine e_ishl dX0_learnSet_98 ?_
            rw [shl_1 (by omega)]
            refine e_iconst (v := (-1)) dX0_learnSet_99 (by decide) ?_
            refine e_ixor dX0_learnSet_100 ?_
            refine e_iand dX0_learnSet_101 ?_
            rw [andn_nI]
            refine e_aload_n dX0_learnSet_102 rfl rfl ?_
            refine e_iload_n dX0_learnSet_103 rfl rfl ?_
            refine e_iload dX0_learnSet_104 rfl ?_
            refine e_callV0i [_, _] dX0_learnSet_106 mvmX1_weightOf lkRX0_55 (by first | exact okN.sh rfl) ⟨by decide, rfl⟩ rfl rfl (Nat.le_of_ble_eq_true rfl) (by decide) (c_weightOf hNN (by omega) (by omega)) ?_
            rw [hw]
            have hdl : dif rest (2 ^ b) ≤ rest := dif_le _ _
            have hwl : w ≤ 999 := wf.w a b w hw
            have hTT := (hT (dif rest (2 ^ b)) (by omega)).fq hf (by omega)
            show Ev _ _ _ _ _ _ 109 _ [.int (nI w), .int (nI (dif rest (2 ^ b))), .int (nI S), .ref 14] _
            refine e_callV1 [_, _, _] dX0_learnSet_109 mvmX0_weighIn lkRX0_59 (by first | exact okN.sh rfl) ⟨by decide, rfl⟩ rfl rfl (Nat.le_of_ble_eq_true rfl) (by decide) (c_weighIn okN (by omega) (by omega) (by omega) hq hTT (ff_bd wf.w ha hrl (by omega)) (Tq_bd wf.w _) (by omega)) (fun v N' hn => ?_)
            obtain ⟨rfl, hn1, hn2⟩ := hn
            refine go N' ?_ (hf.trans hn2)
            rw [fb_s]
            have hff : ff g.2.1 a rest b = some (qsh w (Tq g.2.1 (dif rest (2 ^ b)))) := by
              unfold ff
              rw [if_pos hcond.2, hw]; rfl
            rw [hff]; exact hn1
        · refine e_if_eq (tgt := 112) dX0_learnSet_88 (by decide) (fun hq3 => ?_) (fun hq3 => ?_)
          · refine go N ?_ hf
            rw [fb_s]
            have hff : ff g.2.1 a rest b = none := by
              unfold ff
              rw [hbit, Bool.and_eq_true] at hcond
              by_cases hr9 : rest.testBit b = true
              · rw [if_pos hr9]
                cases hw9 : g.2.1 a b with
                | none => rfl
                | some w => exact absurd ⟨by rw [hw9]; rfl, hr9⟩ hcond
              · rw [if_neg hr9]
            rw [hff]; exact hq
          · rw [if_neg hcond] at hq3; exact absurd rfl hq3
  refine loop a 0 _ (by omega) ⟨?_, ?_, ?_, ?_⟩ ((((Fq.rf.s (by decide) (by decide)).s (by decide) (by decide)).s (by decide) (by decide)).s (by decide) (by decide))
  · rw [rd_na (by decide), rd_na (by decide), rd_na (by decide), rd_self]; rfl
  · rw [rd_na (by decide), rd_na (by decide), rd_self]; rfl
  · rw [rd_na (by decide), rd_self]; rfl
  · rw [rd_self]; rfl

