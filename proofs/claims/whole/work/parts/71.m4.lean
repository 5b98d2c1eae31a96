/-! the Model reads a statement -/
theorem wf_none {s : Ps} (h : WP s) : Wfn (s.1, s.2.1, fun _ => none) := ⟨h.1.1, h.1.2.1, h.1.2.2.1, h.1.2.2.2.1, fun a b h => by cases h⟩
theorem WP_w {s : Ps} {w' : Nat → Nat → Option Nat} (h : WP s) (hw : Wfn (s.1, w', fun _ => none)) : WP (s.1, w', s.2.2) := ⟨⟨hw.1, hw.2.1, hw.2.2.1, hw.2.2.2.1, h.1.2.2.2.2⟩, h.2⟩
theorem WP_p {s : Ps} {a b : Nat} (h : WP s) (ha : a < s.1) (hb : b < s.1) (hab : a ≠ b) : WP (s.1, s.2.1, s.2.2 ++ [(a, b)]) := by
  refine ⟨?_, fun ab hin => ?_⟩
  · show Wfn (s.1, s.2.1, (pmt (s.2.2 ++ [(a, b)])).1)
    rw [pmt_ap]
    unfold ptl
    by_cases hc : (pmt s.2.2).1 a = none ∧ (pmt s.2.2).1 b = none
    · rw [if_pos hc]
      exact Wfn_m2 h.1 ha hb hab hc.1 hc.2
    · rw [if_neg hc]; exact h.1
  · have hin' : ab ∈ s.2.2 ++ [(a, b)] := hin
    rw [List.mem_append, List.mem_singleton] at hin'
    rcases hin' with q | q
    · exact h.2 ab q
    · rw [q]; exact ⟨ha, hb, hab⟩
theorem last_ne {l : List Nat} (h : l.Pairwise (fun x y => x ≠ y)) (h2 : 2 ≤ l.length) : lastD l ≠ l.getD 0 0 := by
  cases l with
  | nil => exact absurd h2 (by decide)
  | cons x t =>
    cases t with
    | nil => exact absurd h2 (by simp)
    | cons y t =>
      rw [List.pairwise_cons] at h
      have : lastD (x :: y :: t) = lastD (y :: t) := rfl
      rw [this]
      show lastD (y :: t) ≠ x
      exact fun q => h.1 _ (lastD_mem (by simp)) q.symm
theorem rgl_wf {s : Ps} {l : List Nat} (h : WP s) (hl : RgOk s.1 l) (h2 : 2 ≤ l.length) : WP (s.1, (rgl l l.length 0 (s.1, s.2.1, fun _ => none)).2.1, s.2.2) := by
  have wf := wf_none h
  obtain ⟨c1, c2, c3⟩ := conn_wf l _ wf rfl hl
  have hl0 : l ≠ [] := by intro q; rw [q] at h2; exact absurd h2 (by decide)
  have hla := hl.1 _ (lastD_mem hl0)
  have hfi := hl.1 _ (headD_mem hl0)
  obtain ⟨w1, w2', w3⟩ := pIN_wf c1 (by rw [c2]; exact hla) (by rw [c2]; exact hfi) (last_ne hl.2 h2)
  have hr := rgl_conn l l.length 0 (s.1, s.2.1, fun _ => none) (by omega) (by omega)
  rw [List.drop_zero] at hr
  have hm := rgl_m l s.1 (fun _ => none) (fun _ => none) l.length 0 s.2.1
  rw [← hr, hm] at w1
  exact WP_w h w1
theorem allw_wf {s : Ps} (h : WP s) : WP (s.1, allw s.1 s.2.1, s.2.2) := by
  have wf := wf_none h
  refine WP_w h ⟨wf.1, fun x y => ?_, fun a => ?_, fun a b k hk => ?_, fun a b h => by cases h⟩
  · have e : s.2.1 x y = s.2.1 y x := wf.2.1 x y
    show allw s.1 s.2.1 x y = allw s.1 s.2.1 y x
    unfold allw
    by_cases hc : x ≠ y ∧ x < s.1 ∧ y < s.1
    · rw [if_pos hc, if_pos ⟨hc.1.symm, hc.2.2, hc.2.1⟩, e]
    · rw [if_neg hc, if_neg (fun q => hc ⟨q.1.symm, q.2.2, q.2.1⟩), e]
  · show allw s.1 s.2.1 a a = none
    unfold allw
    rw [if_neg (fun q => q.1 rfl)]
    exact wf.2.2.1 a
  · have hk' : allw s.1 s.2.1 a b = some k := hk
    unfold allw at hk'
    by_cases hc : a ≠ b ∧ a < s.1 ∧ b < s.1
    · rw [if_pos hc] at hk'
      refine ⟨hc.2.1, hc.2.2, ?_⟩
      have := Option.some.inj hk'
      cases hw : s.2.1 a b with
      | none => rw [hw] at this; have : 1 = k := this; omega
      | some j =>
        rw [hw] at this
        have e : j = k := this
        have := (wf.2.2.2.1 a b j hw).2.2
        omega
    · rw [if_neg hc] at hk'
      exact wf.2.2.2.1 a b k hk'
/-- all lines, row by row from below the diagonal -/
def awq (w : Nat → Nat → Option Nat) (a b : Nat) : Nat → Nat → Option Nat := fun x y => if (y < x ∧ (x < a ∨ (x = a ∧ y < b))) ∨ (x < y ∧ (y < a ∨ (y = a ∧ x < b))) then some ((w x y).getD 1) else w x y
theorem awq_0 (w : Nat → Nat → Option Nat) : awq w 0 0 = w := by
  funext x y
  unfold awq
  rw [if_neg (by omega)]
theorem awq_row (w : Nat → Nat → Option Nat) (a : Nat) : awq w a a = awq w (a + 1) 0 := by
  funext x y
  unfold awq
  by_cases h : (y < x ∧ (x < a ∨ (x = a ∧ y < a))) ∨ (x < y ∧ (y < a ∨ (y = a ∧ x < a)))
  · rw [if_pos h, if_pos (by omega)]
  · rw [if_neg h, if_neg (by omega)]
theorem awq_end (n : Nat) (w : Nat → Nat → Option Nat) : awq w n 0 = allw n w := by
  funext x y
  unfold awq allw
  by_cases h : x ≠ y ∧ x < n ∧ y < n
  · rw [if_pos h, if_pos (by omega)]
  · rw [if_neg h, if_neg (by omega)]
theorem awq_step {n a b : Nat} {w : Nat → Nat → Option Nat} {m : Nat → Option Nat} (hs : ∀ x y, w x y = w y x) (hb : b < a) : pIN (n, awq w a b, m) a b = (n, awq w a (b + 1), m) := by
  have e0 : awq w a b a b = w a b := by unfold awq; rw [if_neg (by omega)]
  unfold pIN
  show (if (awq w a b a b).isSome = true then _ else (n, w2 (awq w a b) a b (some 1), m)) = _
  rw [e0]
  by_cases hw : (w a b).isSome = true
  · rw [if_pos hw]
    congr 2
    funext x y
    unfold awq
    by_cases h1 : (y < x ∧ (x < a ∨ (x = a ∧ y < b))) ∨ (x < y ∧ (y < a ∨ (y = a ∧ x < b)))
    · rw [if_pos h1, if_pos (by omega)]
    · rw [if_neg h1]
      by_cases h2 : (y < x ∧ (x < a ∨ (x = a ∧ y < b + 1))) ∨ (x < y ∧ (y < a ∨ (y = a ∧ x < b + 1)))
      · rw [if_pos h2]
        have h3 : (x = a ∧ y = b) ∨ (x = b ∧ y = a) := by omega
        obtain ⟨k, hk⟩ := Option.isSome_iff_exists.mp hw
        rcases h3 with ⟨q1, q2⟩ | ⟨q1, q2⟩
        · rw [q1, q2, hk]; rfl
        · rw [q1, q2, hs b a, hk]; rfl
      · rw [if_neg h2]
  · rw [if_neg hw]
    have hn : w a b = none := by
      cases hh : w a b with
      | none => rfl
      | some k => rw [hh] at hw; exact absurd rfl hw
    congr 2
    funext x y
    unfold w2
    by_cases h3 : (x = a ∧ y = b) ∨ (x = b ∧ y = a)
    · rw [if_pos h3]
      unfold awq
      rw [if_pos (by omega)]
      rcases h3 with ⟨q1, q2⟩ | ⟨q1, q2⟩
      · rw [q1, q2, hn]; rfl
      · rw [q1, q2, hs b a, hn]; rfl
    · rw [if_neg h3]
      unfold awq
      by_cases h1 : (y < x ∧ (x < a ∨ (x = a ∧ y < b))) ∨ (x < y ∧ (y < a ∨ (y = a ∧ x < b)))
      · rw [if_pos h1, if_pos (by omega)]
      · rw [if_neg h1, if_neg (by omega)]
theorem awq_wf {s : Ps} (h : WP s) (a b : Nat) (ha : a < s.1 ∨ (a = s.1 ∧ b = 0)) : ∀ k, awq s.2.1 a b a b = some k → k < 2 ^ 31 := by
  intro k hk
  unfold awq at hk
  rw [if_neg (by omega)] at hk
  have := (h.1.2.2.2.1 a b k hk).2.2
  omega
/-- what a statement may change -/
def MX (M N : Mm) : Prop := N.1 = M.1 ∧ N.2.2 = M.2.2 ∧ (∀ j, j ∉ [4, 6, 7, 14] → N.2.1 60 j = M.2.1 60 j) ∧ ∀ b, b ≠ 60 → b ≠ 64 → b ≠ 74 → N.2.1 b = M.2.1 b
theorem MX.rf {M : Mm} : MX M M := ⟨rfl, rfl, fun _ _ => rfl, fun _ _ _ _ => rfl⟩
theorem MX.trans {M N K : Mm} (h1 : MX M N) (h2 : MX N K) : MX M K := ⟨h2.1.trans h1.1, h2.2.1.trans h1.2.1, fun j hj => (h2.2.2.1 j hj).trans (h1.2.2.1 j hj), fun b x y z => (h2.2.2.2 b x y z).trans (h1.2.2.2 b x y z)⟩
theorem MF.X {ks : List Nat} {M N : Mm} (h : MF ks M N) (hs : ∀ j, j ∈ ks → j ∈ [4, 6, 7, 14]) : MX M N := ⟨h.1.1, h.1.2.1, fun j hj => h.2 j (fun q => hj (hs j q)), fun b h1 _ _ => h.1.2.2 b (by omega)⟩
theorem Fr.X66 {M N : Mm} (h : Fr 64 64 M N) : MX M N := ⟨h.1, h.2.1, fun j _ => by rw [h.2.2 60 (by omega)], fun b _ h2 _ => h.2.2 b (by omega)⟩
theorem Fr.X76 {M N : Mm} (h : Fr 74 74 M N) : MX M N := ⟨h.1, h.2.1, fun j _ => by rw [h.2.2 60 (by omega)], fun b _ _ h2 => h.2.2 b (by omega)⟩
theorem OkM.mx {M N : Mm} (ok : OkM M) (h : MX M N) : OkM N := ok.of h.1 h.2.1
theorem MT.mx {M N : Mm} {T : Nat → Nat} {n : Nat} (h : MT M T n) (hf : MX M N) : MT N T n := ⟨by rw [hf.2.2.1 3 (by decide)]; exact h.1, h.2.1, h.2.2.1, fun i hi => by rw [hf.2.2.2 62 (by decide) (by decide) (by decide)]; exact h.2.2.2 i hi⟩
theorem MS.w {M N : Mm} {s : Ps} {w' : Nat → Nat → Option Nat} (h : MS M s) (hn : NowR N 64 (s.1, w', fun _ => none)) (h14 : N.2.1 60 14 = M.2.1 60 14) (h76 : N.2.1 74 = M.2.1 74) (hw : WP (s.1, w', s.2.2)) : MS N (s.1, w', s.2.2) := ⟨hn, by rw [h14]; exact h.2.1, by rw [h76]; exact h.2.2.1, h.2.2.2.1, hw⟩
theorem Mrd.at {M N : Mm} {n : Nat} {x : Fl ⊕ Nat} (h : Mrd M n x) (e : N.2.1 60 = M.2.1 60) : Mrd N n x := by
  cases x with
  | inl f => obtain ⟨k, pl⟩ := f; unfold Mrd; rw [e]; exact h
  | inr p => unfold Mrd; rw [e]; exact h
/-- what reading a statement leaves -/
def MLP (T : Nat → Nat) (n p : Nat) (M : Mm) (x : Fl ⊕ (Nat × Ps)) : Ot → Mm → Prop := Rt (fun u N => u = none ∧ MT N T n ∧ MX M N ∧ match x with
  | .inl f => Mrd N n (.inl f)
  | .inr (e, s') => Mrd N n (.inr e) ∧ MS N s' ∧ 2 * s'.2.2.length ≤ e ∧ p < e)
theorem two_mA {B : Bd} {M : Mm} {T : Nat → Nat} {n p : Nat} {s : Ps} {Φ : Ot → Mm → Prop} {r0 : Int32} (ok : OkM M) (h : MT M T n) (hx : Mrd M n (.inr p)) (hs : MS M s) (kk : ∀ N r1 r2, MT N T n → MF [4, 6, 7] M N → Mrd N n (bd (ptwo T n (s.1 - 1) p) (fun e => .inr e.1)) → (∀ e a b, ptwo T n (s.1 - 1) p = .inr (e, a, b) → r1 = nI a ∧ r2 = nI b) → Ev B mX6_readsLine 5 0 0 Φ 44 [some (.ref 60), some (.int r0), some (.int r1), some (.int r2), none] [] N) : Ev B mX6_readsLine 5 0 0 Φ 19 [some (.ref 60), some (.int r0), none, none, none] [] M := by
  have hg1' : 1 ≤ s.1 ∧ s.1 ≤ 12 := hs.2.2.2.2.1.1
  refine e_aload_n dX6_readsLine_19 rfl rfl ?_
  refine e_iconst (v := 0) dX6_readsLine_20 (by decide) ?_
  refine e_callV1 [_] dX6_readsLine_21 mvmX6_nodeTold lkRX6_131 (by exact ok.sh rfl) ⟨by decide, rfl⟩ rfl rfl (Nat.le_of_ble_eq_true rfl) (by decide) (c_nodeTold (bt := 0) ok h hx hs (by decide)) (fun u N1 h1 => ?_)
  obtain ⟨r1, hu, rd1, mf1, v1⟩ := h1
  subst hu
  have ok1 : OkM N1 := ok.fr mf1.1
  have t1 := h.rf mf1 (by decide)
  have s1 := hs.rf mf1 (by decide)
  simp only [bd_r, pnb_0] at rd1
  cases hp1 : pnum T n 0 (s.1 - 1) p with
  | inl f =>
    rw [hp1] at rd1
    have rd1' : Mrd N1 n (.inl f) := rd1
    have ep : ptwo T n (s.1 - 1) p = .inl f := by unfold ptwo; rw [hp1]
    refine e_istore_n dX6_readsLine_24 rfl (by decide) rfl rfl ?_
    refine e_aload_n dX6_readsLine_25 rfl rfl ?_
    refine e_aload_n dX6_readsLine_26 rfl rfl ?_
    refine e_callV0i [] dX6_readsLine_27 mvmX6_fine lkRX6_94 (by exact ok1.sh rfl) ⟨by decide, rfl⟩ rfl rfl (Nat.le_of_ble_eq_true rfl) (by decide) (c_fine ok1 rd1') ?_
    refine e_if_eq (tgt := 39) dX6_readsLine_30 (by decide) (fun _ => ?_) (fun hz => absurd rfl hz)
    refine e_iconst (v := 0) dX6_readsLine_39 (by decide) ?_
    refine e_callV1 [_] dX6_readsLine_40 mvmX6_nodeTold lkRX6_131 (by exact ok1.sh rfl) ⟨by decide, rfl⟩ rfl rfl (Nat.le_of_ble_eq_true rfl) (by decide) (c_nodeTold (bt := 0) ok1 t1 rd1' s1 (by decide)) (fun u N2 h2 => ?_)
    obtain ⟨r2, hu, rd2, mf2, v2⟩ := h2
    subst hu
    refine e_istore_n dX6_readsLine_43 rfl (by decide) rfl rfl ?_
    refine kk N2 r1 r2 (t1.rf mf2 (by decide)) (mf1.trans mf2) ?_ (fun e a b q => ?_)
    · rw [ep]; exact rd2
    · rw [ep] at q; cases q
  | inr w =>
    obtain ⟨e1, a, q1⟩ := w
    have ho1 := pnum_ok hx.1 hp1
    have va := v1 p e1 a q1 rfl (by rw [pnb_0]; exact hp1)
    subst va
    rw [hp1] at rd1
    have rd1' : Mrd N1 n (.inr e1) := rd1
    have ep : ptwo T n (s.1 - 1) p = match pnum T n 0 (s.1 - 1) e1 with
      | .inl e => .inl e
      | .inr (e2, b, q) => if a = b then .inl (2, q) else .inr (e2, a, b) := by unfold ptwo; rw [hp1]; rfl
    refine e_istore_n dX6_readsLine_24 rfl (by decide) rfl rfl ?_
    refine e_aload_n dX6_readsLine_25 rfl rfl ?_
    refine e_aload_n dX6_readsLine_26 rfl rfl ?_
    refine e_callV0i [] dX6_readsLine_27 mvmX6_fine lkRX6_94 (by exact ok1.sh rfl) ⟨by decide, rfl⟩ rfl rfl (Nat.le_of_ble_eq_true rfl) (by decide) (c_fine ok1 rd1') ?_
    refine e_if_eq (tgt := 39) dX6_readsLine_30 (by decide) (fun hz => absurd hz (fin01_r e1)) (fun _ => ?_)
    refine e_iconst (v := 1) dX6_readsLine_33 (by decide) ?_
    refine e_iload_n dX6_readsLine_34 rfl rfl ?_
    refine e_ishl dX6_readsLine_35 ?_
    rw [shl_1 (by omega)]
    refine e_goto (tgt := 40) dX6_readsLine_36 (by decide) ?_
    refine e_callV1 [_] dX6_readsLine_40 mvmX6_nodeTold lkRX6_131 (by exact ok1.sh rfl) ⟨by decide, rfl⟩ rfl rfl (Nat.le_of_ble_eq_true rfl) (by decide) (c_nodeTold (bt := 2 ^ a) ok1 t1 rd1' s1 (two_lt (by omega))) (fun u N2 h2 => ?_)
    obtain ⟨r2, hu, rd2, mf2, v2⟩ := h2
    subst hu
    simp only [bd_r] at rd2
    have hb := pnb_2 (T := T) (n := n) (hi := s.1 - 1) (a := a) (p := e1) (by omega) ho1.1
    refine e_istore_n dX6_readsLine_43 rfl (by decide) rfl rfl ?_
    refine kk N2 (nI a) r2 (t1.rf mf2 (by decide)) (mf1.trans mf2) ?_ (fun e x b q => ?_)
    · rw [ep]
      rw [hb] at rd2
      cases hp2 : pnum T n 0 (s.1 - 1) e1 with
      | inl f =>
        rw [hp2] at rd2
        exact rd2
      | inr w =>
        obtain ⟨e2, b, q2⟩ := w
        rw [hp2] at rd2
        dsimp only at rd2 ⊢
        by_cases hab : a = b
        · rw [if_pos hab] at rd2 ⊢; exact rd2
        · rw [if_neg hab] at rd2 ⊢; exact rd2
    · rw [ep] at q
      cases hp2 : pnum T n 0 (s.1 - 1) e1 with
      | inl f => rw [hp2] at q; cases q
      | inr w =>
        obtain ⟨e2, b2, q2⟩ := w
        rw [hp2] at q hb
        dsimp only at q hb
        by_cases hab : a = b2
        · rw [if_pos hab] at q; cases q
        · rw [if_neg hab] at q hb
          cases q
          exact ⟨rfl, v2 e1 e b q2 rfl hb⟩
theorem two_mB {B : Bd} {M : Mm} {T : Nat → Nat} {n p : Nat} {s : Ps} {Φ : Ot → Mm → Prop} {r0 : Int32} (ok : OkM M) (h : MT M T n) (hx : Mrd M n (.inr p)) (hs : MS M s) (kk : ∀ N r1 r2, MT N T n → MF [4, 6, 7] M N → Mrd N n (bd (ptwo T n (s.1 - 1) p) (fun e => .inr e.1)) → (∀ e a b, ptwo T n (s.1 - 1) p = .inr (e, a, b) → r1 = nI a ∧ r2 = nI b) → Ev B mX6_readsLine 5 0 0 Φ 195 [some (.ref 60), some (.int r0), some (.int r1), some (.int r2), none] [] N) : Ev B mX6_readsLine 5 0 0 Φ 170 [some (.ref 60), some (.int r0), none, none, none] [] M := by
  have hg1' : 1 ≤ s.1 ∧ s.1 ≤ 12 := hs.2.2.2.2.1.1
  refine e_aload_n dX6_readsLine_170 rfl rfl ?_
  refine e_iconst (v := 0) dX6_readsLine_171 (by decide) ?_
  refine e_callV1 [_] dX6_readsLine_172 mvmX6_nodeTold lkRX6_131 (by exact ok.sh rfl) ⟨by decide, rfl⟩ rfl rfl (Nat.le_of_ble_eq_true rfl) (by decide) (c_nodeTold (bt := 0) ok h hx hs (by decide)) (fun u N1 h1 => ?_)
  obtain ⟨r1, hu, rd1, mf1, v1⟩ := h1
  subst hu
  have ok1 : OkM N1 := ok.fr mf1.1
  have t1 := h.rf mf1 (by decide)
  have s1 := hs.rf mf1 (by decide)
  simp only [bd_r, pnb_0] at rd1
  cases hp1 : pnum T n 0 (s.1 - 1) p with
  | inl f =>
    rw [hp1] at rd1
    have rd1' : Mrd N1 n (.inl f) := rd1
    have ep : ptwo T n (s.1 - 1) p = .inl f := by unfold ptwo; rw [hp1]
    refine e_istore_n dX6_readsLine_175 rfl (by decide) rfl rfl ?_
    refine e_aload_n dX6_readsLine_176 rfl rfl ?_
    refine e_aload_n dX6_readsLine_177 rfl rfl ?_
    refine e_callV0i [] dX6_readsLine_178 mvmX6_fine lkRX6_94 (by exact ok1.sh rfl) ⟨by decide, rfl⟩ rfl rfl (Nat.le_of_ble_eq_true rfl) (by decide) (c_fine ok1 rd1') ?_
    refine e_if_eq (tgt := 190) dX6_readsLine_181 (by decide) (fun _ => ?_) (fun hz => absurd rfl hz)
    refine e_iconst (v := 0) dX6_readsLine_190 (by decide) ?_
    refine e_callV1 [_] dX6_readsLine_191 mvmX6_nodeTold lkRX6_131 (by exact ok1.sh rfl) ⟨by decide, rfl⟩ rfl rfl (Nat.le_of_ble_eq_true rfl) (by decide) (c_nodeTold (bt := 0) ok1 t1 rd1' s1 (by decide)) (fun u N2 h2 => ?_)
    obtain ⟨r2, hu, rd2, mf2, v2⟩ := h2
    subst hu
    refine e_istore_n dX6_readsLine_194 rfl (by decide) rfl rfl ?_
    refine kk N2 r1 r2 (t1.rf mf2 (by decide)) (mf1.trans mf2) ?_ (fun e a b q => ?_)
    · rw [ep]; exact rd2
    · rw [ep] at q; cases q
  | inr w =>
    obtain ⟨e1, a, q1⟩ := w
    have ho1 := pnum_ok hx.1 hp1
    have va := v1 p e1 a q1 rfl (by rw [pnb_0]; exact hp1)
    subst va
    rw [hp1] at rd1
    have rd1' : Mrd N1 n (.inr e1) := rd1
    have ep : ptwo T n (s.1 - 1) p = match pnum T n 0 (s.1 - 1) e1 with
      | .inl e => .inl e
      | .inr (e2, b, q) => if a = b then .inl (2, q) else .inr (e2, a, b) := by unfold ptwo; rw [hp1]; rfl
    refine e_istore_n dX6_readsLine_175 rfl (by decide) rfl rfl ?_
    refine e_aload_n dX6_readsLine_176 rfl rfl ?_
    refine e_aload_n dX6_readsLine_177 rfl rfl ?_
    refine e_callV0i [] dX6_readsLine_178 mvmX6_fine lkRX6_94 (by exact ok1.sh rfl) ⟨by decide, rfl⟩ rfl rfl (Nat.le_of_ble_eq_true rfl) (by decide) (c_fine ok1 rd1') ?_
    refine e_if_eq (tgt := 190) dX6_readsLine_181 (by decide) (fun hz => absurd hz (fin01_r e1)) (fun _ => ?_)
    refine e_iconst (v := 1) dX6_readsLine_184 (by decide) ?_
    refine e_iload_n dX6_readsLine_185 rfl rfl ?_
    refine e_ishl dX6_readsLine_186 ?_
    rw [shl_1 (by omega)]
    refine e_goto (tgt := 191) dX6_readsLine_187 (by decide) ?_
    refine e_callV1 [_] dX6_readsLine_191 mvmX6_nodeTold lkRX6_131 (by exact ok1.sh rfl) ⟨by decide, rfl⟩ rfl rfl (Nat.le_of_ble_eq_true rfl) (by decide) (c_nodeTold (bt := 2 ^ a) ok1 t1 rd1' s1 (two_lt (by omega))) (fun u N2 h2 => ?_)
    obtain ⟨r2, hu, rd2, mf2, v2⟩ := h2
    subst hu
    simp only [bd_r] at rd2
    have hb := pnb_2 (T := T) (n := n) (hi := s.1 - 1) (a := a) (p := e1) (by omega) ho1.1
    refine e_istore_n dX6_readsLine_194 rfl (by decide) rfl rfl ?_
    refine kk N2 (nI a) r2 (t1.rf mf2 (by decide)) (mf1.trans mf2) ?_ (fun e x b q => ?_)
    · rw [ep]
      rw [hb] at rd2
      cases hp2 : pnum T n 0 (s.1 - 1) e1 with
      | inl f =>
        rw [hp2] at rd2
        exact rd2
      | inr w =>
        obtain ⟨e2, b, q2⟩ := w
        rw [hp2] at rd2
        dsimp only at rd2 ⊢
        by_cases hab : a = b
        · rw [if_pos hab] at rd2 ⊢; exact rd2
        · rw [if_neg hab] at rd2 ⊢; exact rd2
    · rw [ep] at q
      cases hp2 : pnum T n 0 (s.1 - 1) e1 with
      | inl f => rw [hp2] at q; cases q
      | inr w =>
        obtain ⟨e2, b2, q2⟩ := w
        rw [hp2] at q hb
        dsimp only at q hb
        by_cases hab : a = b2
        · rw [if_pos hab] at q; cases q
        · rw [if_neg hab] at q hb
          cases q
          exact ⟨rfl, v2 e1 e b q2 rfl hb⟩
theorem c_readsLine {B : Bd} {M : Mm} {T : Nat → Nat} {n p : Nat} {s : Ps} (ok : OkM M) (h : MT M T n) (hx : Mrd M n (.inr p)) (hs : MS M s) (hpp : 2 * s.2.2.length ≤ p) : Ct B mX6_readsLine 5 0 0 [.ref 60] M (MLP T n p M (pstm T n s p)) := by
  have hn := h.2.1
  have hg1' : 1 ≤ s.1 ∧ s.1 ≤ 12 := hs.2.2.2.2.1.1
  have wp := hs.2.2.2.2
  have hsk := sk_le (T := T) hx.1
  have hskg : p ≤ sk T n p := ru_ge _ _ _
  refine Ct.of (by decide) rfl rfl (Nat.le_of_ble_eq_true rfl) ?_
  -- the semicolon
  have tail : ∀ K x (t1 t2 t3 t4 : Option Value), MT K T n → MX M K → Mrd K n x → (match bd x (pend T n) with
      | .inl f => pstm T n s p = .inl f
      | .inr e => ∃ s', pstm T n s p = .inr (e, s') ∧ MS K s' ∧ 2 * s'.2.2.length ≤ e ∧ p < e) → Ev B mX6_readsLine 5 0 0 (MLP T n p M (pstm T n s p)) 243 [some (.ref 60), t1, t2, t3, t4] [] K := by
    intro K x t1 t2 t3 t4 tK xK rdK hm
    have okK : OkM K := ok.mx xK
    refine e_aload_n dX6_readsLine_243 rfl rfl ?_
    refine e_bipush (v := 59) dX6_readsLine_244 (by decide) ?_
    refine e_callV1 [_] dX6_readsLine_246 mvmX6_must lkRX6_155 (by exact okK.sh rfl) ⟨by decide, rfl⟩ rfl rfl (Nat.le_of_ble_eq_true rfl) (by decide) (c_must okK tK rdK) (fun u N h1 => ?_)
    obtain ⟨hu, rdN, mfN⟩ := h1
    subst hu
    refine e_vret dX6_readsLine_249 rfl ⟨none, rfl, rfl, tK.rf mfN (by decide), xK.trans (mfN.X (by decide)), ?_⟩
    cases hb : bd x (pend T n) with
    | inl f =>
      rw [hb] at hm rdN
      have hm' : pstm T n s p = .inl f := hm
      rw [hm']; exact rdN
    | inr e =>
      rw [hb] at hm rdN
      obtain ⟨s', e1, e2, e3, e4⟩ := hm
      rw [e1]
      exact ⟨rdN, e2.rf mfN (by decide), e3, e4⟩
  refine e_aload_n dX6_readsLine_0 rfl rfl ?_
  refine e_callV1 [] dX6_readsLine_1 mvmX6_here lkRX6_98 (by exact ok.sh rfl) ⟨by decide, rfl⟩ rfl rfl (Nat.le_of_ble_eq_true rfl) (by decide) (c_here ok h hx.2.2.2 hx.1) (fun u N0 h0 => ?_)
  obtain ⟨hu, a0, mf0⟩ := h0
  subst hu
  have ok0 : OkM N0 := ok.fr mf0.1
  have t0 := h.rf mf0 (by decide)
  have s0 := hs.rf mf0 (by decide)
  have rd0 := hx.go mf0 hsk a0
  show Ev _ _ _ _ _ _ 4 _ [.int (byA T n (sk T n p))] _
  generalize hp0 : sk T n p = p0 at *
  have hsp : sk T n p0 = p0 := by rw [← hp0, sk_sk]
  have x0 : MX M N0 := mf0.X (by decide)
  have pw : ∀ w, pwd T n w p0 = pwd T n w p := fun w => by rw [← hp0, pwd_sk]
  refine e_pop dX6_readsLine_4 rfl ?_
  refine e_aload_n dX6_readsLine_5 rfl rfl ?_
  refine e_getI dX6_readsLine_6 fRX6_81 (by exact ok0.sh rfl) (fun _ => rfl) ?_
  rw [a0]
  refine e_istore_n dX6_readsLine_9 rfl (by decide) rfl rfl ?_
  refine e_aload_n dX6_readsLine_10 rfl rfl ?_
  refine e_ldcS (k0 := 2) (tx := "line") dX6_readsLine_11 (by decide) ?_
  refine e_callV1 [_] dX6_readsLine_13 mvmX6_takes lkRX6_139 (by exact ok0.sh rfl) ⟨by decide, rfl⟩ rfl rfl (Nat.le_of_ble_eq_true rfl) (by decide) (c_takes ok0 t0 rd0 wd_line lw_line) (fun u N1 h1 => ?_)
  obtain ⟨hu, rd1, mf1⟩ := h1
  subst hu
  have ok1 : OkM N1 := ok0.fr mf1.1
  have t1 := t0.rf mf1 (by decide)
  have s1 := s0.rf mf1 (by decide)
  have x1 : MX M N1 := x0.trans (mf1.X (by decide))
  rw [hsp, pw] at rd1
  rw [pw]
  by_cases pl : pwd T n wLine p = true
  · rw [if_pos pl] at rd1 ⊢
    have e9 : pstm T n s p = pline T n s (p0 + 4) := by unfold pstm; rw [if_pos pl, hp0]
    have rd1' : Mrd N1 n (.inr (p0 + 4)) := rd1
    refine e_if_eq (tgt := 96) dX6_readsLine_16 (by decide) (fun hz => absurd hz (by decide)) (fun _ => ?_)
    refine two_mA ok1 t1 rd1' s1 (fun N2 r1 r2 t2 mf2 rd2 hv => ?_)
    have ok2 : OkM N2 := ok1.fr mf2.1
    have s2 := s1.rf mf2 (by decide)
    have x2 : MX M N2 := x1.trans (mf2.X (by decide))
    refine e_iconst (v := 1) dX6_readsLine_44 (by decide) ?_
    refine e_istore dX6_readsLine_45 (by decide) rfl rfl ?_
    refine e_aload_n dX6_readsLine_47 rfl rfl ?_
    cases hp2 : ptwo T n (s.1 - 1) (p0 + 4) with
    | inl f =>
      have e8 : pline T n s (p0 + 4) = .inl f := by unfold pline; rw [hp2]
      rw [hp2] at rd2
      have rd2' : Mrd N2 n (.inl f) := rd2
      refine e_callV0i [] dX6_readsLine_48 mvmX6_fine lkRX6_94 (by exact ok2.sh rfl) ⟨by decide, rfl⟩ rfl rfl (Nat.le_of_ble_eq_true rfl) (by decide) (c_fine ok2 rd2') ?_
      refine e_if_eq (tgt := 75) dX6_readsLine_51 (by decide) (fun _ => ?_) (fun hz => absurd rfl hz)
      refine e_aload_n dX6_readsLine_75 rfl rfl ?_
      refine e_callV0i [] dX6_readsLine_76 mvmX6_fine lkRX6_94 (by exact ok2.sh rfl) ⟨by decide, rfl⟩ rfl rfl (Nat.le_of_ble_eq_true rfl) (by decide) (c_fine ok2 rd2') ?_
      refine e_if_eq (tgt := 93) dX6_readsLine_79 (by decide) (fun _ => ?_) (fun hz => absurd rfl hz)
      refine e_goto (tgt := 243) dX6_readsLine_93 (by decide) ?_
      exact tail N2 (.inl f) _ _ _ _ t2 x2 rd2' (by show pstm T n s p = .inl f; rw [e9, e8])
    | inr w =>
      obtain ⟨e, a, b⟩ := w
      have ho := ptwo_ok rd1'.1 hp2
      obtain ⟨v1, v2⟩ := hv e a b hp2
      subst v1 v2
      rw [hp2] at rd2
      have rd2' : Mrd N2 n (.inr e) := rd2
      have hske := sk_le (T := T) rd2'.1
      have hskge : e ≤ sk T n e := ru_ge _ _ _
      have e8 : pline T n s (p0 + 4) = (match (if ahd T n e = true then pnum T n 0 999 e else .inr (sk T n e, 1, 0)) with
          | .inl f => .inl f
          | .inr (e2, k, _) => match pend T n e2 with
            | .inl f => .inl f
            | .inr e3 => .inr (e3, s.1, w2 s.2.1 a b (some k), s.2.2)) := by unfold pline; rw [hp2]; rfl
      -- the line is put
      have put : ∀ K e2 k, MT K T n → MX M K → MS K s → Mrd K n (.inr e2) → k ≤ 999 → e ≤ e2 → pline T n s (p0 + 4) = (match pend T n e2 with
            | .inl f => .inl f
            | .inr e3 => .inr (e3, s.1, w2 s.2.1 a b (some k), s.2.2)) → Ev B mX6_readsLine 5 0 0 (MLP T n p M (pstm T n s p)) 75 [some (.ref 60), some (.int (nI p0)), some (.int (nI a)), some (.int (nI b)), some (.int (nI k))] [] K := by
        intro K e2 k tK xK sK rdK hk he2 e7
        have okK : OkM K := ok.mx xK
        refine e_aload_n dX6_readsLine_75 rfl rfl ?_
        refine e_callV0i [] dX6_readsLine_76 mvmX6_fine lkRX6_94 (by exact okK.sh rfl) ⟨by decide, rfl⟩ rfl rfl (Nat.le_of_ble_eq_true rfl) (by decide) (c_fine okK rdK) ?_
        refine e_if_eq (tgt := 93) dX6_readsLine_79 (by decide) (fun hz => absurd hz (fin01_r e2)) (fun _ => ?_)
        refine e_aload_n dX6_readsLine_82 rfl rfl ?_
        refine e_getR dX6_readsLine_83 fRX6_23 (by exact okK.sh rfl) (by exact okK.rf rfl) (fun _ => rfl) ?_
        refine e_iload_n dX6_readsLine_86 rfl rfl ?_
        refine e_iload_n dX6_readsLine_87 rfl rfl ?_
        refine e_iload dX6_readsLine_88 rfl ?_
        refine e_callS0v [_, _, _, _] dX6_readsLine_90 msmX6_joins lkRX6_65 rfl rfl (Nat.le_of_ble_eq_true rfl) (by decide) (c_joins (r := 64) (v := nI k) (okK.sh rfl) (by omega : a < 12) (by omega : b < 12)) ?_
        have hj := sK.1.join (v := some k) (by omega : a < 12) (by omega : b < 12)
        refine e_goto (tgt := 243) dX6_readsLine_93 (by decide) ?_
        have f66 : Fr 64 64 K (sI (sI K 64 (13 + 12 * a + b) (nI k)) 64 (13 + 12 * b + a) (nI k)) := (Fr.rf.sI (by omega) (by omega)).sI (by omega) (by omega)
        refine tail _ (.inr e2) _ _ _ _ (tK.mx f66.X66) (xK.trans f66.X66) (rdK.at (f66.2.2 60 (by omega))) ?_
        show (match pend T n e2 with | .inl f => _ | .inr e => _)
        cases hpe : pend T n e2 with
        | inl f =>
          rw [hpe] at e7
          show pstm T n s p = .inl f
          rw [e9, e7]
        | inr e3 =>
          rw [hpe] at e7
          have := pend_ok hpe
          refine ⟨_, by rw [e9, e7], sK.w (w' := w2 s.2.1 a b (some k)) hj (by rw [f66.2.2 60 (by omega)]) (f66.2.2 74 (by omega)) (WP_w wp (Wfn_put (wf_none wp) (by show a < s.1; omega) (by show b < s.1; omega) ho.2.2.2.1 hk)), ?_, by omega⟩
          show 2 * s.2.2.length ≤ e3
          omega
      refine e_callV0i [] dX6_readsLine_48 mvmX6_fine lkRX6_94 (by exact ok2.sh rfl) ⟨by decide, rfl⟩ rfl rfl (Nat.le_of_ble_eq_true rfl) (by decide) (c_fine ok2 rd2') ?_
      refine e_if_eq (tgt := 75) dX6_readsLine_51 (by decide) (fun hz => absurd hz (fin01_r e)) (fun _ => ?_)
      refine e_aload_n dX6_readsLine_54 rfl rfl ?_
      refine e_callV1 [] dX6_readsLine_55 mvmX6_here lkRX6_98 (by exact ok2.sh rfl) ⟨by decide, rfl⟩ rfl rfl (Nat.le_of_ble_eq_true rfl) (by decide) (c_here ok2 t2 rd2'.2.2.2 rd2'.1) (fun u N3 h3 => ?_)
      obtain ⟨hu, a3, mf3⟩ := h3
      subst hu
      have ok3 : OkM N3 := ok2.fr mf3.1
      have t3 := t2.rf mf3 (by decide)
      have s3 := s2.rf mf3 (by decide)
      have rd3 := rd2'.go mf3 hske a3
      have x3 : MX M N3 := x2.trans (mf3.X (by decide))
      have hah : (sk T n e < n ∧ isD T (sk T n e) = true) ↔ ahd T n e = true := by unfold ahd; simp
      show Ev _ _ _ _ _ _ 58 _ [.int (byA T n (sk T n e))] _
      refine e_callS0i [_] dX6_readsLine_58 msmX6_isDigit lkRX6_119 rfl rfl (Nat.le_of_ble_eq_true rfl) (by decide) (c_mdig (n := n) (t3.2.2.1 (sk T n e))) ?_
      by_cases ha : ahd T n e = true
      · rw [if_pos (hah.mpr ha)]
        rw [if_pos ha] at e8
        refine e_if_eq (tgt := 75) dX6_readsLine_61 (by decide) (fun hz => absurd hz (by decide)) (fun _ => ?_)
        refine e_aload_n dX6_readsLine_64 rfl rfl ?_
        refine e_iconst (v := 0) dX6_readsLine_65 (by decide) ?_
        refine e_sipush (v := 999) dX6_readsLine_66 (by decide) ?_
        refine e_iconst (v := 0) dX6_readsLine_69 (by decide) ?_
        rw [show (999 : Int32) = nI 999 from fa_lit 999]
        refine e_callV1 [_, _, _] dX6_readsLine_70 mvmX6_number lkRX6_128 (by exact ok3.sh rfl) ⟨by decide, rfl⟩ rfl rfl (Nat.le_of_ble_eq_true rfl) (by decide) (c_number (lo := 0) (hi := 999) (bt := 0) ok3 t3 rd3 (by decide) (by decide) (by decide)) (fun u N4 h4 => ?_)
        obtain ⟨r4, hu, rd4, mf4, v4⟩ := h4
        subst hu
        have ok4 : OkM N4 := ok3.fr mf4.1
        have t4 := t3.rf mf4 (by decide)
        have s4 := s3.rf mf4 (by decide)
        have x4 : MX M N4 := x3.trans (mf4.X (by decide))
        simp only [bd_r, pnb_0, pnum_sk] at rd4
        refine e_istore dX6_readsLine_73 (by decide) rfl rfl ?_
        cases hp4 : pnum T n 0 999 e with
        | inl f =>
          rw [hp4] at rd4 e8
          have rd4' : Mrd N4 n (.inl f) := rd4
          refine e_aload_n dX6_readsLine_75 rfl rfl ?_
          refine e_callV0i [] dX6_readsLine_76 mvmX6_fine lkRX6_94 (by exact ok4.sh rfl) ⟨by decide, rfl⟩ rfl rfl (Nat.le_of_ble_eq_true rfl) (by decide) (c_fine ok4 rd4') ?_
          refine e_if_eq (tgt := 93) dX6_readsLine_79 (by decide) (fun _ => ?_) (fun hz => absurd rfl hz)
          refine e_goto (tgt := 243) dX6_readsLine_93 (by decide) ?_
          exact tail N4 (.inl f) _ _ _ _ t4 x4 rd4' (by show pstm T n s p = .inl f; rw [e9, e8])
        | inr w =>
          obtain ⟨e2, k, q2⟩ := w
          have ho4 := pnum_ok rd2'.1 hp4
          have vk := v4 (sk T n e) e2 k q2 rfl (by rw [pnb_0, pnum_sk]; exact hp4)
          subst vk
          rw [hp4] at rd4 e8
          exact put N4 e2 k t4 x4 s4 rd4 ho4.2.2.1 (by omega) e8
      · rw [if_neg (fun q => ha (hah.mp q))]
        rw [if_neg ha] at e8
        refine e_if_eq (tgt := 75) dX6_readsLine_61 (by decide) (fun _ => ?_) (fun hz => absurd rfl hz)
        exact put N3 (sk T n e) 1 t3 x3 s3 rd3 (by decide) (by omega) e8
  · rw [if_neg pl] at rd1 ⊢
    refine e_if_eq (tgt := 96) dX6_readsLine_16 (by decide) (fun _ => ?_) (fun hz => absurd rfl hz)
    refine e_aload_n dX6_readsLine_96 rfl rfl ?_
    refine e_ldcS (k0 := 3) (tx := "ring") dX6_readsLine_97 (by decide) ?_
    refine e_callV1 [_] dX6_readsLine_99 mvmX6_takes lkRX6_139 (by exact ok1.sh rfl) ⟨by decide, rfl⟩ rfl rfl (Nat.le_of_ble_eq_true rfl) (by decide) (c_takes ok1 t1 rd1 wd_ring lw_ring) (fun u N2 h2 => ?_)
    obtain ⟨hu, rd2, mf2⟩ := h2
    subst hu
    have ok2 : OkM N2 := ok1.fr mf2.1
    have t2 := t1.rf mf2 (by decide)
    have s2 := s1.rf mf2 (by decide)
    have x2 : MX M N2 := x1.trans (mf2.X (by decide))
    rw [hsp, pw] at rd2
    rw [pw]
    by_cases pr : pwd T n wRing p = true
    · rw [if_pos pr] at rd2 ⊢
      have e9 : pstm T n s p = pring T n s (p0 + 4) := by unfold pstm; rw [if_neg pl, if_pos pr, hp0]
      have rd2' : Mrd N2 n (.inr (p0 + 4)) := rd2
      refine e_if_eq (tgt := 112) dX6_readsLine_102 (by decide) (fun hz => absurd hz (by decide)) (fun _ => ?_)
      refine e_aload_n dX6_readsLine_105 rfl rfl ?_
      refine e_callV1 [] dX6_readsLine_106 mvmX6_readsRing lkRX6_145 (by exact ok2.sh rfl) ⟨by decide, rfl⟩ rfl rfl (Nat.le_of_ble_eq_true rfl) (by decide) (c_readsRing ok2 t2 rd2' s2) (fun u N3 h3 => ?_)
      obtain ⟨hu, t3, f3, j3, b3, hm⟩ := h3
      subst hu
      have x23 : MX N2 N3 := ⟨f3.1, f3.2.1, fun j hj => j3 j (fun q => hj (by
        rcases List.mem_cons.mp q with q | q
        · rw [q]; decide
        · rcases List.mem_cons.mp q with q | q
          · rw [q]; decide
          · rw [List.mem_singleton.mp q]; decide)), fun b h1 h2 _ => b3 b h1 h2⟩
      have x3 := x2.trans x23
      refine e_goto (tgt := 243) dX6_readsLine_109 (by decide) ?_
      cases hr : prng T n (s.1 - 1) 12 [] (p0 + 4) with
      | inl f =>
        rw [hr] at hm
        refine tail N3 (.inl f) _ _ _ _ t3 x3 hm ?_
        show pstm T n s p = .inl f
        rw [e9]; unfold pring; rw [hr]
      | inr w =>
        obtain ⟨e, l⟩ := w
        rw [hr] at hm
        have hro := prng_ok 12 [] (p0 + 4) e l rd2'.1 ⟨fun x hx => by simp at hx, List.Pairwise.nil⟩ rfl hr
        rw [show s.1 - 1 + 1 = s.1 by omega] at hro
        have e8 : pring T n s (p0 + 4) = match pend T n e with
          | .inl f => .inl f
          | .inr e2 => .inr (e2, s.1, (rgl l l.length 0 (s.1, s.2.1, fun _ => none)).2.1, s.2.2) := by unfold pring; rw [hr]; rfl
        rcases hm with ⟨f, m1, m2⟩ | ⟨e2, m1, m2, m3⟩
        · refine tail N3 (.inl f) _ _ _ _ t3 x3 m1 ?_
          show pstm T n s p = .inl f
          rw [e9, e8, m2]
        · refine tail N3 (.inr e2) _ _ _ _ t3 x3 m1 ?_
          show (match pend T n e2 with | .inl f => _ | .inr e => _)
          rw [m2]
          cases hpe : pend T n e with
          | inl f =>
            rw [hpe] at e8
            show pstm T n s p = .inl f
            rw [e9, e8]
          | inr e3 =>
            rw [hpe] at e8
            have := pend_ok hpe
            refine ⟨_, by rw [e9, e8], s2.w m3 (j3 14 (by decide)) (b3 74 (by decide) (by decide)) (rgl_wf wp hro.2.1 hro.2.2.1), ?_, by omega⟩
            show 2 * s.2.2.length ≤ e3
            omega
    · rw [if_neg pr] at rd2 ⊢
      refine e_if_eq (tgt := 112) dX6_readsLine_102 (by decide) (fun _ => ?_) (fun hz => absurd rfl hz)
      refine e_aload_n dX6_readsLine_112 rfl rfl ?_
      refine e_ldcS (k0 := 4) (tx := "all") dX6_readsLine_113 (by decide) ?_
      refine e_callV1 [_] dX6_readsLine_115 mvmX6_takes lkRX6_139 (by exact ok2.sh rfl) ⟨by decide, rfl⟩ rfl rfl (Nat.le_of_ble_eq_true rfl) (by decide) (c_takes ok2 t2 rd2 wd_all lw_all) (fun u N3 h3 => ?_)
      obtain ⟨hu, rd3, mf3⟩ := h3
      subst hu
      have ok3 : OkM N3 := ok2.fr mf3.1
      have t3 := t2.rf mf3 (by decide)
      have s3 := s2.rf mf3 (by decide)
      have x3 : MX M N3 := x2.trans (mf3.X (by decide))
      rw [hsp, pw] at rd3
      rw [pw]
      by_cases pa : pwd T n wAll p = true
      · rw [if_pos pa] at rd3 ⊢
        have e9 : pstm T n s p = pall T n s (p0 + 3) := by unfold pstm; rw [if_neg pl, if_neg pr, if_pos pa, hp0]
        have rd3' : Mrd N3 n (.inr (p0 + 3)) := rd3
        refine e_if_eq (tgt := 161) dX6_readsLine_118 (by decide) (fun hz => absurd hz (by decide)) (fun _ => ?_)
        refine e_iconst (v := 0) dX6_readsLine_121 (by decide) ?_
        refine e_istore_n dX6_readsLine_122 rfl (by decide) rfl rfl ?_
        have hsy := (wf_none wp).2.1
        have outer : ∀ j a K (t : Option Value), a + j = s.1 → Fr 64 64 N3 K → NowR K 64 (s.1, awq s.2.1 a 0, fun _ => none) → Ev B mX6_readsLine 5 0 0 (MLP T n p M (pstm T n s p)) 123 [some (.ref 60), some (.int (nI p0)), some (.int (nI a)), t, none] [] K := by
          intro j
          induction j with
          | zero =>
            intro a K t haj hf hK
            have hag : a = s.1 := by omega
            have okK : OkM K := ok3.fr hf
            have xK := x3.trans hf.X66
            refine e_iload_n dX6_readsLine_123 rfl rfl ?_
            refine e_aload_n dX6_readsLine_124 rfl rfl ?_
            refine e_getR dX6_readsLine_125 fRX6_23 (by exact okK.sh rfl) (by exact okK.rf rfl) (fun _ => rfl) ?_
            refine e_iconst (v := 0) dX6_readsLine_128 (by decide) ?_
            refine e_iaload dX6_readsLine_129 (by exact okK.sh rfl) (by exact vp_in_nI (n := 0) (N := 157) (by decide) (by decide)) ?_
            have e0 : K.2.1 64 (0 : Int32).toNatClampNeg = nI s.1 := hK.1
            rw [e0]
            rw [hag, awq_end] at hK
            refine e_icmp_ge (tgt := 158) dX6_readsLine_130 (by decide) (fun _ => ?_) (fun hz => absurd (nI_le (by omega) (by omega)) hz)
            refine e_goto (tgt := 243) dX6_readsLine_158 (by decide) ?_
            refine tail K (.inr (p0 + 3)) _ _ _ _ (t3.mx hf.X66) xK (rd3'.at (hf.2.2 60 (by omega))) ?_
            show (match pend T n (p0 + 3) with | .inl f => _ | .inr e => _)
            cases hpe : pend T n (p0 + 3) with
            | inl f =>
              show pstm T n s p = .inl f
              rw [e9]; unfold pall; rw [hpe]
            | inr e3 =>
              have := pend_ok hpe
              refine ⟨(s.1, allw s.1 s.2.1, s.2.2), by rw [e9]; unfold pall; rw [hpe], s3.w hK (by rw [hf.2.2 60 (by omega)]) (hf.2.2 74 (by omega)) (allw_wf wp), ?_, by omega⟩
              show 2 * s.2.2.length ≤ e3
              omega
          | succ j ih =>
            intro a K t haj hf hK
            have okK : OkM K := ok3.fr hf
            refine e_iload_n dX6_readsLine_123 rfl rfl ?_
            refine e_aload_n dX6_readsLine_124 rfl rfl ?_
            refine e_getR dX6_readsLine_125 fRX6_23 (by exact okK.sh rfl) (by exact okK.rf rfl) (fun _ => rfl) ?_
            refine e_iconst (v := 0) dX6_readsLine_128 (by decide) ?_
            refine e_iaload dX6_readsLine_129 (by exact okK.sh rfl) (by exact vp_in_nI (n := 0) (N := 157) (by decide) (by decide)) ?_
            have e0 : K.2.1 64 (0 : Int32).toNatClampNeg = nI s.1 := hK.1
            rw [e0]
            refine e_icmp_ge (tgt := 158) dX6_readsLine_130 (by decide) (fun hz => absurd hz (nI_ge (by omega) (by omega))) (fun _ => ?_)
            refine e_iconst (v := 0) dX6_readsLine_133 (by decide) ?_
            refine e_istore_n dX6_readsLine_134 rfl (by decide) rfl rfl ?_
            have inner : ∀ j2 b K, b + j2 = a → Fr 64 64 N3 K → NowR K 64 (s.1, awq s.2.1 a b, fun _ => none) → Ev B mX6_readsLine 5 0 0 (MLP T n p M (pstm T n s p)) 135 [some (.ref 60), some (.int (nI p0)), some (.int (nI a)), some (.int (nI b)), none] [] K := by
              intro j2
              induction j2 with
              | zero =>
                intro b K hbj hf hK
                have hba : b = a := by omega
                subst hba
                rw [awq_row] at hK
                refine e_iload_n dX6_readsLine_135 rfl rfl ?_
                refine e_iload_n dX6_readsLine_136 rfl rfl ?_
                refine e_icmp_ge (tgt := 152) dX6_readsLine_137 (by decide) (fun _ => ?_) (fun hz => absurd (nI_le (by omega) (by omega)) hz)
                refine e_iinc (v := nI (b + 1)) dX6_readsLine_152 rfl (nI_1 b) (by decide) rfl rfl ?_
                refine e_goto (tgt := 123) dX6_readsLine_155 (by decide) ?_
                exact ih (b + 1) K _ (by omega) hf hK
              | succ j2 ih2 =>
                intro b K hbj hf hK
                have okK : OkM K := ok3.fr hf
                refine e_iload_n dX6_readsLine_135 rfl rfl ?_
                refine e_iload_n dX6_readsLine_136 rfl rfl ?_
                refine e_icmp_ge (tgt := 152) dX6_readsLine_137 (by decide) (fun hz => absurd hz (nI_ge (by omega) (by omega))) (fun _ => ?_)
                refine e_aload_n dX6_readsLine_140 rfl rfl ?_
                refine e_iload_n dX6_readsLine_141 rfl rfl ?_
                refine e_iload_n dX6_readsLine_142 rfl rfl ?_
                refine e_callV1 [_, _] dX6_readsLine_143 mvmX6_comes lkRX6_134 (by exact okK.sh rfl) ⟨by decide, rfl⟩ rfl rfl (Nat.le_of_ble_eq_true rfl) (by decide) (c_comes okK (rd3'.at (hf.2.2 60 (by omega))) hK (awq_wf wp a b (Or.inl (by omega))) (by omega) (by omega)) (fun u K2 h5 => ?_)
                obtain ⟨hu, q1, q2⟩ := h5
                subst hu
                rw [awq_step hsy (by omega)] at q1
                refine e_iinc (v := nI (b + 1)) dX6_readsLine_146 rfl (nI_1 b) (by decide) rfl rfl ?_
                refine e_goto (tgt := 135) dX6_readsLine_149 (by decide) ?_
                exact ih2 (b + 1) K2 (by omega) (hf.trans q2) q1
            exact inner a 0 K (by omega) hf hK
        exact outer s.1 0 N3 none (by omega) Fr.rf (by rw [awq_0]; exact s3.1)
      · rw [if_neg pa] at rd3 ⊢
        refine e_if_eq (tgt := 161) dX6_readsLine_118 (by decide) (fun _ => ?_) (fun hz => absurd rfl hz)
        refine e_aload_n dX6_readsLine_161 rfl rfl ?_
        refine e_ldcS (k0 := 5) (tx := "pair") dX6_readsLine_162 (by decide) ?_
        refine e_callV1 [_] dX6_readsLine_164 mvmX6_takes lkRX6_139 (by exact ok3.sh rfl) ⟨by decide, rfl⟩ rfl rfl (Nat.le_of_ble_eq_true rfl) (by decide) (c_takes ok3 t3 rd3 wd_pair lw_pair) (fun u N4 h4 => ?_)
        obtain ⟨hu, rd4, mf4⟩ := h4
        subst hu
        have ok4 : OkM N4 := ok3.fr mf4.1
        have t4 := t3.rf mf4 (by decide)
        have s4 := s3.rf mf4 (by decide)
        have x4 : MX M N4 := x3.trans (mf4.X (by decide))
        rw [hsp, pw] at rd4
        rw [pw]
        by_cases pp : pwd T n wPair p = true
        · rw [if_pos pp] at rd4 ⊢
          have e9 : pstm T n s p = ppair T n s (p0 + 4) := by unfold pstm; rw [if_neg pl, if_neg pr, if_neg pa, if_pos pp, hp0]
          have rd4' : Mrd N4 n (.inr (p0 + 4)) := rd4
          refine e_if_eq (tgt := 237) dX6_readsLine_167 (by decide) (fun hz => absurd hz (by decide)) (fun _ => ?_)
          refine two_mB ok4 t4 rd4' s4 (fun N5 r1 r2 t5 mf5 rd5 hv => ?_)
          have ok5 : OkM N5 := ok4.fr mf5.1
          have s5 := s4.rf mf5 (by decide)
          have x5 : MX M N5 := x4.trans (mf5.X (by decide))
          refine e_aload_n dX6_readsLine_195 rfl rfl ?_
          cases hp2 : ptwo T n (s.1 - 1) (p0 + 4) with
          | inl f =>
            rw [hp2] at rd5
            have rd5' : Mrd N5 n (.inl f) := rd5
            refine e_callV0i [] dX6_readsLine_196 mvmX6_fine lkRX6_94 (by exact ok5.sh rfl) ⟨by decide, rfl⟩ rfl rfl (Nat.le_of_ble_eq_true rfl) (by decide) (c_fine ok5 rd5') ?_
            refine e_if_eq (tgt := 234) dX6_readsLine_199 (by decide) (fun _ => ?_) (fun hz => absurd rfl hz)
            refine e_goto (tgt := 243) dX6_readsLine_234 (by decide) ?_
            exact tail N5 (.inl f) _ _ _ _ t5 x5 rd5' (by show pstm T n s p = .inl f; rw [e9]; unfold ppair; rw [hp2])
          | inr w =>
            obtain ⟨e, a, b⟩ := w
            have ho := ptwo_ok rd4'.1 hp2
            obtain ⟨v1, v2⟩ := hv e a b hp2
            subst v1 v2
            rw [hp2] at rd5
            have rd5' : Mrd N5 n (.inr e) := rd5
            have hp4 := rd4'.1
            have hlen : 2 * s.2.2.length + 4 ≤ 500 := by omega
            refine e_callV0i [] dX6_readsLine_196 mvmX6_fine lkRX6_94 (by exact ok5.sh rfl) ⟨by decide, rfl⟩ rfl rfl (Nat.le_of_ble_eq_true rfl) (by decide) (c_fine ok5 rd5') ?_
            refine e_if_eq (tgt := 234) dX6_readsLine_199 (by decide) (fun hz => absurd hz (fin01_r e)) (fun _ => ?_)
            refine e_aload_n dX6_readsLine_202 rfl rfl ?_
            refine e_getR dX6_readsLine_203 fRX6_31 (by exact ok5.sh rfl) (by exact ok5.rf rfl) (fun _ => rfl) ?_
            refine e_aload_n dX6_readsLine_206 rfl rfl ?_
            refine e_getI dX6_readsLine_207 fRX6_152 (by exact ok5.sh rfl) (fun _ => rfl) ?_
            rw [s5.2.1]
            refine e_iload_n dX6_readsLine_210 rfl rfl ?_
            refine e_iastore dX6_readsLine_211 (by exact ok5.sh rfl) (by exact vp_in_nI (show 2 * s.2.2.length < 500 by omega) (by decide)) ?_
            rw [nI_clamp (by omega)]
            refine e_aload_n dX6_readsLine_212 rfl rfl ?_
            refine e_getR dX6_readsLine_213 fRX6_31 (by exact ok5.sh rfl) (by exact ok5.rf rfl) (fun _ => rfl) ?_
            refine e_aload_n dX6_readsLine_216 rfl rfl ?_
            refine e_getI dX6_readsLine_217 fRX6_152 (by exact ok5.sh rfl) (fun _ => rfl) ?_
            rw [show (sI N5 74 (2 * s.2.2.length) (nI a)).2.1 60 14 = nI (2 * s.2.2.length) from by rw [rd_na (by decide)]; exact s5.2.1]
            refine e_iconst (v := 1) dX6_readsLine_220 (by decide) ?_
            refine e_iadd dX6_readsLine_221 ?_
            rw [nI_1]
            refine e_iload_n dX6_readsLine_222 rfl rfl ?_
            refine e_iastore dX6_readsLine_223 (by exact ok5.sh rfl) (by exact vp_in_nI (show 2 * s.2.2.length + 1 < 500 by omega) (by decide)) ?_
            rw [nI_clamp (by omega)]
            refine e_aload_n dX6_readsLine_224 rfl rfl ?_
            refine e_dup dX6_readsLine_225 rfl ?_
            refine e_getI dX6_readsLine_226 fRX6_152 (by exact ok5.sh rfl) (fun _ => rfl) ?_
            rw [show (sI (sI N5 74 (2 * s.2.2.length) (nI a)) 74 (2 * s.2.2.length + 1) (nI b)).2.1 60 14 = nI (2 * s.2.2.length) from by rw [rd_na (by decide), rd_na (by decide)]; exact s5.2.1]
            refine e_iconst (v := 2) dX6_readsLine_229 (by decide) ?_
            refine e_iadd dX6_readsLine_230 ?_
            rw [show nI (2 * s.2.2.length) + 2 = nI (2 * (s.2.2.length + 1)) from by rw [show (2 : Int32) = nI 2 from rfl, nI_add]; rfl]
            refine e_putI dX6_readsLine_231 fRX6_152 (by exact ok5.sh rfl) rfl rfl rfl (fun _ _ => rfl) ?_
            refine e_goto (tgt := 243) dX6_readsLine_234 (by decide) ?_
            generalize hK : sI (sI (sI N5 74 (2 * s.2.2.length) (nI a)) 74 (2 * s.2.2.length + 1) (nI b)) 60 14 (nI (2 * (s.2.2.length + 1))) = K
            have xK1 : MX N5 K := by
              rw [← hK]
              refine ⟨rfl, rfl, fun j hj => ?_, fun b h1 h2 h3 => ?_⟩
              · rw [rd_ni (fun q => hj (by rw [q]; decide)), rd_na (by decide), rd_na (by decide)]
              · funext i
                rw [rd_na h1, rd_na h3, rd_na h3]
            refine tail K (.inr e) _ _ _ _ (t5.mx xK1) (x5.trans xK1) ?_ ?_
            · refine ⟨rd5'.1, ?_, ?_, ?_⟩
              · rw [← hK, rd_ni (by decide), rd_na (by decide), rd_na (by decide)]; exact rd5'.2.1
              · rw [← hK, rd_ni (by decide), rd_na (by decide), rd_na (by decide)]; exact rd5'.2.2.1
              · rw [← hK, rd_ni (by decide), rd_na (by decide), rd_na (by decide)]; exact rd5'.2.2.2
            · show (match pend T n e with | .inl f => _ | .inr e => _)
              have e8 : ppair T n s (p0 + 4) = match pend T n e with
                | .inl f => .inl f
                | .inr e3 => .inr (e3, s.1, s.2.1, s.2.2 ++ [(a, b)]) := by unfold ppair; rw [hp2]; rfl
              cases hpe : pend T n e with
              | inl f =>
                rw [hpe] at e8
                show pstm T n s p = .inl f
                rw [e9, e8]
              | inr e3 =>
                rw [hpe] at e8
                have := pend_ok hpe
                refine ⟨_, by rw [e9, e8], ⟨?_, ?_, ?_, ?_, WP_p wp (by omega) (by omega) ho.2.2.2.1⟩, ?_, by omega⟩
                · refine s5.1.at ?_
                  rw [← hK]
                  funext i
                  rw [rd_na (by decide), rd_na (by decide), rd_na (by decide)]
                · show K.2.1 60 14 = nI (2 * (s.2.2 ++ [(a, b)]).length)
                  rw [← hK, rd_self, List.length_append]; rfl
                · intro i ab hi
                  have hi' : (s.2.2 ++ [(a, b)])[i]? = some ab := hi
                  have r1 : ∀ j, j ≠ 2 * s.2.2.length → j ≠ 2 * s.2.2.length + 1 → K.2.1 74 j = N5.2.1 74 j := fun j h1 h2 => by
                    rw [← hK, rd_na (by decide), rd_ni h2, rd_ni h1]
                  have r2 : K.2.1 74 (2 * s.2.2.length) = nI a := by rw [← hK, rd_na (by decide), rd_ni (by omega), rd_self]
                  have r3 : K.2.1 74 (2 * s.2.2.length + 1) = nI b := by rw [← hK, rd_na (by decide), rd_self]
                  rcases Nat.lt_trichotomy i s.2.2.length with q | q | q
                  · rw [List.getElem?_append_left q] at hi'
                    rw [r1 _ (by omega) (by omega), r1 _ (by omega) (by omega)]
                    exact s5.2.2.1 i ab hi'
                  · subst q
                    rw [List.getElem?_append_right (Nat.le_refl _), Nat.sub_self] at hi'
                    have e5 : (a, b) = ab := Option.some.inj hi'
                    rw [← e5]
                    exact ⟨r2, r3⟩
                  · rw [List.getElem?_eq_none (by simp; omega)] at hi'; cases hi'
                · show 2 * (s.2.2 ++ [(a, b)]).length ≤ 500
                  rw [List.length_append]
                  show 2 * (s.2.2.length + 1) ≤ 500
                  omega
                · show 2 * (s.2.2 ++ [(a, b)]).length ≤ e3
                  rw [List.length_append]
                  show 2 * (s.2.2.length + 1) ≤ e3
                  omega
        · rw [if_neg pp] at rd4 ⊢
          have e9 : pstm T n s p = .inl (1, p0) := by unfold pstm; rw [if_neg pl, if_neg pr, if_neg pa, if_neg pp, hp0]
          have rd4' : Mrd N4 n (.inr p0) := rd4
          refine e_if_eq (tgt := 237) dX6_readsLine_167 (by decide) (fun _ => ?_) (fun hz => absurd rfl hz)
          refine e_aload_n dX6_readsLine_237 rfl rfl ?_
          refine e_iconst (v := 1) dX6_readsLine_238 (by decide) ?_
          refine e_iload_n dX6_readsLine_239 rfl rfl ?_
          refine e_callV0v [_, _] dX6_readsLine_240 mvmX6_wrong lkRX6_115 (by exact ok4.sh rfl) ⟨by decide, rfl⟩ rfl rfl (Nat.le_of_ble_eq_true rfl) (by decide) (c_wrong ok4) ?_
          rw [if_pos rd4'.2.1]
          have mfK : MF [6, 7] N4 (sI (sI N4 60 6 1) 60 7 (nI p0)) := (MF.rf.s (by decide)).s (by decide)
          exact tail _ (.inl (1, p0)) _ _ _ _ (t4.rf mfK (by decide)) (x4.trans (mfK.X (by decide))) (Mrd.fl ⟨by decide, by decide, hsk⟩ rfl) e9

