theorem wI_lt {o : Option Nat} {a : Nat} (h : ∀ k, o = some k → k < 2 ^ 31) (ha : a < 2 ^ 31) : wI o ≤ nI a ↔ ∀ b, o = some b → b ≤ a := by
  cases o with
  | none =>
    constructor
    · intro _ b hb; cases hb
    · intro _
      show (-1 : Int32) ≤ nI a
      rw [fa_le, nI_toInt ha]
      have : (-1 : Int32).toInt = -1 := by decide
      omega
  | some k =>
    have hk := h k rfl
    show nI k ≤ nI a ↔ _
    rw [nI_leI hk ha]
    constructor
    · intro q b hb; cases hb; exact q
    · intro q; exact q k rfl
/-- how many pairs, their weights -/
def upp (g : Nw) (a : Nat) : Bool := match g.2.2 a with
  | none => false
  | some b => decide (a < b)
def cpr (g : Nw) : Nat := sm (fun a => if upp g a = true then 1 else 0) g.1
def wof (g : Nw) (a : Nat) : Nat := match g.2.2 a with
  | none => 0
  | some b => (g.2.1 a b).getD 0
def wpr (g : Nw) : Nat := sm (fun a => if upp g a = true then wof g a else 0) g.1
theorem upp_iff {g : Nw} {a : Nat} (hm : ∀ k, g.2.2 a = some k → k < 12) (ha : a < 12) : wI (g.2.2 a) ≤ nI a ↔ ¬ upp g a = true := by
  rw [wI_lt (fun k hk => by have := hm k hk; omega) (by omega)]
  unfold upp
  cases hg : g.2.2 a with
  | none => simp
  | some b => simp
theorem c_countPairs {B : Bd} {M : Mm} {n : Nat} {g : Nw} (h : NetRep M n g) (hn : g.1 ≤ 12) (hm : ∀ a k, g.2.2 a = some k → k < 12) : Ct B mX1_countPairs 0 0 0 [.ref n] M (Is (some (.int (nI (cpr g)))) M) := by
  have hN := h.1
  refine Ct.of (by decide) rfl rfl (Nat.le_of_ble_eq_true rfl) ?_
  have loop : ∀ k i, i + k = g.1 → Ev B mX1_countPairs 0 0 0 (Is (some (.int (nI (cpr g)))) M) 4 [some (.ref n), some (.int (nI (sm (fun a => if upp g a = true then 1 else 0) i))), some (.int (nI i))] [] M := by
    intro k
    induction k with
    | zero =>
      intro i hi
      have hin : i = g.1 := by omega
      refine e_iload_n dX1_countPairs_4 rfl rfl ?_
      refine e_aload_n dX1_countPairs_5 rfl rfl ?_
      refine e_getI dX1_countPairs_6 fRX1_25 (by first | exact hN.1 | exact hN.2.1 | exact hN.2.2.1 | exact hN.2.2.2.1) (fun _ => rfl) ?_
      rw [h.2.1]
      refine e_icmp_ge (tgt := 31) dX1_countPairs_9 (by decide) (fun hq => ?_) (fun hq => ?_)
      · refine e_iload_n dX1_countPairs_31 rfl rfl ?_
        exact e_iret dX1_countPairs_32 rfl rfl (⟨by rw [hin]; rfl, rfl⟩)
      · exact absurd (nI_le (by omega : g.1 ≤ i) (by omega)) hq
    | succ k ih =>
      intro i hi
      refine e_iload_n dX1_countPairs_4 rfl rfl ?_
      refine e_aload_n dX1_countPairs_5 rfl rfl ?_
      refine e_getI dX1_countPairs_6 fRX1_25 (by first | exact hN.1 | exact hN.2.1 | exact hN.2.2.1 | exact hN.2.2.2.1) (fun _ => rfl) ?_
      rw [h.2.1]
      refine e_icmp_ge (tgt := 31) dX1_countPairs_9 (by decide) (fun hq => ?_) (fun hq => ?_)
      · exact absurd hq (nI_ge (by omega) (by omega))
      · refine e_aload_n dX1_countPairs_12 rfl rfl ?_
        refine e_getR dX1_countPairs_13 fRX1_18 (by first | exact hN.1 | exact hN.2.1 | exact hN.2.2.1 | exact hN.2.2.2.1) (by first | exact hN.2.2.2.2.1 | exact hN.2.2.2.2.2.1 | exact hN.2.2.2.2.2.2) (fun _ => rfl) ?_
        refine e_iload_n dX1_countPairs_16 rfl rfl ?_
        refine e_iaload dX1_countPairs_17 (by first | exact hN.1 | exact hN.2.1 | exact hN.2.2.1 | exact hN.2.2.2.1) (by exact vp_in_nI (by omega) (by decide)) ?_
        refine e_iload_n dX1_countPairs_18 rfl rfl ?_
        rw [nI_clamp (by omega), h.2.2.2.2.2 i (by omega)]
        have hu := upp_iff (hm i) (by omega : i < 12)
        have go : ∀ c : Nat, c = sm (fun a => if upp g a = true then 1 else 0) (i + 1) → Ev B mX1_countPairs 0 0 0 (Is (some (.int (nI (cpr g)))) M) 25 [some (.ref n), some (.int (nI c)), some (.int (nI i))] [] M := by
          intro c hc
          refine e_iinc (v := nI (i + 1)) dX1_countPairs_25 rfl (nI_1 i) (by decide) rfl rfl ?_
          refine e_goto (tgt := 4) dX1_countPairs_28 (by decide) ?_
          rw [hc]
          exact ih (i + 1) (by omega)
        refine e_icmp_le (tgt := 25) dX1_countPairs_19 (by decide) (fun hq2 => ?_) (fun hq2 => ?_)
        · exact go _ (by
            show _ = sm (fun a => if upp g a = true then 1 else 0) i + (if upp g i = true then 1 else 0)
            rw [if_neg (hu.mp hq2)]; rfl)
        · refine e_iinc (v := nI (sm (fun a => if upp g a = true then 1 else 0) i + 1)) dX1_countPairs_22 rfl (nI_1 _) (by decide) rfl rfl ?_
          exact go _ (by
            have hu2 : upp g i = true := Decidable.not_not.mp (fun q => hq2 (hu.mpr q))
            show _ = sm (fun a => if upp g a = true then 1 else 0) i + (if upp g i = true then 1 else 0)
            rw [if_pos hu2])
  refine e_iconst (v := 0) dX1_countPairs_0 (by decide) ?_
  refine e_istore_n dX1_countPairs_1 rfl (by decide) rfl rfl ?_
  refine e_iconst (v := 0) dX1_countPairs_2 (by decide) ?_
  refine e_istore_n dX1_countPairs_3 rfl (by decide) rfl rfl ?_
  exact loop g.1 0 (by omega)
theorem c_weighPairs {B : Bd} {M : Mm} {n : Nat} {g : Nw} (h : NetRep M n g) (hn : g.1 ≤ 12) (hm : ∀ a k, g.2.2 a = some k → k < 12) (hp : ∀ a b, g.2.2 a = some b → (g.2.1 a b).isSome = true) : Ct B mX1_weighPairs 1 0 0 [.ref n] M (Is (some (.int (nI (wpr g)))) M) := by
  have hN := h.1
  refine Ct.of (by decide) rfl rfl (Nat.le_of_ble_eq_true rfl) ?_
  have loop : ∀ k i, i + k = g.1 → Ev B mX1_weighPairs 1 0 0 (Is (some (.int (nI (wpr g)))) M) 4 [some (.ref n), some (.int (nI (sm (fun a => if upp g a = true then wof g a else 0) i))), some (.int (nI i))] [] M := by
    intro k
    induction k with
    | zero =>
      intro i hi
      have hin : i = g.1 := by omega
      refine e_iload_n dX1_weighPairs_4 rfl rfl ?_
      refine e_aload_n dX1_weighPairs_5 rfl rfl ?_
      refine e_getI dX1_weighPairs_6 fRX1_25 (by first | exact hN.1 | exact hN.2.1 | exact hN.2.2.1 | exact hN.2.2.2.1) (fun _ => rfl) ?_
      rw [h.2.1]
      refine e_icmp_ge (tgt := 42) dX1_weighPairs_9 (by decide) (fun hq => ?_) (fun hq => ?_)
      · refine e_iload_n dX1_weighPairs_42 rfl rfl ?_
        exact e_iret dX1_weighPairs_43 rfl rfl (⟨by rw [hin]; rfl, rfl⟩)
      · exact absurd (nI_le (by omega : g.1 ≤ i) (by omega)) hq
    | succ k ih =>
      intro i hi
      refine e_iload_n dX1_weighPairs_4 rfl rfl ?_
      refine e_aload_n dX1_weighPairs_5 rfl rfl ?_
      refine e_getI dX1_weighPairs_6 fRX1_25 (by first | exact hN.1 | exact hN.2.1 | exact hN.2.2.1 | exact hN.2.2.2.1) (fun _ => rfl) ?_
      rw [h.2.1]
      refine e_icmp_ge (tgt := 42) dX1_weighPairs_9 (by decide) (fun hq => ?_) (fun hq => ?_)
      · exact absurd hq (nI_ge (by omega) (by omega))
      · refine e_aload_n dX1_weighPairs_12 rfl rfl ?_
        refine e_getR dX1_weighPairs_13 fRX1_18 (by first | exact hN.1 | exact hN.2.1 | exact hN.2.2.1 | exact hN.2.2.2.1) (by first | exact hN.2.2.2.2.1 | exact hN.2.2.2.2.2.1 | exact hN.2.2.2.2.2.2) (fun _ => rfl) ?_
        refine e_iload_n dX1_weighPairs_16 rfl rfl ?_
        refine e_iaload dX1_weighPairs_17 (by first | exact hN.1 | exact hN.2.1 | exact hN.2.2.1 | exact hN.2.2.2.1) (by exact vp_in_nI (by omega) (by decide)) ?_
        refine e_iload_n dX1_weighPairs_18 rfl rfl ?_
        rw [nI_clamp (by omega), h.2.2.2.2.2 i (by omega)]
        have hu := upp_iff (hm i) (by omega : i < 12)
        have go : ∀ c : Nat, c = sm (fun a => if upp g a = true then wof g a else 0) (i + 1) → Ev B mX1_weighPairs 1 0 0 (Is (some (.int (nI (wpr g)))) M) 36 [some (.ref n), some (.int (nI c)), some (.int (nI i))] [] M := by
          intro c hc
          refine e_iinc (v := nI (i + 1)) dX1_weighPairs_36 rfl (nI_1 i) (by decide) rfl rfl ?_
          refine e_goto (tgt := 4) dX1_weighPairs_39 (by decide) ?_
          rw [hc]
          exact ih (i + 1) (by omega)
        refine e_icmp_le (tgt := 36) dX1_weighPairs_19 (by decide) (fun hq2 => ?_) (fun hq2 => ?_)
        · exact go _ (by
            show _ = sm (fun a => if upp g a = true then wof g a else 0) i + (if upp g i = true then wof g i else 0)
            rw [if_neg (hu.mp hq2)]; rfl)
        · have hu2 : upp g i = true := Decidable.not_not.mp (fun q => hq2 (hu.mpr q))
          cases hg : g.2.2 i with
          | none => unfold upp at hu2; rw [hg] at hu2; cases hu2
          | some b =>
            have hb := hm i b hg
            obtain ⟨w, hw⟩ := Option.isSome_iff_exists.mp (hp i b hg)
            refine e_iload_n dX1_weighPairs_22 rfl rfl ?_
            refine e_aload_n dX1_weighPairs_23 rfl rfl ?_
            refine e_iload_n dX1_weighPairs_24 rfl rfl ?_
            refine e_aload_n dX1_weighPairs_25 rfl rfl ?_
            refine e_getR dX1_weighPairs_26 fRX1_18 (by first | exact hN.1 | exact hN.2.1 | exact hN.2.2.1 | exact hN.2.2.2.1) (by first | exact hN.2.2.2.2.1 | exact hN.2.2.2.2.2.1 | exact hN.2.2.2.2.2.2) (fun _ => rfl) ?_
            refine e_iload_n dX1_weighPairs_29 rfl rfl ?_
            refine e_iaload dX1_weighPairs_30 (by first | exact hN.1 | exact hN.2.1 | exact hN.2.2.1 | exact hN.2.2.2.1) (by exact vp_in_nI (by omega) (by decide)) ?_
            rw [nI_clamp (by omega), h.2.2.2.2.2 i (by omega), hg]
            refine e_callV0i [_, _] dX1_weighPairs_31 mvmX1_weightOf lkRX1_61 (by first | exact hN.1 | exact hN.2.1 | exact hN.2.2.1 | exact hN.2.2.2.1) ⟨by decide, rfl⟩ rfl rfl (Nat.le_of_ble_eq_true rfl) (by decide) (c_weightOf h (by omega) hb) ?_
            rw [hw]
            show Ev _ _ _ _ _ _ 34 _ [.int (nI w), .int (nI (sm (fun a => if upp g a = true then wof g a else 0) i))] _
            refine e_iadd dX1_weighPairs_34 ?_
            refine e_istore_n dX1_weighPairs_35 rfl (by decide) rfl rfl ?_
            rw [nI_add]
            exact go _ (by
              show _ = sm (fun a => if upp g a = true then wof g a else 0) i + (if upp g i = true then wof g i else 0)
              rw [if_pos hu2]
              unfold wof
              rw [hg]
              show _ = _ + (g.2.1 i b).getD 0
              rw [hw]; rfl)
  refine e_iconst (v := 0) dX1_weighPairs_0 (by decide) ?_
  refine e_istore_n dX1_weighPairs_1 rfl (by decide) rfl rfl ?_
  refine e_iconst (v := 0) dX1_weighPairs_2 (by decide) ?_
  refine e_istore_n dX1_weighPairs_3 rfl (by decide) rfl rfl ?_
  exact loop g.1 0 (by omega)
theorem c_pairsAreLines {B : Bd} {M : Mm} {n : Nat} {g : Nw} (h : NetRep M n g) (hn : g.1 ≤ 12) (hm : ∀ a k, g.2.2 a = some k → k < 12) : Ct B mX1_pairsAreLines 2 0 0 [.ref n] M (Is (some (.int (if ∀ a, a < g.1 → ∀ b, g.2.2 a = some b → (g.2.1 a b).isSome = true then 1 else 0))) M) := by
  have hN := h.1
  refine Ct.of (by decide) rfl rfl (Nat.le_of_ble_eq_true rfl) ?_
  have loop : ∀ k i, i + k = g.1 → (∀ a, a < i → ∀ b, g.2.2 a = some b → (g.2.1 a b).isSome = true) → Ev B mX1_pairsAreLines 2 0 0 (Is (some (.int (if ∀ a, a < g.1 → ∀ b, g.2.2 a = some b → (g.2.1 a b).isSome = true then 1 else 0))) M) 2 [some (.ref n), some (.int (nI i))] [] M := by
    intro k
    induction k with
    | zero =>
      intro i hi hpre
      have hin : i = g.1 := by omega
      refine e_iload_n dX1_pairsAreLines_2 rfl rfl ?_
      refine e_aload_n dX1_pairsAreLines_3 rfl rfl ?_
      refine e_getI dX1_pairsAreLines_4 fRX1_25 (by first | exact hN.1 | exact hN.2.1 | exact hN.2.2.1 | exact hN.2.2.2.1) (fun _ => rfl) ?_
      rw [h.2.1]
      refine e_icmp_ge (tgt := 42) dX1_pairsAreLines_7 (by decide) (fun hq => ?_) (fun hq => ?_)
      · refine e_iconst (v := 1) dX1_pairsAreLines_42 (by decide) ?_
        exact e_iret dX1_pairsAreLines_43 rfl rfl (⟨by rw [if_pos (by rw [← hin]; exact hpre)], rfl⟩)
      · exact absurd (nI_le (by omega : g.1 ≤ i) (by omega)) hq
    | succ k ih =>
      intro i hi hpre
      refine e_iload_n dX1_pairsAreLines_2 rfl rfl ?_
      refine e_aload_n dX1_pairsAreLines_3 rfl rfl ?_
      refine e_getI dX1_pairsAreLines_4 fRX1_25 (by first | exact hN.1 | exact hN.2.1 | exact hN.2.2.1 | exact hN.2.2.2.1) (fun _ => rfl) ?_
      rw [h.2.1]
      refine e_icmp_ge (tgt := 42) dX1_pairsAreLines_7 (by decide) (fun hq => ?_) (fun hq => ?_)
      · exact absurd hq (nI_ge (by omega) (by omega))
      · refine e_aload_n dX1_pairsAreLines_10 rfl rfl ?_
        refine e_getR dX1_pairsAreLines_11 fRX1_18 (by first | exact hN.1 | exact hN.2.1 | exact hN.2.2.1 | exact hN.2.2.2.1) (by first | exact hN.2.2.2.2.1 | exact hN.2.2.2.2.2.1 | exact hN.2.2.2.2.2.2) (fun _ => rfl) ?_
        refine e_iload_n dX1_pairsAreLines_14 rfl rfl ?_
        refine e_iaload dX1_pairsAreLines_15 (by first | exact hN.1 | exact hN.2.1 | exact hN.2.2.1 | exact hN.2.2.2.1) (by exact vp_in_nI (by omega) (by decide)) ?_
        refine e_iconst (v := (-1)) dX1_pairsAreLines_16 (by decide) ?_
        rw [nI_clamp (by omega), h.2.2.2.2.2 i (by omega)]
        have go : (∀ b, g.2.2 i = some b → (g.2.1 i b).isSome = true) → Ev B mX1_pairsAreLines 2 0 0 (Is (some (.int (if ∀ a, a < g.1 → ∀ b, g.2.2 a = some b → (g.2.1 a b).isSome = true then 1 else 0))) M) 36 [some (.ref n), some (.int (nI i))] [] M := by
          intro hc
          refine e_iinc (v := nI (i + 1)) dX1_pairsAreLines_36 rfl (nI_1 i) (by decide) rfl rfl ?_
          refine e_goto (tgt := 2) dX1_pairsAreLines_39 (by decide) ?_
          exact ih (i + 1) (by omega) (lt_s hpre hc)
        refine e_icmp_eq (tgt := 36) dX1_pairsAreLines_17 (by decide) (fun hq2 => ?_) (fun hq2 => ?_)
        · have h9 := (wI_none (o := g.2.2 i) (fun k hk => by have := hm i k hk; omega)).mp hq2
          exact go (fun b hb => by rw [h9] at hb; cases hb)
        · cases hg : g.2.2 i with
          | none => exact absurd (by rw [hg]; rfl) hq2
          | some b =>
            have hb := hm i b hg
            refine e_aload_n dX1_pairsAreLines_20 rfl rfl ?_
            refine e_iload_n dX1_pairsAreLines_21 rfl rfl ?_
            refine e_aload_n dX1_pairsAreLines_22 rfl rfl ?_
            refine e_getR dX1_pairsAreLines_23 fRX1_18 (by first | exact hN.1 | exact hN.2.1 | exact hN.2.2.1 | exact hN.2.2.2.1) (by first | exact hN.2.2.2.2.1 | exact hN.2.2.2.2.2.1 | exact hN.2.2.2.2.2.2) (fun _ => rfl) ?_
            refine e_iload_n dX1_pairsAreLines_26 rfl rfl ?_
            refine e_iaload dX1_pairsAreLines_27 (by first | exact hN.1 | exact hN.2.1 | exact hN.2.2.1 | exact hN.2.2.2.1) (by exact vp_in_nI (by omega) (by decide)) ?_
            rw [nI_clamp (by omega), h.2.2.2.2.2 i (by omega), hg]
            refine e_callV0i [_, _] dX1_pairsAreLines_28 mvmX1_isLine lkRX1_48 (by first | exact hN.1 | exact hN.2.1 | exact hN.2.2.1 | exact hN.2.2.2.1) ⟨by decide, rfl⟩ rfl rfl (Nat.le_of_ble_eq_true rfl) (by decide) (c_isLine h (by omega) hb) ?_
            by_cases hw : (g.2.1 i b).isSome = true
            · refine e_if_ne (tgt := 36) dX1_pairsAreLines_31 (by decide) (fun hq3 => ?_) (fun hq3 => ?_)
              · exact go (fun b' hb' => by rw [hg] at hb'; cases hb'; exact hw)
              · rw [if_pos hw] at hq3; exact absurd hq3 (by decide)
            · refine e_if_ne (tgt := 36) dX1_pairsAreLines_31 (by decide) (fun hq3 => ?_) (fun hq3 => ?_)
              · rw [if_neg hw] at hq3; exact absurd rfl hq3
              · refine e_iconst (v := 0) dX1_pairsAreLines_34 (by decide) ?_
                exact e_iret dX1_pairsAreLines_35 rfl rfl (⟨by rw [if_neg (fun q => hw (q i (by omega) b hg))], rfl⟩)
  refine e_iconst (v := 0) dX1_pairsAreLines_0 (by decide) ?_
  refine e_istore_n dX1_pairsAreLines_1 rfl (by decide) rfl rfl ?_
  exact loop g.1 0 (by omega) (fun a ha => by omega)
/-- the pair of a node parts -/
def gUn (g : Nw) (a : Nat) : Nw := (g.1, g.2.1, match g.2.2 a with | none => g.2.2 | some b => m2 (m2 g.2.2 a none) b none)
theorem c_removeLine {B : Bd} {M : Mm} {n a b : Nat} {g : Nw} (h : NetRep M n g) (hs : ∀ x y, g.2.1 x y = g.2.1 y x) (ha : a < 12) (hb : b < 12) (hab : a ≠ b) (hm : ∀ a k, g.2.2 a = some k → k < 12) : Ct B mX1_removeLine 2 0 0 [.ref n, .int (nI a), .int (nI b)] M (Rt (fun v N => v = none ∧ NetRep N n (gPut (if g.2.2 a = some b then gUn g a else g) a b none) ∧ Fr n (n + 3) M N)) := by
  have hN := h.1
  refine Ct.of (by decide) rfl rfl (Nat.le_of_ble_eq_true rfl) ?_
  have tail2 : ∀ (M1 : Mm) (g1 : Nw) (v9 : Int32), g1.2.1 = g.2.1 → NetRep M1 n g1 → Fr n (n + 3) M M1 → v9 = nI (lnc (w2 g.2.1 a b none)) → Ev B mX1_removeLine 2 0 0 (Rt (fun v N => v = none ∧ NetRep N n (gPut g1 a b none) ∧ Fr n (n + 3) M N)) 34 [some (.ref n), some (.int (nI a)), some (.int (nI b))] [] (sI M1 n 1 v9) := by
    intro M1 g1 v9 hg1 h1 hf1 hv9
    have hN := h1.1
    refine e_aload_n dX1_removeLine_34 rfl rfl ?_
    refine e_getR dX1_removeLine_35 fRX1_15 (by first | exact hN.1 | exact hN.2.1 | exact hN.2.2.1 | exact hN.2.2.2.1) (by first | exact hN.2.2.2.2.1 | exact hN.2.2.2.2.2.1 | exact hN.2.2.2.2.2.2) (fun _ => rfl) ?_
    refine e_iload_n dX1_removeLine_38 rfl rfl ?_
    refine e_dup2 dX1_removeLine_39 rfl rfl ?_
    refine e_iaload dX1_removeLine_40 (by first | exact hN.1 | exact hN.2.1 | exact hN.2.2.1 | exact hN.2.2.2.1) (by first | exact vp_in_nI ha (by decide) | exact vp_in_nI hb (by decide)) ?_
    rw [nI_clamp (by omega), rd_na (by omega), h1.2.2.2.2.1 a ha]
    refine e_iconst (v := 1) dX1_removeLine_41 (by decide) ?_
    refine e_iload_n dX1_removeLine_42 rfl rfl ?_
    refine e_ishl dX1_removeLine_43 ?_
    rw [shl_1 (by omega)]
    refine e_iconst (v := (-1)) dX1_removeLine_44 (by decide) ?_
    refine e_ixor dX1_removeLine_45 ?_
    refine e_iand dX1_removeLine_46 ?_
    rw [andn_nI]
    refine e_iastore dX1_removeLine_47 (by first | exact hN.1 | exact hN.2.1 | exact hN.2.2.1 | exact hN.2.2.2.1) (by first | exact vp_in_nI ha (by decide) | exact vp_in_nI hb (by decide)) ?_
    refine e_aload_n dX1_removeLine_48 rfl rfl ?_
    refine e_getR dX1_removeLine_49 fRX1_15 (by first | exact hN.1 | exact hN.2.1 | exact hN.2.2.1 | exact hN.2.2.2.1) (by first | exact hN.2.2.2.2.1 | exact hN.2.2.2.2.2.1 | exact hN.2.2.2.2.2.2) (fun _ => rfl) ?_
    refine e_iload_n dX1_removeLine_52 rfl rfl ?_
    refine e_dup2 dX1_removeLine_53 rfl rfl ?_
    refine e_iaload dX1_removeLine_54 (by first | exact hN.1 | exact hN.2.1 | exact hN.2.2.1 | exact hN.2.2.2.1) (by first | exact vp_in_nI ha (by decide) | exact vp_in_nI hb (by decide)) ?_
    rw [nI_clamp (by omega), nI_clamp (by omega), rd_ni (by omega), rd_na (by omega), h1.2.2.2.2.1 b hb]
    refine e_iconst (v := 1) dX1_removeLine_55 (by decide) ?_
    refine e_iload_n dX1_removeLine_56 rfl rfl ?_
    refine e_ishl dX1_removeLine_57 ?_
    rw [shl_1 (by omega)]
    refine e_iconst (v := (-1)) dX1_removeLine_58 (by decide) ?_
    refine e_ixor dX1_removeLine_59 ?_
    refine e_iand dX1_removeLine_60 ?_
    rw [andn_nI]
    refine e_iastore dX1_removeLine_61 (by first | exact hN.1 | exact hN.2.1 | exact hN.2.2.1 | exact hN.2.2.2.1) (by first | exact vp_in_nI ha (by decide) | exact vp_in_nI hb (by decide)) ?_
    refine e_aload_n dX1_removeLine_62 rfl rfl ?_
    refine e_iload_n dX1_removeLine_63 rfl rfl ?_
    refine e_iload_n dX1_removeLine_64 rfl rfl ?_
    refine e_iconst (v := (-1)) dX1_removeLine_65 (by decide) ?_
    rw [nI_clamp (by omega)]
    refine e_callV0v [_, _, _] dX1_removeLine_66 mvmX1_setWeight lkRX1_51 (by first | exact hN.1 | exact hN.2.1 | exact hN.2.2.1 | exact hN.2.2.2.1) ⟨by decide, rfl⟩ rfl rfl (Nat.le_of_ble_eq_true rfl) (by decide) (c_setWeight hN ha hb) ?_
    refine e_vret dX1_removeLine_69 rfl ⟨none, rfl, rfl, ⟨hN, ?_, ?_, fun x y hx hy => ?_, fun x hx => ?_, fun x hx => ?_⟩, ?_⟩
    · rw [rd_na (by omega), rd_na (by omega), rd_na (by omega), rd_na (by omega), rd_ni (by omega)]; exact h1.2.1
    · rw [rd_na (by omega), rd_na (by omega), rd_na (by omega), rd_na (by omega), rd_self, hv9, ← hg1]; rfl
    · show _ = wI (w2 g1.2.1 a b none x y)
      unfold w2
      rw [rd_sI, rd_sI, rd_na (by omega), rd_na (by omega), rd_na (by omega)]
      by_cases q1 : x = b ∧ y = a
      · rw [if_pos ⟨rfl, by rw [q1.1, q1.2]⟩, if_pos (Or.inr q1)]; rfl
      · rw [if_neg (by omega)]
        by_cases q2 : x = a ∧ y = b
        · rw [if_pos ⟨rfl, by rw [q2.1, q2.2]⟩, if_pos (Or.inl q2)]; rfl
        · rw [if_neg (by omega), if_neg (by omega)]; exact h1.2.2.2.1 x y hx hy
    · rw [rd_na (by omega), rd_na (by omega), rd_sI, rd_sI, rd_na (by omega)]
      show _ = nI (nbr (w2 g1.2.1 a b none) x)
      by_cases q1 : x = b
      · subst q1
        rw [if_pos ⟨rfl, rfl⟩, w2_comm, nbr_dif (fun q => hab q.symm)]
      · rw [if_neg (fun q => q1 q.2)]
        by_cases q2 : x = a
        · subst q2
          rw [if_pos ⟨rfl, rfl⟩, nbr_dif hab]
        · rw [if_neg (fun q => q2 q.2), nbr_ne q2 q1]; exact h1.2.2.2.2.1 x hx
    · rw [rd_na (by omega), rd_na (by omega), rd_na (by omega), rd_na (by omega), rd_na (by omega)]; exact h1.2.2.2.2.2 x hx
    · exact ((((hf1.sI (by omega) (by omega)).sI (by omega) (by omega)).sI (by omega) (by omega)).sI (by omega) (by omega)).sI (by omega) (by omega)
  have tail1 : ∀ (M1 : Mm) (g1 : Nw), g1.2.1 = g.2.1 → NetRep M1 n g1 → Fr n (n + 3) M M1 → Ev B mX1_removeLine 2 0 0 (Rt (fun v N => v = none ∧ NetRep N n (gPut g1 a b none) ∧ Fr n (n + 3) M N)) 15 [some (.ref n), some (.int (nI a)), some (.int (nI b))] [] M1 := by
    intro M1 g1 hg1 h1 hf1
    have hN := h1.1
    have hl2 := lnc_w2 (w := g.2.1) (v := none) hab ha hb hs
    have h20 : one none = 0 := rfl
    refine e_aload_n dX1_removeLine_15 rfl rfl ?_
    refine e_iload_n dX1_removeLine_16 rfl rfl ?_
    refine e_iload_n dX1_removeLine_17 rfl rfl ?_
    refine e_callV0i [_, _] dX1_removeLine_18 mvmX1_isLine lkRX1_48 (by first | exact hN.1 | exact hN.2.1 | exact hN.2.2.1 | exact hN.2.2.2.1) ⟨by decide, rfl⟩ rfl rfl (Nat.le_of_ble_eq_true rfl) (by decide) (c_isLine h1 ha hb) ?_
    by_cases hg : (g1.2.1 a b).isSome = true
    · refine e_if_eq (tgt := 34) dX1_removeLine_21 (by decide) (fun hq => ?_) (fun hq => ?_)
      · rw [if_pos hg] at hq; exact absurd hq (by decide)
      · refine e_aload_n dX1_removeLine_24 rfl rfl ?_
        refine e_dup dX1_removeLine_25 rfl ?_
        refine e_getI dX1_removeLine_26 fRX1_29 (by first | exact hN.1 | exact hN.2.1 | exact hN.2.2.1 | exact hN.2.2.2.1) (fun _ => rfl) ?_
        refine e_iconst (v := 1) dX1_removeLine_29 (by decide) ?_
        refine e_isub dX1_removeLine_30 ?_
        refine e_putI dX1_removeLine_31 fRX1_29 (by first | exact hN.1 | exact hN.2.1 | exact hN.2.2.1 | exact hN.2.2.2.1) rfl rfl rfl (fun _ _ => rfl) ?_
        rw [hg1] at hg
        have q1 : one (g.2.1 a b) = 1 := if_pos hg
        exact tail2 M1 g1 _ hg1 h1 hf1 (by
          rw [h1.2.2.1, hg1, show lnc g.2.1 = lnc (w2 g.2.1 a b none) + 1 by omega]
          exact nI_pred _)
    · refine e_if_eq (tgt := 34) dX1_removeLine_21 (by decide) (fun hq => ?_) (fun hq => ?_)
      · rw [hg1] at hg
        have q1 : one (g.2.1 a b) = 0 := if_neg hg
        have h3 := tail2 M1 g1 (M1.2.1 n 1) hg1 h1 hf1 (by rw [h1.2.2.1, hg1]; congr 1; omega)
        have h4 : sI M1 n 1 (M1.2.1 n 1) = M1 := by
          obtain ⟨m1, m9, m3⟩ := M1
          unfold sI
          congr 2
          funext x j
          unfold u2
          by_cases q1 : x = n
          · by_cases q2 : j = 1
            · simp [q1, q2]
            · simp [q1, q2]
          · simp [q1]
        rw [h4] at h3
        exact h3
      · rw [if_neg hg] at hq; exact absurd rfl hq
  refine e_aload_n dX1_removeLine_0 rfl rfl ?_
  refine e_getR dX1_removeLine_1 fRX1_18 (by first | exact hN.1 | exact hN.2.1 | exact hN.2.2.1 | exact hN.2.2.2.1) (by first | exact hN.2.2.2.2.1 | exact hN.2.2.2.2.2.1 | exact hN.2.2.2.2.2.2) (fun _ => rfl) ?_
  refine e_iload_n dX1_removeLine_4 rfl rfl ?_
  refine e_iaload dX1_removeLine_5 (by first | exact hN.1 | exact hN.2.1 | exact hN.2.2.1 | exact hN.2.2.2.1) (by exact vp_in_nI ha (by decide)) ?_
  refine e_iload_n dX1_removeLine_6 rfl rfl ?_
  rw [nI_clamp (by omega), h.2.2.2.2.2 a ha]
  have hi := wI_some (o := g.2.2 a) (b := b) (fun k hk => by have := hm a k hk; omega) (by omega)
  refine e_icmp_ne (tgt := 15) dX1_removeLine_7 (by decide) (fun hq => ?_) (fun hq => ?_)
  · rw [if_neg (fun q => hq (hi.mpr q))]
    exact tail1 M g rfl h Fr.rf
  · rw [if_pos (hi.mp hq)]
    refine e_aload_n dX1_removeLine_10 rfl rfl ?_
    refine e_iload_n dX1_removeLine_11 rfl rfl ?_
    refine e_callV1 [_] dX1_removeLine_12 mvmX1_removePair lkRX1_58 (by first | exact hN.1 | exact hN.2.1 | exact hN.2.2.1 | exact hN.2.2.2.1) ⟨by decide, rfl⟩ rfl rfl (Nat.le_of_ble_eq_true rfl) (by decide) (c_removePair h ha (hm a)) (fun v N hn => ?_)
    obtain ⟨rfl, hn1, hn2⟩ := hn
    exact tail1 N (gUn g a) rfl hn1 hn2

