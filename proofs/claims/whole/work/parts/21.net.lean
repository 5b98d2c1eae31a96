/-! hasBit, Arrays.fill and the methods of Net -/
theorem c_hasBit {B : Bd} {M : Mm} {k j : Nat} (hk : k < 2 ^ 31) (hj : j < 31) : Ct B mX5_hasBit 0 0 0 [.int (nI k), .int (nI j)] M (Is (some (.int (if k.testBit j = true then 1 else 0))) M) := by
  refine Ct.of (by decide) rfl rfl (Nat.le_of_ble_eq_true rfl) ?_
  have hb := hb_iff hk hj
  refine e_iload_n dX5_hasBit_0 rfl rfl ?_
  refine e_iload_n dX5_hasBit_1 rfl rfl ?_
  refine e_ishr dX5_hasBit_2 ?_
  refine e_iconst (v := 1) dX5_hasBit_3 (by decide) ?_
  refine e_iand dX5_hasBit_4 ?_
  refine e_iconst (v := 1) dX5_hasBit_5 (by decide) ?_
  refine e_icmp_ne (tgt := 13) dX5_hasBit_6 (by decide) (fun hq => ?_) (fun hq => ?_)
  · have h1 : ¬ k.testBit j = true := fun h => hq (hb.mpr h)
    refine e_iconst (v := 0) dX5_hasBit_13 (by decide) ?_
    exact e_iret dX5_hasBit_14 rfl rfl (⟨by rw [if_neg h1], rfl⟩)
  · have h1 : k.testBit j = true := hb.mp hq
    refine e_iconst (v := 1) dX5_hasBit_9 (by decide) ?_
    refine e_goto (tgt := 14) dX5_hasBit_10 (by decide) ?_
    exact e_iret dX5_hasBit_14 rfl rfl (⟨by rw [if_pos h1], rfl⟩)
/-- the first n places of the row a are v -/
def sF (M : Mm) (a n : Nat) (v : Int32) : Mm := (M.1, (fun b j => if b = a ∧ j < n then v else M.2.1 b j), M.2.2)
theorem sF_0 (M : Mm) (a : Nat) (v : Int32) : sF M a 0 v = M := by
  obtain ⟨m1, m2, m3⟩ := M
  unfold sF
  simp
theorem sF_s (M : Mm) (a n : Nat) (v : Int32) : sI (sF M a n v) a n v = sF M a (n + 1) v := by
  unfold sI sF
  simp only
  congr 2
  funext b j
  unfold u2
  by_cases h : b = a
  · by_cases h2 : j = n
    · simp [h, h2]
    · have h3 : j < n + 1 ↔ j < n := by omega
      simp [h, h2, h3]
  · simp [h]
theorem sF_Fr (M : Mm) (a n : Nat) (v : Int32) : Fr a a M (sF M a n v) := ⟨rfl, rfl, fun b hb => by
  funext j
  show (if b = a ∧ j < n then v else M.2.1 b j) = _
  rw [if_neg (by omega)]⟩
theorem c_fill {B : Bd} {M : Mm} {a n : Nat} {v : Int32} (ha : M.1.1[a]? = some (.inr (.int, n))) (hn : n < 2 ^ 31) : Ct B mJ7_fill_53178 0 0 0 [.ref a, .int v] M (Is none (sF M a n v)) := by
  refine Ct.of (by decide) rfl rfl (Nat.le_of_ble_eq_true rfl) ?_
  have loop : ∀ k i, i + k = n → Ev B mJ7_fill_53178 0 0 0 (Is none (sF M a n v)) 5 [some (.ref a), some (.int v), some (.int (nI i)), some (.int (nI n))] [] (sF M a i v) := by
    intro k
    induction k with
    | zero =>
      intro i hi
      refine e_iload_n dJ7_fill_53178_5 rfl rfl ?_
      refine e_iload_n dJ7_fill_53178_6 rfl rfl ?_
      refine e_icmp_ge (tgt := 20) dJ7_fill_53178_7 (by decide) (fun hq => ?_) (fun hq => ?_)
      · have hin : i = n := by omega
        exact e_vret dJ7_fill_53178_20 rfl (⟨rfl, by rw [hin]⟩)
      · exact absurd (nI_le (by omega : n ≤ i) (by omega)) hq
    | succ k ih =>
      intro i hi
      refine e_iload_n dJ7_fill_53178_5 rfl rfl ?_
      refine e_iload_n dJ7_fill_53178_6 rfl rfl ?_
      refine e_icmp_ge (tgt := 20) dJ7_fill_53178_7 (by decide) (fun hq => ?_) (fun hq => ?_)
      · exact absurd hq (nI_ge (by omega) hn)
      · refine e_aload_n dJ7_fill_53178_10 rfl rfl ?_
        refine e_iload_n dJ7_fill_53178_11 rfl rfl ?_
        refine e_iload_n dJ7_fill_53178_12 rfl rfl ?_
        refine e_iastore dJ7_fill_53178_13 (by exact ha) (by exact vp_in_nI (by omega) hn) ?_
        refine e_iinc (v := nI (i + 1)) dJ7_fill_53178_14 rfl (nI_1 i) (by decide) rfl rfl ?_
        refine e_goto (tgt := 5) dJ7_fill_53178_17 (by decide) ?_
        rw [nI_clamp (by omega), sF_s]
        exact ih (i + 1) (by omega)
  refine e_iconst (v := 0) dJ7_fill_53178_0 (by decide) ?_
  refine e_istore_n dJ7_fill_53178_1 rfl (by decide) rfl rfl ?_
  refine e_aload_n dJ7_fill_53178_2 rfl rfl ?_
  refine e_alen (t0 := 0) dJ7_fill_53178_3 (by exact ha) (fun _ => rfl) ?_
  refine e_istore_n dJ7_fill_53178_4 rfl (by decide) rfl rfl ?_
  have h := loop n 0 (by omega)
  rw [sF_0, nI_0] at h
  exact h
theorem c_isLine0 {B : Bd} {M : Mm} {n a b k : Nat} (hN : NetAt M n) (ha : a < 12) (hb : b < 31) (hk : M.2.1 (n + 2) a = nI k) (hk2 : k < 2 ^ 31) : Ct B mX1_isLine 1 0 0 [.ref n, .int (nI a), .int (nI b)] M (Is (some (.int (if k.testBit b = true then 1 else 0))) M) := by
  refine Ct.of (by decide) rfl rfl (Nat.le_of_ble_eq_true rfl) ?_
  refine e_aload_n dX1_isLine_0 rfl rfl ?_
  refine e_getR dX1_isLine_1 fRX1_15 (by first | exact hN.1 | exact hN.2.1 | exact hN.2.2.1 | exact hN.2.2.2.1) (by first | exact hN.2.2.2.2.1 | exact hN.2.2.2.2.2.1 | exact hN.2.2.2.2.2.2) (fun _ => rfl) ?_
  refine e_iload_n dX1_isLine_4 rfl rfl ?_
  refine e_iaload dX1_isLine_5 (by first | exact hN.1 | exact hN.2.1 | exact hN.2.2.1 | exact hN.2.2.2.1) (by exact vp_in_nI ha (by decide)) ?_
  refine e_iload_n dX1_isLine_6 rfl rfl ?_
  rw [nI_clamp (by omega : a < 2 ^ 31), hk]
  refine e_callN0i [_, _] dX1_isLine_7 msmX5_hasBit nest_1 rfl rfl (Nat.le_of_ble_eq_true rfl) (by decide) (c_hasBit hk2 hb) ?_
  split <;> exact e_iret dX1_isLine_10 rfl rfl ⟨rfl, rfl⟩
theorem c_isLine {B : Bd} {M : Mm} {n a b : Nat} {g : Nw} (h : NetRep M n g) (ha : a < 12) (hb : b < 12) : Ct B mX1_isLine 1 0 0 [.ref n, .int (nI a), .int (nI b)] M (Is (some (.int (if (g.2.1 a b).isSome = true then 1 else 0))) M) := by
  have h1 := c_isLine0 (B := B) (b := b) h.1 ha (by omega) (h.2.2.2.2.1 a ha) (Nat.lt_trans (nbr_lt g.2.1 a) (by decide))
  rw [nbr_bit] at h1
  simp only [hb, decide_true, Bool.true_and] at h1
  exact h1
theorem c_all {B : Bd} {M : Mm} {n : Nat} {g : Nw} (h : NetRep M n g) (hn : g.1 ≤ 12) : Ct B mX1_all 0 0 0 [.ref n] M (Is (some (.int (nI (2 ^ g.1 - 1)))) M) := by
  have hN := h.1
  refine Ct.of (by decide) rfl rfl (Nat.le_of_ble_eq_true rfl) ?_
  refine e_iconst (v := 1) dX1_all_0 (by decide) ?_
  refine e_aload_n dX1_all_1 rfl rfl ?_
  refine e_getI dX1_all_2 fRX1_25 (by first | exact hN.1 | exact hN.2.1 | exact hN.2.2.1 | exact hN.2.2.2.1) (fun _ => rfl) ?_
  rw [h.2.1]
  refine e_ishl dX1_all_5 ?_
  rw [shl_1 (by omega)]
  refine e_iconst (v := 1) dX1_all_6 (by decide) ?_
  refine e_isub dX1_all_7 ?_
  have h1 : 1 ≤ 2 ^ g.1 := Nat.one_le_two_pow
  exact e_iret dX1_all_8 rfl rfl (⟨by rw [← pk_sub h1]; rfl, rfl⟩)
theorem c_holds {B : Bd} {M : Mm} {n : Nat} {g : Nw} {x : Int32} (h : NetRep M n g) (hn : g.1 ≤ 12) : Ct B mX1_holds 0 0 0 [.ref n, .int x] M (Is (some (.int (if ∃ a, a < g.1 ∧ x = nI a then 1 else 0))) M) := by
  have hN := h.1
  refine Ct.of (by decide) rfl rfl (Nat.le_of_ble_eq_true rfl) ?_
  refine e_iload_n dX1_holds_0 rfl rfl ?_
  refine e_if_lt (tgt := 16) dX1_holds_1 (by decide) (fun hq => ?_) (fun hq => ?_)
  · refine e_iconst (v := 0) dX1_holds_16 (by decide) ?_
    have h1 : ¬ ∃ a, a < g.1 ∧ x = nI a := by
      rintro ⟨a, ha, rfl⟩
      exact nI_pos (by omega) hq
    exact e_iret dX1_holds_17 rfl rfl (⟨by rw [if_neg h1], rfl⟩)
  · refine e_iload_n dX1_holds_4 rfl rfl ?_
    refine e_aload_n dX1_holds_5 rfl rfl ?_
    refine e_getI dX1_holds_6 fRX1_25 (by first | exact hN.1 | exact hN.2.1 | exact hN.2.2.1 | exact hN.2.2.2.1) (fun _ => rfl) ?_
    rw [h.2.1]
    obtain ⟨j, hj, rfl⟩ := nI_of hq
    refine e_icmp_ge (tgt := 16) dX1_holds_9 (by decide) (fun hq2 => ?_) (fun hq2 => ?_)
    · refine e_iconst (v := 0) dX1_holds_16 (by decide) ?_
      rw [nI_leI (by omega) hj] at hq2
      have h1 : ¬ ∃ a, a < g.1 ∧ nI j = nI a := by
        rintro ⟨a, ha, he⟩
        rw [nI_eq hj (by omega)] at he
        omega
      exact e_iret dX1_holds_17 rfl rfl (⟨by rw [if_neg h1], rfl⟩)
    · refine e_iconst (v := 1) dX1_holds_12 (by decide) ?_
      refine e_goto (tgt := 17) dX1_holds_13 (by decide) ?_
      rw [nI_leI (by omega) hj] at hq2
      have h1 : ∃ a, a < g.1 ∧ nI j = nI a := ⟨j, by omega, rfl⟩
      exact e_iret dX1_holds_17 rfl rfl (⟨by rw [if_pos h1], rfl⟩)
theorem c_isFree {B : Bd} {M : Mm} {n a : Nat} {g : Nw} (h : NetRep M n g) (ha : a < 12) (hm : ∀ k, g.2.2 a = some k → k < 12) : Ct B mX1_isFree 0 0 0 [.ref n, .int (nI a)] M (Is (some (.int (if g.2.2 a = none then 1 else 0))) M) := by
  have hN := h.1
  refine Ct.of (by decide) rfl rfl (Nat.le_of_ble_eq_true rfl) ?_
  refine e_aload_n dX1_isFree_0 rfl rfl ?_
  refine e_getR dX1_isFree_1 fRX1_18 (by first | exact hN.1 | exact hN.2.1 | exact hN.2.2.1 | exact hN.2.2.2.1) (by first | exact hN.2.2.2.2.1 | exact hN.2.2.2.2.2.1 | exact hN.2.2.2.2.2.2) (fun _ => rfl) ?_
  refine e_iload_n dX1_isFree_4 rfl rfl ?_
  refine e_iaload dX1_isFree_5 (by first | exact hN.1 | exact hN.2.1 | exact hN.2.2.1 | exact hN.2.2.2.1) (by exact vp_in_nI ha (by decide)) ?_
  refine e_iconst (v := (-1)) dX1_isFree_6 (by decide) ?_
  rw [nI_clamp (by omega), h.2.2.2.2.2 a ha]
  have hi := wI_none (o := g.2.2 a) (fun k hk => by have := hm k hk; omega)
  refine e_icmp_ne (tgt := 14) dX1_isFree_7 (by decide) (fun hq => ?_) (fun hq => ?_)
  · refine e_iconst (v := 0) dX1_isFree_14 (by decide) ?_
    exact e_iret dX1_isFree_15 rfl rfl (⟨by rw [if_neg (fun q => hq (hi.mpr q))], rfl⟩)
  · refine e_iconst (v := 1) dX1_isFree_10 (by decide) ?_
    refine e_goto (tgt := 15) dX1_isFree_11 (by decide) ?_
    exact e_iret dX1_isFree_15 rfl rfl (⟨by rw [if_pos (hi.mp hq)], rfl⟩)
theorem c_weightOf {B : Bd} {M : Mm} {n a b : Nat} {g : Nw} (h : NetRep M n g) (ha : a < 12) (hb : b < 12) : Ct B mX1_weightOf 0 0 0 [.ref n, .int (nI a), .int (nI b)] M (Is (some (.int (wI (g.2.1 a b)))) M) := by
  have hN := h.1
  refine Ct.of (by decide) rfl rfl (Nat.le_of_ble_eq_true rfl) ?_
  refine e_aload_n dX1_weightOf_0 rfl rfl ?_
  refine e_getR dX1_weightOf_1 fRX1_9 (by first | exact hN.1 | exact hN.2.1 | exact hN.2.2.1 | exact hN.2.2.2.1) (by first | exact hN.2.2.2.2.1 | exact hN.2.2.2.2.2.1 | exact hN.2.2.2.2.2.2) (fun _ => rfl) ?_
  refine e_iload_n dX1_weightOf_4 rfl rfl ?_
  refine e_bipush (v := 12) dX1_weightOf_5 (by decide) ?_
  refine e_imul dX1_weightOf_7 ?_
  refine e_iload_n dX1_weightOf_8 rfl rfl ?_
  refine e_iadd dX1_weightOf_9 ?_
  rw [e12]
  refine e_iaload dX1_weightOf_10 (by first | exact hN.1 | exact hN.2.1 | exact hN.2.2.1 | exact hN.2.2.2.1) (by exact vp_in_nI (by omega) (by decide)) ?_
  rw [nI_clamp (by omega), h.2.2.2.1 a b ha hb]
  exact e_iret dX1_weightOf_11 rfl rfl (⟨rfl, rfl⟩)
theorem c_setWeight {B : Bd} {M : Mm} {n a b : Nat} {x : Int32} (hN : NetAt M n) (ha : a < 12) (hb : b < 12) : Ct B mX1_setWeight 0 0 0 [.ref n, .int (nI a), .int (nI b), .int x] M (Is none (sI (sI M (n + 1) (a * 12 + b) x) (n + 1) (b * 12 + a) x)) := by
  refine Ct.of (by decide) rfl rfl (Nat.le_of_ble_eq_true rfl) ?_
  refine e_aload_n dX1_setWeight_0 rfl rfl ?_
  refine e_getR dX1_setWeight_1 fRX1_9 (by first | exact hN.1 | exact hN.2.1 | exact hN.2.2.1 | exact hN.2.2.2.1) (by first | exact hN.2.2.2.2.1 | exact hN.2.2.2.2.2.1 | exact hN.2.2.2.2.2.2) (fun _ => rfl) ?_
  refine e_iload_n dX1_setWeight_4 rfl rfl ?_
  refine e_bipush (v := 12) dX1_setWeight_5 (by decide) ?_
  refine e_imul dX1_setWeight_7 ?_
  refine e_iload_n dX1_setWeight_8 rfl rfl ?_
  refine e_iadd dX1_setWeight_9 ?_
  rw [e12]
  refine e_iload_n dX1_setWeight_10 rfl rfl ?_
  refine e_iastore dX1_setWeight_11 (by first | exact hN.1 | exact hN.2.1 | exact hN.2.2.1 | exact hN.2.2.2.1) (by exact vp_in_nI (by omega) (by decide)) ?_
  rw [nI_clamp (by omega)]
  refine e_aload_n dX1_setWeight_12 rfl rfl ?_
  refine e_getR dX1_setWeight_13 fRX1_9 (by first | exact hN.1 | exact hN.2.1 | exact hN.2.2.1 | exact hN.2.2.2.1) (by first | exact hN.2.2.2.2.1 | exact hN.2.2.2.2.2.1 | exact hN.2.2.2.2.2.2) (fun _ => rfl) ?_
  refine e_iload_n dX1_setWeight_16 rfl rfl ?_
  refine e_bipush (v := 12) dX1_setWeight_17 (by decide) ?_
  refine e_imul dX1_setWeight_19 ?_
  refine e_iload_n dX1_setWeight_20 rfl rfl ?_
  refine e_iadd dX1_setWeight_21 ?_
  rw [e12]
  refine e_iload_n dX1_setWeight_22 rfl rfl ?_
  refine e_iastore dX1_setWeight_23 (by first | exact hN.1 | exact hN.2.1 | exact hN.2.2.1 | exact hN.2.2.2.1) (by exact vp_in_nI (by omega) (by decide)) ?_
  rw [nI_clamp (by omega)]
  exact e_vret dX1_setWeight_24 rfl (⟨rfl, rfl⟩)
theorem c_putPair {B : Bd} {M : Mm} {n a b : Nat} {g : Nw} (h : NetRep M n g) (ha : a < 12) (hb : b < 12) (hab : a ≠ b) : Ct B mX1_putPair 0 0 0 [.ref n, .int (nI a), .int (nI b)] M (Rt (fun v N => v = none ∧ NetRep N n (g.1, g.2.1, m2 (m2 g.2.2 a (some b)) b (some a)) ∧ Fr n (n + 3) M N)) := by
  have hN := h.1
  refine Ct.of (by decide) rfl rfl (Nat.le_of_ble_eq_true rfl) ?_
  refine e_aload_n dX1_putPair_0 rfl rfl ?_
  refine e_getR dX1_putPair_1 fRX1_18 (by first | exact hN.1 | exact hN.2.1 | exact hN.2.2.1 | exact hN.2.2.2.1) (by first | exact hN.2.2.2.2.1 | exact hN.2.2.2.2.2.1 | exact hN.2.2.2.2.2.2) (fun _ => rfl) ?_
  refine e_iload_n dX1_putPair_4 rfl rfl ?_
  refine e_iload_n dX1_putPair_5 rfl rfl ?_
  refine e_iastore dX1_putPair_6 (by first | exact hN.1 | exact hN.2.1 | exact hN.2.2.1 | exact hN.2.2.2.1) (by first | exact vp_in_nI ha (by decide) | exact vp_in_nI hb (by decide)) ?_
  rw [nI_clamp (by omega)]
  refine e_aload_n dX1_putPair_7 rfl rfl ?_
  refine e_getR dX1_putPair_8 fRX1_18 (by first | exact hN.1 | exact hN.2.1 | exact hN.2.2.1 | exact hN.2.2.2.1) (by first | exact hN.2.2.2.2.1 | exact hN.2.2.2.2.2.1 | exact hN.2.2.2.2.2.2) (fun _ => rfl) ?_
  refine e_iload_n dX1_putPair_11 rfl rfl ?_
  refine e_iload_n dX1_putPair_12 rfl rfl ?_
  refine e_iastore dX1_putPair_13 (by first | exact hN.1 | exact hN.2.1 | exact hN.2.2.1 | exact hN.2.2.2.1) (by first | exact vp_in_nI ha (by decide) | exact vp_in_nI hb (by decide)) ?_
  rw [nI_clamp (by omega)]
  refine e_vret dX1_putPair_14 rfl ⟨none, rfl, rfl, ⟨hN, ?_, ?_, fun x y hx hy => ?_, fun x hx => ?_, fun x hx => ?_⟩, (Fr.rf.sI (by omega) (by omega)).sI (by omega) (by omega)⟩
  · rw [rd_na (by omega), rd_na (by omega)]; exact h.2.1
  · rw [rd_na (by omega), rd_na (by omega)]; exact h.2.2.1
  · rw [rd_na (by omega), rd_na (by omega)]; exact h.2.2.2.1 x y hx hy
  · rw [rd_na (by omega), rd_na (by omega)]; exact h.2.2.2.2.1 x hx
  · rw [rd_sI, rd_sI]
    by_cases h1 : x = b
    · subst h1; simp [m2, wI]
    · by_cases h2 : x = a
      · subst h2; simp [m2, wI, hab]
      · simp [m2, h1, h2]; exact h.2.2.2.2.2 x hx
theorem c_removePair {B : Bd} {M : Mm} {n a : Nat} {g : Nw} (h : NetRep M n g) (ha : a < 12) (hm : ∀ k, g.2.2 a = some k → k < 12) : Ct B mX1_removePair 0 0 0 [.ref n, .int (nI a)] M (Rt (fun v N => v = none ∧ NetRep N n (g.1, g.2.1, match g.2.2 a with | none => g.2.2 | some b => m2 (m2 g.2.2 a none) b none) ∧ Fr n (n + 3) M N)) := by
  have hN := h.1
  refine Ct.of (by decide) rfl rfl (Nat.le_of_ble_eq_true rfl) ?_
  refine e_aload_n dX1_removePair_0 rfl rfl ?_
  refine e_getR dX1_removePair_1 fRX1_18 (by first | exact hN.1 | exact hN.2.1 | exact hN.2.2.1 | exact hN.2.2.2.1) (by first | exact hN.2.2.2.2.1 | exact hN.2.2.2.2.2.1 | exact hN.2.2.2.2.2.2) (fun _ => rfl) ?_
  refine e_iload_n dX1_removePair_4 rfl rfl ?_
  refine e_iaload dX1_removePair_5 (by first | exact hN.1 | exact hN.2.1 | exact hN.2.2.1 | exact hN.2.2.2.1) (by exact vp_in_nI ha (by decide)) ?_
  rw [nI_clamp (by omega), h.2.2.2.2.2 a ha]
  refine e_istore_n dX1_removePair_6 rfl (by decide) rfl rfl ?_
  refine e_aload_n dX1_removePair_7 rfl rfl ?_
  refine e_getR dX1_removePair_8 fRX1_18 (by first | exact hN.1 | exact hN.2.1 | exact hN.2.2.1 | exact hN.2.2.2.1) (by first | exact hN.2.2.2.2.1 | exact hN.2.2.2.2.2.1 | exact hN.2.2.2.2.2.2) (fun _ => rfl) ?_
  refine e_iload_n dX1_removePair_11 rfl rfl ?_
  refine e_iconst (v := (-1)) dX1_removePair_12 (by decide) ?_
  refine e_iastore dX1_removePair_13 (by first | exact hN.1 | exact hN.2.1 | exact hN.2.2.1 | exact hN.2.2.2.1) (by exact vp_in_nI ha (by decide)) ?_
  refine e_iload_n dX1_removePair_14 rfl rfl ?_
  refine e_iconst (v := (-1)) dX1_removePair_15 (by decide) ?_
  rw [nI_clamp (by omega)]
  cases hg : g.2.2 a with
  | none =>
    refine e_icmp_eq (tgt := 26) dX1_removePair_16 (by decide) (fun hq => ?_) (fun hq => ?_)
    · refine e_vret dX1_removePair_26 rfl ⟨none, rfl, rfl, ⟨hN, ?_, ?_, fun x y hx hy => ?_, fun x hx => ?_, fun x hx => ?_⟩, Fr.rf.sI (by omega) (by omega)⟩
      · rw [rd_na (by omega)]; exact h.2.1
      · rw [rd_na (by omega)]; exact h.2.2.1
      · rw [rd_na (by omega)]; exact h.2.2.2.1 x y hx hy
      · rw [rd_na (by omega)]; exact h.2.2.2.2.1 x hx
      · rw [rd_sI]
        by_cases h1 : x = a
        · subst h1
          show _ = wI (g.2.2 x)
          rw [hg]; simp [wI]
        · simp [h1]; exact h.2.2.2.2.2 x hx
    · exact absurd rfl hq
  | some b =>
    have hb := hm b hg
    refine e_icmp_eq (tgt := 26) dX1_removePair_16 (by decide) (fun hq => ?_) (fun hq => ?_)
    · exact absurd hq (by
        intro q
        have := (wI_none (o := some b) (fun k hk => by cases hk; omega)).mp q
        cases this)
    · show Ev _ _ _ _ _ _ 19 [some (.ref n), some (.int (nI a)), some (.int (nI b))] [] _
      refine e_aload_n dX1_removePair_19 rfl rfl ?_
      refine e_getR dX1_removePair_20 fRX1_18 (by first | exact hN.1 | exact hN.2.1 | exact hN.2.2.1 | exact hN.2.2.2.1) (by first | exact hN.2.2.2.2.1 | exact hN.2.2.2.2.2.1 | exact hN.2.2.2.2.2.2) (fun _ => rfl) ?_
      refine e_iload_n dX1_removePair_23 rfl rfl ?_
      refine e_iconst (v := (-1)) dX1_removePair_24 (by decide) ?_
      refine e_iastore dX1_removePair_25 (by first | exact hN.1 | exact hN.2.1 | exact hN.2.2.1 | exact hN.2.2.2.1) (by exact vp_in_nI hb (by decide)) ?_
      rw [nI_clamp (by omega)]
      refine e_vret dX1_removePair_26 rfl ⟨none, rfl, rfl, ⟨hN, ?_, ?_, fun x y hx hy => ?_, fun x hx => ?_, fun x hx => ?_⟩, (Fr.rf.sI (by omega) (by omega)).sI (by omega) (by omega)⟩
      · rw [rd_na (by omega), rd_na (by omega)]; exact h.2.1
      · rw [rd_na (by omega), rd_na (by omega)]; exact h.2.2.1
      · rw [rd_na (by omega), rd_na (by omega)]; exact h.2.2.2.1 x y hx hy
      · rw [rd_na (by omega), rd_na (by omega)]; exact h.2.2.2.2.1 x hx
      · rw [rd_sI, rd_sI]
        by_cases h1 : x = b
        · subst h1; simp [m2, wI]
        · by_cases h2 : x = a
          · subst h2; simp [m2, wI]
          · simp [m2, h1, h2]; exact h.2.2.2.2.2 x hx

