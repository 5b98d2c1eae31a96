/-! the Model: cell 60; a network in a row of 157 ints -/
def NowR (M : Mm) (a : Nat) (g : Nw) : Prop := M.2.1 a 0 = nI g.1 ∧ (∀ x, x < 12 → M.2.1 a (1 + x) = wI (g.2.2 x)) ∧ ∀ x y, x < 12 → y < 12 → M.2.1 a (13 + 12 * x + y) = wI (g.2.1 x y)
theorem NowR.at {M N : Mm} {a : Nat} {g : Nw} (h : NowR M a g) (e : N.2.1 a = M.2.1 a) : NowR N a g := by unfold NowR; rw [e]; exact h
theorem NowR.fr {M N : Mm} {a lo hi : Nat} {g : Nw} (h : NowR M a g) (hf : Fr lo hi M N) (ho : a < lo ∨ hi < a) : NowR N a g := h.at (hf.2.2 a ho)
theorem c_in {B : Bd} {M : Mm} {x lo hi : Int32} : Ct B mX6_in 0 0 0 [.int x, .int lo, .int hi] M (Is (some (.int (if lo.toInt ≤ x.toInt ∧ x.toInt ≤ hi.toInt then 1 else 0))) M) := by
  refine Ct.of (by decide) rfl rfl (Nat.le_of_ble_eq_true rfl) ?_
  refine e_iload_n dX6_in_0 rfl rfl ?_
  refine e_iload_n dX6_in_1 rfl rfl ?_
  refine e_icmp_lt (tgt := 14) dX6_in_2 (by decide) (fun h1 => ?_) (fun h1 => ?_)
  · rw [fa_lt] at h1
    refine e_iconst (v := 0) dX6_in_14 (by decide) ?_
    rw [if_neg (by omega)]
    exact e_iret dX6_in_15 rfl rfl (⟨rfl, rfl⟩)
  · rw [fa_lt] at h1
    refine e_iload_n dX6_in_5 rfl rfl ?_
    refine e_iload_n dX6_in_6 rfl rfl ?_
    refine e_icmp_gt (tgt := 14) dX6_in_7 (by decide) (fun h2 => ?_) (fun h2 => ?_)
    · rw [fa_lt] at h2
      refine e_iconst (v := 0) dX6_in_14 (by decide) ?_
      rw [if_neg (by omega)]
      exact e_iret dX6_in_15 rfl rfl (⟨rfl, rfl⟩)
    · rw [fa_lt] at h2
      refine e_iconst (v := 1) dX6_in_10 (by decide) ?_
      refine e_goto (tgt := 15) dX6_in_11 (by decide) ?_
      rw [if_pos (by omega)]
      exact e_iret dX6_in_15 rfl rfl (⟨rfl, rfl⟩)
theorem c_less {B : Bd} {M : Mm} {a b : Nat} (ha : a < 2 ^ 31) (hb : b < 2 ^ 31) : Ct B mX6_less 0 0 0 [.int (nI a), .int (nI b)] M (Is (some (.int (nI (min a b)))) M) := by
  refine Ct.of (by decide) rfl rfl (Nat.le_of_ble_eq_true rfl) ?_
  refine e_iload_n dX6_less_0 rfl rfl ?_
  refine e_iload_n dX6_less_1 rfl rfl ?_
  refine e_icmp_ge (tgt := 9) dX6_less_2 (by decide) (fun h1 => ?_) (fun h1 => ?_)
  · have := (nI_leI hb ha).mp h1
    refine e_iload_n dX6_less_9 rfl rfl ?_
    rw [Nat.min_eq_right this]
    exact e_iret dX6_less_10 rfl rfl (⟨rfl, rfl⟩)
  · have : ¬ b ≤ a := fun q => h1 (nI_le q ha)
    refine e_iload_n dX6_less_5 rfl rfl ?_
    refine e_goto (tgt := 10) dX6_less_6 (by decide) ?_
    rw [Nat.min_eq_left (by omega)]
    exact e_iret dX6_less_10 rfl rfl (⟨rfl, rfl⟩)
theorem c_begins {B : Bd} {M : Mm} {a : Nat} (ha : M.1.1[a]? = some (.inr (.int, 157))) : Ct B mX6_begins 0 0 0 [.ref a] M (Rt (fun u N => u = none ∧ Fr a a M N ∧ ∀ i, i < 157 → N.2.1 a i = -1)) := by
  refine Ct.of (by decide) rfl rfl (Nat.le_of_ble_eq_true rfl) ?_
  have loop : ∀ k i N, i + k = 157 → Fr a a M N → (∀ j, j < i → N.2.1 a j = -1) → Ev B mX6_begins 0 0 0 (Rt (fun u N => u = none ∧ Fr a a M N ∧ ∀ i, i < 157 → N.2.1 a i = -1)) 2 [some (.ref a), some (.int (nI i))] [] N := by
    intro k
    induction k with
    | zero =>
      intro i N hi hf hN
      have hi' : i = 157 := by omega
      subst hi'
      refine e_iload_n dX6_begins_2 rfl rfl ?_
      refine e_sipush (v := 157) dX6_begins_3 (by decide) ?_
      rw [show (157 : Int32) = nI 157 from fa_lit 157]
      refine e_icmp_ge (tgt := 19) dX6_begins_6 (by decide) (fun hz => ?_) (fun hz => ?_)
      · exact e_vret dX6_begins_19 rfl ⟨none, rfl, rfl, hf, hN⟩
      · exact absurd (nI_le (Nat.le_refl _) (by decide)) hz
    | succ k ih =>
      intro i N hi hf hN
      have hs : N.1 = M.1 := hf.1
      refine e_iload_n dX6_begins_2 rfl rfl ?_
      refine e_sipush (v := 157) dX6_begins_3 (by decide) ?_
      rw [show (157 : Int32) = nI 157 from fa_lit 157]
      refine e_icmp_ge (tgt := 19) dX6_begins_6 (by decide) (fun hz => ?_) (fun hz => ?_)
      · exact absurd hz (nI_ge (by omega) (by decide))
      · refine e_aload_n dX6_begins_9 rfl rfl ?_
        refine e_iload_n dX6_begins_10 rfl rfl ?_
        refine e_iconst (v := (-1)) dX6_begins_11 (by decide) ?_
        refine e_iastore dX6_begins_12 (by (rw [hs]; exact ha)) (by exact vp_in_nI (show i < 157 by omega) (by decide)) ?_
        rw [nI_clamp (by omega)]
        refine e_iinc (v := nI (i + 1)) dX6_begins_13 rfl (nI_1 i) (by decide) rfl rfl ?_
        refine e_goto (tgt := 2) dX6_begins_16 (by decide) ?_
        refine ih (i + 1) _ (by omega) (hf.sI (by omega) (by omega)) (fun j hj => ?_)
        by_cases hji : j = i
        · rw [hji, rd_self]
        · rw [rd_ni hji]; exact hN j (by omega)
  refine e_iconst (v := 0) dX6_begins_0 (by decide) ?_
  refine e_istore_n dX6_begins_1 rfl (by decide) rfl rfl ?_
  exact loop 157 0 M (by omega) Fr.rf (fun j hj => by omega)
theorem c_copies {B : Bd} {M : Mm} {a b : Nat} (ha : M.1.1[a]? = some (.inr (.int, 157))) (hb : M.1.1[b]? = some (.inr (.int, 157))) (hab : a ≠ b) : Ct B mX6_copies 0 0 0 [.ref a, .ref b] M (Rt (fun u N => u = none ∧ Fr b b M N ∧ ∀ i, i < 157 → N.2.1 b i = M.2.1 a i)) := by
  refine Ct.of (by decide) rfl rfl (Nat.le_of_ble_eq_true rfl) ?_
  have loop : ∀ k i N, i + k = 157 → Fr b b M N → (∀ j, j < i → N.2.1 b j = M.2.1 a j) → Ev B mX6_copies 0 0 0 (Rt (fun u N => u = none ∧ Fr b b M N ∧ ∀ i, i < 157 → N.2.1 b i = M.2.1 a i)) 2 [some (.ref a), some (.ref b), some (.int (nI i))] [] N := by
    intro k
    induction k with
    | zero =>
      intro i N hi hf hN
      have hi' : i = 157 := by omega
      subst hi'
      refine e_iload_n dX6_copies_2 rfl rfl ?_
      refine e_sipush (v := 157) dX6_copies_3 (by decide) ?_
      rw [show (157 : Int32) = nI 157 from fa_lit 157]
      refine e_icmp_ge (tgt := 21) dX6_copies_6 (by decide) (fun hz => ?_) (fun hz => ?_)
      · exact e_vret dX6_copies_21 rfl ⟨none, rfl, rfl, hf, hN⟩
      · exact absurd (nI_le (Nat.le_refl _) (by decide)) hz
    | succ k ih =>
      intro i N hi hf hN
      have hs : N.1 = M.1 := hf.1
      have ea := hf.2.2 a (by omega)
      refine e_iload_n dX6_copies_2 rfl rfl ?_
      refine e_sipush (v := 157) dX6_copies_3 (by decide) ?_
      rw [show (157 : Int32) = nI 157 from fa_lit 157]
      refine e_icmp_ge (tgt := 21) dX6_copies_6 (by decide) (fun hz => ?_) (fun hz => ?_)
      · exact absurd hz (nI_ge (by omega) (by decide))
      · refine e_aload_n dX6_copies_9 rfl rfl ?_
        refine e_iload_n dX6_copies_10 rfl rfl ?_
        refine e_aload_n dX6_copies_11 rfl rfl ?_
        refine e_iload_n dX6_copies_12 rfl rfl ?_
        refine e_iaload dX6_copies_13 (by first | (rw [hs]; exact ha) | (rw [hs]; exact hb)) (by exact vp_in_nI (show i < 157 by omega) (by decide)) ?_
        rw [nI_clamp (by omega), ea]
        refine e_iastore dX6_copies_14 (by first | (rw [hs]; exact ha) | (rw [hs]; exact hb)) (by exact vp_in_nI (show i < 157 by omega) (by decide)) ?_
        rw [nI_clamp (by omega)]
        refine e_iinc (v := nI (i + 1)) dX6_copies_15 rfl (nI_1 i) (by decide) rfl rfl ?_
        refine e_goto (tgt := 2) dX6_copies_18 (by decide) ?_
        refine ih (i + 1) _ (by omega) (hf.sI (by omega) (by omega)) (fun j hj => ?_)
        by_cases hji : j = i
        · rw [hji, rd_self]
        · rw [rd_ni hji]; exact hN j (by omega)
  refine e_iconst (v := 0) dX6_copies_0 (by decide) ?_
  refine e_istore_n dX6_copies_1 rfl (by decide) rfl rfl ?_
  exact loop 157 0 M (by omega) Fr.rf (fun j hj => by omega)
theorem e13 (a b : Nat) : 13 + 12 * nI a + nI b = nI (13 + 12 * a + b) := by
  rw [show (12 : Int32) = nI 12 from rfl, show (13 : Int32) = nI 13 from rfl, pk_mul, nI_add, nI_add]
theorem e1p (a : Nat) : 1 + nI a = nI (1 + a) := by
  rw [show (1 : Int32) = nI 1 from rfl, nI_add]
theorem c_joins {B : Bd} {M : Mm} {r a b : Nat} {v : Int32} (hr : M.1.1[r]? = some (.inr (.int, 157))) (ha : a < 12) (hb : b < 12) : Ct B mX6_joins 0 0 0 [.ref r, .int (nI a), .int (nI b), .int v] M (Is none (sI (sI M r (13 + 12 * a + b) v) r (13 + 12 * b + a) v)) := by
  refine Ct.of (by decide) rfl rfl (Nat.le_of_ble_eq_true rfl) ?_
  refine e_aload_n dX6_joins_0 rfl rfl ?_
  refine e_bipush (v := 13) dX6_joins_1 (by decide) ?_
  refine e_bipush (v := 12) dX6_joins_3 (by decide) ?_
  refine e_iload_n dX6_joins_5 rfl rfl ?_
  refine e_imul dX6_joins_6 ?_
  refine e_iadd dX6_joins_7 ?_
  refine e_iload_n dX6_joins_8 rfl rfl ?_
  refine e_iadd dX6_joins_9 ?_
  rw [e13]
  refine e_iload_n dX6_joins_10 rfl rfl ?_
  refine e_iastore dX6_joins_11 (by exact hr) (by first | exact vp_in_nI (show 13 + 12 * a + b < 157 by omega) (by decide) | exact vp_in_nI (show 13 + 12 * b + a < 157 by omega) (by decide)) ?_
  rw [nI_clamp (by omega)]
  refine e_aload_n dX6_joins_12 rfl rfl ?_
  refine e_bipush (v := 13) dX6_joins_13 (by decide) ?_
  refine e_bipush (v := 12) dX6_joins_15 (by decide) ?_
  refine e_iload_n dX6_joins_17 rfl rfl ?_
  refine e_imul dX6_joins_18 ?_
  refine e_iadd dX6_joins_19 ?_
  refine e_iload_n dX6_joins_20 rfl rfl ?_
  refine e_iadd dX6_joins_21 ?_
  rw [e13]
  refine e_iload_n dX6_joins_22 rfl rfl ?_
  refine e_iastore dX6_joins_23 (by exact hr) (by first | exact vp_in_nI (show 13 + 12 * a + b < 157 by omega) (by decide) | exact vp_in_nI (show 13 + 12 * b + a < 157 by omega) (by decide)) ?_
  rw [nI_clamp (by omega)]
  exact e_vret dX6_joins_24 rfl (⟨rfl, rfl⟩)
theorem NowR.join {M : Mm} {r : Nat} {g : Nw} {a b : Nat} {v : Option Nat} (h : NowR M r g) (ha : a < 12) (hb : b < 12) : NowR (sI (sI M r (13 + 12 * a + b) (wI v)) r (13 + 12 * b + a) (wI v)) r (gPut g a b v) := by
  refine ⟨?_, fun x hx => ?_, fun x y hx hy => ?_⟩
  · rw [rd_ni (by omega), rd_ni (by omega)]; exact h.1
  · rw [rd_ni (by omega), rd_ni (by omega)]; exact h.2.1 x hx
  · show _ = wI (w2 g.2.1 a b v x y)
    unfold w2
    by_cases h1 : x = b ∧ y = a
    · rw [if_pos (Or.inr h1), h1.1, h1.2, rd_self]
    · rw [rd_ni (by omega)]
      by_cases h2 : x = a ∧ y = b
      · rw [if_pos (Or.inl h2), h2.1, h2.2, rd_self]
      · rw [rd_ni (by omega), if_neg (fun q => q.elim h2 h1)]
        exact h.2.2 x y hx hy
theorem c_nodes {B : Bd} {M : Mm} {g : Nw} (ok : OkM M) (h : NowR M 63 g) : Ct B mX6_nodes 0 0 0 [.ref 60] M (Is (some (.int (nI g.1))) M) := by
  refine Ct.of (by decide) rfl rfl (Nat.le_of_ble_eq_true rfl) ?_
  refine e_aload_n dX6_nodes_0 rfl rfl ?_
  refine e_getR dX6_nodes_1 fRX6_20 (by exact ok.sh rfl) (by exact ok.rf rfl) (fun _ => rfl) ?_
  refine e_iconst (v := 0) dX6_nodes_4 (by decide) ?_
  refine e_iaload dX6_nodes_5 (by exact ok.sh rfl) (by exact vp_in_nI (n := 0) (N := 157) (by decide) (by decide)) ?_
  have e0 : M.2.1 63 (0 : Int32).toNatClampNeg = nI g.1 := h.1
  rw [e0]
  exact e_iret dX6_nodes_6 rfl rfl (⟨rfl, rfl⟩)
theorem c_mall {B : Bd} {M : Mm} {g : Nw} (ok : OkM M) (h : NowR M 63 g) (hg : g.1 ≤ 12) : Ct B mX6_all 1 0 0 [.ref 60] M (Is (some (.int (nI (al g)))) M) := by
  refine Ct.of (by decide) rfl rfl (Nat.le_of_ble_eq_true rfl) ?_
  refine e_iconst (v := 1) dX6_all_0 (by decide) ?_
  refine e_aload_n dX6_all_1 rfl rfl ?_
  refine e_callV0i [] dX6_all_2 mvmX6_nodes lkRX6_181 (by exact ok.sh rfl) ⟨by decide, rfl⟩ rfl rfl (Nat.le_of_ble_eq_true rfl) (by decide) (c_nodes ok h) ?_
  refine e_ishl dX6_all_5 ?_
  rw [shl_1 (by omega)]
  refine e_iconst (v := 1) dX6_all_6 (by decide) ?_
  refine e_isub dX6_all_7 ?_
  have : nI (2 ^ g.1) - 1 = nI (al g) := nI_m1 (Nat.two_pow_pos _)
  rw [this]
  exact e_iret dX6_all_8 rfl rfl (⟨rfl, rfl⟩)
theorem c_mate {B : Bd} {M : Mm} {g : Nw} {a : Nat} (ok : OkM M) (h : NowR M 63 g) (ha : a < 12) : Ct B mX6_mate 0 0 0 [.ref 60, .int (nI a)] M (Is (some (.int (wI (g.2.2 a)))) M) := by
  refine Ct.of (by decide) rfl rfl (Nat.le_of_ble_eq_true rfl) ?_
  refine e_aload_n dX6_mate_0 rfl rfl ?_
  refine e_getR dX6_mate_1 fRX6_20 (by exact ok.sh rfl) (by exact ok.rf rfl) (fun _ => rfl) ?_
  refine e_iconst (v := 1) dX6_mate_4 (by decide) ?_
  refine e_iload_n dX6_mate_5 rfl rfl ?_
  refine e_iadd dX6_mate_6 ?_
  rw [e1p]
  refine e_iaload dX6_mate_7 (by exact ok.sh rfl) (by exact vp_in_nI (show 1 + a < 157 by omega) (by decide)) ?_
  rw [nI_clamp (by omega), h.2.1 a ha]
  exact e_iret dX6_mate_8 rfl rfl (⟨rfl, rfl⟩)
theorem c_weight {B : Bd} {M : Mm} {g : Nw} {a b : Nat} (ok : OkM M) (h : NowR M 63 g) (ha : a < 12) (hb : b < 12) : Ct B mX6_weight 0 0 0 [.ref 60, .int (nI a), .int (nI b)] M (Is (some (.int (wI (g.2.1 a b)))) M) := by
  refine Ct.of (by decide) rfl rfl (Nat.le_of_ble_eq_true rfl) ?_
  refine e_aload_n dX6_weight_0 rfl rfl ?_
  refine e_getR dX6_weight_1 fRX6_20 (by exact ok.sh rfl) (by exact ok.rf rfl) (fun _ => rfl) ?_
  refine e_bipush (v := 13) dX6_weight_4 (by decide) ?_
  refine e_bipush (v := 12) dX6_weight_6 (by decide) ?_
  refine e_iload_n dX6_weight_8 rfl rfl ?_
  refine e_imul dX6_weight_9 ?_
  refine e_iadd dX6_weight_10 ?_
  refine e_iload_n dX6_weight_11 rfl rfl ?_
  refine e_iadd dX6_weight_12 ?_
  rw [e13]
  refine e_iaload dX6_weight_13 (by exact ok.sh rfl) (by exact vp_in_nI (show 13 + 12 * a + b < 157 by omega) (by decide)) ?_
  rw [nI_clamp (by omega), h.2.2 a b ha hb]
  exact e_iret dX6_weight_14 rfl rfl (⟨rfl, rfl⟩)
theorem c_has {B : Bd} {M : Mm} {k j : Nat} (hk : k < 2 ^ 31) (hj : j < 31) : Ct B mX6_has 0 0 0 [.int (nI k), .int (nI j)] M (Is (some (.int (if k.testBit j = true then 1 else 0))) M) := by
  refine Ct.of (by decide) rfl rfl (Nat.le_of_ble_eq_true rfl) ?_
  have hb := hb_iff hk hj
  refine e_iload_n dX6_has_0 rfl rfl ?_
  refine e_iload_n dX6_has_1 rfl rfl ?_
  refine e_ishr dX6_has_2 ?_
  refine e_iconst (v := 1) dX6_has_3 (by decide) ?_
  refine e_iand dX6_has_4 ?_
  refine e_iconst (v := 1) dX6_has_5 (by decide) ?_
  refine e_icmp_ne (tgt := 13) dX6_has_6 (by decide) (fun hq => ?_) (fun hq => ?_)
  · have h1 : ¬ k.testBit j = true := fun h => hq (hb.mpr h)
    refine e_iconst (v := 0) dX6_has_13 (by decide) ?_
    exact e_iret dX6_has_14 rfl rfl (⟨by rw [if_neg h1], rfl⟩)
  · have h1 : k.testBit j = true := hb.mp hq
    refine e_iconst (v := 1) dX6_has_9 (by decide) ?_
    refine e_goto (tgt := 14) dX6_has_10 (by decide) ?_
    exact e_iret dX6_has_14 rfl rfl (⟨by rw [if_pos h1], rfl⟩)
theorem c_changes {B : Bd} {M : Mm} (ok : OkM M) : Ct B mX6_changes 0 0 0 [.ref 60] M (Is none (sI M 60 19 0)) := by
  refine Ct.of (by decide) rfl rfl (Nat.le_of_ble_eq_true rfl) ?_
  refine e_aload_n dX6_changes_0 rfl rfl ?_
  refine e_iconst (v := 0) dX6_changes_1 (by decide) ?_
  refine e_putI dX6_changes_2 fRX6_187 (by exact ok.sh rfl) rfl rfl rfl (fun _ _ => rfl) ?_
  exact e_vret dX6_changes_5 rfl (⟨rfl, rfl⟩)
theorem c_isNode {B : Bd} {M : Mm} {g : Nw} {x : Int32} (ok : OkM M) (h : NowR M 63 g) (hg : 1 ≤ g.1 ∧ g.1 ≤ 12) : Ct B mX6_isNode 1 0 0 [.ref 60, .int x] M (Is (some (.int (if (nod g x).isSome = true then 1 else 0))) M) := by
  refine Ct.of (by decide) rfl rfl (Nat.le_of_ble_eq_true rfl) ?_
  refine e_iload_n dX6_isNode_0 rfl rfl ?_
  refine e_iconst (v := 0) dX6_isNode_1 (by decide) ?_
  refine e_aload_n dX6_isNode_2 rfl rfl ?_
  refine e_callV0i [] dX6_isNode_3 mvmX6_nodes lkRX6_181 (by exact ok.sh rfl) ⟨by decide, rfl⟩ rfl rfl (Nat.le_of_ble_eq_true rfl) (by decide) (c_nodes ok h) ?_
  refine e_iconst (v := 1) dX6_isNode_6 (by decide) ?_
  refine e_isub dX6_isNode_7 ?_
  rw [nI_m1 hg.1]
  refine e_callS0i [_, _, _] dX6_isNode_8 msmX6_in lkRX6_111 rfl rfl (Nat.le_of_ble_eq_true rfl) (by decide) (c_in (x := x) (lo := 0) (hi := nI (g.1 - 1))) ?_
  have e1 : ((0 : Int32).toInt ≤ x.toInt ∧ x.toInt ≤ (nI (g.1 - 1)).toInt) ↔ (nod g x).isSome = true := by
    rw [nI_toInt (by omega)]
    unfold nod
    show (0 ≤ x.toInt ∧ _) ↔ _
    by_cases hc : 0 ≤ x.toInt ∧ x.toInt < g.1
    · rw [if_pos hc]; simp; omega
    · rw [if_neg hc]; simp; omega
  by_cases hc : (nod g x).isSome = true
  · rw [if_pos hc, if_pos (e1.mpr hc)]
    exact e_iret dX6_isNode_11 rfl rfl ⟨rfl, rfl⟩
  · rw [if_neg hc, if_neg (fun q => hc (e1.mp q))]
    exact e_iret dX6_isNode_11 rfl rfl ⟨rfl, rfl⟩

