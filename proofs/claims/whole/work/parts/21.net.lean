/-! hasBit and the rows of a net -/
theorem c_hasBit {B : Bd} {M : Mm} {k j : Nat} (hk : k < 2 ^ 31) (hj : j < 31) : Ct B mX5_hasBit 0 0 0 [.int (nI k), .int (nI j)] M (Is (some (.int (if k.testBit j = true then 1 else 0))) M) := by

  have hb := hb_iff hk hj
  refine Ct.of (by decide) rfl rfl (Nat.le_of_ble_eq_true rfl) ?_
  refine e_iload_n dX5_hasBit_0 rfl rfl ?_
  refine e_iload_n dX5_hasBit_1 rfl rfl ?_
  refine e_ishr dX5_hasBit_2 ?_
  refine e_iconst (v := 1) dX5_hasBit_3 (by decide) ?_
  refine e_iand dX5_hasBit_4 ?_
  refine e_iconst (v := 1) dX5_hasBit_5 (by decide) ?_
  refine e_icmp_ne (tgt := 13) dX5_hasBit_6 (by decide) (fun hq => ?_) (fun hq => ?_)
  · have h1 : ¬ k.testBit j = true := fun h => hq (hb.mpr h)
    refine e_iconst (v := 0) dX5_hasBit_13 (by decide) ?_
    exact e_iret dX5_hasBit_14 rfl rfl (⟨by rw [if_neg h1], rfl⟩)
  · have h1 : k.testBit j = true := hb.mp hq
    refine e_iconst (v := 1) dX5_hasBit_9 (by decide) ?_
    refine e_goto (tgt := 14) dX5_hasBit_10 (by decide) ?_
    exact e_iret dX5_hasBit_14 rfl rfl (⟨by rw [if_pos h1], rfl⟩)
theorem c_isLine {B : Bd} {M : Mm} {n a b k : Nat} (hN : NetAt M n) (ha : a < 12) (hb : b < 31) (hk : M.2.1 (n + 2) a = nI k) (hk2 : k < 2 ^ 31) : Ct B mX1_isLine 1 0 0 [.ref n, .int (nI a), .int (nI b)] M (Is (some (.int (if k.testBit b = true then 1 else 0))) M) := by

  refine Ct.of (by decide) rfl rfl (Nat.le_of_ble_eq_true rfl) ?_
  refine e_aload_n dX1_isLine_0 rfl rfl ?_
  refine e_getR dX1_isLine_1 fRX1_15 (by first | exact hN.1 | exact hN.2.1 | exact hN.2.2.1 | exact hN.2.2.2.1) (by first | exact hN.2.2.2.2.1 | exact hN.2.2.2.2.2.1 | exact hN.2.2.2.2.2.2) (fun _ => rfl) ?_
  refine e_iload_n dX1_isLine_4 rfl rfl ?_
  refine e_iaload dX1_isLine_5 (by first | exact hN.1 | exact hN.2.1 | exact hN.2.2.1 | exact hN.2.2.2.1) (by exact vp_in_nI ha (by decide)) ?_
  refine e_iload_n dX1_isLine_6 rfl rfl ?_
  rw [nI_clamp (by omega : a < 2 ^ 31), hk]
  refine e_callN0i [_, _] dX1_isLine_7 msmX5_hasBit nest_1 rfl rfl (Nat.le_of_ble_eq_true rfl) (by decide) (c_hasBit hk2 hb) ?_
  split <;> exact e_iret dX1_isLine_10 rfl rfl ⟨rfl, rfl⟩

