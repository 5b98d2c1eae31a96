theorem rd_sF (M : Mm) (a n : Nat) (v : Int32) (b j : Nat) : (sF M a n v).2.1 b j = if b = a ∧ j < n then v else M.2.1 b j := rfl
theorem rd_sA (M : Mm) (a : Nat) (f : Nat → Int32) (b j : Nat) : (sA M a f).2.1 b j = if b = a then f j else M.2.1 b j := rfl
theorem lnc_none : lnc (fun _ _ => none) = 0 := by decide
theorem nbr_none (a : Nat) : nbr (fun _ _ => none) a = 0 := by
  apply Nat.eq_of_testBit_eq
  intro j
  rw [nbr_bit]; simp
theorem c_clear {B : Bd} {M : Mm} {n c : Nat} (hN : NetAt M n) : Ct B mX1_clear 1 0 0 [.ref n, .int (nI c)] M (Rt (fun v N => v = none ∧ NetRep N n (c, fun _ _ => none, fun _ => none) ∧ Fr n (n + 3) M N)) := by
  refine Ct.of (by decide) rfl rfl (Nat.le_of_ble_eq_true rfl) ?_
  refine e_aload_n dX1_clear_0 rfl rfl ?_
  refine e_iload_n dX1_clear_1 rfl rfl ?_
  refine e_putI dX1_clear_2 fRX1_25 (by first | exact hN.1 | exact hN.2.1 | exact hN.2.2.1 | exact hN.2.2.2.1) rfl rfl rfl (fun _ _ => rfl) ?_
  refine e_aload_n dX1_clear_5 rfl rfl ?_
  refine e_iconst (v := 0) dX1_clear_6 (by decide) ?_
  refine e_putI dX1_clear_7 fRX1_29 (by first | exact hN.1 | exact hN.2.1 | exact hN.2.2.1 | exact hN.2.2.2.1) rfl rfl rfl (fun _ _ => rfl) ?_
  refine e_aload_n dX1_clear_10 rfl rfl ?_
  refine e_getR dX1_clear_11 fRX1_9 (by first | exact hN.1 | exact hN.2.1 | exact hN.2.2.1 | exact hN.2.2.2.1) (by first | exact hN.2.2.2.2.1 | exact hN.2.2.2.2.2.1 | exact hN.2.2.2.2.2.2) (fun _ => rfl) ?_
  refine e_iconst (v := (-1)) dX1_clear_14 (by decide) ?_
  refine e_callS0v [_, _] dX1_clear_15 msmJ7_fill_53178 lkRX1_32 rfl rfl (Nat.le_of_ble_eq_true rfl) (by decide) (c_fill hN.2.1 (by decide)) ?_
  refine e_aload_n dX1_clear_18 rfl rfl ?_
  refine e_getR dX1_clear_19 fRX1_15 (by first | exact hN.1 | exact hN.2.1 | exact hN.2.2.1 | exact hN.2.2.2.1) (by first | exact hN.2.2.2.2.1 | exact hN.2.2.2.2.2.1 | exact hN.2.2.2.2.2.2) (fun _ => rfl) ?_
  refine e_iconst (v := 0) dX1_clear_22 (by decide) ?_
  refine e_callS0v [_, _] dX1_clear_23 msmJ7_fill_53178 lkRX1_32 rfl rfl (Nat.le_of_ble_eq_true rfl) (by decide) (c_fill hN.2.2.1 (by decide)) ?_
  refine e_aload_n dX1_clear_26 rfl rfl ?_
  refine e_getR dX1_clear_27 fRX1_18 (by first | exact hN.1 | exact hN.2.1 | exact hN.2.2.1 | exact hN.2.2.2.1) (by first | exact hN.2.2.2.2.1 | exact hN.2.2.2.2.2.1 | exact hN.2.2.2.2.2.2) (fun _ => rfl) ?_
  refine e_iconst (v := (-1)) dX1_clear_30 (by decide) ?_
  refine e_callS0v [_, _] dX1_clear_31 msmJ7_fill_53178 lkRX1_32 rfl rfl (Nat.le_of_ble_eq_true rfl) (by decide) (c_fill hN.2.2.2.1 (by decide)) ?_
  refine e_vret dX1_clear_34 rfl ⟨none, rfl, rfl, ⟨hN, ?_, ?_, fun x y hx hy => ?_, fun x hx => ?_, fun x hx => ?_⟩, ?_⟩
  · rw [rd_sF, if_neg (by omega), rd_sF, if_neg (by omega), rd_sF, if_neg (by omega), rd_ni (by decide), rd_self]
  · rw [rd_sF, if_neg (by omega), rd_sF, if_neg (by omega), rd_sF, if_neg (by omega), rd_self]
    show (0 : Int32) = nI (lnc (fun _ _ => none))
    rw [lnc_none]; rfl
  · rw [rd_sF, if_neg (by omega), rd_sF, if_neg (by omega), rd_sF, if_pos (by omega)]; rfl
  · rw [rd_sF, if_neg (by omega), rd_sF, if_pos (by omega)]
    show (0 : Int32) = nI (nbr (fun _ _ => none) x)
    rw [nbr_none]; rfl
  · rw [rd_sF, if_pos (by omega)]; rfl
  · exact ((((Fr.rf.sI (by omega) (by omega)).sI (by omega) (by omega)).trans ((sF_Fr _ _ _ _).wide (by omega) (by omega))).trans ((sF_Fr _ _ _ _).wide (by omega) (by omega))).trans ((sF_Fr _ _ _ _).wide (by omega) (by omega))
theorem sA_Fr (M : Mm) (a : Nat) (f : Nat → Int32) : Fr a a M (sA M a f) := ⟨rfl, rfl, fun b hb => by
  funext j
  show (if b = a then f j else M.2.1 b j) = _
  rw [if_neg (by omega)]⟩
theorem c_copyFrom {B : Bd} {M : Mm} {n o : Nat} {g : Nw} (hN : NetAt M n) (h : NetRep M o g) (h0 : M.1.2 = false) (hd : n + 3 < o ∨ o + 3 < n) : Ct B mX1_copyFrom 1 0 0 [.ref n, .ref o] M (Rt (fun v N => v = none ∧ NetRep N n g ∧ Fr n (n + 3) M N)) := by
  have hO := h.1
  refine Ct.of (by decide) rfl rfl (Nat.le_of_ble_eq_true rfl) ?_
  refine e_aload_n dX1_copyFrom_0 rfl rfl ?_
  refine e_aload_n dX1_copyFrom_1 rfl rfl ?_
  refine e_getI dX1_copyFrom_2 fRX1_25 (by first | exact hN.1 | exact hN.2.1 | exact hN.2.2.1 | exact hN.2.2.2.1 | exact hO.1 | exact hO.2.1 | exact hO.2.2.1 | exact hO.2.2.2.1) (fun _ => rfl) ?_
  rw [h.2.1]
  refine e_putI dX1_copyFrom_5 fRX1_25 (by first | exact hN.1 | exact hN.2.1 | exact hN.2.2.1 | exact hN.2.2.2.1 | exact hO.1 | exact hO.2.1 | exact hO.2.2.1 | exact hO.2.2.2.1) rfl rfl rfl (fun _ _ => rfl) ?_
  refine e_aload_n dX1_copyFrom_8 rfl rfl ?_
  refine e_aload_n dX1_copyFrom_9 rfl rfl ?_
  refine e_getI dX1_copyFrom_10 fRX1_29 (by first | exact hN.1 | exact hN.2.1 | exact hN.2.2.1 | exact hN.2.2.2.1 | exact hO.1 | exact hO.2.1 | exact hO.2.2.1 | exact hO.2.2.2.1) (fun _ => rfl) ?_
  rw [rd_na (by omega), h.2.2.1]
  refine e_putI dX1_copyFrom_13 fRX1_29 (by first | exact hN.1 | exact hN.2.1 | exact hN.2.2.1 | exact hN.2.2.2.1 | exact hO.1 | exact hO.2.1 | exact hO.2.2.1 | exact hO.2.2.2.1) rfl rfl rfl (fun _ _ => rfl) ?_
  refine e_aload_n dX1_copyFrom_16 rfl rfl ?_
  refine e_getR dX1_copyFrom_17 fRX1_9 (by first | exact hN.1 | exact hN.2.1 | exact hN.2.2.1 | exact hN.2.2.2.1 | exact hO.1 | exact hO.2.1 | exact hO.2.2.1 | exact hO.2.2.2.1) (by first | exact hN.2.2.2.2.1 | exact hO.2.2.2.2.1) (fun _ => rfl) ?_
  refine e_iconst (v := 0) dX1_copyFrom_20 (by decide) ?_
  refine e_aload_n dX1_copyFrom_21 rfl rfl ?_
  refine e_getR dX1_copyFrom_22 fRX1_9 (by first | exact hN.1 | exact hN.2.1 | exact hN.2.2.1 | exact hN.2.2.2.1 | exact hO.1 | exact hO.2.1 | exact hO.2.2.1 | exact hO.2.2.2.1) (by first | exact hN.2.2.2.2.1 | exact hO.2.2.2.2.1) (fun _ => rfl) ?_
  refine e_iconst (v := 0) dX1_copyFrom_25 (by decide) ?_
  refine e_aload_n dX1_copyFrom_26 rfl rfl ?_
  refine e_getR dX1_copyFrom_27 fRX1_9 (by first | exact hN.1 | exact hN.2.1 | exact hN.2.2.1 | exact hN.2.2.2.1 | exact hO.1 | exact hO.2.1 | exact hO.2.2.1 | exact hO.2.2.2.1) (by first | exact hN.2.2.2.2.1 | exact hO.2.2.2.2.1) (fun _ => rfl) ?_
  refine e_alen (t0 := 0) dX1_copyFrom_30 (by first | exact hN.1 | exact hN.2.1 | exact hN.2.2.1 | exact hN.2.2.2.1 | exact hO.1 | exact hO.2.1 | exact hO.2.2.1 | exact hO.2.2.2.1) (fun _ => rfl) ?_
  refine e_acopy dX1_copyFrom_31 ac_lk1 ac_nat ac_st ac_ini (by exact h0) (by first | exact hN.1 | exact hN.2.1 | exact hN.2.2.1 | exact hN.2.2.2.1 | exact hO.1 | exact hO.2.1 | exact hO.2.2.1 | exact hO.2.2.2.1) (by first | exact hN.1 | exact hN.2.1 | exact hN.2.2.1 | exact hN.2.2.2.1 | exact hO.1 | exact hO.2.1 | exact hO.2.2.1 | exact hO.2.2.2.1) (by decide) (by decide) (by decide) (by decide) (by decide) (Nat.le_of_ble_eq_true rfl) (by decide) ?_
  refine e_aload_n dX1_copyFrom_34 rfl rfl ?_
  refine e_getR dX1_copyFrom_35 fRX1_15 (by first | exact hN.1 | exact hN.2.1 | exact hN.2.2.1 | exact hN.2.2.2.1 | exact hO.1 | exact hO.2.1 | exact hO.2.2.1 | exact hO.2.2.2.1) (by first | exact hN.2.2.2.2.2.1 | exact hO.2.2.2.2.2.1) (fun _ => rfl) ?_
  refine e_iconst (v := 0) dX1_copyFrom_38 (by decide) ?_
  refine e_aload_n dX1_copyFrom_39 rfl rfl ?_
  refine e_getR dX1_copyFrom_40 fRX1_15 (by first | exact hN.1 | exact hN.2.1 | exact hN.2.2.1 | exact hN.2.2.2.1 | exact hO.1 | exact hO.2.1 | exact hO.2.2.1 | exact hO.2.2.2.1) (by first | exact hN.2.2.2.2.2.1 | exact hO.2.2.2.2.2.1) (fun _ => rfl) ?_
  refine e_iconst (v := 0) dX1_copyFrom_43 (by decide) ?_
  refine e_bipush (v := 12) dX1_copyFrom_44 (by decide) ?_
  refine e_acopy dX1_copyFrom_46 ac_lk1 ac_nat ac_st ac_ini (by exact h0) (by first | exact hN.1 | exact hN.2.1 | exact hN.2.2.1 | exact hN.2.2.2.1 | exact hO.1 | exact hO.2.1 | exact hO.2.2.1 | exact hO.2.2.2.1) (by first | exact hN.1 | exact hN.2.1 | exact hN.2.2.1 | exact hN.2.2.2.1 | exact hO.1 | exact hO.2.1 | exact hO.2.2.1 | exact hO.2.2.2.1) (by decide) (by decide) (by decide) (by decide) (by decide) (Nat.le_of_ble_eq_true rfl) (by decide) ?_
  refine e_aload_n dX1_copyFrom_49 rfl rfl ?_
  refine e_getR dX1_copyFrom_50 fRX1_18 (by first | exact hN.1 | exact hN.2.1 | exact hN.2.2.1 | exact hN.2.2.2.1 | exact hO.1 | exact hO.2.1 | exact hO.2.2.1 | exact hO.2.2.2.1) (by first | exact hN.2.2.2.2.2.2 | exact hO.2.2.2.2.2.2) (fun _ => rfl) ?_
  refine e_iconst (v := 0) dX1_copyFrom_53 (by decide) ?_
  refine e_aload_n dX1_copyFrom_54 rfl rfl ?_
  refine e_getR dX1_copyFrom_55 fRX1_18 (by first | exact hN.1 | exact hN.2.1 | exact hN.2.2.1 | exact hN.2.2.2.1 | exact hO.1 | exact hO.2.1 | exact hO.2.2.1 | exact hO.2.2.2.1) (by first | exact hN.2.2.2.2.2.2 | exact hO.2.2.2.2.2.2) (fun _ => rfl) ?_
  refine e_iconst (v := 0) dX1_copyFrom_58 (by decide) ?_
  refine e_bipush (v := 12) dX1_copyFrom_59 (by decide) ?_
  refine e_acopy dX1_copyFrom_61 ac_lk1 ac_nat ac_st ac_ini (by exact h0) (by first | exact hN.1 | exact hN.2.1 | exact hN.2.2.1 | exact hN.2.2.2.1 | exact hO.1 | exact hO.2.1 | exact hO.2.2.1 | exact hO.2.2.2.1) (by first | exact hN.1 | exact hN.2.1 | exact hN.2.2.1 | exact hN.2.2.2.1 | exact hO.1 | exact hO.2.1 | exact hO.2.2.1 | exact hO.2.2.2.1) (by decide) (by decide) (by decide) (by decide) (by decide) (Nat.le_of_ble_eq_true rfl) (by decide) ?_
  have c144 : (nI 144).toNatClampNeg = 144 := by decide
  have c12 : (12 : Int32).toNatClampNeg = 12 := by decide
  have c0 : (0 : Int32).toNatClampNeg = 0 := by decide
  refine e_vret dX1_copyFrom_64 rfl ⟨none, rfl, rfl, ⟨hN, ?_, ?_, fun x y hx hy => ?_, fun x hx => ?_, fun x hx => ?_⟩, ?_⟩
  · rw [rd_sA, if_neg (by omega), rd_sA, if_neg (by omega), rd_sA, if_neg (by omega), rd_ni (by decide), rd_self]
  · rw [rd_sA, if_neg (by omega), rd_sA, if_neg (by omega), rd_sA, if_neg (by omega), rd_self]
  · rw [rd_sA, if_neg (by omega), rd_sA, if_neg (by omega), rd_sA, if_pos rfl, c144, c0, pk_cpy_in (by omega) (by omega), rd_na (by omega), rd_na (by omega), Nat.zero_add, Nat.sub_zero]
    exact h.2.2.2.1 x y hx hy
  · rw [rd_sA, if_neg (by omega), rd_sA, if_pos rfl, c12, c0, pk_cpy_in (by omega) (by omega), rd_sA, if_neg (by omega), rd_na (by omega), rd_na (by omega), Nat.zero_add, Nat.sub_zero]
    exact h.2.2.2.2.1 x hx
  · rw [rd_sA, if_pos rfl, c12, c0, pk_cpy_in (by omega) (by omega), rd_sA, if_neg (by omega), rd_sA, if_neg (by omega), rd_na (by omega), rd_na (by omega), Nat.zero_add, Nat.sub_zero]
    exact h.2.2.2.2.2 x hx
  · exact ((((Fr.rf.sI (by omega) (by omega)).sI (by omega) (by omega)).trans ((sA_Fr _ _ _).wide (by omega) (by omega))).trans ((sA_Fr _ _ _).wide (by omega) (by omega))).trans ((sA_Fr _ _ _).wide (by omega) (by omega))
/-- a net with another line, without one -/
def gPut (g : Nw) (a b : Nat) (v : Option Nat) : Nw := (g.1, w2 g.2.1 a b v, g.2.2)
theorem if01 {p : Prop} (h : p ∨ ¬ p) [Decidable p] : (if p then (1 : Int32) else 0) = 0 ↔ ¬ p := by
  by_cases hp : p
  · simp [hp]
  · simp [hp]
theorem c_putLine {B : Bd} {M : Mm} {n a b k : Nat} {g : Nw} (h : NetRep M n g) (hs : ∀ x y, g.2.1 x y = g.2.1 y x) (ha : a < 12) (hb : b < 12) (hab : a ≠ b) : Ct B mX1_putLine 2 0 0 [.ref n, .int (nI a), .int (nI b), .int (nI k)] M (Rt (fun v N => v = none ∧ NetRep N n (gPut g a b (some k)) ∧ Fr n (n + 3) M N)) := by
  have hN := h.1
  refine Ct.of (by decide) rfl rfl (Nat.le_of_ble_eq_true rfl) ?_
  have hl2 := lnc_w2 (w := g.2.1) (v := some k) hab ha hb hs
  have tail : ∀ v9 : Int32, v9 = nI (lnc (w2 g.2.1 a b (some k))) → Ev B mX1_putLine 2 0 0 (Rt (fun v N => v = none ∧ NetRep N n (gPut g a b (some k)) ∧ Fr n (n + 3) M N)) 19 [some (.ref n), some (.int (nI a)), some (.int (nI b)), some (.int (nI k))] [] (sI M n 1 v9) := by
    intro v9 hv9
    refine e_aload_n dX1_putLine_19 rfl rfl ?_
    refine e_getR dX1_putLine_20 fRX1_15 (by first | exact hN.1 | exact hN.2.1 | exact hN.2.2.1 | exact hN.2.2.2.1) (by first | exact hN.2.2.2.2.1 | exact hN.2.2.2.2.2.1 | exact hN.2.2.2.2.2.2) (fun _ => rfl) ?_
    refine e_iload_n dX1_putLine_23 rfl rfl ?_
    refine e_dup2 dX1_putLine_24 rfl rfl ?_
    refine e_iaload dX1_putLine_25 (by first | exact hN.1 | exact hN.2.1 | exact hN.2.2.1 | exact hN.2.2.2.1) (by first | exact vp_in_nI ha (by decide) | exact vp_in_nI hb (by decide)) ?_
    rw [nI_clamp (by omega), rd_na (by omega), h.2.2.2.2.1 a ha]
    refine e_iconst (v := 1) dX1_putLine_26 (by decide) ?_
    refine e_iload_n dX1_putLine_27 rfl rfl ?_
    refine e_ishl dX1_putLine_28 ?_
    rw [shl_1 (by omega)]
    refine e_ior dX1_putLine_29 ?_
    rw [fa_or]
    refine e_iastore dX1_putLine_30 (by first | exact hN.1 | exact hN.2.1 | exact hN.2.2.1 | exact hN.2.2.2.1) (by first | exact vp_in_nI ha (by decide) | exact vp_in_nI hb (by decide)) ?_
    refine e_aload_n dX1_putLine_31 rfl rfl ?_
    refine e_getR dX1_putLine_32 fRX1_15 (by first | exact hN.1 | exact hN.2.1 | exact hN.2.2.1 | exact hN.2.2.2.1) (by first | exact hN.2.2.2.2.1 | exact hN.2.2.2.2.2.1 | exact hN.2.2.2.2.2.2) (fun _ => rfl) ?_
    refine e_iload_n dX1_putLine_35 rfl rfl ?_
    refine e_dup2 dX1_putLine_36 rfl rfl ?_
    refine e_iaload dX1_putLine_37 (by first | exact hN.1 | exact hN.2.1 | exact hN.2.2.1 | exact hN.2.2.2.1) (by first | exact vp_in_nI ha (by decide) | exact vp_in_nI hb (by decide)) ?_
    rw [nI_clamp (by omega), nI_clamp (by omega), rd_ni (by omega), rd_na (by omega), h.2.2.2.2.1 b hb]
    refine e_iconst (v := 1) dX1_putLine_38 (by decide) ?_
    refine e_iload_n dX1_putLine_39 rfl rfl ?_
    refine e_ishl dX1_putLine_40 ?_
    rw [shl_1 (by omega)]
    refine e_ior dX1_putLine_41 ?_
    rw [fa_or]
    refine e_iastore dX1_putLine_42 (by first | exact hN.1 | exact hN.2.1 | exact hN.2.2.1 | exact hN.2.2.2.1) (by first | exact vp_in_nI ha (by decide) | exact vp_in_nI hb (by decide)) ?_
    refine e_aload_n dX1_putLine_43 rfl rfl ?_
    refine e_iload_n dX1_putLine_44 rfl rfl ?_
    refine e_iload_n dX1_putLine_45 rfl rfl ?_
    refine e_iload_n dX1_putLine_46 rfl rfl ?_
    rw [nI_clamp (by omega)]
    refine e_callV0v [_, _, _] dX1_putLine_47 mvmX1_setWeight lkRX1_51 (by first | exact hN.1 | exact hN.2.1 | exact hN.2.2.1 | exact hN.2.2.2.1) ⟨by decide, rfl⟩ rfl rfl (Nat.le_of_ble_eq_true rfl) (by decide) (c_setWeight hN ha hb) ?_
    refine e_vret dX1_putLine_50 rfl ⟨none, rfl, rfl, ⟨hN, ?_, ?_, fun x y hx hy => ?_, fun x hx => ?_, fun x hx => ?_⟩, ?_⟩
    · rw [rd_na (by omega), rd_na (by omega), rd_na (by omega), rd_na (by omega), rd_ni (by omega)]; exact h.2.1
    · rw [rd_na (by omega), rd_na (by omega), rd_na (by omega), rd_na (by omega), rd_self]; exact hv9
    · show _ = wI (w2 g.2.1 a b (some k) x y)
      unfold w2
      rw [rd_sI, rd_sI, rd_na (by omega), rd_na (by omega), rd_na (by omega)]
      by_cases h1 : x = b ∧ y = a
      · rw [if_pos ⟨rfl, by rw [h1.1, h1.2]⟩, if_pos (Or.inr h1)]; rfl
      · rw [if_neg (by omega)]
        by_cases h2 : x = a ∧ y = b
        · rw [if_pos ⟨rfl, by rw [h2.1, h2.2]⟩, if_pos (Or.inl h2)]; rfl
        · rw [if_neg (by omega), if_neg (by omega)]; exact h.2.2.2.1 x y hx hy
    · rw [rd_na (by omega), rd_na (by omega), rd_sI, rd_sI, rd_na (by omega)]
      show _ = nI (nbr (w2 g.2.1 a b (some k)) x)
      by_cases h1 : x = b
      · subst h1
        rw [if_pos ⟨rfl, rfl⟩, w2_comm, nbr_or (fun q => hab q.symm) ha]
      · rw [if_neg (fun q => h1 q.2)]
        by_cases h2 : x = a
        · subst h2
          rw [if_pos ⟨rfl, rfl⟩, nbr_or hab hb]
        · rw [if_neg (fun q => h2 q.2), nbr_ne h2 h1]; exact h.2.2.2.2.1 x hx
    · rw [rd_na (by omega), rd_na (by omega), rd_na (by omega), rd_na (by omega), rd_na (by omega)]; exact h.2.2.2.2.2 x hx
    · exact ((((Fr.rf.sI (by omega) (by omega)).sI (by omega) (by omega)).sI (by omega) (by omega)).sI (by omega) (by omega)).sI (by omega) (by omega)
  refine e_aload_n dX1_putLine_0 rfl rfl ?_
  refine e_iload_n dX1_putLine_1 rfl rfl ?_
  refine e_iload_n dX1_putLine_2 rfl rfl ?_
  refine e_callV0i [_, _] dX1_putLine_3 mvmX1_isLine lkRX1_48 (by first | exact hN.1 | exact hN.2.1 | exact hN.2.2.1 | exact hN.2.2.2.1) ⟨by decide, rfl⟩ rfl rfl (Nat.le_of_ble_eq_true rfl) (by decide) (c_isLine h ha hb) ?_
  by_cases hg : (g.2.1 a b).isSome = true
  · rw [if_pos hg]
    have h1 : one (g.2.1 a b) = 1 := if_pos hg
    have h2 : one (some k) = 1 := rfl
    refine e_if_ne (tgt := 19) dX1_putLine_6 (by decide) (fun hq => ?_) (fun hq => ?_)
    · have h3 := tail (M.2.1 n 1) (by rw [h.2.2.1]; congr 1; omega)
      have h4 : sI M n 1 (M.2.1 n 1) = M := by
        obtain ⟨m1, m9, m3⟩ := M
        unfold sI
        congr 2
        funext x j
        unfold u2
        by_cases q1 : x = n
        · by_cases q2 : j = 1
          · simp [q1, q2]
          · simp [q1, q2]
        · simp [q1]
      rw [h4] at h3
      exact h3
    · exact absurd hq (by decide)
  · rw [if_neg hg]
    have h1 : one (g.2.1 a b) = 0 := if_neg hg
    have h2 : one (some k) = 1 := rfl
    refine e_if_ne (tgt := 19) dX1_putLine_6 (by decide) (fun hq => ?_) (fun hq => ?_)
    · exact absurd rfl hq
    · refine e_aload_n dX1_putLine_9 rfl rfl ?_
      refine e_dup dX1_putLine_10 rfl ?_
      refine e_getI dX1_putLine_11 fRX1_29 (by first | exact hN.1 | exact hN.2.1 | exact hN.2.2.1 | exact hN.2.2.2.1) (fun _ => rfl) ?_
      refine e_iconst (v := 1) dX1_putLine_14 (by decide) ?_
      refine e_iadd dX1_putLine_15 ?_
      refine e_putI dX1_putLine_16 fRX1_29 (by first | exact hN.1 | exact hN.2.1 | exact hN.2.2.1 | exact hN.2.2.2.1) rfl rfl rfl (fun _ _ => rfl) ?_
      exact tail _ (by rw [h.2.2.1, nI_1]; congr 1; omega)
theorem c_putLineIfNone {B : Bd} {M : Mm} {n a b : Nat} {g : Nw} (h : NetRep M n g) (hs : ∀ x y, g.2.1 x y = g.2.1 y x) (ha : a < 12) (hb : b < 12) (hab : a ≠ b) : Ct B mX1_putLineIfNone 3 0 0 [.ref n, .int (nI a), .int (nI b)] M (Rt (fun v N => v = none ∧ NetRep N n (if (g.2.1 a b).isSome = true then g else gPut g a b (some 1)) ∧ Fr n (n + 3) M N)) := by
  have hN := h.1
  refine Ct.of (by decide) rfl rfl (Nat.le_of_ble_eq_true rfl) ?_
  refine e_aload_n dX1_putLineIfNone_0 rfl rfl ?_
  refine e_iload_n dX1_putLineIfNone_1 rfl rfl ?_
  refine e_iload_n dX1_putLineIfNone_2 rfl rfl ?_
  refine e_callV0i [_, _] dX1_putLineIfNone_3 mvmX1_isLine lkRX1_48 (by first | exact hN.1 | exact hN.2.1 | exact hN.2.2.1 | exact hN.2.2.2.1) ⟨by decide, rfl⟩ rfl rfl (Nat.le_of_ble_eq_true rfl) (by decide) (c_isLine h ha hb) ?_
  by_cases hg : (g.2.1 a b).isSome = true
  · refine e_if_ne (tgt := 16) dX1_putLineIfNone_6 (by decide) (fun hq => ?_) (fun hq => ?_)
    · exact e_vret dX1_putLineIfNone_16 rfl ⟨none, rfl, rfl, by rw [if_pos hg]; exact h, Fr.rf⟩
    · rw [if_pos hg] at hq; exact absurd hq (by decide)
  · refine e_if_ne (tgt := 16) dX1_putLineIfNone_6 (by decide) (fun hq => ?_) (fun hq => ?_)
    · rw [if_neg hg] at hq; exact absurd rfl hq
    · refine e_aload_n dX1_putLineIfNone_9 rfl rfl ?_
      refine e_iload_n dX1_putLineIfNone_10 rfl rfl ?_
      refine e_iload_n dX1_putLineIfNone_11 rfl rfl ?_
      refine e_iconst (v := 1) dX1_putLineIfNone_12 (by decide) ?_
      refine e_callV1 [_, _, _] dX1_putLineIfNone_13 mvmX1_putLine lkRX1_55 (by first | exact hN.1 | exact hN.2.1 | exact hN.2.2.1 | exact hN.2.2.2.1) ⟨by decide, rfl⟩ rfl rfl (Nat.le_of_ble_eq_true rfl) (by decide) (c_putLine (k := 1) h hs ha hb hab) (fun v N hn => ?_)
      obtain ⟨rfl, hn1, hn2⟩ := hn
      exact e_vret dX1_putLineIfNone_16 rfl ⟨none, rfl, rfl, by rw [if_neg hg]; exact hn1, hn2⟩

