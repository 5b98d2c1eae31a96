/-! the Model: the rest of the questions, better, finish -/
theorem fso_some {α : Type} {F : Nat → Option α} {x : α} : ∀ k lo, fso F k lo = some x → ∃ i, F i = some x := by
  intro k
  induction k with
  | zero => intro lo h; cases h
  | succ k ih =>
    intro lo h
    cases hf : F lo with
    | none => rw [fso_f hf] at h; exact ih _ h
    | some y => rw [fso_t hf] at h; exact ⟨lo, by rw [hf]; exact h⟩
theorem pth_len {g : Nw} (gd : Gd g) {a : Nat} (ha : a < g.1) {l : List Nat} (h : pth g a = some l) : 1 ≤ l.length ∧ l.length ≤ 12 := by
  have h1 := pth_ok gd ha h
  have h12 := gd.1.1.2
  rw [pth_fso gd.1 ha h1.2.2.2.2.2.2] at h
  cases hq : fso (fun K => fcx g (Zp g a) K [a]) 6 0 with
  | none => rw [hq] at h; cases h
  | some l' =>
    rw [hq] at h
    have e : l'.reverse = l := Option.some.inj h
    obtain ⟨K, hK⟩ := fso_some 6 0 hq
    have := Zp_len hK
    rw [← e, List.length_reverse, this]
    have := fcx_p gd.1 ha hK
    omega
theorem flw_len {g : Nw} (gd : Gd g) {a : Nat} (ha : a < g.1) {l : List Nat} (h : flw g a = some l) : 1 ≤ l.length ∧ l.length ≤ 12 := by
  have h12 := gd.1.1.2
  rw [flw_fso gd.1 ha] at h
  cases hq : fso (fun K => fcx g (Zr g a) K [a]) 6 0 with
  | none => rw [hq] at h; cases h
  | some l' =>
    rw [hq] at h
    have e : l'.reverse = l := Option.some.inj h
    obtain ⟨K, hK⟩ := fso_some 6 0 hq
    have := Zr_len hK
    rw [← e, List.length_reverse, this]
    have := fcx_r gd.1 ha hK
    omega
theorem MPo.pre {M N : Mm} {r : Rs} (hf : FM M N) : ∀ o K, MPo N r o K → MPo M r o K := fun o K h => by
  obtain ⟨v, e, h1, h2, h3, h4⟩ := h
  exact ⟨v, e, h1, h2, h3, hf.trans h4⟩
theorem c_rowAt {B : Bd} {N : Mm} {s : Sx} {o : Option (List Nat)} {less : Nat} {x many : Int32} (h : MI N s) (z : N.2.1 60 0 = 0) (hr : ∀ l, o = some l → RowP N l ∧ (1 ≤ l.length ∧ l.length ≤ 12) ∧ many = nI (l.length - less)) : Ct B mX6_rowAt 1 0 0 [.ref 60, .int (if o.isSome = true then 1 else 0), .int x, .int many] N (MPo N (sRow s o less x)) := by
  refine Ct.of (by decide) rfl rfl (Nat.le_of_ble_eq_true rfl) ?_
  refine e_iload_n dX6_rowAt_0 rfl rfl ?_
  cases o with
  | none =>
    refine e_if_ne (tgt := 6) dX6_rowAt_1 (by decide) (fun hz => absurd rfl hz) (fun _ => ?_)
    refine e_iconst (v := (-1)) dX6_rowAt_4 (by decide) ?_
    exact e_iret dX6_rowAt_5 rfl rfl (mpo_ok h z FM.rf)
  | some l =>
    obtain ⟨⟨r1, r2⟩, r3, r4⟩ := hr l rfl
    have e9 : sRow s (some l) less x = if x = -1 then okR (nI (l.length - less)) s else if 0 ≤ x.toInt ∧ x.toInt < l.length then okR (nI (l.getD x.toInt.toNat 0)) s else rej 1 0 s := rfl
    rw [e9]
    refine e_if_ne (tgt := 6) dX6_rowAt_1 (by decide) (fun _ => ?_) (fun hz => absurd hz (by show ¬ (1 : Int32) = 0; decide))
    refine e_iload_n dX6_rowAt_6 rfl rfl ?_
    refine e_iconst (v := (-1)) dX6_rowAt_7 (by decide) ?_
    refine e_icmp_ne (tgt := 13) dX6_rowAt_8 (by decide) (fun hx => ?_) (fun hx => ?_)
    · rw [if_neg hx]
      refine e_aload_n dX6_rowAt_13 rfl rfl ?_
      refine e_iload_n dX6_rowAt_14 rfl rfl ?_
      refine e_iconst (v := 0) dX6_rowAt_15 (by decide) ?_
      refine e_aload_n dX6_rowAt_16 rfl rfl ?_
      refine e_getI dX6_rowAt_17 fRX6_236 (by exact h.1.sh rfl) (fun _ => rfl) ?_
      rw [r1]
      refine e_iconst (v := 1) dX6_rowAt_20 (by decide) ?_
      refine e_isub dX6_rowAt_21 ?_
      rw [nI_m1 r3.1]
      refine e_callS0i [_, _, _] dX6_rowAt_22 msmX6_in lkRX6_111 rfl rfl (Nat.le_of_ble_eq_true rfl) (by decide) (c_in (x := x) (lo := 0) (hi := nI (l.length - 1))) ?_
      have e5 : (0 : Int32).toInt = 0 := rfl
      rw [e5, nI_toInt (by omega)]
      by_cases hin : 0 ≤ x.toInt ∧ x.toInt < l.length
      · rw [if_pos hin, if_pos (show 0 ≤ x.toInt ∧ x.toInt ≤ ((l.length - 1 : Nat) : Int) by omega)]
        have ex : x = nI x.toInt.toNat := by rw [fa_eq, nI_toInt (by omega)]; omega
        have hn : x.toInt.toNat < l.length := by omega
        generalize x.toInt.toNat = n at ex hn
        subst ex
        refine e_if_ne (tgt := 32) dX6_rowAt_25 (by decide) (fun _ => ?_) (fun hz => absurd hz (by decide))
        refine e_iconst (v := 0) dX6_rowAt_32 (by decide) ?_
        refine e_iconst (v := 1) dX6_rowAt_33 (by decide) ?_
        refine e_iconst (v := 0) dX6_rowAt_34 (by decide) ?_
        refine e_callV0i [_, _, _] dX6_rowAt_35 mvmX6_bad lkRX6_159 (by exact h.1.sh rfl) ⟨by decide, rfl⟩ rfl rfl (Nat.le_of_ble_eq_true rfl) (by decide) (c_bad0 h.1 z) ?_
        refine e_if_eq (tgt := 45) dX6_rowAt_38 (by decide) (fun _ => ?_) (fun hz => absurd rfl hz)
        refine e_aload_n dX6_rowAt_45 rfl rfl ?_
        refine e_getR dX6_rowAt_46 fRX6_55 (by exact h.1.sh rfl) (by exact h.1.rf rfl) (fun _ => rfl) ?_
        refine e_iload_n dX6_rowAt_49 rfl rfl ?_
        refine e_iaload dX6_rowAt_50 (by exact h.1.sh rfl) (by exact vp_in_nI (show n < 13 by omega) (by decide)) ?_
        have eg : l[n]? = some (l.getD n 0) := by rw [List.getD_eq_getElem?_getD, List.getElem?_eq_getElem hn]; rfl
        rw [nI_clamp (by omega), r2 n _ eg]
        exact e_iret dX6_rowAt_51 rfl rfl (mpo_ok h z FM.rf)
      · rw [if_neg hin, if_neg (show ¬ (0 ≤ x.toInt ∧ x.toInt ≤ ((l.length - 1 : Nat) : Int)) by omega)]
        refine e_if_ne (tgt := 32) dX6_rowAt_25 (by decide) (fun hz => absurd rfl hz) (fun _ => ?_)
        refine e_iconst (v := 1) dX6_rowAt_28 (by decide) ?_
        refine e_goto (tgt := 33) dX6_rowAt_29 (by decide) ?_
        refine e_iconst (v := 1) dX6_rowAt_33 (by decide) ?_
        refine e_iconst (v := 0) dX6_rowAt_34 (by decide) ?_
        refine e_callV0i [_, _, _] dX6_rowAt_35 mvmX6_bad lkRX6_159 (by exact h.1.sh rfl) ⟨by decide, rfl⟩ rfl rfl (Nat.le_of_ble_eq_true rfl) (by decide) (c_bad1 (c := 0) (k := 0) h.1 z (by decide) (by decide)) ?_
        refine e_if_eq (tgt := 45) dX6_rowAt_38 (by decide) (fun hz => absurd hz (by decide)) (fun _ => ?_)
        refine e_iconst (v := 0) dX6_rowAt_41 (by decide) ?_
        refine e_goto (tgt := 51) dX6_rowAt_42 (by decide) ?_
        exact e_iret dX6_rowAt_51 rfl rfl (mpo_rej h (by decide) FM.rf)
    · rw [if_pos hx, ← r4]
      refine e_iload_n dX6_rowAt_11 rfl rfl ?_
      exact e_iret dX6_rowAt_12 rfl rfl (mpo_ok h z FM.rf)
theorem c_mpath {B : Bd} {M : Mm} {s : Sx} {x i : Int32} (h : MI M s) : Ct B mX6_path 21 0 0 [.ref 60, .int x, .int i] M (MPo M (sPath s x i)) := by
  refine Ct.of (by decide) rfl rfl (Nat.le_of_ble_eq_true rfl) ?_
  refine e_aload_n dX6_path_0 rfl rfl ?_
  refine e_iconst (v := 0) dX6_path_1 (by decide) ?_
  refine e_putI dX6_path_2 fRX6_72 (by exact h.1.sh rfl) rfl rfl rfl (fun _ _ => rfl) ?_
  generalize hM1 : sI M 60 0 0 = M1
  have h1 : MI M1 s := by rw [← hM1]; exact h.t
  have z1 : M1.2.1 60 0 = 0 := by rw [← hM1, rd_self]
  have f1 : FM M M1 := by rw [← hM1]; exact FM.rf.sI (by decide)
  have hg12 := h1.g12
  have wf := h1.wf
  refine e_aload_n dX6_path_5 rfl rfl ?_
  refine e_aload_n dX6_path_6 rfl rfl ?_
  refine e_iload_n dX6_path_7 rfl rfl ?_
  refine e_callV0i [_] dX6_path_8 mvmX6_isNode lkRX6_245 (by exact h1.1.sh rfl) ⟨by decide, rfl⟩ rfl rfl (Nat.le_of_ble_eq_true rfl) (by decide) (c_isNode h1.1 h1.now hg12) ?_
  cases hx : nod (sgg s) x with
  | none =>
    rw [if_neg (by simp)]
    refine e_if_ne (tgt := 18) dX6_path_11 (by decide) (fun hz => absurd rfl hz) (fun _ => ?_)
    refine e_iconst (v := 1) dX6_path_14 (by decide) ?_
    refine e_goto (tgt := 19) dX6_path_15 (by decide) ?_
    refine e_iconst (v := 1) dX6_path_19 (by decide) ?_
    refine e_iconst (v := 0) dX6_path_20 (by decide) ?_
    refine e_callV0i [_, _, _] dX6_path_21 mvmX6_bad lkRX6_159 (by exact h1.1.sh rfl) ⟨by decide, rfl⟩ rfl rfl (Nat.le_of_ble_eq_true rfl) (by decide) (c_bad1 (c := 0) (k := 0) h1.1 z1 (by decide) (by decide)) ?_
    refine e_if_eq (tgt := 29) dX6_path_24 (by decide) (fun hz => absurd hz (by decide)) (fun _ => ?_)
    refine e_iconst (v := 0) dX6_path_27 (by decide) ?_
    refine e_iret dX6_path_28 rfl rfl ?_
    show MPo M (sPath s x i) _ _
    unfold sPath
    rw [hx]
    exact mpo_rej h1 (by decide) f1
  | some a =>
    obtain ⟨ha, hxa⟩ := (nod_some hg12.2).mp hx
    subst hxa
    rw [if_pos (by rfl)]
    refine e_if_ne (tgt := 18) dX6_path_11 (by decide) (fun _ => ?_) (fun hz => absurd hz (by decide))
    refine e_iconst (v := 0) dX6_path_18 (by decide) ?_
    refine e_iconst (v := 1) dX6_path_19 (by decide) ?_
    refine e_iconst (v := 0) dX6_path_20 (by decide) ?_
    refine e_callV0i [_, _, _] dX6_path_21 mvmX6_bad lkRX6_159 (by exact h1.1.sh rfl) ⟨by decide, rfl⟩ rfl rfl (Nat.le_of_ble_eq_true rfl) (by decide) (c_bad0 h1.1 z1) ?_
    refine e_if_eq (tgt := 29) dX6_path_24 (by decide) (fun _ => ?_) (fun hz => absurd rfl hz)
    have gd := h1.2.2.2.1.2
    have e9 : sPath s (nI a) i = sRow s (pth (sgg s) a) 1 i := by unfold sPath; rw [hx]
    rw [e9]
    refine e_aload_n dX6_path_29 rfl rfl ?_
    refine e_iload_n dX6_path_30 rfl rfl ?_
    refine e_callV1 [_] dX6_path_31 mvmX6_findsPath lkRX6_257 (by exact h1.1.sh rfl) ⟨by decide, rfl⟩ rfl rfl (Nat.le_of_ble_eq_true rfl) (by decide) (c_findsPath h1.1 h1.now gd ha) (fun u N2 h2 => ?_)
    obtain ⟨hu, zz, hr⟩ := h2
    subst hu
    have i2 := h1.z zz
    have z2 : N2.2.1 60 0 = 0 := by rw [zz.2.2.1 0 (by decide)]; exact z1
    have F2 := f1.trans zz.FM
    show Ev _ _ _ _ _ _ 34 _ [.int (if (pth (sgg s) a).isSome = true then 1 else 0)] _
    refine e_istore_n dX6_path_34 rfl (by decide) rfl rfl ?_
    refine e_aload_n dX6_path_35 rfl rfl ?_
    refine e_iload_n dX6_path_36 rfl rfl ?_
    refine e_iload_n dX6_path_37 rfl rfl ?_
    refine e_aload_n dX6_path_38 rfl rfl ?_
    refine e_getI dX6_path_39 fRX6_236 (by exact i2.1.sh rfl) (fun _ => rfl) ?_
    refine e_iconst (v := 1) dX6_path_42 (by decide) ?_
    refine e_isub dX6_path_43 ?_
    have hrr : ∀ l, pth (sgg s) a = some l → RowP N2 l ∧ (1 ≤ l.length ∧ l.length ≤ 12) ∧ N2.2.1 60 25 - 1 = nI (l.length - 1) := fun l hl => ⟨hr l hl, pth_len gd ha hl, by rw [(hr l hl).1]; exact nI_m1 (pth_len gd ha hl).1⟩
    refine e_callV1 [_, _, _] dX6_path_44 mvmX6_rowAt lkRX6_278 (by exact i2.1.sh rfl) ⟨by decide, rfl⟩ rfl rfl (Nat.le_of_ble_eq_true rfl) (by decide) (c_rowAt (less := 1) i2 z2 hrr) (fun u N3 h3 => ?_)
    obtain ⟨⟨v, hv, h31⟩, h32⟩ := h3
    subst hv
    exact e_iret dX6_path_47 rfl rfl (MPo.pre F2 _ _ ⟨_, rfl, ⟨v, rfl, h31⟩, h32⟩)
theorem c_mflower {B : Bd} {M : Mm} {s : Sx} {x i : Int32} (h : MI M s) : Ct B mX6_flower 21 0 0 [.ref 60, .int x, .int i] M (MPo M (sFlower s x i)) := by
  refine Ct.of (by decide) rfl rfl (Nat.le_of_ble_eq_true rfl) ?_
  refine e_aload_n dX6_flower_0 rfl rfl ?_
  refine e_iconst (v := 0) dX6_flower_1 (by decide) ?_
  refine e_putI dX6_flower_2 fRX6_72 (by exact h.1.sh rfl) rfl rfl rfl (fun _ _ => rfl) ?_
  generalize hM1 : sI M 60 0 0 = M1
  have h1 : MI M1 s := by rw [← hM1]; exact h.t
  have z1 : M1.2.1 60 0 = 0 := by rw [← hM1, rd_self]
  have f1 : FM M M1 := by rw [← hM1]; exact FM.rf.sI (by decide)
  have hg12 := h1.g12
  have wf := h1.wf
  refine e_aload_n dX6_flower_5 rfl rfl ?_
  refine e_aload_n dX6_flower_6 rfl rfl ?_
  refine e_iload_n dX6_flower_7 rfl rfl ?_
  refine e_callV0i [_] dX6_flower_8 mvmX6_isNode lkRX6_245 (by exact h1.1.sh rfl) ⟨by decide, rfl⟩ rfl rfl (Nat.le_of_ble_eq_true rfl) (by decide) (c_isNode h1.1 h1.now hg12) ?_
  cases hx : nod (sgg s) x with
  | none =>
    rw [if_neg (by simp)]
    refine e_if_ne (tgt := 18) dX6_flower_11 (by decide) (fun hz => absurd rfl hz) (fun _ => ?_)
    refine e_iconst (v := 1) dX6_flower_14 (by decide) ?_
    refine e_goto (tgt := 19) dX6_flower_15 (by decide) ?_
    refine e_iconst (v := 1) dX6_flower_19 (by decide) ?_
    refine e_iconst (v := 0) dX6_flower_20 (by decide) ?_
    refine e_callV0i [_, _, _] dX6_flower_21 mvmX6_bad lkRX6_159 (by exact h1.1.sh rfl) ⟨by decide, rfl⟩ rfl rfl (Nat.le_of_ble_eq_true rfl) (by decide) (c_bad1 (c := 0) (k := 0) h1.1 z1 (by decide) (by decide)) ?_
    refine e_if_eq (tgt := 29) dX6_flower_24 (by decide) (fun hz => absurd hz (by decide)) (fun _ => ?_)
    refine e_iconst (v := 0) dX6_flower_27 (by decide) ?_
    refine e_iret dX6_flower_28 rfl rfl ?_
    show MPo M (sFlower s x i) _ _
    unfold sFlower
    rw [hx]
    exact mpo_rej h1 (by decide) f1
  | some a =>
    obtain ⟨ha, hxa⟩ := (nod_some hg12.2).mp hx
    subst hxa
    rw [if_pos (by rfl)]
    refine e_if_ne (tgt := 18) dX6_flower_11 (by decide) (fun _ => ?_) (fun hz => absurd hz (by decide))
    refine e_iconst (v := 0) dX6_flower_18 (by decide) ?_
    refine e_iconst (v := 1) dX6_flower_19 (by decide) ?_
    refine e_iconst (v := 0) dX6_flower_20 (by decide) ?_
    refine e_callV0i [_, _, _] dX6_flower_21 mvmX6_bad lkRX6_159 (by exact h1.1.sh rfl) ⟨by decide, rfl⟩ rfl rfl (Nat.le_of_ble_eq_true rfl) (by decide) (c_bad0 h1.1 z1) ?_
    refine e_if_eq (tgt := 29) dX6_flower_24 (by decide) (fun _ => ?_) (fun hz => absurd rfl hz)
    have gd := h1.2.2.2.1.2
    have e9 : sFlower s (nI a) i = sRow s (flw (sgg s) a) 0 i := by unfold sFlower; rw [hx]
    rw [e9]
    refine e_aload_n dX6_flower_29 rfl rfl ?_
    refine e_iload_n dX6_flower_30 rfl rfl ?_
    refine e_callV1 [_] dX6_flower_31 mvmX6_findsFlower lkRX6_263 (by exact h1.1.sh rfl) ⟨by decide, rfl⟩ rfl rfl (Nat.le_of_ble_eq_true rfl) (by decide) (c_findsFlower h1.1 h1.now gd ha) (fun u N2 h2 => ?_)
    obtain ⟨hu, zz, hr⟩ := h2
    subst hu
    have i2 := h1.z zz
    have z2 : N2.2.1 60 0 = 0 := by rw [zz.2.2.1 0 (by decide)]; exact z1
    have F2 := f1.trans zz.FM
    show Ev _ _ _ _ _ _ 34 _ [.int (if (flw (sgg s) a).isSome = true then 1 else 0)] _
    refine e_istore_n dX6_flower_34 rfl (by decide) rfl rfl ?_
    refine e_aload_n dX6_flower_35 rfl rfl ?_
    refine e_iload_n dX6_flower_36 rfl rfl ?_
    refine e_iload_n dX6_flower_37 rfl rfl ?_
    refine e_aload_n dX6_flower_38 rfl rfl ?_
    refine e_getI dX6_flower_39 fRX6_236 (by exact i2.1.sh rfl) (fun _ => rfl) ?_
    have hrr : ∀ l, flw (sgg s) a = some l → RowP N2 l ∧ (1 ≤ l.length ∧ l.length ≤ 12) ∧ N2.2.1 60 25 = nI (l.length - 0) := fun l hl => ⟨hr l hl, flw_len gd ha hl, by rw [(hr l hl).1]; exact rfl⟩
    refine e_callV1 [_, _, _] dX6_flower_42 mvmX6_rowAt lkRX6_278 (by exact i2.1.sh rfl) ⟨by decide, rfl⟩ rfl rfl (Nat.le_of_ble_eq_true rfl) (by decide) (c_rowAt (less := 0) i2 z2 hrr) (fun u N3 h3 => ?_)
    obtain ⟨⟨v, hv, h31⟩, h32⟩ := h3
    subst hv
    exact e_iret dX6_flower_45 rfl rfl (MPo.pre F2 _ _ ⟨_, rfl, ⟨v, rfl, h31⟩, h32⟩)
theorem c_mbetter {B : Bd} {M : Mm} {s : Sx} {x : Int32} (h : MI M s) : Ct B mX6_better 21 0 0 [.ref 60, .int x] M (MPo M (sBetter s x)) := by
  refine Ct.of (by decide) rfl rfl (Nat.le_of_ble_eq_true rfl) ?_
  refine e_aload_n dX6_better_0 rfl rfl ?_
  refine e_iconst (v := 0) dX6_better_1 (by decide) ?_
  refine e_putI dX6_better_2 fRX6_72 (by exact h.1.sh rfl) rfl rfl rfl (fun _ _ => rfl) ?_
  generalize hM1 : sI M 60 0 0 = M1
  have h1 : MI M1 s := by rw [← hM1]; exact h.t
  have z1 : M1.2.1 60 0 = 0 := by rw [← hM1, rd_self]
  have f1 : FM M M1 := by rw [← hM1]; exact FM.rf.sI (by decide)
  have hg12 := h1.g12
  have wf := h1.wf
  refine e_aload_n dX6_better_5 rfl rfl ?_
  refine e_aload_n dX6_better_6 rfl rfl ?_
  refine e_iload_n dX6_better_7 rfl rfl ?_
  refine e_callV0i [_] dX6_better_8 mvmX6_isNode lkRX6_245 (by exact h1.1.sh rfl) ⟨by decide, rfl⟩ rfl rfl (Nat.le_of_ble_eq_true rfl) (by decide) (c_isNode h1.1 h1.now hg12) ?_
  cases hx : nod (sgg s) x with
  | none =>
    rw [if_neg (by simp)]
    refine e_if_ne (tgt := 18) dX6_better_11 (by decide) (fun hz => absurd rfl hz) (fun _ => ?_)
    refine e_iconst (v := 1) dX6_better_14 (by decide) ?_
    refine e_goto (tgt := 19) dX6_better_15 (by decide) ?_
    refine e_iconst (v := 1) dX6_better_19 (by decide) ?_
    refine e_iconst (v := 0) dX6_better_20 (by decide) ?_
    refine e_callV0i [_, _, _] dX6_better_21 mvmX6_bad lkRX6_159 (by exact h1.1.sh rfl) ⟨by decide, rfl⟩ rfl rfl (Nat.le_of_ble_eq_true rfl) (by decide) (c_bad1 (c := 0) (k := 0) h1.1 z1 (by decide) (by decide)) ?_
    refine e_if_ne (tgt := 49) dX6_better_24 (by decide) (fun _ => ?_) (fun hz => absurd hz (by decide))
    refine e_iconst (v := 0) dX6_better_49 (by decide) ?_
    refine e_iret dX6_better_50 rfl rfl ?_
    show MPo M (sBetter s x) _ _
    unfold sBetter
    rw [hx]
    exact mpo_rej h1 (by decide) f1
  | some a =>
    obtain ⟨ha, hxa⟩ := (nod_some hg12.2).mp hx
    subst hxa
    rw [if_pos (by rfl)]
    refine e_if_ne (tgt := 18) dX6_better_11 (by decide) (fun _ => ?_) (fun hz => absurd hz (by decide))
    refine e_iconst (v := 0) dX6_better_18 (by decide) ?_
    refine e_iconst (v := 1) dX6_better_19 (by decide) ?_
    refine e_iconst (v := 0) dX6_better_20 (by decide) ?_
    refine e_callV0i [_, _, _] dX6_better_21 mvmX6_bad lkRX6_159 (by exact h1.1.sh rfl) ⟨by decide, rfl⟩ rfl rfl (Nat.le_of_ble_eq_true rfl) (by decide) (c_bad0 h1.1 z1) ?_
    refine e_if_ne (tgt := 49) dX6_better_24 (by decide) (fun hz => absurd rfl hz) (fun _ => ?_)
    have gd := h1.2.2.2.1.2
    refine e_aload_n dX6_better_27 rfl rfl ?_
    refine e_aload_n dX6_better_28 rfl rfl ?_
    refine e_iload_n dX6_better_29 rfl rfl ?_
    refine e_callV1 [_] dX6_better_30 mvmX6_findsPath lkRX6_257 (by exact h1.1.sh rfl) ⟨by decide, rfl⟩ rfl rfl (Nat.le_of_ble_eq_true rfl) (by decide) (c_findsPath h1.1 h1.now gd ha) (fun u N2 h2 => ?_)
    obtain ⟨hu, zz, hr⟩ := h2
    subst hu
    have i2 := h1.z zz
    have z2 : N2.2.1 60 0 = 0 := by rw [zz.2.2.1 0 (by decide)]; exact z1
    have F2 := f1.trans zz.FM
    cases hp : pth (sgg s) a with
    | none =>
      have e9 : sBetter s (nI a) = rej 2 2 s := by unfold sBetter; rw [hx]; dsimp only; rw [hp]
      rw [e9]
      refine e_if_ne (tgt := 40) dX6_better_33 (by decide) (fun hz => absurd rfl hz) (fun _ => ?_)
      refine e_iconst (v := 1) dX6_better_36 (by decide) ?_
      refine e_goto (tgt := 41) dX6_better_37 (by decide) ?_
      refine e_iconst (v := 2) dX6_better_41 (by decide) ?_
      refine e_iconst (v := 2) dX6_better_42 (by decide) ?_
      refine e_callV0i [_, _, _] dX6_better_43 mvmX6_bad lkRX6_159 (by exact i2.1.sh rfl) ⟨by decide, rfl⟩ rfl rfl (Nat.le_of_ble_eq_true rfl) (by decide) (c_bad1 (c := 1) (k := 2) i2.1 z2 (by decide) (by decide)) ?_
      refine e_if_eq (tgt := 51) dX6_better_46 (by decide) (fun hz => absurd hz (by decide)) (fun _ => ?_)
      refine e_iconst (v := 0) dX6_better_49 (by decide) ?_
      exact e_iret dX6_better_50 rfl rfl (mpo_rej i2 (by decide) F2)
    | some l =>
      have e9 : sBetter s (nI a) = act s (nI (cpr ((sgg s).1, (sgg s).2.1, bpr (sgg s).2.2 l))) ((sgg s).1, (sgg s).2.1, bpr (sgg s).2.2 l) := by unfold sBetter; rw [hx]; dsimp only; rw [hp]
      rw [e9]
      have po := pth_ok gd ha hp
      have hlen := pth_len gd ha hp
      refine e_if_ne (tgt := 40) dX6_better_33 (by decide) (fun _ => ?_) (fun hz => absurd hz (by show ¬ (1 : Int32) = 0; decide))
      refine e_iconst (v := 0) dX6_better_40 (by decide) ?_
      refine e_iconst (v := 2) dX6_better_41 (by decide) ?_
      refine e_iconst (v := 2) dX6_better_42 (by decide) ?_
      refine e_callV0i [_, _, _] dX6_better_43 mvmX6_bad lkRX6_159 (by exact i2.1.sh rfl) ⟨by decide, rfl⟩ rfl rfl (Nat.le_of_ble_eq_true rfl) (by decide) (c_bad0 i2.1 z2) ?_
      refine e_if_eq (tgt := 51) dX6_better_46 (by decide) (fun _ => ?_) (fun hz => absurd rfl hz)
      refine e_aload_n dX6_better_51 rfl rfl ?_
      refine e_callV1 [] dX6_better_52 mvmX6_remembers lkRX6_171 (by exact i2.1.sh rfl) ⟨by decide, rfl⟩ rfl rfl (Nat.le_of_ble_eq_true rfl) (by decide) (c_remembers i2) (fun u N3 h3 => ?_)
      obtain ⟨hu, i3, r3⟩ := h3
      subst hu
      obtain ⟨p1, p2⟩ := hr l hp
      have q1 : N3.2.1 60 25 = nI l.length := by rw [r3.2.2.1 25 (by decide)]; exact p1
      have q2 : ∀ i y, l[i]? = some y → N3.2.1 81 i = nI y := fun i y hi => by rw [r3.2.2.2 81 (by decide) (by decide)]; exact p2 i y hi
      have hnow3 : NowR N3 63 (sgg s) := i3.now
      generalize hΦ : MPo M (act s (nI (cpr ((sgg s).1, (sgg s).2.1, bpr (sgg s).2.2 l))) ((sgg s).1, (sgg s).2.1, bpr (sgg s).2.2 l)) = Φ
      have loop : ∀ j (pre rest : List Nat) m K, rest.length = 2 * j → pre ++ rest = l → Fr 63 63 N3 K → NowR K 63 ((sgg s).1, (sgg s).2.1, m) → bpr m rest = bpr (sgg s).2.2 l → Ev B mX6_better 21 0 0 Φ 57 [some (.ref 60), some (.int (nI a)), some (.int (nI pre.length))] [] K := by
        intro j
        induction j with
        | zero =>
          intro pre rest m K hj hap fK hK hb
          have hnil : rest = [] := List.length_eq_zero_iff.mp hj
          subst hnil
          rw [List.append_nil] at hap
          subst hap
          have okK : OkM K := i3.1.fr fK
          have hb' : m = bpr (sgg s).2.2 pre := hb
          rw [hb'] at hK
          have iK : MI K (setG (setH s (psh (shh s) (sgg s))) ((sgg s).1, (sgg s).2.1, bpr (sgg s).2.2 pre)) := i3.matesOf fK hK (Gd_better gd ha hp)
          refine e_iload_n dX6_better_57 rfl rfl ?_
          refine e_aload_n dX6_better_58 rfl rfl ?_
          refine e_getI dX6_better_59 fRX6_236 (by exact okK.sh rfl) (fun _ => rfl) ?_
          rw [fK.2.2 60 (by omega), q1]
          refine e_icmp_ge (tgt := 89) dX6_better_62 (by decide) (fun _ => ?_) (fun hz => absurd (nI_le (by omega) (by omega)) hz)
          refine e_aload_n dX6_better_89 rfl rfl ?_
          refine e_callV0i [] dX6_better_90 mvmX6_pairsNow lkRX6_254 (by exact okK.sh rfl) ⟨by decide, rfl⟩ rfl rfl (Nat.le_of_ble_eq_true rfl) (by decide) (c_pairsNow iK.1 iK.now iK.wf) ?_
          refine e_iret dX6_better_93 rfl rfl ?_
          rw [← hΦ]
          refine mpo_ok iK ?_ ((F2.trans r3.FM).trans (fK.FM (by decide)))
          rw [fK.2.2 60 (by omega), r3.2.2.1 0 (by decide)]; exact z2
        | succ j ih =>
          intro pre rest m K hj hap fK hK hb
          match rest, hj with
          | x :: y :: rest', hj =>
            have okK : OkM K := i3.1.fr fK
            have hl2 : pre.length + (rest'.length + 2) = l.length := by rw [← hap, List.length_append]; rfl
            have g1 : l[pre.length]? = some x := by rw [← hap, List.getElem?_append_right (Nat.le_refl _), Nat.sub_self]; rfl
            have g2 : l[pre.length + 1]? = some y := by rw [← hap, List.getElem?_append_right (by omega), show pre.length + 1 - pre.length = 1 by omega]; rfl
            have hx12 := po.2.2.2.1 x (List.mem_of_getElem? g1)
            have hy12 := po.2.2.2.1 y (List.mem_of_getElem? g2)
            have e83 := fK.2.2 81 (by omega)
            refine e_iload_n dX6_better_57 rfl rfl ?_
            refine e_aload_n dX6_better_58 rfl rfl ?_
            refine e_getI dX6_better_59 fRX6_236 (by exact okK.sh rfl) (fun _ => rfl) ?_
            rw [fK.2.2 60 (by omega), q1]
            refine e_icmp_ge (tgt := 89) dX6_better_62 (by decide) (fun hz => absurd hz (nI_ge (by omega) (by omega))) (fun _ => ?_)
            refine e_aload_n dX6_better_65 rfl rfl ?_
            refine e_aload_n dX6_better_66 rfl rfl ?_
            refine e_getR dX6_better_67 fRX6_55 (by exact okK.sh rfl) (by exact okK.rf rfl) (fun _ => rfl) ?_
            refine e_iload_n dX6_better_70 rfl rfl ?_
            refine e_iaload dX6_better_71 (by exact okK.sh rfl) (by exact vp_in_nI (show pre.length < 13 by omega) (by decide)) ?_
            rw [nI_clamp (by omega), e83, q2 _ _ g1]
            refine e_aload_n dX6_better_72 rfl rfl ?_
            refine e_getR dX6_better_73 fRX6_55 (by exact okK.sh rfl) (by exact okK.rf rfl) (fun _ => rfl) ?_
            refine e_iload_n dX6_better_76 rfl rfl ?_
            refine e_iconst (v := 1) dX6_better_77 (by decide) ?_
            refine e_iadd dX6_better_78 ?_
            rw [nI_1]
            refine e_iaload dX6_better_79 (by exact okK.sh rfl) (by exact vp_in_nI (show pre.length + 1 < 13 by omega) (by decide)) ?_
            rw [nI_clamp (by omega), e83, q2 _ _ g2]
            refine e_callV1 [_, _] dX6_better_80 mvmX6_mates lkRX6_251 (by exact okK.sh rfl) ⟨by decide, rfl⟩ rfl rfl (Nat.le_of_ble_eq_true rfl) (by decide) (c_mates okK hK (by omega : x < 12) (by omega : y < 12)) (fun u K2 hq => ?_)
            obtain ⟨hu, k1, k2⟩ := hq
            subst hu
            refine e_iinc (v := nI (pre ++ [x, y]).length) dX6_better_83 rfl ?_ (by decide) rfl rfl ?_
            · rw [List.length_append]
              show nI pre.length + 2 = nI (pre.length + 2)
              rw [show (2 : Int32) = nI 2 from rfl, nI_add]
            refine e_goto (tgt := 57) dX6_better_86 (by decide) ?_
            exact ih (pre ++ [x, y]) rest' _ K2 (by simp only [List.length_cons] at hj; omega) (by rw [List.append_assoc]; exact hap) (fK.trans k2) k1 hb
      refine e_iconst (v := 0) dX6_better_55 (by decide) ?_
      refine e_istore_n dX6_better_56 rfl (by decide) rfl rfl ?_
      have h2 : l.length = 2 * (l.length / 2) := by have := po.1; omega
      exact loop (l.length / 2) [] l (sgg s).2.2 N3 h2 rfl Fr.rf hnow3 rfl
theorem c_mfinish {B : Bd} {M : Mm} {s : Sx} (h : MI M s) : Ct B mX6_finish 4 0 0 [.ref 60] M (MPo M (sFinish s)) := by
  refine Ct.of (by decide) rfl rfl (Nat.le_of_ble_eq_true rfl) ?_
  refine e_aload_n dX6_finish_0 rfl rfl ?_
  refine e_iconst (v := 0) dX6_finish_1 (by decide) ?_
  refine e_putI dX6_finish_2 fRX6_72 (by exact h.1.sh rfl) rfl rfl rfl (fun _ _ => rfl) ?_
  generalize hM1 : sI M 60 0 0 = M1
  have h1 : MI M1 s := by rw [← hM1]; exact h.t
  have z1 : M1.2.1 60 0 = 0 := by rw [← hM1, rd_self]
  have f1 : FM M M1 := by rw [← hM1]; exact FM.rf.sI (by decide)
  have hg12 := h1.g12
  have wf := h1.wf
  have gd := h1.2.2.2.1.2
  refine e_aload_n dX6_finish_5 rfl rfl ?_
  refine e_callV1 [] dX6_finish_6 mvmX6_remembers lkRX6_171 (by exact h1.1.sh rfl) ⟨by decide, rfl⟩ rfl rfl (Nat.le_of_ble_eq_true rfl) (by decide) (c_remembers h1) (fun u N2 h2 => ?_)
  obtain ⟨hu, i2, r2⟩ := h2
  subst hu
  refine e_aload_n dX6_finish_9 rfl rfl ?_
  refine e_callV1 [] dX6_finish_10 mvmX6_laysFirst lkRX6_260 (by exact i2.1.sh rfl) ⟨by decide, rfl⟩ rfl rfl (Nat.le_of_ble_eq_true rfl) (by decide) (c_laysFirst i2) (fun u N3 h3 => ?_)
  obtain ⟨hu, i3, y3, F3, fr3⟩ := h3
  subst hu
  have z3 : N3.2.1 60 0 = 0 := by rw [y3, r2.2.2.1 0 (by decide)]; exact z1
  have F3' := (f1.trans r2.FM).trans F3
  refine e_aload_n dX6_finish_13 rfl rfl ?_
  refine e_callV0i [] dX6_finish_14 mvmX6_pairsNow lkRX6_254 (by exact i3.1.sh rfl) ⟨by decide, rfl⟩ rfl rfl (Nat.le_of_ble_eq_true rfl) (by decide) (c_pairsNow i3.1 i3.now i3.wf) ?_
  have hfs : ∀ x, (sgg s).1 ≤ x → fstm (sgg s) x = none := fun x hx => by
    cases hq : fstm (sgg s) x with
    | none => rfl
    | some y => have := ((frs_ok wf (sgg s).1).1 x y hq).2.1; omega
  have hms : ∀ x, (sgg s).1 ≤ x → (sgg s).2.2 x = none := fun x hx => by
    cases hq : (sgg s).2.2 x with
    | none => rfl
    | some y => have := (wf.2.2.2.2 x y hq).2.1; omega
  have loop : ∀ j a K, a + j = (sgg s).1 → Fr 63 63 N3 K → NowR K 63 ((sgg s).1, (sgg s).2.1, fun x => if x < a then fstm (sgg s) x else (sgg s).2.2 x) → Ev B mX6_finish 4 0 0 (MPo M (sFinish s)) 20 [some (.ref 60), some (.int (nI (cpr (sgg s)))), some (.int (nI a))] [] K := by
    intro j
    induction j with
    | zero =>
      intro a K ha fK hK
      have hag : a = (sgg s).1 := by omega
      have hfe : (fun x => if x < a then fstm (sgg s) x else (sgg s).2.2 x) = fstm (sgg s) := by
        funext x
        by_cases hx : x < a
        · rw [if_pos hx]
        · rw [if_neg hx, hms x (by omega), hfs x (by omega)]
      rw [hfe] at hK
      have iK : MI K (setG (setH s (psh (shh s) (sgg s))) ((sgg s).1, (sgg s).2.1, fstm (sgg s))) := i3.matesOf fK hK (Gd_first gd)
      refine e_iload_n dX6_finish_20 rfl rfl ?_
      refine e_aload_n dX6_finish_21 rfl rfl ?_
      refine e_callV0i [] dX6_finish_22 mvmX6_nodes lkRX6_181 (by exact iK.1.sh rfl) ⟨by decide, rfl⟩ rfl rfl (Nat.le_of_ble_eq_true rfl) (by decide) (c_nodes iK.1 iK.now) ?_
      refine e_icmp_ge (tgt := 48) dX6_finish_25 (by decide) (fun _ => ?_) (fun hz => absurd (nI_le (by show (sgg s).1 ≤ a; omega) (by omega)) hz)
      refine e_aload_n dX6_finish_48 rfl rfl ?_
      refine e_callV0i [] dX6_finish_49 mvmX6_pairsNow lkRX6_254 (by exact iK.1.sh rfl) ⟨by decide, rfl⟩ rfl rfl (Nat.le_of_ble_eq_true rfl) (by decide) (c_pairsNow iK.1 iK.now iK.wf) ?_
      refine e_iload_n dX6_finish_52 rfl rfl ?_
      refine e_isub dX6_finish_53 ?_
      refine e_iret dX6_finish_54 rfl rfl (mpo_ok iK ?_ (F3'.trans (fK.FM (by decide))))
      rw [fK.2.2 60 (by omega)]; exact z3
    | succ j ih =>
      intro a K ha fK hK
      have okK : OkM K := i3.1.fr fK
      refine e_iload_n dX6_finish_20 rfl rfl ?_
      refine e_aload_n dX6_finish_21 rfl rfl ?_
      refine e_callV0i [] dX6_finish_22 mvmX6_nodes lkRX6_181 (by exact okK.sh rfl) ⟨by decide, rfl⟩ rfl rfl (Nat.le_of_ble_eq_true rfl) (by decide) (c_nodes okK hK) ?_
      refine e_icmp_ge (tgt := 48) dX6_finish_25 (by decide) (fun hz => absurd hz (nI_ge (by show a < (sgg s).1; omega) (by show (sgg s).1 < _; omega))) (fun _ => ?_)
      refine e_aload_n dX6_finish_28 rfl rfl ?_
      refine e_getR dX6_finish_29 fRX6_20 (by exact okK.sh rfl) (by exact okK.rf rfl) (fun _ => rfl) ?_
      refine e_iconst (v := 1) dX6_finish_32 (by decide) ?_
      refine e_iload_n dX6_finish_33 rfl rfl ?_
      refine e_iadd dX6_finish_34 ?_
      rw [e1p]
      refine e_aload_n dX6_finish_35 rfl rfl ?_
      refine e_getR dX6_finish_36 fRX6_47 (by exact okK.sh rfl) (by exact okK.rf rfl) (fun _ => rfl) ?_
      refine e_iload_n dX6_finish_39 rfl rfl ?_
      refine e_iaload dX6_finish_40 (by exact okK.sh rfl) (by first | exact vp_in_nI (show a < 12 by omega) (by decide) | exact vp_in_nI (show 1 + a < 157 by omega) (by decide)) ?_
      rw [nI_clamp (by omega), fK.2.2 79 (by omega), fr3 a (by show a < (sgg s).1; omega)]
      refine e_iastore dX6_finish_41 (by exact okK.sh rfl) (by first | exact vp_in_nI (show a < 12 by omega) (by decide) | exact vp_in_nI (show 1 + a < 157 by omega) (by decide)) ?_
      rw [nI_clamp (by omega)]
      refine e_iinc (v := nI (a + 1)) dX6_finish_42 rfl (nI_1 a) (by decide) rfl rfl ?_
      refine e_goto (tgt := 20) dX6_finish_45 (by decide) ?_
      refine ih (a + 1) _ (by omega) (fK.sI (by decide) (by decide)) ?_
      have hm := hK.m1 (a := a) (v := fstm (sgg s) a) (by omega)
      have hfe : m2 (fun x => if x < a then fstm (sgg s) x else (sgg s).2.2 x) a (fstm (sgg s) a) = (fun x => if x < a + 1 then fstm (sgg s) x else (sgg s).2.2 x) := by
        funext x
        unfold m2
        by_cases hxa : x = a
        · rw [if_pos hxa, if_pos (by omega), hxa]
        · rw [if_neg hxa]
          show (if x < a then fstm (sgg s) x else (sgg s).2.2 x) = _
          by_cases hx : x < a
          · rw [if_pos hx, if_pos (by omega)]
          · rw [if_neg hx, if_neg (by omega)]
      have hm' : NowR (sI K 63 (1 + a) (wI (fstm (sgg s) a))) 63 ((sgg s).1, (sgg s).2.1, m2 (fun x => if x < a then fstm (sgg s) x else (sgg s).2.2 x) a (fstm (sgg s) a)) := hm
      rw [hfe] at hm'
      exact hm'
  show Ev _ _ _ _ _ _ 17 _ [.int (nI (cpr (sgg s)))] _
  refine e_istore_n dX6_finish_17 rfl (by decide) rfl rfl ?_
  refine e_iconst (v := 0) dX6_finish_18 (by decide) ?_
  refine e_istore_n dX6_finish_19 rfl (by decide) rfl rfl ?_
  refine loop (sgg s).1 0 N3 (by omega) Fr.rf ?_
  have hfe : (fun x => if x < 0 then fstm (sgg s) x else (sgg s).2.2 x) = (sgg s).2.2 := by
    funext x
    rw [if_neg (by omega)]
  rw [hfe]
  exact i3.now
theorem lbE_lt {g : Nw} (wf : Wfn g) : lbE g g.1 < 4096 := lt_of_bits (n := 12) (fun i hi => by
  cases hq : (lbE g g.1).testBit i with
  | false => rfl
  | true =>
    obtain ⟨a, h1, h2, r, h3, h4⟩ := (lbE_bit g i g.1).mp hq
    obtain ⟨k, hv⟩ := wlk_v wf h1 h3
    have := Vr_in wf h1 hv _ (Vr_hd hv)
    have := wf.1.2
    omega)
theorem lbL_lt (g : Nw) : lbL g g.1 < 4096 := lt_of_bits (n := 12) (fun i hi => by
  cases hq : (lbL g g.1).testBit i with
  | false => rfl
  | true =>
    obtain ⟨a, h1, h2, r, h3, h4, h5⟩ := (lbL_bit g i g.1).mp hq
    omega)
theorem lab2 (g : Nw) : dif (dif (al g) (lbE g g.1)) (dif (lbL g g.1) (lbE g g.1)) = lab g 2 := by
  have e : lab g 2 = dif (dif (al g) (lbL g g.1)) (lbE g g.1) := by unfold lab; rw [if_neg (by decide), if_neg (by decide)]
  rw [e]
  apply Nat.eq_of_testBit_eq
  intro i
  rw [dif_bit, dif_bit, dif_bit, dif_bit, dif_bit]
  cases (al g).testBit i <;> cases (lbE g g.1).testBit i <;> cases (lbL g g.1).testBit i <;> rfl
noncomputable def ansN (s : Sx) (a n : Nat) : Int32 := match n with
  | 0 => nI (pop (nbr (sgg s).2.1 a))
  | 1 => wI ((sgg s).2.2 a)
  | 2 => if (lab (sgg s) 0).testBit a = true then 0 else if (lab (sgg s) 1).testBit a = true then 1 else 2
  | 3 => if (setz (sgg s) 0).testBit a = true then 0 else if (setz (sgg s) 1).testBit a = true then 1 else 2
  | _ => wI (fstm (sgg s) a)
theorem sNode_in {s : Sx} {x z : Int32} {a : Nat} (hx : nod (sgg s) x = some a) : sNode s x z = if 0 ≤ z.toInt ∧ z.toInt ≤ 4 then okR (ansN s a z.toInt.toNat) s else rej 2 1 s := by
  unfold sNode
  rw [hx]
  rfl
theorem c_mnode {B : Bd} {M : Mm} {s : Sx} {x z : Int32} (h : MI M s) : Ct B mX6_node 16 0 0 [.ref 60, .int x, .int z] M (MPo M (sNode s x z)) := by
  refine Ct.of (by decide) rfl rfl (Nat.le_of_ble_eq_true rfl) ?_
  refine e_aload_n dX6_node_0 rfl rfl ?_
  refine e_iconst (v := 0) dX6_node_1 (by decide) ?_
  refine e_putI dX6_node_2 fRX6_72 (by exact h.1.sh rfl) rfl rfl rfl (fun _ _ => rfl) ?_
  generalize hM1 : sI M 60 0 0 = M1
  have h1 : MI M1 s := by rw [← hM1]; exact h.t
  have z1 : M1.2.1 60 0 = 0 := by rw [← hM1, rd_self]
  have f1 : FM M M1 := by rw [← hM1]; exact FM.rf.sI (by decide)
  have hg12 := h1.g12
  have wf := h1.wf
  refine e_aload_n dX6_node_5 rfl rfl ?_
  refine e_aload_n dX6_node_6 rfl rfl ?_
  refine e_iload_n dX6_node_7 rfl rfl ?_
  refine e_callV0i [_] dX6_node_8 mvmX6_isNode lkRX6_245 (by exact h1.1.sh rfl) ⟨by decide, rfl⟩ rfl rfl (Nat.le_of_ble_eq_true rfl) (by decide) (c_isNode h1.1 h1.now hg12) ?_
  cases hx : nod (sgg s) x with
  | none =>
    rw [if_neg (by simp)]
    refine e_if_ne (tgt := 18) dX6_node_11 (by decide) (fun hz => absurd rfl hz) (fun _ => ?_)
    refine e_iconst (v := 1) dX6_node_14 (by decide) ?_
    refine e_goto (tgt := 19) dX6_node_15 (by decide) ?_
    refine e_iconst (v := 1) dX6_node_19 (by decide) ?_
    refine e_iconst (v := 0) dX6_node_20 (by decide) ?_
    refine e_callV0i [_, _, _] dX6_node_21 mvmX6_bad lkRX6_159 (by exact h1.1.sh rfl) ⟨by decide, rfl⟩ rfl rfl (Nat.le_of_ble_eq_true rfl) (by decide) (c_bad1 (c := 0) (k := 0) h1.1 z1 (by decide) (by decide)) ?_
    refine e_if_ne (tgt := 50) dX6_node_24 (by decide) (fun _ => ?_) (fun hz => absurd hz (by decide))
    refine e_iconst (v := 0) dX6_node_50 (by decide) ?_
    refine e_iret dX6_node_51 rfl rfl ?_
    show MPo M (sNode s x z) _ _
    unfold sNode
    rw [hx]
    exact mpo_rej h1 (by decide) f1
  | some a =>
    obtain ⟨ha, hxa⟩ := (nod_some hg12.2).mp hx
    subst hxa
    rw [if_pos (by rfl)]
    refine e_if_ne (tgt := 18) dX6_node_11 (by decide) (fun _ => ?_) (fun hz => absurd hz (by decide))
    refine e_iconst (v := 0) dX6_node_18 (by decide) ?_
    refine e_iconst (v := 1) dX6_node_19 (by decide) ?_
    refine e_iconst (v := 0) dX6_node_20 (by decide) ?_
    refine e_callV0i [_, _, _] dX6_node_21 mvmX6_bad lkRX6_159 (by exact h1.1.sh rfl) ⟨by decide, rfl⟩ rfl rfl (Nat.le_of_ble_eq_true rfl) (by decide) (c_bad0 h1.1 z1) ?_
    refine e_if_ne (tgt := 50) dX6_node_24 (by decide) (fun hz => absurd rfl hz) (fun _ => ?_)
    have gd := h1.2.2.2.1.2
    have e9 := sNode_in (z := z) hx
    rw [e9]
    refine e_aload_n dX6_node_27 rfl rfl ?_
    refine e_iload_n dX6_node_28 rfl rfl ?_
    refine e_iconst (v := 0) dX6_node_29 (by decide) ?_
    refine e_iconst (v := 4) dX6_node_30 (by decide) ?_
    refine e_callS0i [_, _, _] dX6_node_31 msmX6_in lkRX6_111 rfl rfl (Nat.le_of_ble_eq_true rfl) (by decide) (c_in (x := z) (lo := 0) (hi := 4)) ?_
    have e5 : (0 : Int32).toInt = 0 := rfl
    have e6 : (4 : Int32).toInt = 4 := rfl
    rw [e5, e6]
    by_cases hw : 0 ≤ z.toInt ∧ z.toInt ≤ 4
    · rw [if_pos hw, if_pos hw]
      refine e_if_ne (tgt := 41) dX6_node_34 (by decide) (fun _ => ?_) (fun hz => absurd hz (by decide))
      refine e_iconst (v := 0) dX6_node_41 (by decide) ?_
      refine e_iconst (v := 2) dX6_node_42 (by decide) ?_
      refine e_iconst (v := 1) dX6_node_43 (by decide) ?_
      refine e_callV0i [_, _, _] dX6_node_44 mvmX6_bad lkRX6_159 (by exact h1.1.sh rfl) ⟨by decide, rfl⟩ rfl rfl (Nat.le_of_ble_eq_true rfl) (by decide) (c_bad0 h1.1 z1) ?_
      refine e_if_eq (tgt := 52) dX6_node_47 (by decide) (fun _ => ?_) (fun hz => absurd rfl hz)
      obtain ⟨x1, x2⟩ := toN hw.1 (k := 4) hw.2 (by decide)
      generalize z.toInt.toNat = n at x1 x2
      subst x1
      have hpn : pop (nbr (sgg s).2.1 a) = sm (fun b => one ((sgg s).2.1 a b)) (sgg s).1 := by
        have e1 : pop (nbr (sgg s).2.1 a) = sm (fun b => one ((sgg s).2.1 a b)) 12 := sm_cong (fun i hi => by
          show (if (nbr (sgg s).2.1 a).testBit i = true then 1 else 0) = one ((sgg s).2.1 a i)
          rw [nbr_bit, decide_eq_true hi]
          rfl)
        rw [e1]
        exact sm_up (fun i hi => by show one ((sgg s).2.1 a i) = 0; rw [wf.wo (Or.inr hi)]; rfl) hg12.2
      have fin : Ev B mX6_node 16 0 0 (MPo M (okR (ansN s a n) s)) 97 [some (.ref 60), some (.int (nI a)), some (.int (nI n)), some (.int (nI (pop (nbr (sgg s).2.1 a)))), some (.int (nI (sgg s).1))] [] M1 := by
        refine e_iload_n dX6_node_97 rfl rfl ?_
        match n, x2 with
        | 0, _ =>
          refine e_swIn (tgt := 128) dX6_node_98 (by decide) (by decide) rfl (by decide) ?_
          refine e_iload_n dX6_node_128 rfl rfl ?_
          exact e_iret dX6_node_129 rfl rfl (mpo_ok h1 z1 f1)
        | 1, _ =>
          refine e_swIn (tgt := 130) dX6_node_98 (by decide) (by decide) rfl (by decide) ?_
          refine e_aload_n dX6_node_130 rfl rfl ?_
          refine e_iload_n dX6_node_131 rfl rfl ?_
          refine e_callV0i [_] dX6_node_132 mvmX6_mate lkRX6_206 (by exact h1.1.sh rfl) ⟨by decide, rfl⟩ rfl rfl (Nat.le_of_ble_eq_true rfl) (by decide) (c_mate h1.1 h1.now (by omega)) ?_
          exact e_iret dX6_node_135 rfl rfl (mpo_ok h1 z1 f1)
        | 2, _ =>
          refine e_swIn (tgt := 136) dX6_node_98 (by decide) (by decide) rfl (by decide) ?_
          refine e_aload_n dX6_node_136 rfl rfl ?_
          refine e_callV1 [] dX6_node_137 mvmX6_labels lkRX6_269 (by exact h1.1.sh rfl) ⟨by decide, rfl⟩ rfl rfl (Nat.le_of_ble_eq_true rfl) (by decide) (c_labels h1.1 h1.now gd) (fun u N2 h2 => ?_)
          obtain ⟨hu, zz, v1, v2⟩ := h2
          subst hu
          have i2 := h1.z zz
          have z2 : N2.2.1 60 0 = 0 := by rw [zz.2.2.1 0 (by decide)]; exact z1
          have F2 := f1.trans zz.FM
          have l1 := lbE_lt wf
          have l2 : dif (lbL (sgg s) (sgg s).1) (lbE (sgg s) (sgg s).1) < 4096 := Nat.lt_of_le_of_lt (dif_le _ _) (lbL_lt _)
          have a0 : lab (sgg s) 0 = lbE (sgg s) (sgg s).1 := rfl
          have a1 : lab (sgg s) 1 = dif (lbL (sgg s) (sgg s).1) (lbE (sgg s) (sgg s).1) := rfl
          have ea : ansN s a 2 = if (lab (sgg s) 0).testBit a = true then 0 else if (lab (sgg s) 1).testBit a = true then 1 else 2 := rfl
          rw [ea, a0, a1]
          refine e_aload_n dX6_node_140 rfl rfl ?_
          refine e_getI dX6_node_141 fRX6_224 (by exact i2.1.sh rfl) (fun _ => rfl) ?_
          rw [v1]
          refine e_iload_n dX6_node_144 rfl rfl ?_
          refine e_callS0i [_, _] dX6_node_145 msmX6_has lkRX6_183 rfl rfl (Nat.le_of_ble_eq_true rfl) (by decide) (c_has (by omega) (by omega)) ?_
          by_cases hb : (lbE (sgg s) (sgg s).1).testBit a = true
          · rw [if_pos hb, if_pos hb]
            refine e_if_eq (tgt := 155) dX6_node_148 (by decide) (fun hz => absurd hz (by decide)) (fun _ => ?_)
            refine e_iconst (v := 0) dX6_node_151 (by decide) ?_
            refine e_goto (tgt := 171) dX6_node_152 (by decide) ?_
            exact e_iret dX6_node_171 rfl rfl (mpo_ok i2 z2 F2)
          · rw [if_neg hb, if_neg hb]
            refine e_if_eq (tgt := 155) dX6_node_148 (by decide) (fun _ => ?_) (fun hz => absurd rfl hz)
            refine e_aload_n dX6_node_155 rfl rfl ?_
            refine e_getI dX6_node_156 fRX6_227 (by exact i2.1.sh rfl) (fun _ => rfl) ?_
            rw [v2]
            refine e_iload_n dX6_node_159 rfl rfl ?_
            refine e_callS0i [_, _] dX6_node_160 msmX6_has lkRX6_183 rfl rfl (Nat.le_of_ble_eq_true rfl) (by decide) (c_has (by omega) (by omega)) ?_
            by_cases hb2 : (dif (lbL (sgg s) (sgg s).1) (lbE (sgg s) (sgg s).1)).testBit a = true
            · rw [if_pos hb2, if_pos hb2]
              refine e_if_eq (tgt := 170) dX6_node_163 (by decide) (fun hz => absurd hz (by decide)) (fun _ => ?_)
              refine e_iconst (v := 1) dX6_node_166 (by decide) ?_
              refine e_goto (tgt := 171) dX6_node_167 (by decide) ?_
              exact e_iret dX6_node_171 rfl rfl (mpo_ok i2 z2 F2)
            · rw [if_neg hb2, if_neg hb2]
              refine e_if_eq (tgt := 170) dX6_node_163 (by decide) (fun _ => ?_) (fun hz => absurd rfl hz)
              refine e_iconst (v := 2) dX6_node_170 (by decide) ?_
              exact e_iret dX6_node_171 rfl rfl (mpo_ok i2 z2 F2)
        | 3, _ =>
          refine e_swIn (tgt := 172) dX6_node_98 (by decide) (by decide) rfl (by decide) ?_
          have ea : ansN s a 3 = if (setz (sgg s) 0).testBit a = true then 0 else if (setz (sgg s) 1).testBit a = true then 1 else 2 := rfl
          rw [ea]
          have l0 := setz_lt wf 0
          have l1 := setz_lt wf 1
          refine e_aload_n dX6_node_172 rfl rfl ?_
          refine e_iconst (v := 0) dX6_node_173 (by decide) ?_
          refine e_callV1 [_] dX6_node_174 mvmX6_setOf lkRX6_272 (by exact h1.1.sh rfl) ⟨by decide, rfl⟩ rfl rfl (Nat.le_of_ble_eq_true rfl) (by decide) (c_msetOf (k := 0) h1 (by decide)) (fun u N2 h2 => ?_)
          obtain ⟨hu, i2, fl2⟩ := h2
          subst hu
          have z2 : N2.2.1 60 0 = 0 := by rw [fl2.2.2.2.1 0 (by decide)]; exact z1
          have F2 := f1.trans fl2.FM
          show Ev _ _ _ _ _ _ 177 _ [.int (nI (setz (sgg s) 0))] _
          refine e_iload_n dX6_node_177 rfl rfl ?_
          refine e_callS0i [_, _] dX6_node_178 msmX6_has lkRX6_183 rfl rfl (Nat.le_of_ble_eq_true rfl) (by decide) (c_has (by omega) (by omega)) ?_
          by_cases hb : (setz (sgg s) 0).testBit a = true
          · rw [if_pos hb, if_pos hb]
            refine e_if_eq (tgt := 188) dX6_node_181 (by decide) (fun hz => absurd hz (by decide)) (fun _ => ?_)
            refine e_iconst (v := 0) dX6_node_184 (by decide) ?_
            refine e_goto (tgt := 205) dX6_node_185 (by decide) ?_
            exact e_iret dX6_node_205 rfl rfl (mpo_ok i2 z2 F2)
          · rw [if_neg hb, if_neg hb]
            refine e_if_eq (tgt := 188) dX6_node_181 (by decide) (fun _ => ?_) (fun hz => absurd rfl hz)
            refine e_aload_n dX6_node_188 rfl rfl ?_
            refine e_iconst (v := 1) dX6_node_189 (by decide) ?_
            refine e_callV1 [_] dX6_node_190 mvmX6_setOf lkRX6_272 (by exact i2.1.sh rfl) ⟨by decide, rfl⟩ rfl rfl (Nat.le_of_ble_eq_true rfl) (by decide) (c_msetOf (k := 1) i2 (by decide)) (fun u N3 h3 => ?_)
            obtain ⟨hu, i3, fl3⟩ := h3
            subst hu
            have z3 : N3.2.1 60 0 = 0 := by rw [fl3.2.2.2.1 0 (by decide)]; exact z2
            have F3 := F2.trans fl3.FM
            show Ev _ _ _ _ _ _ 193 _ [.int (nI (setz (sgg s) 1))] _
            refine e_iload_n dX6_node_193 rfl rfl ?_
            refine e_callS0i [_, _] dX6_node_194 msmX6_has lkRX6_183 rfl rfl (Nat.le_of_ble_eq_true rfl) (by decide) (c_has (by omega) (by omega)) ?_
            by_cases hb2 : (setz (sgg s) 1).testBit a = true
            · rw [if_pos hb2, if_pos hb2]
              refine e_if_eq (tgt := 204) dX6_node_197 (by decide) (fun hz => absurd hz (by decide)) (fun _ => ?_)
              refine e_iconst (v := 1) dX6_node_200 (by decide) ?_
              refine e_goto (tgt := 205) dX6_node_201 (by decide) ?_
              exact e_iret dX6_node_205 rfl rfl (mpo_ok i3 z3 F3)
            · rw [if_neg hb2, if_neg hb2]
              refine e_if_eq (tgt := 204) dX6_node_197 (by decide) (fun _ => ?_) (fun hz => absurd rfl hz)
              refine e_iconst (v := 2) dX6_node_204 (by decide) ?_
              exact e_iret dX6_node_205 rfl rfl (mpo_ok i3 z3 F3)
        | 4, _ =>
          refine e_swOut (tgt := 206) dX6_node_98 (Or.inr (by decide)) (by decide) ?_
          refine e_aload_n dX6_node_206 rfl rfl ?_
          refine e_callV1 [] dX6_node_207 mvmX6_laysFirst lkRX6_260 (by exact h1.1.sh rfl) ⟨by decide, rfl⟩ rfl rfl (Nat.le_of_ble_eq_true rfl) (by decide) (c_laysFirst h1) (fun u N2 h2 => ?_)
          obtain ⟨hu, i2, y2, F2, fr2⟩ := h2
          subst hu
          refine e_aload_n dX6_node_210 rfl rfl ?_
          refine e_getR dX6_node_211 fRX6_47 (by exact i2.1.sh rfl) (by exact i2.1.rf rfl) (fun _ => rfl) ?_
          refine e_iload_n dX6_node_214 rfl rfl ?_
          refine e_iaload dX6_node_215 (by exact i2.1.sh rfl) (by exact vp_in_nI (show a < 12 by omega) (by decide)) ?_
          rw [nI_clamp (by omega), fr2 a ha]
          exact e_iret dX6_node_216 rfl rfl (mpo_ok i2 (by rw [y2]; exact z1) (f1.trans F2))
      have loop : ∀ j b, b + j = (sgg s).1 → Ev B mX6_node 16 0 0 (MPo M (okR (ansN s a n) s)) 57 [some (.ref 60), some (.int (nI a)), some (.int (nI n)), some (.int (nI (sm (fun b => one ((sgg s).2.1 a b)) b))), some (.int (nI b))] [] M1 := by
        intro j
        induction j with
        | zero =>
          intro b hb
          have hbg : b = (sgg s).1 := by omega
          subst hbg
          rw [← hpn]
          refine e_iload dX6_node_57 rfl ?_
          refine e_aload_n dX6_node_59 rfl rfl ?_
          refine e_callV0i [] dX6_node_60 mvmX6_nodes lkRX6_181 (by exact h1.1.sh rfl) ⟨by decide, rfl⟩ rfl rfl (Nat.le_of_ble_eq_true rfl) (by decide) (c_nodes h1.1 h1.now) ?_
          refine e_icmp_ge (tgt := 97) dX6_node_63 (by decide) (fun _ => ?_) (fun hz => absurd (nI_le (by omega) (by omega)) hz)
          exact fin
        | succ j ih =>
          intro b hb
          have go := ih (b + 1) (by omega)
          rw [sm_s] at go
          -- nothing more
          have no : one ((sgg s).2.1 a b) = 0 → Ev B mX6_node 16 0 0 (MPo M (okR (ansN s a n) s)) 88 [some (.ref 60), some (.int (nI a)), some (.int (nI n)), some (.int (nI (sm (fun b => one ((sgg s).2.1 a b)) b))), some (.int (nI b))] [.int (nI (sm (fun b => one ((sgg s).2.1 a b)) b))] M1 := by
            intro h0
            rw [h0] at go
            refine e_iconst (v := 0) dX6_node_88 (by decide) ?_
            refine e_iadd dX6_node_89 ?_
            rw [show ∀ k, nI k + 0 = nI (k + 0) from fun k => nI_add k 0]
            refine e_istore_n dX6_node_90 rfl (by decide) rfl rfl ?_
            refine e_iinc (v := nI (b + 1)) dX6_node_91 rfl (nI_1 b) (by decide) rfl rfl ?_
            refine e_goto (tgt := 57) dX6_node_94 (by decide) ?_
            exact go
          refine e_iload dX6_node_57 rfl ?_
          refine e_aload_n dX6_node_59 rfl rfl ?_
          refine e_callV0i [] dX6_node_60 mvmX6_nodes lkRX6_181 (by exact h1.1.sh rfl) ⟨by decide, rfl⟩ rfl rfl (Nat.le_of_ble_eq_true rfl) (by decide) (c_nodes h1.1 h1.now) ?_
          refine e_icmp_ge (tgt := 97) dX6_node_63 (by decide) (fun hz => absurd hz (nI_ge (by omega) (by omega))) (fun _ => ?_)
          refine e_iload_n dX6_node_66 rfl rfl ?_
          refine e_iload dX6_node_67 rfl ?_
          refine e_iload_n dX6_node_69 rfl rfl ?_
          refine e_icmp_eq (tgt := 88) dX6_node_70 (by decide) (fun hz => ?_) (fun hz => ?_)
          · have hba := (nI_eq (by omega) (by omega)).mp hz
            exact no (by rw [hba, wf.2.2.1 a]; rfl)
          · refine e_aload_n dX6_node_73 rfl rfl ?_
            refine e_iload_n dX6_node_74 rfl rfl ?_
            refine e_iload dX6_node_75 rfl ?_
            refine e_callV0i [_, _] dX6_node_77 mvmX6_weight lkRX6_203 (by exact h1.1.sh rfl) ⟨by decide, rfl⟩ rfl rfl (Nat.le_of_ble_eq_true rfl) (by decide) (c_weight h1.1 h1.now (by omega) (by omega)) ?_
            refine e_iconst (v := (-1)) dX6_node_80 (by decide) ?_
            have hn := wI_none (wf.wb a b)
            refine e_icmp_eq (tgt := 88) dX6_node_81 (by decide) (fun hz2 => no (by rw [hn.mp hz2]; rfl)) (fun hz2 => ?_)
            cases hw2 : (sgg s).2.1 a b with
            | none => exact absurd (hn.mpr hw2) hz2
            | some k =>
              rw [hw2] at go
              refine e_iconst (v := 1) dX6_node_84 (by decide) ?_
              refine e_goto (tgt := 89) dX6_node_85 (by decide) ?_
              refine e_iadd dX6_node_89 ?_
              rw [nI_1]
              refine e_istore_n dX6_node_90 rfl (by decide) rfl rfl ?_
              refine e_iinc (v := nI (b + 1)) dX6_node_91 rfl (nI_1 b) (by decide) rfl rfl ?_
              refine e_goto (tgt := 57) dX6_node_94 (by decide) ?_
              exact go
      refine e_iconst (v := 0) dX6_node_52 (by decide) ?_
      refine e_istore_n dX6_node_53 rfl (by decide) rfl rfl ?_
      refine e_iconst (v := 0) dX6_node_54 (by decide) ?_
      refine e_istore dX6_node_55 (by decide) rfl rfl ?_
      exact loop (sgg s).1 0 (by omega)
    · rw [if_neg hw, if_neg hw]
      refine e_if_ne (tgt := 41) dX6_node_34 (by decide) (fun hz => absurd rfl hz) (fun _ => ?_)
      refine e_iconst (v := 1) dX6_node_37 (by decide) ?_
      refine e_goto (tgt := 42) dX6_node_38 (by decide) ?_
      refine e_iconst (v := 2) dX6_node_42 (by decide) ?_
      refine e_iconst (v := 1) dX6_node_43 (by decide) ?_
      refine e_callV0i [_, _, _] dX6_node_44 mvmX6_bad lkRX6_159 (by exact h1.1.sh rfl) ⟨by decide, rfl⟩ rfl rfl (Nat.le_of_ble_eq_true rfl) (by decide) (c_bad1 (c := 1) (k := 1) h1.1 z1 (by decide) (by decide)) ?_
      refine e_if_eq (tgt := 52) dX6_node_47 (by decide) (fun hz => absurd hz (by decide)) (fun _ => ?_)
      refine e_iconst (v := 0) dX6_node_50 (by decide) ?_
      exact e_iret dX6_node_51 rfl rfl (mpo_rej h1 (by decide) f1)
theorem c_msets {B : Bd} {M : Mm} {s : Sx} {x : Int32} (h : MI M s) : Ct B mX6_sets 15 0 0 [.ref 60, .int x] M (MPo M (sSets s x)) := by
  refine Ct.of (by decide) rfl rfl (Nat.le_of_ble_eq_true rfl) ?_
  refine e_aload_n dX6_sets_0 rfl rfl ?_
  refine e_iconst (v := 0) dX6_sets_1 (by decide) ?_
  refine e_putI dX6_sets_2 fRX6_72 (by exact h.1.sh rfl) rfl rfl rfl (fun _ _ => rfl) ?_
  generalize hM1 : sI M 60 0 0 = M1
  have h1 : MI M1 s := by rw [← hM1]; exact h.t
  have z1 : M1.2.1 60 0 = 0 := by rw [← hM1, rd_self]
  have f1 : FM M M1 := by rw [← hM1]; exact FM.rf.sI (by decide)
  have hg12 := h1.g12
  have wf := h1.wf
  refine e_aload_n dX6_sets_5 rfl rfl ?_
  refine e_iload_n dX6_sets_6 rfl rfl ?_
  refine e_iconst (v := 0) dX6_sets_7 (by decide) ?_
  refine e_iconst (v := 5) dX6_sets_8 (by decide) ?_
  refine e_callS0i [_, _, _] dX6_sets_9 msmX6_in lkRX6_111 rfl rfl (Nat.le_of_ble_eq_true rfl) (by decide) (c_in (x := x) (lo := 0) (hi := 5)) ?_
  have e5 : (0 : Int32).toInt = 0 := rfl
  have e6 : (5 : Int32).toInt = 5 := rfl
  rw [e5, e6]
  by_cases hin : 0 ≤ x.toInt ∧ x.toInt ≤ 5
  · rw [if_pos hin]
    refine e_if_ne (tgt := 19) dX6_sets_12 (by decide) (fun _ => ?_) (fun hz => absurd hz (by decide))
    refine e_iconst (v := 0) dX6_sets_19 (by decide) ?_
    refine e_iconst (v := 1) dX6_sets_20 (by decide) ?_
    refine e_iconst (v := 1) dX6_sets_21 (by decide) ?_
    refine e_callV0i [_, _, _] dX6_sets_22 mvmX6_bad lkRX6_159 (by exact h1.1.sh rfl) ⟨by decide, rfl⟩ rfl rfl (Nat.le_of_ble_eq_true rfl) (by decide) (c_bad0 h1.1 z1) ?_
    refine e_if_eq (tgt := 30) dX6_sets_25 (by decide) (fun _ => ?_) (fun hz => absurd rfl hz)
    have gd := h1.2.2.2.1.2
    obtain ⟨x1, x2⟩ := toN hin.1 (k := 5) hin.2 (by decide)
    have e9 : sSets s x = okR (if x.toInt.toNat < 3 then nI (setz (sgg s) x.toInt.toNat) else nI (lab (sgg s) (x.toInt.toNat - 3))) s := by unfold sSets; rw [if_pos hin]
    rw [e9]
    generalize x.toInt.toNat = n at x1 x2
    subst x1
    refine e_iload_n dX6_sets_30 rfl rfl ?_
    refine e_iconst (v := 3) dX6_sets_31 (by decide) ?_
    by_cases hn3 : n < 3
    · rw [if_pos hn3]
      refine e_icmp_ge (tgt := 41) dX6_sets_32 (by decide) (fun hz => absurd hz (nI_ge (b := 3) hn3 (by decide))) (fun _ => ?_)
      refine e_aload_n dX6_sets_35 rfl rfl ?_
      refine e_iload_n dX6_sets_36 rfl rfl ?_
      refine e_callV1 [_] dX6_sets_37 mvmX6_setOf lkRX6_272 (by exact h1.1.sh rfl) ⟨by decide, rfl⟩ rfl rfl (Nat.le_of_ble_eq_true rfl) (by decide) (c_msetOf (k := n) h1 (by omega)) (fun u N2 h2 => ?_)
      obtain ⟨hu, i2, fl2⟩ := h2
      subst hu
      exact e_iret dX6_sets_40 rfl rfl (mpo_ok i2 (by rw [fl2.2.2.2.1 0 (by decide)]; exact z1) (f1.trans fl2.FM))
    · rw [if_neg hn3]
      refine e_icmp_ge (tgt := 41) dX6_sets_32 (by decide) (fun _ => ?_) (fun hz => absurd (nI_le (a := 3) (by omega) (by omega)) hz)
      refine e_aload_n dX6_sets_41 rfl rfl ?_
      refine e_callV1 [] dX6_sets_42 mvmX6_labels lkRX6_269 (by exact h1.1.sh rfl) ⟨by decide, rfl⟩ rfl rfl (Nat.le_of_ble_eq_true rfl) (by decide) (c_labels h1.1 h1.now gd) (fun u N2 h2 => ?_)
      obtain ⟨hu, zz, v1, v2⟩ := h2
      subst hu
      have i2 := h1.z zz
      have z2 : N2.2.1 60 0 = 0 := by rw [zz.2.2.1 0 (by decide)]; exact z1
      have F2 := f1.trans zz.FM
      refine e_iload_n dX6_sets_45 rfl rfl ?_
      refine e_iconst (v := 3) dX6_sets_46 (by decide) ?_
      match n, x2, hn3 with
      | 3, _, _ =>
        refine e_icmp_ne (tgt := 57) dX6_sets_47 (by decide) (fun hz => absurd rfl hz) (fun _ => ?_)
        refine e_aload_n dX6_sets_50 rfl rfl ?_
        refine e_getI dX6_sets_51 fRX6_224 (by exact i2.1.sh rfl) (fun _ => rfl) ?_
        refine e_goto (tgt := 87) dX6_sets_54 (by decide) ?_
        rw [v1]
        exact e_iret dX6_sets_87 rfl rfl (mpo_ok i2 z2 F2)
      | 4, _, _ =>
        refine e_icmp_ne (tgt := 57) dX6_sets_47 (by decide) (fun _ => ?_) (fun hz => absurd hz (by decide))
        refine e_iload_n dX6_sets_57 rfl rfl ?_
        refine e_iconst (v := 4) dX6_sets_58 (by decide) ?_
        refine e_icmp_ne (tgt := 69) dX6_sets_59 (by decide) (fun hz => absurd rfl hz) (fun _ => ?_)
        refine e_aload_n dX6_sets_62 rfl rfl ?_
        refine e_getI dX6_sets_63 fRX6_227 (by exact i2.1.sh rfl) (fun _ => rfl) ?_
        refine e_goto (tgt := 87) dX6_sets_66 (by decide) ?_
        rw [v2]
        exact e_iret dX6_sets_87 rfl rfl (mpo_ok i2 z2 F2)
      | 5, _, _ =>
        refine e_icmp_ne (tgt := 57) dX6_sets_47 (by decide) (fun _ => ?_) (fun hz => absurd hz (by decide))
        refine e_iload_n dX6_sets_57 rfl rfl ?_
        refine e_iconst (v := 4) dX6_sets_58 (by decide) ?_
        refine e_icmp_ne (tgt := 69) dX6_sets_59 (by decide) (fun _ => ?_) (fun hz => absurd hz (by decide))
        refine e_aload_n dX6_sets_69 rfl rfl ?_
        refine e_callV0i [] dX6_sets_70 mvmX6_all lkRX6_194 (by exact i2.1.sh rfl) ⟨by decide, rfl⟩ rfl rfl (Nat.le_of_ble_eq_true rfl) (by decide) (c_mall i2.1 i2.now hg12.2) ?_
        refine e_aload_n dX6_sets_73 rfl rfl ?_
        refine e_getI dX6_sets_74 fRX6_224 (by exact i2.1.sh rfl) (fun _ => rfl) ?_
        rw [v1]
        refine e_iconst (v := (-1)) dX6_sets_77 (by decide) ?_
        refine e_ixor dX6_sets_78 ?_
        refine e_iand dX6_sets_79 ?_
        rw [andn_nI]
        refine e_aload_n dX6_sets_80 rfl rfl ?_
        refine e_getI dX6_sets_81 fRX6_227 (by exact i2.1.sh rfl) (fun _ => rfl) ?_
        rw [v2]
        refine e_iconst (v := (-1)) dX6_sets_84 (by decide) ?_
        refine e_ixor dX6_sets_85 ?_
        refine e_iand dX6_sets_86 ?_
        rw [andn_nI, lab2]
        exact e_iret dX6_sets_87 rfl rfl (mpo_ok i2 z2 F2)
  · rw [if_neg hin]
    have e9 : sSets s x = rej 1 1 s := by unfold sSets; rw [if_neg hin]
    rw [e9]
    refine e_if_ne (tgt := 19) dX6_sets_12 (by decide) (fun hz => absurd rfl hz) (fun _ => ?_)
    refine e_iconst (v := 1) dX6_sets_15 (by decide) ?_
    refine e_goto (tgt := 20) dX6_sets_16 (by decide) ?_
    refine e_iconst (v := 1) dX6_sets_20 (by decide) ?_
    refine e_iconst (v := 1) dX6_sets_21 (by decide) ?_
    refine e_callV0i [_, _, _] dX6_sets_22 mvmX6_bad lkRX6_159 (by exact h1.1.sh rfl) ⟨by decide, rfl⟩ rfl rfl (Nat.le_of_ble_eq_true rfl) (by decide) (c_bad1 (c := 0) (k := 1) h1.1 z1 (by decide) (by decide)) ?_
    refine e_if_eq (tgt := 30) dX6_sets_25 (by decide) (fun hz => absurd hz (by decide)) (fun _ => ?_)
    refine e_iconst (v := 0) dX6_sets_28 (by decide) ?_
    exact e_iret dX6_sets_29 rfl rfl (mpo_rej h1 (by decide) f1)
theorem c_mprint {B : Bd} {M : Mm} {s : Sx} (h : MI M s) : Ct B mX6_print 1 0 0 [.ref 60] M (Rt (fun u N => u = some (.long (prt (sgg s))) ∧ MI N s ∧ FM M N)) := by
  refine Ct.of (by decide) rfl rfl (Nat.le_of_ble_eq_true rfl) ?_
  refine e_aload_n dX6_print_0 rfl rfl ?_
  refine e_iconst (v := 0) dX6_print_1 (by decide) ?_
  refine e_putI dX6_print_2 fRX6_72 (by exact h.1.sh rfl) rfl rfl rfl (fun _ _ => rfl) ?_
  generalize hM1 : sI M 60 0 0 = M1
  have h1 : MI M1 s := by rw [← hM1]; exact h.t
  have z1 : M1.2.1 60 0 = 0 := by rw [← hM1, rd_self]
  have f1 : FM M M1 := by rw [← hM1]; exact FM.rf.sI (by decide)
  have hg12 := h1.g12
  have wf := h1.wf
  have gd := h1.2.2.2.1.2
  have hnow := h1.now
  have ok1 := h1.1
  have post : ∀ v, v = prt (sgg s) → (Rt (fun u N => u = some (.long (prt (sgg s))) ∧ MI N s ∧ FM M N)) (.inl (some (.long v))) M1 := fun v hv => ⟨_, rfl, by rw [hv], h1, f1⟩
  generalize hΦ : (Rt (fun u N => u = some (.long (prt (sgg s))) ∧ MI N s ∧ FM M N)) = Φ at post
  generalize hg : sgg s = g at *
  have c31 : ∀ v : Int64, 31 * v = v * 31 := fun v => Int64.mul_comm _ _
  have outer : ∀ j a (t4 : Option Value), a + j = g.1 → Ev B mX6_print 1 0 0 Φ 38 [some (.ref 60), some (.long (prW g a (prM g g.1 0))), none, some (.int (nI a)), t4] [] M1 := by
    intro j
    induction j with
    | zero =>
      intro a t4 haj
      have hag : a = g.1 := by omega
      refine e_iload_n dX6_print_38 rfl rfl ?_
      refine e_aload_n dX6_print_39 rfl rfl ?_
      refine e_callV0i [] dX6_print_40 mvmX6_nodes lkRX6_181 (by exact h1.1.sh rfl) ⟨by decide, rfl⟩ rfl rfl (Nat.le_of_ble_eq_true rfl) (by decide) (c_nodes ok1 hnow) ?_
      refine e_icmp_ge (tgt := 98) dX6_print_43 (by decide) (fun _ => ?_) (fun hz => absurd (nI_le (by omega) (by omega)) hz)
      refine e_lload_n dX6_print_98 rfl rfl ?_
      exact e_lret dX6_print_99 rfl (post _ (by rw [hag]; rfl))
    | succ j ih =>
      intro a t4 haj
      refine e_iload_n dX6_print_38 rfl rfl ?_
      refine e_aload_n dX6_print_39 rfl rfl ?_
      refine e_callV0i [] dX6_print_40 mvmX6_nodes lkRX6_181 (by exact h1.1.sh rfl) ⟨by decide, rfl⟩ rfl rfl (Nat.le_of_ble_eq_true rfl) (by decide) (c_nodes ok1 hnow) ?_
      refine e_icmp_ge (tgt := 98) dX6_print_43 (by decide) (fun hz => absurd hz (nI_ge (by omega) (by omega))) (fun _ => ?_)
      refine e_iload_n dX6_print_46 rfl rfl ?_
      refine e_iconst (v := 1) dX6_print_47 (by decide) ?_
      refine e_iadd dX6_print_48 ?_
      rw [nI_1]
      refine e_istore dX6_print_49 (by decide) rfl rfl ?_
      have inner : ∀ j2 b, b + j2 = g.1 → a < b → Ev B mX6_print 1 0 0 Φ 51 [some (.ref 60), some (.long (prR g a b (prW g a (prM g g.1 0)))), none, some (.int (nI a)), some (.int (nI b))] [] M1 := by
        intro j2
        induction j2 with
        | zero =>
          intro b hbj hab
          have hbg : b = g.1 := by omega
          refine e_iload dX6_print_51 rfl ?_
          refine e_aload_n dX6_print_53 rfl rfl ?_
          refine e_callV0i [] dX6_print_54 mvmX6_nodes lkRX6_181 (by exact h1.1.sh rfl) ⟨by decide, rfl⟩ rfl rfl (Nat.le_of_ble_eq_true rfl) (by decide) (c_nodes ok1 hnow) ?_
          refine e_icmp_ge (tgt := 92) dX6_print_57 (by decide) (fun _ => ?_) (fun hz => absurd (nI_le (by omega) (by omega)) hz)
          refine e_iinc (v := nI (a + 1)) dX6_print_92 rfl (nI_1 a) (by decide) rfl rfl ?_
          refine e_goto (tgt := 38) dX6_print_95 (by decide) ?_
          rw [hbg]
          exact ih (a + 1) _ (by omega)
        | succ j2 ih2 =>
          intro b hbj hab
          have e1 : prR g a (b + 1) (prW g a (prM g g.1 0)) = if a < b ∧ (g.2.1 a b).isSome = true then prR g a b (prW g a (prM g g.1 0)) * 31 + (wI (g.2.1 a b)).toInt64 else prR g a b (prW g a (prM g g.1 0)) := rfl
          have nxt : ∀ v, v = prR g a (b + 1) (prW g a (prM g g.1 0)) → Ev B mX6_print 1 0 0 Φ 86 [some (.ref 60), some (.long v), none, some (.int (nI a)), some (.int (nI b))] [] M1 := by
            intro v hv
            refine e_iinc (v := nI (b + 1)) dX6_print_86 rfl (nI_1 b) (by decide) rfl rfl ?_
            refine e_goto (tgt := 51) dX6_print_89 (by decide) ?_
            rw [hv]
            exact ih2 (b + 1) (by omega) (by omega)
          refine e_iload dX6_print_51 rfl ?_
          refine e_aload_n dX6_print_53 rfl rfl ?_
          refine e_callV0i [] dX6_print_54 mvmX6_nodes lkRX6_181 (by exact h1.1.sh rfl) ⟨by decide, rfl⟩ rfl rfl (Nat.le_of_ble_eq_true rfl) (by decide) (c_nodes ok1 hnow) ?_
          refine e_icmp_ge (tgt := 92) dX6_print_57 (by decide) (fun hz => absurd hz (nI_ge (by omega) (by omega))) (fun _ => ?_)
          refine e_aload_n dX6_print_60 rfl rfl ?_
          refine e_iload_n dX6_print_61 rfl rfl ?_
          refine e_iload dX6_print_62 rfl ?_
          refine e_callV0i [_, _] dX6_print_64 mvmX6_weight lkRX6_203 (by exact h1.1.sh rfl) ⟨by decide, rfl⟩ rfl rfl (Nat.le_of_ble_eq_true rfl) (by decide) (c_weight ok1 hnow (by omega) (by omega)) ?_
          refine e_iconst (v := (-1)) dX6_print_67 (by decide) ?_
          have hn := wI_none (wf.wb a b)
          refine e_icmp_eq (tgt := 86) dX6_print_68 (by decide) (fun hz => ?_) (fun hz => ?_)
          · exact nxt _ (by rw [e1, if_neg (fun q => by rw [hn.mp hz] at q; cases q.2)])
          · have hl : (g.2.1 a b).isSome = true := by
              cases hq : g.2.1 a b with
              | none => exact absurd (hn.mpr hq) hz
              | some k => rfl
            refine e_ldc2 dX6_print_71 kRX6_282 ?_
            refine e_lload_n dX6_print_74 rfl rfl ?_
            refine e_lmul dX6_print_75 ?_
            refine e_aload_n dX6_print_76 rfl rfl ?_
            refine e_iload_n dX6_print_77 rfl rfl ?_
            refine e_iload dX6_print_78 rfl ?_
            refine e_callV0i [_, _] dX6_print_80 mvmX6_weight lkRX6_203 (by exact h1.1.sh rfl) ⟨by decide, rfl⟩ rfl rfl (Nat.le_of_ble_eq_true rfl) (by decide) (c_weight ok1 hnow (by omega) (by omega)) ?_
            refine e_i2l dX6_print_83 ?_
            refine e_ladd dX6_print_84 ?_
            refine e_lstore_n dX6_print_85 rfl (by decide) rfl rfl ?_
            exact nxt _ (by rw [e1, if_pos ⟨hab, hl⟩, c31])
      have h0 := inner (g.1 - (a + 1)) (a + 1) (by omega) (by omega)
      rw [prR_lo g a _ (a + 1) (Nat.le_refl _)] at h0
      exact h0
  have loop : ∀ j a, a + j = g.1 → Ev B mX6_print 1 0 0 Φ 9 [some (.ref 60), some (.long (prM g a 0)), none, some (.int (nI a)), none] [] M1 := by
    intro j
    induction j with
    | zero =>
      intro a haj
      have hag : a = g.1 := by omega
      refine e_iload_n dX6_print_9 rfl rfl ?_
      refine e_aload_n dX6_print_10 rfl rfl ?_
      refine e_callV0i [] dX6_print_11 mvmX6_nodes lkRX6_181 (by exact h1.1.sh rfl) ⟨by decide, rfl⟩ rfl rfl (Nat.le_of_ble_eq_true rfl) (by decide) (c_nodes ok1 hnow) ?_
      refine e_icmp_ge (tgt := 36) dX6_print_14 (by decide) (fun _ => ?_) (fun hz => absurd (nI_le (by omega) (by omega)) hz)
      refine e_iconst (v := 0) dX6_print_36 (by decide) ?_
      refine e_istore_n dX6_print_37 rfl (by decide) rfl rfl ?_
      rw [hag]
      exact outer g.1 0 none (by omega)
    | succ j ih =>
      intro a haj
      have go := ih (a + 1) (by omega)
      have e1 : prM g (a + 1) 0 = 31 * prM g a 0 + (wI (g.2.2 a)).toInt64 := by rw [c31]; rfl
      rw [e1] at go
      refine e_iload_n dX6_print_9 rfl rfl ?_
      refine e_aload_n dX6_print_10 rfl rfl ?_
      refine e_callV0i [] dX6_print_11 mvmX6_nodes lkRX6_181 (by exact h1.1.sh rfl) ⟨by decide, rfl⟩ rfl rfl (Nat.le_of_ble_eq_true rfl) (by decide) (c_nodes ok1 hnow) ?_
      refine e_icmp_ge (tgt := 36) dX6_print_14 (by decide) (fun hz => absurd hz (nI_ge (by omega) (by omega))) (fun _ => ?_)
      refine e_ldc2 dX6_print_17 kRX6_282 ?_
      refine e_lload_n dX6_print_20 rfl rfl ?_
      refine e_lmul dX6_print_21 ?_
      refine e_aload_n dX6_print_22 rfl rfl ?_
      refine e_iload_n dX6_print_23 rfl rfl ?_
      refine e_callV0i [_] dX6_print_24 mvmX6_mate lkRX6_206 (by exact h1.1.sh rfl) ⟨by decide, rfl⟩ rfl rfl (Nat.le_of_ble_eq_true rfl) (by decide) (c_mate ok1 hnow (by omega)) ?_
      refine e_i2l dX6_print_27 ?_
      refine e_ladd dX6_print_28 ?_
      refine e_lstore_n dX6_print_29 rfl (by decide) rfl rfl ?_
      refine e_iinc (v := nI (a + 1)) dX6_print_30 rfl (nI_1 a) (by decide) rfl rfl ?_
      refine e_goto (tgt := 9) dX6_print_33 (by decide) ?_
      exact go
  refine e_lconst (v := 0) dX6_print_5 (by decide) ?_
  refine e_lstore_n dX6_print_6 rfl (by decide) rfl rfl ?_
  refine e_iconst (v := 0) dX6_print_7 (by decide) ?_
  refine e_istore_n dX6_print_8 rfl (by decide) rfl rfl ?_
  exact loop g.1 0 (by omega)

