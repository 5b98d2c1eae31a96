/-! the small constructors -/
set_option maxHeartbeats 4000000 in
theorem c_i1 {B : Bd} {M : Mm} {b : Nat} (hb : M.1.1[b]? = some (.inl 1)) (h1 : M.1.1.length = b + 1) (h2 : M.1.2 = true) (hz : Zf M) (h0 : ∀ j, M.2.1 b j = 0) (hlt : b < 1000) : Ct B mX1_init 2 3 168 [.ref b] M (Rt (fun v N => v = none ∧ ∃ Z, Gs Z (fun a => decide (b + 4 ≤ a)) b [.inr (.int, 144), .inr (.int, 12), .inr (.int, 12)] [(b, 4, b + 3), (b, 3, b + 2), (b, 2, b + 1)] M N)) := by
  refine Ct.of (by decide) rfl rfl (Nat.le_of_ble_eq_true rfl) ?_
  have g := Gs.start h1 h2 hz h0
  have hZ : ∀ j : Nat, (fun _ => (0 : Int32)) j = 0 := fun _ => rfl
  have hbl : b < M.1.1.length := by omega
  refine e_aload_n dX1_init_0 rfl rfl ?_
  refine e_objInit dX1_init_1 oi1 oi_in oi_co (by decide) (by decide) ?_
  refine e_aload_n dX1_init_4 rfl rfl ?_
  refine e_sipush (v := 144) dX1_init_5 (by decide) ?_
  refine e_newI (N := 144) (rc := 2) (rs := 24) dX1_init_8 (by decide) (by decide) (by decide) g.zf g.ti (by rw [g.len rfl, h1]; simp only [List.length_append, List.length_cons, List.length_nil]; omega) ?_
  rw [g.len (n := b + 1) (by rw [h1]; rfl)]
  refine e_putR dX1_init_10 fRX1_9 (by exact (g.add _).sh0 hb) (by first | exact Or.inl rfl | exact Or.inr ⟨rfl, rfl, rfl⟩) (fun _ => ⟨rfl, rfl⟩) (fun _ _ => rfl) ?_
  replace g := g.mk (k := 2) (n := b + 1) (.inr (.int, 144)) hbl (by simp)
  generalize sR (addK _ _) b 2 (some (b + 1)) = K0 at g ⊢
  refine e_aload_n dX1_init_13 rfl rfl ?_
  refine e_bipush (v := 12) dX1_init_14 (by decide) ?_
  refine e_newI (N := 12) (rc := 1) (rs := 12) dX1_init_16 (by decide) (by decide) (by decide) g.zf g.ti (by rw [g.len rfl, h1]; simp only [List.length_append, List.length_cons, List.length_nil]; omega) ?_
  rw [g.len (n := b + 2) (by rw [h1]; rfl)]
  refine e_putR dX1_init_18 fRX1_15 (by exact (g.add _).sh0 hb) (by first | exact Or.inl rfl | exact Or.inr ⟨rfl, rfl, rfl⟩) (fun _ => ⟨rfl, rfl⟩) (fun _ _ => rfl) ?_
  replace g := g.mk (k := 3) (n := b + 2) (.inr (.int, 12)) hbl (by simp)
  generalize sR (addK _ _) b 3 (some (b + 2)) = K1 at g ⊢
  refine e_aload_n dX1_init_21 rfl rfl ?_
  refine e_bipush (v := 12) dX1_init_22 (by decide) ?_
  refine e_newI (N := 12) (rc := 0) (rs := 0) dX1_init_24 (by decide) (by decide) (by decide) g.zf g.ti (by rw [g.len rfl, h1]; simp only [List.length_append, List.length_cons, List.length_nil]; omega) ?_
  rw [g.len (n := b + 3) (by rw [h1]; rfl)]
  refine e_putR dX1_init_26 fRX1_18 (by exact (g.add _).sh0 hb) (by first | exact Or.inl rfl | exact Or.inr ⟨rfl, rfl, rfl⟩) (fun _ => ⟨rfl, rfl⟩) (fun _ _ => rfl) ?_
  replace g := g.mk (k := 4) (n := b + 3) (.inr (.int, 12)) hbl (by simp)
  generalize sR (addK _ _) b 4 (some (b + 3)) = K2 at g ⊢
  refine e_aload_n dX1_init_29 rfl rfl ?_
  refine e_iconst (v := 1) dX1_init_30 (by decide) ?_
  have hN : NetAt K2 b := ⟨g.sh0 hb, g.sh (by rw [List.getElem?_append_right (by omega), h1]; simp), g.sh (by rw [List.getElem?_append_right (by omega), h1, show b + 2 - (b + 1) = 1 by omega]; rfl), g.sh (by rw [List.getElem?_append_right (by omega), h1, show b + 3 - (b + 1) = 2 by omega]; rfl), g.2.2.2.2.1 (b, 2, b + 1) (by simp), g.2.2.2.2.1 (b, 3, b + 2) (by simp), g.2.2.2.2.1 (b, 4, b + 3) (by simp)⟩
  refine e_callV1 [_] dX1_init_31 mvmX1_clear lkRX1_21 (by exact g.sh0 hb) ⟨by decide, rfl⟩ rfl rfl (Nat.le_of_ble_eq_true rfl) (by decide) (c_clear (c := 1) hN) (fun v N h => ?_)
  obtain ⟨rfl, -, hf⟩ := h
  replace g := g.fr (ok' := fun a => decide (b + 4 ≤ a)) hf (Nat.le_refl _) (by rw [h1]; show b + 3 < b + 1 + 3; omega) (fun a ha => ⟨rfl, Or.inr (by have := of_decide_eq_true ha; omega)⟩)
  exact e_vret dX1_init_34 rfl (⟨none, rfl, rfl, _, g⟩)
set_option maxHeartbeats 4000000 in
theorem c_i0 {B : Bd} {M : Mm} {b : Nat} {nn : Nat} (hb : M.1.1[b]? = some (.inl 0)) (h1 : M.1.1.length = b + 1) (h2 : M.1.2 = true) (hz : Zf M) (h0 : ∀ j, M.2.1 b j = 0) (hlt : b < 1000) : Ct B mX0_init 1 2 4108 [.ref b, .ref nn] M (Rt (fun v N => v = none ∧ ∃ Z, Gs Z (fun _ => true) b [.inr (.int, 12), .inr (.long, 4096)] [(b, 2, nn), (b, 3, b + 2), (b, 1, b + 1)] M N ∧ ∀ j, Z j = 0)) := by
  refine Ct.of (by decide) rfl rfl (Nat.le_of_ble_eq_true rfl) ?_
  have g := Gs.start h1 h2 hz h0
  have hZ : ∀ j : Nat, (fun _ => (0 : Int32)) j = 0 := fun _ => rfl
  have hbl : b < M.1.1.length := by omega
  refine e_aload_n dX0_init_0 rfl rfl ?_
  refine e_objInit dX0_init_1 oi0 oi_in oi_co (by decide) (by decide) ?_
  refine e_aload_n dX0_init_4 rfl rfl ?_
  refine e_iconst (v := 0) dX0_init_5 (by decide) ?_
  refine e_putI dX0_init_6 fRX0_9 (by exact g.sh0 hb) rfl rfl rfl (fun _ _ => rfl) ?_
  replace g := g.putI (j := 0) (v := 0) hbl
  generalize sI _ b 0 0 = K0 at g ⊢
  replace hZ : ∀ j : Nat, (fun i => if i = 0 then (0 : Int32) else _) j = 0 := fun j => by dsimp only; split; rfl; exact hZ j
  refine e_aload_n dX0_init_9 rfl rfl ?_
  refine e_bipush (v := 12) dX0_init_10 (by decide) ?_
  refine e_newI (N := 12) (rc := 1) (rs := 4096) dX0_init_12 (by decide) (by decide) (by decide) g.zf g.ti (by rw [g.len rfl, h1]; simp only [List.length_append, List.length_cons, List.length_nil]; omega) ?_
  rw [g.len (n := b + 1) (by rw [h1]; rfl)]
  refine e_putR dX0_init_14 fRX0_15 (by exact (g.add _).sh0 hb) (by first | exact Or.inl rfl | exact Or.inr ⟨rfl, rfl, rfl⟩) (fun _ => ⟨rfl, rfl⟩) (fun _ _ => rfl) ?_
  replace g := g.mk (k := 1) (n := b + 1) (.inr (.int, 12)) hbl (by simp)
  generalize sR (addK _ _) b 1 (some (b + 1)) = K1 at g ⊢
  refine e_aload_n dX0_init_17 rfl rfl ?_
  refine e_sipush (v := 4096) dX0_init_18 (by decide) ?_
  refine e_newJ (N := 4096) (rc := 0) (rs := 0) dX0_init_21 (by decide) (by decide) (by decide) g.zf g.ti (by rw [g.len rfl, h1]; simp only [List.length_append, List.length_cons, List.length_nil]; omega) ?_
  rw [g.len (n := b + 2) (by rw [h1]; rfl)]
  refine e_putR dX0_init_23 fRX0_19 (by exact (g.add _).sh0 hb) (by first | exact Or.inl rfl | exact Or.inr ⟨rfl, rfl, rfl⟩) (fun _ => ⟨rfl, rfl⟩) (fun _ _ => rfl) ?_
  replace g := g.mk (k := 3) (n := b + 2) (.inr (.long, 4096)) hbl (by simp)
  generalize sR (addK _ _) b 3 (some (b + 2)) = K2 at g ⊢
  refine e_aload_n dX0_init_26 rfl rfl ?_
  refine e_aload_n dX0_init_27 rfl rfl ?_
  refine e_putR dX0_init_28 fRX0_23 (by exact g.sh0 hb) (by first | exact Or.inl rfl | exact Or.inr ⟨rfl, rfl, rfl⟩) (fun _ => ⟨rfl, rfl⟩) (fun _ _ => rfl) ?_
  replace g := g.putR (a := b) (k := 2) (c := nn) (Nat.le_refl _) (by omega) (by simp)
  generalize sR _ b 2 (some nn) = K3 at g ⊢
  exact e_vret dX0_init_31 rfl (⟨none, rfl, rfl, _, g, hZ⟩)
set_option maxHeartbeats 4000000 in
theorem c_i2 {B : Bd} {M : Mm} {b : Nat} (hb : M.1.1[b]? = some (.inl 2)) (h1 : M.1.1.length = b + 1) (h2 : M.1.2 = true) (hz : Zf M) (h0 : ∀ j, M.2.1 b j = 0) (hlt : b < 1000) : Ct B mX2_init 1 1 4096 [.ref b] M (Rt (fun v N => v = none ∧ ∃ Z, Gs Z (fun _ => true) b [.inr (.int, 4096)] [(b, 2, b + 1)] M N ∧ ∀ j, Z j = 0)) := by
  refine Ct.of (by decide) rfl rfl (Nat.le_of_ble_eq_true rfl) ?_
  have g := Gs.start h1 h2 hz h0
  have hZ : ∀ j : Nat, (fun _ => (0 : Int32)) j = 0 := fun _ => rfl
  have hbl : b < M.1.1.length := by omega
  refine e_aload_n dX2_init_0 rfl rfl ?_
  refine e_objInit dX2_init_1 oi2 oi_in oi_co (by decide) (by decide) ?_
  refine e_aload_n dX2_init_4 rfl rfl ?_
  refine e_iconst (v := 0) dX2_init_5 (by decide) ?_
  refine e_putI dX2_init_6 fRX2_9 (by exact g.sh0 hb) rfl rfl rfl (fun _ _ => rfl) ?_
  replace g := g.putI (j := 0) (v := 0) hbl
  generalize sI _ b 0 0 = K0 at g ⊢
  replace hZ : ∀ j : Nat, (fun i => if i = 0 then (0 : Int32) else _) j = 0 := fun j => by dsimp only; split; rfl; exact hZ j
  refine e_aload_n dX2_init_9 rfl rfl ?_
  refine e_iconst (v := 0) dX2_init_10 (by decide) ?_
  refine e_putI dX2_init_11 fRX2_15 (by exact g.sh0 hb) rfl rfl rfl (fun _ _ => rfl) ?_
  replace g := g.putI (j := 1) (v := 0) hbl
  generalize sI _ b 1 0 = K1 at g ⊢
  replace hZ : ∀ j : Nat, (fun i => if i = 1 then (0 : Int32) else _) j = 0 := fun j => by dsimp only; split; rfl; exact hZ j
  refine e_aload_n dX2_init_14 rfl rfl ?_
  refine e_sipush (v := 4096) dX2_init_15 (by decide) ?_
  refine e_newI (N := 4096) (rc := 0) (rs := 0) dX2_init_18 (by decide) (by decide) (by decide) g.zf g.ti (by rw [g.len rfl, h1]; simp only [List.length_append, List.length_cons, List.length_nil]; omega) ?_
  rw [g.len (n := b + 1) (by rw [h1]; rfl)]
  refine e_putR dX2_init_20 fRX2_19 (by exact (g.add _).sh0 hb) (by first | exact Or.inl rfl | exact Or.inr ⟨rfl, rfl, rfl⟩) (fun _ => ⟨rfl, rfl⟩) (fun _ _ => rfl) ?_
  replace g := g.mk (k := 2) (n := b + 1) (.inr (.int, 4096)) hbl (by simp)
  generalize sR (addK _ _) b 2 (some (b + 1)) = K2 at g ⊢
  exact e_vret dX2_init_23 rfl (⟨none, rfl, rfl, _, g, hZ⟩)
set_option maxHeartbeats 4000000 in
theorem c_i3 {B : Bd} {M : Mm} {b : Nat} (hb : M.1.1[b]? = some (.inl 3)) (h1 : M.1.1.length = b + 1) (h2 : M.1.2 = true) (hz : Zf M) (h0 : ∀ j, M.2.1 b j = 0) (hlt : b < 1000) : Ct B mX3_init 1 2 12 [.ref b] M (Rt (fun v N => v = none ∧ ∃ Z, Gs Z (fun _ => true) b [.inr (.int, 12), .inr (.byte, 0)] [(b, 2, b + 2), (b, 7, b + 1)] M N ∧ ∀ j, Z j = 0)) := by
  refine Ct.of (by decide) rfl rfl (Nat.le_of_ble_eq_true rfl) ?_
  have g := Gs.start h1 h2 hz h0
  have hZ : ∀ j : Nat, (fun _ => (0 : Int32)) j = 0 := fun _ => rfl
  have hbl : b < M.1.1.length := by omega
  refine e_aload_n dX3_init_0 rfl rfl ?_
  refine e_objInit dX3_init_1 oi3 oi_in oi_co (by decide) (by decide) ?_
  refine e_aload_n dX3_init_4 rfl rfl ?_
  refine e_bipush (v := 12) dX3_init_5 (by decide) ?_
  refine e_newI (N := 12) (rc := 1) (rs := 0) dX3_init_7 (by decide) (by decide) (by decide) g.zf g.ti (by rw [g.len rfl, h1]; simp only [List.length_append, List.length_cons, List.length_nil]; omega) ?_
  rw [g.len (n := b + 1) (by rw [h1]; rfl)]
  refine e_putR dX3_init_9 fRX3_9 (by exact (g.add _).sh0 hb) (by first | exact Or.inl rfl | exact Or.inr ⟨rfl, rfl, rfl⟩) (fun _ => ⟨rfl, rfl⟩) (fun _ _ => rfl) ?_
  replace g := g.mk (k := 7) (n := b + 1) (.inr (.int, 12)) hbl (by simp)
  generalize sR (addK _ _) b 7 (some (b + 1)) = K0 at g ⊢
  refine e_aload_n dX3_init_12 rfl rfl ?_
  refine e_iconst (v := 0) dX3_init_13 (by decide) ?_
  refine e_newB (N := 0) (rc := 0) (rs := 0) dX3_init_14 (by decide) (by decide) (by decide) g.zf g.ti (by rw [g.len rfl, h1]; simp only [List.length_append, List.length_cons, List.length_nil]; omega) ?_
  rw [g.len (n := b + 2) (by rw [h1]; rfl)]
  refine e_putR dX3_init_16 fRX3_15 (by exact (g.add _).sh0 hb) (by first | exact Or.inl rfl | exact Or.inr ⟨rfl, rfl, rfl⟩) (fun _ => ⟨rfl, rfl⟩) (fun _ _ => rfl) ?_
  replace g := g.mk (k := 2) (n := b + 2) (.inr (.byte, 0)) hbl (by simp)
  generalize sR (addK _ _) b 2 (some (b + 2)) = K1 at g ⊢
  exact e_vret dX3_init_19 rfl (⟨none, rfl, rfl, _, g, hZ⟩)
set_option maxHeartbeats 4000000 in
theorem c_i4 {B : Bd} {M : Mm} {b : Nat} (hb : M.1.1[b]? = some (.inl 4)) (h1 : M.1.1.length = b + 1) (h2 : M.1.2 = true) (hz : Zf M) (h0 : ∀ j, M.2.1 b j = 0) (hlt : b < 1000) : Ct B mX4_init 1 7 700 [.ref b] M (Rt (fun v N => v = none ∧ ∃ Z, Gs Z (fun _ => true) b [.inr (.int, 12), .inr (.int, 161), .inr (.int, 161), .inr (.int, 161), .inr (.int, 12), .inr (.int, 161), .inr (.int, 32)] [(b, 10, b + 7), (b, 9, b + 6), (b, 8, b + 5), (b, 7, b + 4), (b, 6, b + 3), (b, 5, b + 2), (b, 0, b + 1)] M N ∧ ∀ j, Z j = 0)) := by
  refine Ct.of (by decide) rfl rfl (Nat.le_of_ble_eq_true rfl) ?_
  have g := Gs.start h1 h2 hz h0
  have hZ : ∀ j : Nat, (fun _ => (0 : Int32)) j = 0 := fun _ => rfl
  have hbl : b < M.1.1.length := by omega
  refine e_aload_n dX4_init_0 rfl rfl ?_
  refine e_objInit dX4_init_1 oi4 oi_in oi_co (by decide) (by decide) ?_
  refine e_aload_n dX4_init_4 rfl rfl ?_
  refine e_bipush (v := 12) dX4_init_5 (by decide) ?_
  refine e_newI (N := 12) (rc := 6) (rs := 688) dX4_init_7 (by decide) (by decide) (by decide) g.zf g.ti (by rw [g.len rfl, h1]; simp only [List.length_append, List.length_cons, List.length_nil]; omega) ?_
  rw [g.len (n := b + 1) (by rw [h1]; rfl)]
  refine e_putR dX4_init_9 fRX4_9 (by exact (g.add _).sh0 hb) (by first | exact Or.inl rfl | exact Or.inr ⟨rfl, rfl, rfl⟩) (fun _ => ⟨rfl, rfl⟩) (fun _ _ => rfl) ?_
  replace g := g.mk (k := 0) (n := b + 1) (.inr (.int, 12)) hbl (by simp)
  generalize sR (addK _ _) b 0 (some (b + 1)) = K0 at g ⊢
  refine e_aload_n dX4_init_12 rfl rfl ?_
  refine e_iconst (v := 0) dX4_init_13 (by decide) ?_
  refine e_putI dX4_init_14 fRX4_15 (by exact g.sh0 hb) rfl rfl rfl (fun _ _ => rfl) ?_
  replace g := g.putI (j := 1) (v := 0) hbl
  generalize sI _ b 1 0 = K1 at g ⊢
  replace hZ : ∀ j : Nat, (fun i => if i = 1 then (0 : Int32) else _) j = 0 := fun j => by dsimp only; split; rfl; exact hZ j
  refine e_aload_n dX4_init_17 rfl rfl ?_
  refine e_iconst (v := 0) dX4_init_18 (by decide) ?_
  refine e_putI dX4_init_19 fRX4_19 (by exact g.sh0 hb) rfl rfl rfl (fun _ _ => rfl) ?_
  replace g := g.putI (j := 2) (v := 0) hbl
  generalize sI _ b 2 0 = K2 at g ⊢
  replace hZ : ∀ j : Nat, (fun i => if i = 2 then (0 : Int32) else _) j = 0 := fun j => by dsimp only; split; rfl; exact hZ j
  refine e_aload_n dX4_init_22 rfl rfl ?_
  refine e_iconst (v := 0) dX4_init_23 (by decide) ?_
  refine e_putI dX4_init_24 fRX4_22 (by exact g.sh0 hb) rfl rfl rfl (fun _ _ => rfl) ?_
  replace g := g.putI (j := 3) (v := 0) hbl
  generalize sI _ b 3 0 = K3 at g ⊢
  replace hZ : ∀ j : Nat, (fun i => if i = 3 then (0 : Int32) else _) j = 0 := fun j => by dsimp only; split; rfl; exact hZ j
  refine e_aload_n dX4_init_27 rfl rfl ?_
  refine e_iconst (v := 0) dX4_init_28 (by decide) ?_
  refine e_putI dX4_init_29 fRX4_25 (by exact g.sh0 hb) rfl rfl rfl (fun _ _ => rfl) ?_
  replace g := g.putI (j := 4) (v := 0) hbl
  generalize sI _ b 4 0 = K4 at g ⊢
  replace hZ : ∀ j : Nat, (fun i => if i = 4 then (0 : Int32) else _) j = 0 := fun j => by dsimp only; split; rfl; exact hZ j
  refine e_aload_n dX4_init_32 rfl rfl ?_
  refine e_sipush (v := 161) dX4_init_33 (by decide) ?_
  refine e_newI (N := 161) (rc := 5) (rs := 527) dX4_init_36 (by decide) (by decide) (by decide) g.zf g.ti (by rw [g.len rfl, h1]; simp only [List.length_append, List.length_cons, List.length_nil]; omega) ?_
  rw [g.len (n := b + 2) (by rw [h1]; rfl)]
  refine e_putR dX4_init_38 fRX4_28 (by exact (g.add _).sh0 hb) (by first | exact Or.inl rfl | exact Or.inr ⟨rfl, rfl, rfl⟩) (fun _ => ⟨rfl, rfl⟩) (fun _ _ => rfl) ?_
  replace g := g.mk (k := 5) (n := b + 2) (.inr (.int, 161)) hbl (by simp)
  generalize sR (addK _ _) b 5 (some (b + 2)) = K5 at g ⊢
  refine e_aload_n dX4_init_41 rfl rfl ?_
  refine e_sipush (v := 161) dX4_init_42 (by decide) ?_
  refine e_newI (N := 161) (rc := 4) (rs := 366) dX4_init_45 (by decide) (by decide) (by decide) g.zf g.ti (by rw [g.len rfl, h1]; simp only [List.length_append, List.length_cons, List.length_nil]; omega) ?_
  rw [g.len (n := b + 3) (by rw [h1]; rfl)]
  refine e_putR dX4_init_47 fRX4_31 (by exact (g.add _).sh0 hb) (by first | exact Or.inl rfl | exact Or.inr ⟨rfl, rfl, rfl⟩) (fun _ => ⟨rfl, rfl⟩) (fun _ _ => rfl) ?_
  replace g := g.mk (k := 6) (n := b + 3) (.inr (.int, 161)) hbl (by simp)
  generalize sR (addK _ _) b 6 (some (b + 3)) = K6 at g ⊢
  refine e_aload_n dX4_init_50 rfl rfl ?_
  refine e_sipush (v := 161) dX4_init_51 (by decide) ?_
  refine e_newI (N := 161) (rc := 3) (rs := 205) dX4_init_54 (by decide) (by decide) (by decide) g.zf g.ti (by rw [g.len rfl, h1]; simp only [List.length_append, List.length_cons, List.length_nil]; omega) ?_
  rw [g.len (n := b + 4) (by rw [h1]; rfl)]
  refine e_putR dX4_init_56 fRX4_34 (by exact (g.add _).sh0 hb) (by first | exact Or.inl rfl | exact Or.inr ⟨rfl, rfl, rfl⟩) (fun _ => ⟨rfl, rfl⟩) (fun _ _ => rfl) ?_
  replace g := g.mk (k := 7) (n := b + 4) (.inr (.int, 161)) hbl (by simp)
  generalize sR (addK _ _) b 7 (some (b + 4)) = K7 at g ⊢
  refine e_aload_n dX4_init_59 rfl rfl ?_
  refine e_bipush (v := 12) dX4_init_60 (by decide) ?_
  refine e_newI (N := 12) (rc := 2) (rs := 193) dX4_init_62 (by decide) (by decide) (by decide) g.zf g.ti (by rw [g.len rfl, h1]; simp only [List.length_append, List.length_cons, List.length_nil]; omega) ?_
  rw [g.len (n := b + 5) (by rw [h1]; rfl)]
  refine e_putR dX4_init_64 fRX4_37 (by exact (g.add _).sh0 hb) (by first | exact Or.inl rfl | exact Or.inr ⟨rfl, rfl, rfl⟩) (fun _ => ⟨rfl, rfl⟩) (fun _ _ => rfl) ?_
  replace g := g.mk (k := 8) (n := b + 5) (.inr (.int, 12)) hbl (by simp)
  generalize sR (addK _ _) b 8 (some (b + 5)) = K8 at g ⊢
  refine e_aload_n dX4_init_67 rfl rfl ?_
  refine e_sipush (v := 161) dX4_init_68 (by decide) ?_
  refine e_newI (N := 161) (rc := 1) (rs := 32) dX4_init_71 (by decide) (by decide) (by decide) g.zf g.ti (by rw [g.len rfl, h1]; simp only [List.length_append, List.length_cons, List.length_nil]; omega) ?_
  rw [g.len (n := b + 6) (by rw [h1]; rfl)]
  refine e_putR dX4_init_73 fRX4_40 (by exact (g.add _).sh0 hb) (by first | exact Or.inl rfl | exact Or.inr ⟨rfl, rfl, rfl⟩) (fun _ => ⟨rfl, rfl⟩) (fun _ _ => rfl) ?_
  replace g := g.mk (k := 9) (n := b + 6) (.inr (.int, 161)) hbl (by simp)
  generalize sR (addK _ _) b 9 (some (b + 6)) = K9 at g ⊢
  refine e_aload_n dX4_init_76 rfl rfl ?_
  refine e_bipush (v := 32) dX4_init_77 (by decide) ?_
  refine e_newI (N := 32) (rc := 0) (rs := 0) dX4_init_79 (by decide) (by decide) (by decide) g.zf g.ti (by rw [g.len rfl, h1]; simp only [List.length_append, List.length_cons, List.length_nil]; omega) ?_
  rw [g.len (n := b + 7) (by rw [h1]; rfl)]
  refine e_putR dX4_init_81 fRX4_43 (by exact (g.add _).sh0 hb) (by first | exact Or.inl rfl | exact Or.inr ⟨rfl, rfl, rfl⟩) (fun _ => ⟨rfl, rfl⟩) (fun _ _ => rfl) ?_
  replace g := g.mk (k := 10) (n := b + 7) (.inr (.int, 32)) hbl (by simp)
  generalize sR (addK _ _) b 10 (some (b + 7)) = K10 at g ⊢
  exact e_vret dX4_init_84 rfl (⟨none, rfl, rfl, _, g, hZ⟩)
