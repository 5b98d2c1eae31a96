/-! the constructor of OddPairs -/
def okA (a : Nat) : Bool := decide (a < 2 ∨ (10 ≤ a ∧ a < 28) ∨ 60 ≤ a)
theorem okA_s {a : Nat} (h : okA a = true) : a < 2 ∨ (10 ≤ a ∧ a < 28) ∨ 60 ≤ a := of_decide_eq_true h
def l5 : List (Nat × Nat × Nat) := [(10, 7, 56), (56, 4, 59), (56, 3, 58), (56, 2, 57), (10, 6, 52), (52, 4, 55), (52, 3, 54), (52, 2, 53), (10, 5, 48), (48, 4, 51), (48, 3, 50), (48, 2, 49), (10, 4, 44), (44, 4, 47), (44, 3, 46), (44, 2, 45), (10, 3, 40), (40, 4, 43), (40, 3, 42), (40, 2, 41), (10, 2, 36), (36, 4, 39), (36, 3, 38), (36, 2, 37), (10, 1, 32), (32, 4, 35), (32, 3, 34), (32, 2, 33), (10, 0, 28), (28, 4, 31), (28, 3, 30), (28, 2, 29), (0, 11, 27), (0, 10, 19), (19, 10, 26), (19, 9, 25), (19, 8, 24), (19, 7, 23), (19, 6, 22), (19, 5, 21), (19, 0, 20), (0, 9, 17), (17, 2, 18), (0, 8, 14), (14, 2, 2), (14, 3, 16), (14, 1, 15), (0, 7, 11), (11, 2, 13), (11, 7, 12), (0, 5, 10), (0, 4, 6), (6, 4, 9), (6, 3, 8), (6, 2, 7), (0, 3, 2), (2, 4, 5), (2, 3, 4), (2, 2, 3), (0, 0, 1)]
def ks5 : List Kd := (SZ.take 60).drop 1
def g00 : Nw := gPut (2, fun _ _ => none, fun _ => none) 0 1 (some 1)
set_option maxHeartbeats 40000000 in
theorem c_i5 {B : Bd} {M : Mm} (hM : M.1 = ([.inl 5], true)) (hz : Zf M) (h0 : ∀ j, M.2.1 0 j = 0) : Ct B mX5_init 3 59 11183 [.ref 0] M (Rt (fun v N => v = none ∧ ∃ Z, Gs Z okA 0 ks5 l5 M N ∧ Z 1 = 0 ∧ Z 2 = -1 ∧ Z 6 = 0 ∧ NetRep N 2 g00)) := by
  refine Ct.of (by decide) rfl rfl (Nat.le_of_ble_eq_true rfl) ?_
  have hb : M.1.1[0]? = some (.inl 5) := by rw [hM]; rfl
  have hbl : 0 < M.1.1.length := by rw [hM]; decide
  have g := (Gs.start (b := 0) (by rw [hM]; rfl) (by rw [hM]) hz h0).oks (ok' := okA) (fun _ _ => rfl)
  clear h0 hz
  refine e_aload_n dX5_init_0 rfl rfl ?_
  refine e_objInit dX5_init_1 oi5 oi_in oi_co (by decide) (by decide) ?_
  refine e_aload_n dX5_init_4 rfl rfl ?_
  refine e_sipush (v := 500) dX5_init_5 (by decide) ?_
  refine e_newB (N := 500) (rc := 58) (rs := 10683) dX5_init_8 (by decide) (by decide) (by decide) g.zf g.ti (by rw [g.len (n := 1) (by rw [hM]; rfl)]; decide) ?_
  rw [g.len (n := 1) (by rw [hM]; rfl)]
  replace g := g.add (.inr (.byte, 500))
  generalize addK _ _ = K0 at g ⊢
  refine e_putR dX5_init_10 fRX5_9 (by exact g.sh0 hb) (by first | exact Or.inl rfl | exact Or.inr ⟨rfl, rfl, rfl⟩) (fun _ => ⟨rfl, rfl⟩) (fun _ _ => rfl) ?_
  replace g := g.putR (a := 0) (k := 0) (c := 1) (Nat.le_refl _) (by rw [hM]; decide) (by decide)
  generalize sR _ _ _ _ = K1 at g ⊢
  refine e_aload_n dX5_init_13 rfl rfl ?_
  refine e_iconst (v := 0) dX5_init_14 (by decide) ?_
  refine e_putI dX5_init_15 fRX5_13 (by exact g.sh0 hb) rfl rfl rfl (fun _ _ => rfl) ?_
  replace g := g.putI (j := 1) (v := 0) hbl
  generalize sI _ _ _ _ = K2 at g ⊢
  refine e_aload_n dX5_init_18 rfl rfl ?_
  refine e_iconst (v := (-1)) dX5_init_19 (by decide) ?_
  refine e_putI dX5_init_20 fRX5_17 (by exact g.sh0 hb) rfl rfl rfl (fun _ _ => rfl) ?_
  replace g := g.putI (j := 2) (v := (-1)) hbl
  generalize sI _ _ _ _ = K3 at g ⊢
  refine e_aload_n dX5_init_23 rfl rfl ?_
  refine e_new (ci := 1) (rc := 57) (rs := 10678) dX5_init_24 (by decide) clRX5_20 inRX1 ini_RX1 g.zf g.ti (by rw [g.len (n := 2) (by rw [hM]; rfl)]; decide) ?_
  rw [g.len (n := 2) (by rw [hM]; rfl)]
  have h0 : ∀ j, K3.2.1 2 j = 0 := (g.zf 2 (by rw [g.len (n := 2) (by rw [hM]; rfl)]; exact Nat.le_refl _)).1
  replace g := g.add (.inl 1)
  replace h0 : ∀ j, (addK K3 (.inl 1)).2.1 2 j = 0 := h0
  generalize addK _ _ = K4 at g h0 ⊢
  refine e_dup dX5_init_27 rfl ?_
  refine e_callI (b := 2) (d1 := 2) (rc1 := 3) (rs1 := 168) (rc2 := 54) (rs2 := 10510) dX5_init_28 mimX1_init lkRX5_22 (by decide) (by decide) (by decide) (by decide) (c_i1 (b := 2) (g.sh (by rw [hM]; rfl)) (g.len (by rw [hM]; rfl)) g.ti g.zf h0 (by decide)) (fun v N h => ?_)
  obtain ⟨rfl, Z1, h⟩ := h
  replace g := g.sub (ok' := okA) h (by decide) (fun q => absurd q (by decide)) (by decide) (fun a ha => ⟨ha, fun q => decide_eq_true (by have := okA_s ha; omega)⟩)
  clear h h0
  rename Mm => K5
  refine e_putR dX5_init_31 fRX5_23 (by exact g.sh0 hb) (by first | exact Or.inl rfl | exact Or.inr ⟨rfl, rfl, rfl⟩) (fun _ => ⟨rfl, rfl⟩) (fun _ _ => rfl) ?_
  replace g := g.putR (a := 0) (k := 3) (c := 2) (Nat.le_refl _) (by rw [hM]; decide) (by decide)
  generalize sR _ _ _ _ = K6 at g ⊢
  refine e_aload_n dX5_init_34 rfl rfl ?_
  refine e_new (ci := 1) (rc := 53) (rs := 10505) dX5_init_35 (by decide) clRX5_20 inRX1 ini_RX1 g.zf g.ti (by rw [g.len (n := 6) (by rw [hM]; rfl)]; decide) ?_
  rw [g.len (n := 6) (by rw [hM]; rfl)]
  have h0 : ∀ j, K6.2.1 6 j = 0 := (g.zf 6 (by rw [g.len (n := 6) (by rw [hM]; rfl)]; exact Nat.le_refl _)).1
  replace g := g.add (.inl 1)
  replace h0 : ∀ j, (addK K6 (.inl 1)).2.1 6 j = 0 := h0
  generalize addK _ _ = K7 at g h0 ⊢
  refine e_dup dX5_init_38 rfl ?_
  refine e_callI (b := 6) (d1 := 2) (rc1 := 3) (rs1 := 168) (rc2 := 50) (rs2 := 10337) dX5_init_39 mimX1_init lkRX5_22 (by decide) (by decide) (by decide) (by decide) (c_i1 (b := 6) (g.sh (by rw [hM]; rfl)) (g.len (by rw [hM]; rfl)) g.ti g.zf h0 (by decide)) (fun v N h => ?_)
  obtain ⟨rfl, Z1, h⟩ := h
  replace g := g.sub (ok' := okA) h (by decide) (fun q => absurd q (by decide)) (by decide) (fun a ha => ⟨ha, fun q => decide_eq_true (by have := okA_s ha; omega)⟩)
  clear h h0
  rename Mm => K8
  refine e_putR dX5_init_42 fRX5_27 (by exact g.sh0 hb) (by first | exact Or.inl rfl | exact Or.inr ⟨rfl, rfl, rfl⟩) (fun _ => ⟨rfl, rfl⟩) (fun _ _ => rfl) ?_
  replace g := g.putR (a := 0) (k := 4) (c := 6) (Nat.le_refl _) (by rw [hM]; decide) (by decide)
  generalize sR _ _ _ _ = K9 at g ⊢
  refine e_aload_n dX5_init_45 rfl rfl ?_
  refine e_bipush (v := 8) dX5_init_46 (by decide) ?_
  refine e_anew (N := 8) (rc := 49) (rs := 10329) dX5_init_48 clRX5_20 (by decide) (by decide) (by decide) g.zf g.ti (by rw [g.len (n := 10) (by rw [hM]; rfl)]; decide) ?_
  rw [g.len (n := 10) (by rw [hM]; rfl)]
  replace g := g.add (.inr (.object RX1, 8))
  generalize addK _ _ = K10 at g ⊢
  refine e_putR dX5_init_51 fRX5_30 (by exact g.sh0 hb) (by first | exact Or.inl rfl | exact Or.inr ⟨rfl, rfl, rfl⟩) (fun _ => ⟨rfl, rfl⟩) (fun _ _ => rfl) ?_
  replace g := g.putR (a := 0) (k := 5) (c := 10) (Nat.le_refl _) (by rw [hM]; decide) (by decide)
  generalize sR _ _ _ _ = K11 at g ⊢
  refine e_aload_n dX5_init_54 rfl rfl ?_
  refine e_iconst (v := 0) dX5_init_55 (by decide) ?_
  refine e_putI dX5_init_56 fRX5_34 (by exact g.sh0 hb) rfl rfl rfl (fun _ _ => rfl) ?_
  replace g := g.putI (j := 6) (v := 0) hbl
  generalize sI _ _ _ _ = K12 at g ⊢
  refine e_aload_n dX5_init_59 rfl rfl ?_
  refine e_new (ci := 3) (rc := 48) (rs := 10321) dX5_init_60 (by decide) clRX5_37 inRX3 ini_RX3 g.zf g.ti (by rw [g.len (n := 11) (by rw [hM]; rfl)]; decide) ?_
  rw [g.len (n := 11) (by rw [hM]; rfl)]
  have h0 : ∀ j, K12.2.1 11 j = 0 := (g.zf 11 (by rw [g.len (n := 11) (by rw [hM]; rfl)]; exact Nat.le_refl _)).1
  replace g := g.add (.inl 3)
  replace h0 : ∀ j, (addK K12 (.inl 3)).2.1 11 j = 0 := h0
  generalize addK _ _ = K13 at g h0 ⊢
  refine e_dup dX5_init_63 rfl ?_
  refine e_callI (b := 11) (d1 := 1) (rc1 := 2) (rs1 := 12) (rc2 := 46) (rs2 := 10309) dX5_init_64 mimX3_init lkRX5_39 (by decide) (by decide) (by decide) (by decide) (c_i3 (b := 11) (g.sh (by rw [hM]; rfl)) (g.len (by rw [hM]; rfl)) g.ti g.zf h0 (by decide)) (fun v N h => ?_)
  obtain ⟨rfl, Z1, h, hZ1⟩ := h
  replace g := g.sub (ok' := okA) h (by decide) (fun _ => hZ1) (by decide) (fun a ha => ⟨ha, fun _ => rfl⟩)
  clear h h0
  rename Mm => K14
  refine e_putR dX5_init_67 fRX5_40 (by exact g.sh0 hb) (by first | exact Or.inl rfl | exact Or.inr ⟨rfl, rfl, rfl⟩) (fun _ => ⟨rfl, rfl⟩) (fun _ _ => rfl) ?_
  replace g := g.putR (a := 0) (k := 7) (c := 11) (Nat.le_refl _) (by rw [hM]; decide) (by decide)
  generalize sR _ _ _ _ = K15 at g ⊢
  refine e_aload_n dX5_init_70 rfl rfl ?_
  refine e_new (ci := 0) (rc := 45) (rs := 10305) dX5_init_71 (by decide) clRX5_44 inRX0 ini_RX0 g.zf g.ti (by rw [g.len (n := 14) (by rw [hM]; rfl)]; decide) ?_
  rw [g.len (n := 14) (by rw [hM]; rfl)]
  have h0 : ∀ j, K15.2.1 14 j = 0 := (g.zf 14 (by rw [g.len (n := 14) (by rw [hM]; rfl)]; exact Nat.le_refl _)).1
  replace g := g.add (.inl 0)
  replace h0 : ∀ j, (addK K15 (.inl 0)).2.1 14 j = 0 := h0
  generalize addK _ _ = K16 at g h0 ⊢
  refine e_dup dX5_init_74 rfl ?_
  refine e_aload_n dX5_init_75 rfl rfl ?_
  refine e_getR (b := 2) dX5_init_76 fRX5_23 (by exact g.sh0 hb) (by exact g.2.2.2.2.1 (0, 3, 2) (by decide)) (fun _ => rfl) ?_
  refine e_callI1 (v := .ref 2) (b := 14) (d1 := 1) (rc1 := 2) (rs1 := 4108) (rc2 := 43) (rs2 := 6197) dX5_init_79 mimX0_init lkRX5_46 (by decide) (by decide) (by decide) (by decide) (c_i0 (b := 14) (nn := 2) (g.sh (by rw [hM]; rfl)) (g.len (by rw [hM]; rfl)) g.ti g.zf h0 (by decide)) (fun v N h => ?_)
  obtain ⟨rfl, Z1, h, hZ1⟩ := h
  replace g := g.sub (ok' := okA) h (by decide) (fun _ => hZ1) (by decide) (fun a ha => ⟨ha, fun _ => rfl⟩)
  clear h h0
  rename Mm => K17
  refine e_putR dX5_init_82 fRX5_49 (by exact g.sh0 hb) (by first | exact Or.inl rfl | exact Or.inr ⟨rfl, rfl, rfl⟩) (fun _ => ⟨rfl, rfl⟩) (fun _ _ => rfl) ?_
  replace g := g.putR (a := 0) (k := 8) (c := 14) (Nat.le_refl _) (by rw [hM]; decide) (by decide)
  generalize sR _ _ _ _ = K18 at g ⊢
  refine e_aload_n dX5_init_85 rfl rfl ?_
  refine e_new (ci := 2) (rc := 42) (rs := 6194) dX5_init_86 (by decide) clRX5_53 inRX2 ini_RX2 g.zf g.ti (by rw [g.len (n := 17) (by rw [hM]; rfl)]; decide) ?_
  rw [g.len (n := 17) (by rw [hM]; rfl)]
  have h0 : ∀ j, K18.2.1 17 j = 0 := (g.zf 17 (by rw [g.len (n := 17) (by rw [hM]; rfl)]; exact Nat.le_refl _)).1
  replace g := g.add (.inl 2)
  replace h0 : ∀ j, (addK K18 (.inl 2)).2.1 17 j = 0 := h0
  generalize addK _ _ = K19 at g h0 ⊢
  refine e_dup dX5_init_89 rfl ?_
  refine e_callIN (b := 17) (d1 := 1) (rc1 := 1) (rs1 := 4096) (rc2 := 41) (rs2 := 2098) dX5_init_90 mimX2_init nest_5b (by decide) (by decide) (by decide) (by decide) (c_i2 (b := 17) (g.sh (by rw [hM]; rfl)) (g.len (by rw [hM]; rfl)) g.ti g.zf h0 (by decide)) (fun v N h => ?_)
  obtain ⟨rfl, Z1, h, hZ1⟩ := h
  replace g := g.sub (ok' := okA) h (by decide) (fun _ => hZ1) (by decide) (fun a ha => ⟨ha, fun _ => rfl⟩)
  clear h h0
  rename Mm => K20
  refine e_putR dX5_init_93 fRX5_56 (by exact g.sh0 hb) (by first | exact Or.inl rfl | exact Or.inr ⟨rfl, rfl, rfl⟩) (fun _ => ⟨rfl, rfl⟩) (fun _ _ => rfl) ?_
  replace g := g.putR (a := 0) (k := 9) (c := 17) (Nat.le_refl _) (by rw [hM]; decide) (by decide)
  generalize sR _ _ _ _ = K21 at g ⊢
  refine e_aload_n dX5_init_96 rfl rfl ?_
  refine e_new (ci := 4) (rc := 40) (rs := 2087) dX5_init_97 (by decide) clRX5_60 inRX4 ini_RX4 g.zf g.ti (by rw [g.len (n := 19) (by rw [hM]; rfl)]; decide) ?_
  rw [g.len (n := 19) (by rw [hM]; rfl)]
  have h0 : ∀ j, K21.2.1 19 j = 0 := (g.zf 19 (by rw [g.len (n := 19) (by rw [hM]; rfl)]; exact Nat.le_refl _)).1
  replace g := g.add (.inl 4)
  replace h0 : ∀ j, (addK K21 (.inl 4)).2.1 19 j = 0 := h0
  generalize addK _ _ = K22 at g h0 ⊢
  refine e_dup dX5_init_100 rfl ?_
  refine e_callIN (b := 19) (d1 := 1) (rc1 := 7) (rs1 := 700) (rc2 := 33) (rs2 := 1387) dX5_init_101 mimX4_init nest_5c (by decide) (by decide) (by decide) (by decide) (c_i4 (b := 19) (g.sh (by rw [hM]; rfl)) (g.len (by rw [hM]; rfl)) g.ti g.zf h0 (by decide)) (fun v N h => ?_)
  obtain ⟨rfl, Z1, h, hZ1⟩ := h
  replace g := g.sub (ok' := okA) h (by decide) (fun _ => hZ1) (by decide) (fun a ha => ⟨ha, fun _ => rfl⟩)
  clear h h0
  rename Mm => K23
  refine e_putR dX5_init_104 fRX5_63 (by exact g.sh0 hb) (by first | exact Or.inl rfl | exact Or.inr ⟨rfl, rfl, rfl⟩) (fun _ => ⟨rfl, rfl⟩) (fun _ _ => rfl) ?_
  replace g := g.putR (a := 0) (k := 10) (c := 19) (Nat.le_refl _) (by rw [hM]; decide) (by decide)
  generalize sR _ _ _ _ = K24 at g ⊢
  refine e_aload_n dX5_init_107 rfl rfl ?_
  refine e_iconst (v := 3) dX5_init_108 (by decide) ?_
  refine e_newI (N := 3) (rc := 32) (rs := 1384) dX5_init_109 (by decide) (by decide) (by decide) g.zf g.ti (by rw [g.len (n := 27) (by rw [hM]; rfl)]; decide) ?_
  rw [g.len (n := 27) (by rw [hM]; rfl)]
  replace g := g.add (.inr (.int, 3))
  generalize addK _ _ = K25 at g ⊢
  refine e_putR dX5_init_111 fRX5_67 (by exact g.sh0 hb) (by first | exact Or.inl rfl | exact Or.inr ⟨rfl, rfl, rfl⟩) (fun _ => ⟨rfl, rfl⟩) (fun _ _ => rfl) ?_
  replace g := g.putR (a := 0) (k := 11) (c := 27) (Nat.le_refl _) (by rw [hM]; decide) (by decide)
  generalize sR _ _ _ _ = K26 at g ⊢
  refine e_iconst (v := 0) dX5_init_114 (by decide) ?_
  refine e_istore_n (L' := [some (.ref 0), some (.int 0)]) dX5_init_115 rfl (by decide) rfl rfl ?_
  refine e_iload_n (x := 0) dX5_init_116 rfl rfl ?_
  refine e_bipush (v := 8) dX5_init_117 (by decide) ?_
  refine e_icmp_ge (tgt := 141) dX5_init_119 (by decide) (fun h => absurd h (by decide)) (fun _ => ?_)
  refine e_aload_n dX5_init_122 rfl rfl ?_
  refine e_getR (b := 10) dX5_init_123 fRX5_30 (by exact g.sh0 hb) (by exact g.2.2.2.2.1 (0, 5, 10) (by decide)) (fun _ => rfl) ?_
  refine e_iload_n (x := 0) dX5_init_126 rfl rfl ?_
  refine e_new (ci := 1) (rc := 31) (rs := 1379) dX5_init_127 (by decide) clRX5_20 inRX1 ini_RX1 g.zf g.ti (by rw [g.len (n := 28) (by rw [hM]; rfl)]; decide) ?_
  rw [g.len (n := 28) (by rw [hM]; rfl)]
  have h0 : ∀ j, K26.2.1 28 j = 0 := (g.zf 28 (by rw [g.len (n := 28) (by rw [hM]; rfl)]; exact Nat.le_refl _)).1
  replace g := g.add (.inl 1)
  replace h0 : ∀ j, (addK K26 (.inl 1)).2.1 28 j = 0 := h0
  generalize addK _ _ = K27 at g h0 ⊢
  refine e_dup dX5_init_130 rfl ?_
  refine e_callI (b := 28) (d1 := 2) (rc1 := 3) (rs1 := 168) (rc2 := 28) (rs2 := 1211) dX5_init_131 mimX1_init lkRX5_22 (by decide) (by decide) (by decide) (by decide) (c_i1 (b := 28) (g.sh (by rw [hM]; rfl)) (g.len (by rw [hM]; rfl)) g.ti g.zf h0 (by decide)) (fun v N h => ?_)
  obtain ⟨rfl, Z1, h⟩ := h
  replace g := g.sub (ok' := okA) h (by decide) (fun q => absurd q (by decide)) (by decide) (fun a ha => ⟨ha, fun q => decide_eq_true (by have := okA_s ha; omega)⟩)
  clear h h0
  rename Mm => K28
  refine e_aastoreT dX5_init_134 (g.sh (by rw [hM]; rfl)) (g.sh (by rw [hM]; rfl)) (by unfold vp_in; decide) ?_
  rw [show Int32.toNatClampNeg 0 = 0 by decide]
  replace g := g.putR (a := 10) (k := 0) (c := 28) (by decide) (by rw [hM]; decide) (by decide)
  generalize sR _ _ _ _ = K29 at g ⊢
  refine e_iinc (v := 1) (L' := [some (.ref 0), some (.int 1)]) dX5_init_135 rfl (by decide) (by decide) rfl rfl ?_
  refine e_goto (tgt := 116) dX5_init_138 (by decide) ?_
  refine e_iload_n (x := 1) dX5_init_116 rfl rfl ?_
  refine e_bipush (v := 8) dX5_init_117 (by decide) ?_
  refine e_icmp_ge (tgt := 141) dX5_init_119 (by decide) (fun h => absurd h (by decide)) (fun _ => ?_)
  refine e_aload_n dX5_init_122 rfl rfl ?_
  refine e_getR (b := 10) dX5_init_123 fRX5_30 (by exact g.sh0 hb) (by exact g.2.2.2.2.1 (0, 5, 10) (by decide)) (fun _ => rfl) ?_
  refine e_iload_n (x := 1) dX5_init_126 rfl rfl ?_
  refine e_new (ci := 1) (rc := 27) (rs := 1206) dX5_init_127 (by decide) clRX5_20 inRX1 ini_RX1 g.zf g.ti (by rw [g.len (n := 32) (by rw [hM]; rfl)]; decide) ?_
  rw [g.len (n := 32) (by rw [hM]; rfl)]
  have h0 : ∀ j, K29.2.1 32 j = 0 := (g.zf 32 (by rw [g.len (n := 32) (by rw [hM]; rfl)]; exact Nat.le_refl _)).1
  replace g := g.add (.inl 1)
  replace h0 : ∀ j, (addK K29 (.inl 1)).2.1 32 j = 0 := h0
  generalize addK _ _ = K30 at g h0 ⊢
  refine e_dup dX5_init_130 rfl ?_
  refine e_callI (b := 32) (d1 := 2) (rc1 := 3) (rs1 := 168) (rc2 := 24) (rs2 := 1038) dX5_init_131 mimX1_init lkRX5_22 (by decide) (by decide) (by decide) (by decide) (c_i1 (b := 32) (g.sh (by rw [hM]; rfl)) (g.len (by rw [hM]; rfl)) g.ti g.zf h0 (by decide)) (fun v N h => ?_)
  obtain ⟨rfl, Z1, h⟩ := h
  replace g := g.sub (ok' := okA) h (by decide) (fun q => absurd q (by decide)) (by decide) (fun a ha => ⟨ha, fun q => decide_eq_true (by have := okA_s ha; omega)⟩)
  clear h h0
  rename Mm => K31
  refine e_aastoreT dX5_init_134 (g.sh (by rw [hM]; rfl)) (g.sh (by rw [hM]; rfl)) (by unfold vp_in; decide) ?_
  rw [show Int32.toNatClampNeg 1 = 1 by decide]
  replace g := g.putR (a := 10) (k := 1) (c := 32) (by decide) (by rw [hM]; decide) (by decide)
  generalize sR _ _ _ _ = K32 at g ⊢
  refine e_iinc (v := 2) (L' := [some (.ref 0), some (.int 2)]) dX5_init_135 rfl (by decide) (by decide) rfl rfl ?_
  refine e_goto (tgt := 116) dX5_init_138 (by decide) ?_
  refine e_iload_n (x := 2) dX5_init_116 rfl rfl ?_
  refine e_bipush (v := 8) dX5_init_117 (by decide) ?_
  refine e_icmp_ge (tgt := 141) dX5_init_119 (by decide) (fun h => absurd h (by decide)) (fun _ => ?_)
  refine e_aload_n dX5_init_122 rfl rfl ?_
  refine e_getR (b := 10) dX5_init_123 fRX5_30 (by exact g.sh0 hb) (by exact g.2.2.2.2.1 (0, 5, 10) (by decide)) (fun _ => rfl) ?_
  refine e_iload_n (x := 2) dX5_init_126 rfl rfl ?_
  refine e_new (ci := 1) (rc := 23) (rs := 1033) dX5_init_127 (by decide) clRX5_20 inRX1 ini_RX1 g.zf g.ti (by rw [g.len (n := 36) (by rw [hM]; rfl)]; decide) ?_
  rw [g.len (n := 36) (by rw [hM]; rfl)]
  have h0 : ∀ j, K32.2.1 36 j = 0 := (g.zf 36 (by rw [g.len (n := 36) (by rw [hM]; rfl)]; exact Nat.le_refl _)).1
  replace g := g.add (.inl 1)
  replace h0 : ∀ j, (addK K32 (.inl 1)).2.1 36 j = 0 := h0
  generalize addK _ _ = K33 at g h0 ⊢
  refine e_dup dX5_init_130 rfl ?_
  refine e_callI (b := 36) (d1 := 2) (rc1 := 3) (rs1 := 168) (rc2 := 20) (rs2 := 865) dX5_init_131 mimX1_init lkRX5_22 (by decide) (by decide) (by decide) (by decide) (c_i1 (b := 36) (g.sh (by rw [hM]; rfl)) (g.len (by rw [hM]; rfl)) g.ti g.zf h0 (by decide)) (fun v N h => ?_)
  obtain ⟨rfl, Z1, h⟩ := h
  replace g := g.sub (ok' := okA) h (by decide) (fun q => absurd q (by decide)) (by decide) (fun a ha => ⟨ha, fun q => decide_eq_true (by have := okA_s ha; omega)⟩)
  clear h h0
  rename Mm => K34
  refine e_aastoreT dX5_init_134 (g.sh (by rw [hM]; rfl)) (g.sh (by rw [hM]; rfl)) (by unfold vp_in; decide) ?_
  rw [show Int32.toNatClampNeg 2 = 2 by decide]
  replace g := g.putR (a := 10) (k := 2) (c := 36) (by decide) (by rw [hM]; decide) (by decide)
  generalize sR _ _ _ _ = K35 at g ⊢
  refine e_iinc (v := 3) (L' := [some (.ref 0), some (.int 3)]) dX5_init_135 rfl (by decide) (by decide) rfl rfl ?_
  refine e_goto (tgt := 116) dX5_init_138 (by decide) ?_
  refine e_iload_n (x := 3) dX5_init_116 rfl rfl ?_
  refine e_bipush (v := 8) dX5_init_117 (by decide) ?_
  refine e_icmp_ge (tgt := 141) dX5_init_119 (by decide) (fun h => absurd h (by decide)) (fun _ => ?_)
  refine e_aload_n dX5_init_122 rfl rfl ?_
  refine e_getR (b := 10) dX5_init_123 fRX5_30 (by exact g.sh0 hb) (by exact g.2.2.2.2.1 (0, 5, 10) (by decide)) (fun _ => rfl) ?_
  refine e_iload_n (x := 3) dX5_init_126 rfl rfl ?_
  refine e_new (ci := 1) (rc := 19) (rs := 860) dX5_init_127 (by decide) clRX5_20 inRX1 ini_RX1 g.zf g.ti (by rw [g.len (n := 40) (by rw [hM]; rfl)]; decide) ?_
  rw [g.len (n := 40) (by rw [hM]; rfl)]
  have h0 : ∀ j, K35.2.1 40 j = 0 := (g.zf 40 (by rw [g.len (n := 40) (by rw [hM]; rfl)]; exact Nat.le_refl _)).1
  replace g := g.add (.inl 1)
  replace h0 : ∀ j, (addK K35 (.inl 1)).2.1 40 j = 0 := h0
  generalize addK _ _ = K36 at g h0 ⊢
  refine e_dup dX5_init_130 rfl ?_
  refine e_callI (b := 40) (d1 := 2) (rc1 := 3) (rs1 := 168) (rc2 := 16) (rs2 := 692) dX5_init_131 mimX1_init lkRX5_22 (by decide) (by decide) (by decide) (by decide) (c_i1 (b := 40) (g.sh (by rw [hM]; rfl)) (g.len (by rw [hM]; rfl)) g.ti g.zf h0 (by decide)) (fun v N h => ?_)
  obtain ⟨rfl, Z1, h⟩ := h
  replace g := g.sub (ok' := okA) h (by decide) (fun q => absurd q (by decide)) (by decide) (fun a ha => ⟨ha, fun q => decide_eq_true (by have := okA_s ha; omega)⟩)
  clear h h0
  rename Mm => K37
  refine e_aastoreT dX5_init_134 (g.sh (by rw [hM]; rfl)) (g.sh (by rw [hM]; rfl)) (by unfold vp_in; decide) ?_
  rw [show Int32.toNatClampNeg 3 = 3 by decide]
  replace g := g.putR (a := 10) (k := 3) (c := 40) (by decide) (by rw [hM]; decide) (by decide)
  generalize sR _ _ _ _ = K38 at g ⊢
  refine e_iinc (v := 4) (L' := [some (.ref 0), some (.int 4)]) dX5_init_135 rfl (by decide) (by decide) rfl rfl ?_
  refine e_goto (tgt := 116) dX5_init_138 (by decide) ?_
  refine e_iload_n (x := 4) dX5_init_116 rfl rfl ?_
  refine e_bipush (v := 8) dX5_init_117 (by decide) ?_
  refine e_icmp_ge (tgt := 141) dX5_init_119 (by decide) (fun h => absurd h (by decide)) (fun _ => ?_)
  refine e_aload_n dX5_init_122 rfl rfl ?_
  refine e_getR (b := 10) dX5_init_123 fRX5_30 (by exact g.sh0 hb) (by exact g.2.2.2.2.1 (0, 5, 10) (by decide)) (fun _ => rfl) ?_
  refine e_iload_n (x := 4) dX5_init_126 rfl rfl ?_
  refine e_new (ci := 1) (rc := 15) (rs := 687) dX5_init_127 (by decide) clRX5_20 inRX1 ini_RX1 g.zf g.ti (by rw [g.len (n := 44) (by rw [hM]; rfl)]; decide) ?_
  rw [g.len (n := 44) (by rw [hM]; rfl)]
  have h0 : ∀ j, K38.2.1 44 j = 0 := (g.zf 44 (by rw [g.len (n := 44) (by rw [hM]; rfl)]; exact Nat.le_refl _)).1
  replace g := g.add (.inl 1)
  replace h0 : ∀ j, (addK K38 (.inl 1)).2.1 44 j = 0 := h0
  generalize addK _ _ = K39 at g h0 ⊢
  refine e_dup dX5_init_130 rfl ?_
  refine e_callI (b := 44) (d1 := 2) (rc1 := 3) (rs1 := 168) (rc2 := 12) (rs2 := 519) dX5_init_131 mimX1_init lkRX5_22 (by decide) (by decide) (by decide) (by decide) (c_i1 (b := 44) (g.sh (by rw [hM]; rfl)) (g.len (by rw [hM]; rfl)) g.ti g.zf h0 (by decide)) (fun v N h => ?_)
  obtain ⟨rfl, Z1, h⟩ := h
  replace g := g.sub (ok' := okA) h (by decide) (fun q => absurd q (by decide)) (by decide) (fun a ha => ⟨ha, fun q => decide_eq_true (by have := okA_s ha; omega)⟩)
  clear h h0
  rename Mm => K40
  refine e_aastoreT dX5_init_134 (g.sh (by rw [hM]; rfl)) (g.sh (by rw [hM]; rfl)) (by unfold vp_in; decide) ?_
  rw [show Int32.toNatClampNeg 4 = 4 by decide]
  replace g := g.putR (a := 10) (k := 4) (c := 44) (by decide) (by rw [hM]; decide) (by decide)
  generalize sR _ _ _ _ = K41 at g ⊢
  refine e_iinc (v := 5) (L' := [some (.ref 0), some (.int 5)]) dX5_init_135 rfl (by decide) (by decide) rfl rfl ?_
  refine e_goto (tgt := 116) dX5_init_138 (by decide) ?_
  refine e_iload_n (x := 5) dX5_init_116 rfl rfl ?_
  refine e_bipush (v := 8) dX5_init_117 (by decide) ?_
  refine e_icmp_ge (tgt := 141) dX5_init_119 (by decide) (fun h => absurd h (by decide)) (fun _ => ?_)
  refine e_aload_n dX5_init_122 rfl rfl ?_
  refine e_getR (b := 10) dX5_init_123 fRX5_30 (by exact g.sh0 hb) (by exact g.2.2.2.2.1 (0, 5, 10) (by decide)) (fun _ => rfl) ?_
  refine e_iload_n (x := 5) dX5_init_126 rfl rfl ?_
  refine e_new (ci := 1) (rc := 11) (rs := 514) dX5_init_127 (by decide) clRX5_20 inRX1 ini_RX1 g.zf g.ti (by rw [g.len (n := 48) (by rw [hM]; rfl)]; decide) ?_
  rw [g.len (n := 48) (by rw [hM]; rfl)]
  have h0 : ∀ j, K41.2.1 48 j = 0 := (g.zf 48 (by rw [g.len (n := 48) (by rw [hM]; rfl)]; exact Nat.le_refl _)).1
  replace g := g.add (.inl 1)
  replace h0 : ∀ j, (addK K41 (.inl 1)).2.1 48 j = 0 := h0
  generalize addK _ _ = K42 at g h0 ⊢
  refine e_dup dX5_init_130 rfl ?_
  refine e_callI (b := 48) (d1 := 2) (rc1 := 3) (rs1 := 168) (rc2 := 8) (rs2 := 346) dX5_init_131 mimX1_init lkRX5_22 (by decide) (by decide) (by decide) (by decide) (c_i1 (b := 48) (g.sh (by rw [hM]; rfl)) (g.len (by rw [hM]; rfl)) g.ti g.zf h0 (by decide)) (fun v N h => ?_)
  obtain ⟨rfl, Z1, h⟩ := h
  replace g := g.sub (ok' := okA) h (by decide) (fun q => absurd q (by decide)) (by decide) (fun a ha => ⟨ha, fun q => decide_eq_true (by have := okA_s ha; omega)⟩)
  clear h h0
  rename Mm => K43
  refine e_aastoreT dX5_init_134 (g.sh (by rw [hM]; rfl)) (g.sh (by rw [hM]; rfl)) (by unfold vp_in; decide) ?_
  rw [show Int32.toNatClampNeg 5 = 5 by decide]
  replace g := g.putR (a := 10) (k := 5) (c := 48) (by decide) (by rw [hM]; decide) (by decide)
  generalize sR _ _ _ _ = K44 at g ⊢
  refine e_iinc (v := 6) (L' := [some (.ref 0), some (.int 6)]) dX5_init_135 rfl (by decide) (by decide) rfl rfl ?_
  refine e_goto (tgt := 116) dX5_init_138 (by decide) ?_
  refine e_iload_n (x := 6) dX5_init_116 rfl rfl ?_
  refine e_bipush (v := 8) dX5_init_117 (by decide) ?_
  refine e_icmp_ge (tgt := 141) dX5_init_119 (by decide) (fun h => absurd h (by decide)) (fun _ => ?_)
  refine e_aload_n dX5_init_122 rfl rfl ?_
  refine e_getR (b := 10) dX5_init_123 fRX5_30 (by exact g.sh0 hb) (by exact g.2.2.2.2.1 (0, 5, 10) (by decide)) (fun _ => rfl) ?_
  refine e_iload_n (x := 6) dX5_init_126 rfl rfl ?_
  refine e_new (ci := 1) (rc := 7) (rs := 341) dX5_init_127 (by decide) clRX5_20 inRX1 ini_RX1 g.zf g.ti (by rw [g.len (n := 52) (by rw [hM]; rfl)]; decide) ?_
  rw [g.len (n := 52) (by rw [hM]; rfl)]
  have h0 : ∀ j, K44.2.1 52 j = 0 := (g.zf 52 (by rw [g.len (n := 52) (by rw [hM]; rfl)]; exact Nat.le_refl _)).1
  replace g := g.add (.inl 1)
  replace h0 : ∀ j, (addK K44 (.inl 1)).2.1 52 j = 0 := h0
  generalize addK _ _ = K45 at g h0 ⊢
  refine e_dup dX5_init_130 rfl ?_
  refine e_callI (b := 52) (d1 := 2) (rc1 := 3) (rs1 := 168) (rc2 := 4) (rs2 := 173) dX5_init_131 mimX1_init lkRX5_22 (by decide) (by decide) (by decide) (by decide) (c_i1 (b := 52) (g.sh (by rw [hM]; rfl)) (g.len (by rw [hM]; rfl)) g.ti g.zf h0 (by decide)) (fun v N h => ?_)
  obtain ⟨rfl, Z1, h⟩ := h
  replace g := g.sub (ok' := okA) h (by decide) (fun q => absurd q (by decide)) (by decide) (fun a ha => ⟨ha, fun q => decide_eq_true (by have := okA_s ha; omega)⟩)
  clear h h0
  rename Mm => K46
  refine e_aastoreT dX5_init_134 (g.sh (by rw [hM]; rfl)) (g.sh (by rw [hM]; rfl)) (by unfold vp_in; decide) ?_
  rw [show Int32.toNatClampNeg 6 = 6 by decide]
  replace g := g.putR (a := 10) (k := 6) (c := 52) (by decide) (by rw [hM]; decide) (by decide)
  generalize sR _ _ _ _ = K47 at g ⊢
  refine e_iinc (v := 7) (L' := [some (.ref 0), some (.int 7)]) dX5_init_135 rfl (by decide) (by decide) rfl rfl ?_
  refine e_goto (tgt := 116) dX5_init_138 (by decide) ?_
  refine e_iload_n (x := 7) dX5_init_116 rfl rfl ?_
  refine e_bipush (v := 8) dX5_init_117 (by decide) ?_
  refine e_icmp_ge (tgt := 141) dX5_init_119 (by decide) (fun h => absurd h (by decide)) (fun _ => ?_)
  refine e_aload_n dX5_init_122 rfl rfl ?_
  refine e_getR (b := 10) dX5_init_123 fRX5_30 (by exact g.sh0 hb) (by exact g.2.2.2.2.1 (0, 5, 10) (by decide)) (fun _ => rfl) ?_
  refine e_iload_n (x := 7) dX5_init_126 rfl rfl ?_
  refine e_new (ci := 1) (rc := 3) (rs := 168) dX5_init_127 (by decide) clRX5_20 inRX1 ini_RX1 g.zf g.ti (by rw [g.len (n := 56) (by rw [hM]; rfl)]; decide) ?_
  rw [g.len (n := 56) (by rw [hM]; rfl)]
  have h0 : ∀ j, K47.2.1 56 j = 0 := (g.zf 56 (by rw [g.len (n := 56) (by rw [hM]; rfl)]; exact Nat.le_refl _)).1
  replace g := g.add (.inl 1)
  replace h0 : ∀ j, (addK K47 (.inl 1)).2.1 56 j = 0 := h0
  generalize addK _ _ = K48 at g h0 ⊢
  refine e_dup dX5_init_130 rfl ?_
  refine e_callI (b := 56) (d1 := 2) (rc1 := 3) (rs1 := 168) (rc2 := 0) (rs2 := 0) dX5_init_131 mimX1_init lkRX5_22 (by decide) (by decide) (by decide) (by decide) (c_i1 (b := 56) (g.sh (by rw [hM]; rfl)) (g.len (by rw [hM]; rfl)) g.ti g.zf h0 (by decide)) (fun v N h => ?_)
  obtain ⟨rfl, Z1, h⟩ := h
  replace g := g.sub (ok' := okA) h (by decide) (fun q => absurd q (by decide)) (by decide) (fun a ha => ⟨ha, fun q => decide_eq_true (by have := okA_s ha; omega)⟩)
  clear h h0
  rename Mm => K49
  refine e_aastoreT dX5_init_134 (g.sh (by rw [hM]; rfl)) (g.sh (by rw [hM]; rfl)) (by unfold vp_in; decide) ?_
  rw [show Int32.toNatClampNeg 7 = 7 by decide]
  replace g := g.putR (a := 10) (k := 7) (c := 56) (by decide) (by rw [hM]; decide) (by decide)
  generalize sR _ _ _ _ = K50 at g ⊢
  refine e_iinc (v := 8) (L' := [some (.ref 0), some (.int 8)]) dX5_init_135 rfl (by decide) (by decide) rfl rfl ?_
  refine e_goto (tgt := 116) dX5_init_138 (by decide) ?_
  refine e_iload_n (x := 8) dX5_init_116 rfl rfl ?_
  refine e_bipush (v := 8) dX5_init_117 (by decide) ?_
  refine e_icmp_ge (tgt := 141) dX5_init_119 (by decide) (fun _ => ?_) (fun h => absurd (by decide) h)
  refine e_aload_n dX5_init_141 rfl rfl ?_
  refine e_getR (b := 2) dX5_init_142 fRX5_23 (by exact g.sh0 hb) (by exact g.2.2.2.2.1 (0, 3, 2) (by decide)) (fun _ => rfl) ?_
  refine e_iconst (v := 2) dX5_init_145 (by decide) ?_
  have hN : NetAt K50 2 := ⟨g.sh (by rw [hM]; rfl), g.sh (by rw [hM]; rfl), g.sh (by rw [hM]; rfl), g.sh (by rw [hM]; rfl), g.2.2.2.2.1 (2, 2, 3) (by decide), g.2.2.2.2.1 (2, 3, 4) (by decide), g.2.2.2.2.1 (2, 4, 5) (by decide)⟩
  refine e_callV1 [_] dX5_init_146 mvmX1_clear lkRX5_71 (by exact g.sh (by rw [hM]; rfl)) ⟨by decide, rfl⟩ rfl rfl (Nat.le_of_ble_eq_true rfl) (by decide) (c_clear (c := 2) hN) (fun v N h => ?_)
  clear hN
  obtain ⟨rfl, hN, hf⟩ := h
  replace g := g.fr (ok' := okA) hf (by decide) (by rw [hM]; decide) (fun a ha => ⟨ha, by have := okA_s ha; omega⟩)
  clear hf
  rename Mm => K51
  refine e_aload_n dX5_init_149 rfl rfl ?_
  refine e_getR (b := 2) dX5_init_150 fRX5_23 (by exact g.sh0 hb) (by exact g.2.2.2.2.1 (0, 3, 2) (by decide)) (fun _ => rfl) ?_
  refine e_iconst (v := 0) dX5_init_153 (by decide) ?_
  refine e_iconst (v := 1) dX5_init_154 (by decide) ?_
  refine e_iconst (v := 1) dX5_init_155 (by decide) ?_
  refine e_callV1 [_, _, _] dX5_init_156 mvmX1_putLine lkRX5_75 (by exact g.sh (by rw [hM]; rfl)) ⟨by decide, rfl⟩ rfl rfl (Nat.le_of_ble_eq_true rfl) (by decide) (c_putLine (a := 0) (b := 1) (k := 1) hN (fun _ _ => rfl) (by decide) (by decide) (by decide)) (fun v N h => ?_)
  clear hN
  obtain ⟨rfl, hN, hf⟩ := h
  replace g := g.fr (ok' := okA) hf (by decide) (by rw [hM]; decide) (fun a ha => ⟨ha, by have := okA_s ha; omega⟩)
  clear hf
  rename Mm => K52
  exact e_vret dX5_init_159 rfl (⟨none, rfl, rfl, _, g, rfl, rfl, rfl, hN⟩)
