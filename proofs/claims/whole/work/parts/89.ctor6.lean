/-! the constructor of the Model -/
def okM (a : Nat) : Bool := decide (a ≠ 63)
theorem okM_s {a : Nat} (h : okM a = true) : a ≠ 63 := of_decide_eq_true h
def l6 : List (Nat × Nat × Nat) := [(60, 26, 82), (60, 24, 81), (60, 21, 80), (60, 20, 79), (60, 18, 78), (60, 17, 77), (60, 16, 76), (60, 15, 75), (60, 13, 74), (60, 11, 65), (65, 0, 66), (65, 1, 67), (65, 2, 68), (65, 3, 69), (65, 4, 70), (65, 5, 71), (65, 6, 72), (65, 7, 73), (60, 10, 64), (60, 9, 63), (60, 8, 62), (60, 1, 61)]
def ks6 : List Kd := (SZ.take 83).drop 61
theorem c_changes0 {B : Bd} {M : Mm} (hb : M.1.1[60]? = some (.inl 6)) : Ct B mX6_changes 0 0 0 [.ref 60] M (Is none (sI M 60 19 0)) := by
  refine Ct.of (by decide) rfl rfl (Nat.le_of_ble_eq_true rfl) ?_
  refine e_aload_n dX6_changes_0 rfl rfl ?_
  refine e_iconst (v := 0) dX6_changes_1 (by decide) ?_
  refine e_putI dX6_changes_2 fRX6_187 hb rfl rfl rfl (fun _ _ => rfl) ?_
  exact e_vret dX6_changes_5 rfl (⟨rfl, rfl⟩)
theorem now_start {K : Mm} (hx : ∀ i, i < 157 → K.2.1 63 i = -1) : NowR (sI (sI (sI K 63 0 2) 63 (13 + 12 * 0 + 1) 1) 63 (13 + 12 * 1 + 0) 1) 63 g00 := by
  have e : ∀ i, (sI (sI (sI K 63 0 2) 63 (13 + 12 * 0 + 1) 1) 63 (13 + 12 * 1 + 0) 1).2.1 63 i = if i = 25 then 1 else if i = 14 then 1 else if i = 0 then 2 else K.2.1 63 i := fun i => by
    show u2 (u2 (u2 K.2.1 63 0 2) 63 14 1) 63 25 1 63 i = _
    simp [u2]
  refine ⟨by rw [e]; rfl, fun x hx1 => ?_, fun x y h1 h2 => ?_⟩
  · rw [e, if_neg (by omega), if_neg (by omega), if_neg (by omega), hx _ (by omega)]; rfl
  · rw [e, hx _ (by omega)]
    have hc : (x = 0 ∧ y = 1) ∨ (x = 1 ∧ y = 0) ∨ (¬ (x = 0 ∧ y = 1) ∧ ¬ (x = 1 ∧ y = 0)) := by omega
    rcases hc with ⟨rfl, rfl⟩ | ⟨rfl, rfl⟩ | ⟨n1, n2⟩
    · rfl
    · rfl
    · rw [if_neg (by omega), if_neg (by omega), if_neg (by omega)]
      have e9 : g00.2.1 x y = none := by
        show w2 (fun _ _ => none) 0 1 (some 1) x y = none
        unfold w2
        rw [if_neg (by omega)]
      rw [e9]; rfl
set_option maxHeartbeats 40000000 in
theorem c_i6 {B : Bd} {M : Mm} (hM : M.1 = (SZ.take 61, true)) (hz : Zf M) (h0 : ∀ j, M.2.1 60 j = 0) : Ct B mX6_init 1 22 68154 [.ref 60] M (Rt (fun v N => v = none ∧ ∃ Z, Gs Z okM 60 ks6 l6 M N ∧ Z 2 = 0 ∧ Z 5 = -1 ∧ Z 12 = 0 ∧ Z 19 = 0 ∧ NowR N 63 g00)) := by
  refine Ct.of (by decide) rfl rfl (Nat.le_of_ble_eq_true rfl) ?_
  have hb : M.1.1[60]? = some (.inl 6) := by rw [hM]; rfl
  have hbl : 60 < M.1.1.length := by rw [hM]; decide
  have g := Gs.start (b := 60) (by rw [hM]; rfl) (by rw [hM]) hz h0
  clear h0 hz
  refine e_aload_n dX6_init_0 rfl rfl ?_
  refine e_objInit dX6_init_1 oi6 oi_in oi_co (by decide) (by decide) ?_
  refine e_aload_n dX6_init_4 rfl rfl ?_
  refine e_iconst (v := 3) dX6_init_5 (by decide) ?_
  refine e_newI (N := 3) (rc := 21) (rs := 68151) dX6_init_6 (by decide) (by decide) (by decide) g.zf g.ti (by rw [g.len (n := 61) (by rw [hM]; rfl)]; decide) ?_
  rw [g.len (n := 61) (by rw [hM]; rfl)]
  replace g := g.add (.inr (.int, 3))
  generalize addK _ _ = K0 at g ⊢
  refine e_putR dX6_init_8 fRX6_9 (by exact g.sh0 hb) (by first | exact Or.inl rfl | exact Or.inr ⟨rfl, rfl, rfl⟩) (fun _ => ⟨rfl, rfl⟩) (fun _ _ => rfl) ?_
  replace g := g.putR (a := 60) (k := 1) (c := 61) (Nat.le_refl _) (by rw [hM]; decide) (by decide)
  generalize sR _ _ _ _ = K1 at g ⊢
  refine e_aload_n dX6_init_11 rfl rfl ?_
  refine e_iconst (v := (-1)) dX6_init_12 (by decide) ?_
  refine e_putI dX6_init_13 fRX6_13 (by exact g.sh0 hb) rfl rfl rfl (fun _ _ => rfl) ?_
  replace g := g.putI (j := 5) (v := (-1)) hbl
  generalize sI _ _ _ _ = K2 at g ⊢
  refine e_aload_n dX6_init_16 rfl rfl ?_
  refine e_sipush (v := 500) dX6_init_17 (by decide) ?_
  refine e_newI (N := 500) (rc := 20) (rs := 67651) dX6_init_20 (by decide) (by decide) (by decide) g.zf g.ti (by rw [g.len (n := 62) (by rw [hM]; rfl)]; decide) ?_
  rw [g.len (n := 62) (by rw [hM]; rfl)]
  replace g := g.add (.inr (.int, 500))
  generalize addK _ _ = K3 at g ⊢
  refine e_putR dX6_init_22 fRX6_17 (by exact g.sh0 hb) (by first | exact Or.inl rfl | exact Or.inr ⟨rfl, rfl, rfl⟩) (fun _ => ⟨rfl, rfl⟩) (fun _ _ => rfl) ?_
  replace g := g.putR (a := 60) (k := 8) (c := 62) (Nat.le_refl _) (by rw [hM]; decide) (by decide)
  generalize sR _ _ _ _ = K4 at g ⊢
  refine e_aload_n dX6_init_25 rfl rfl ?_
  refine e_sipush (v := 157) dX6_init_26 (by decide) ?_
  refine e_newI (N := 157) (rc := 19) (rs := 67494) dX6_init_29 (by decide) (by decide) (by decide) g.zf g.ti (by rw [g.len (n := 63) (by rw [hM]; rfl)]; decide) ?_
  rw [g.len (n := 63) (by rw [hM]; rfl)]
  replace g := g.add (.inr (.int, 157))
  generalize addK _ _ = K5 at g ⊢
  refine e_putR dX6_init_31 fRX6_20 (by exact g.sh0 hb) (by first | exact Or.inl rfl | exact Or.inr ⟨rfl, rfl, rfl⟩) (fun _ => ⟨rfl, rfl⟩) (fun _ _ => rfl) ?_
  replace g := g.putR (a := 60) (k := 9) (c := 63) (Nat.le_refl _) (by rw [hM]; decide) (by decide)
  generalize sR _ _ _ _ = K6 at g ⊢
  refine e_aload_n dX6_init_34 rfl rfl ?_
  refine e_sipush (v := 157) dX6_init_35 (by decide) ?_
  refine e_newI (N := 157) (rc := 18) (rs := 67337) dX6_init_38 (by decide) (by decide) (by decide) g.zf g.ti (by rw [g.len (n := 64) (by rw [hM]; rfl)]; decide) ?_
  rw [g.len (n := 64) (by rw [hM]; rfl)]
  replace g := g.add (.inr (.int, 157))
  generalize addK _ _ = K7 at g ⊢
  refine e_putR dX6_init_40 fRX6_23 (by exact g.sh0 hb) (by first | exact Or.inl rfl | exact Or.inr ⟨rfl, rfl, rfl⟩) (fun _ => ⟨rfl, rfl⟩) (fun _ _ => rfl) ?_
  replace g := g.putR (a := 60) (k := 10) (c := 64) (Nat.le_refl _) (by rw [hM]; decide) (by decide)
  generalize sR _ _ _ _ = K8 at g ⊢
  refine e_aload_n dX6_init_43 rfl rfl ?_
  refine e_bipush (v := 8) dX6_init_44 (by decide) ?_
  refine e_sipush (v := 157) dX6_init_46 (by decide) ?_
  refine e_manew (N := 8) (K := 157) (rc := 9) (rs := 66073) dX6_init_49 clRX6_26 (by decide) (by decide) (by decide) (by decide) (by decide) (by decide) g.zf g.ti (by rw [g.len (n := 65) (by rw [hM]; rfl)]; decide) ?_
  rw [g.len (n := 65) (by rw [hM]; rfl)]
  replace g := g.rows (n := 8) (k := 157) (a := 65) (by rw [hM]; rfl) (by decide) (by decide)
  generalize addG _ _ _ = K9 at g ⊢
  refine e_putR dX6_init_53 fRX6_28 (by exact g.sh0 hb) (by first | exact Or.inl rfl | exact Or.inr ⟨rfl, rfl, rfl⟩) (fun _ => ⟨rfl, rfl⟩) (fun _ _ => rfl) ?_
  replace g := g.putR (a := 60) (k := 11) (c := 65) (Nat.le_refl _) (by rw [hM]; decide) (by decide)
  generalize sR _ _ _ _ = K10 at g ⊢
  refine e_aload_n dX6_init_56 rfl rfl ?_
  refine e_sipush (v := 500) dX6_init_57 (by decide) ?_
  refine e_newI (N := 500) (rc := 8) (rs := 65573) dX6_init_60 (by decide) (by decide) (by decide) g.zf g.ti (by rw [g.len (n := 74) (by rw [hM]; rfl)]; decide) ?_
  rw [g.len (n := 74) (by rw [hM]; rfl)]
  replace g := g.add (.inr (.int, 500))
  generalize addK _ _ = K11 at g ⊢
  refine e_putR dX6_init_62 fRX6_31 (by exact g.sh0 hb) (by first | exact Or.inl rfl | exact Or.inr ⟨rfl, rfl, rfl⟩) (fun _ => ⟨rfl, rfl⟩) (fun _ _ => rfl) ?_
  replace g := g.putR (a := 60) (k := 13) (c := 74) (Nat.le_refl _) (by rw [hM]; decide) (by decide)
  generalize sR _ _ _ _ = K12 at g ⊢
  refine e_aload_n dX6_init_65 rfl rfl ?_
  refine e_sipush (v := 4096) dX6_init_66 (by decide) ?_
  refine e_newI (N := 4096) (rc := 7) (rs := 61477) dX6_init_69 (by decide) (by decide) (by decide) g.zf g.ti (by rw [g.len (n := 75) (by rw [hM]; rfl)]; decide) ?_
  rw [g.len (n := 75) (by rw [hM]; rfl)]
  replace g := g.add (.inr (.int, 4096))
  generalize addK _ _ = K13 at g ⊢
  refine e_putR dX6_init_71 fRX6_34 (by exact g.sh0 hb) (by first | exact Or.inl rfl | exact Or.inr ⟨rfl, rfl, rfl⟩) (fun _ => ⟨rfl, rfl⟩) (fun _ _ => rfl) ?_
  replace g := g.putR (a := 60) (k := 15) (c := 75) (Nat.le_refl _) (by rw [hM]; decide) (by decide)
  generalize sR _ _ _ _ = K14 at g ⊢
  refine e_aload_n dX6_init_74 rfl rfl ?_
  refine e_sipush (v := 4096) dX6_init_75 (by decide) ?_
  refine e_newI (N := 4096) (rc := 6) (rs := 57381) dX6_init_78 (by decide) (by decide) (by decide) g.zf g.ti (by rw [g.len (n := 76) (by rw [hM]; rfl)]; decide) ?_
  rw [g.len (n := 76) (by rw [hM]; rfl)]
  replace g := g.add (.inr (.int, 4096))
  generalize addK _ _ = K15 at g ⊢
  refine e_putR dX6_init_80 fRX6_37 (by exact g.sh0 hb) (by first | exact Or.inl rfl | exact Or.inr ⟨rfl, rfl, rfl⟩) (fun _ => ⟨rfl, rfl⟩) (fun _ _ => rfl) ?_
  replace g := g.putR (a := 60) (k := 16) (c := 76) (Nat.le_refl _) (by rw [hM]; decide) (by decide)
  generalize sR _ _ _ _ = K16 at g ⊢
  refine e_aload_n dX6_init_83 rfl rfl ?_
  refine e_sipush (v := 4096) dX6_init_84 (by decide) ?_
  refine e_newI (N := 4096) (rc := 5) (rs := 53285) dX6_init_87 (by decide) (by decide) (by decide) g.zf g.ti (by rw [g.len (n := 77) (by rw [hM]; rfl)]; decide) ?_
  rw [g.len (n := 77) (by rw [hM]; rfl)]
  replace g := g.add (.inr (.int, 4096))
  generalize addK _ _ = K17 at g ⊢
  refine e_putR dX6_init_89 fRX6_40 (by exact g.sh0 hb) (by first | exact Or.inl rfl | exact Or.inr ⟨rfl, rfl, rfl⟩) (fun _ => ⟨rfl, rfl⟩) (fun _ _ => rfl) ?_
  replace g := g.putR (a := 60) (k := 17) (c := 77) (Nat.le_refl _) (by rw [hM]; decide) (by decide)
  generalize sR _ _ _ _ = K18 at g ⊢
  refine e_aload_n dX6_init_92 rfl rfl ?_
  refine e_sipush (v := 4096) dX6_init_93 (by decide) ?_
  refine e_newJ (N := 4096) (rc := 4) (rs := 49189) dX6_init_96 (by decide) (by decide) (by decide) g.zf g.ti (by rw [g.len (n := 78) (by rw [hM]; rfl)]; decide) ?_
  rw [g.len (n := 78) (by rw [hM]; rfl)]
  replace g := g.add (.inr (.long, 4096))
  generalize addK _ _ = K19 at g ⊢
  refine e_putR dX6_init_98 fRX6_43 (by exact g.sh0 hb) (by first | exact Or.inl rfl | exact Or.inr ⟨rfl, rfl, rfl⟩) (fun _ => ⟨rfl, rfl⟩) (fun _ _ => rfl) ?_
  replace g := g.putR (a := 60) (k := 18) (c := 78) (Nat.le_refl _) (by rw [hM]; decide) (by decide)
  generalize sR _ _ _ _ = K20 at g ⊢
  refine e_aload_n dX6_init_101 rfl rfl ?_
  refine e_bipush (v := 12) dX6_init_102 (by decide) ?_
  refine e_newI (N := 12) (rc := 3) (rs := 49177) dX6_init_104 (by decide) (by decide) (by decide) g.zf g.ti (by rw [g.len (n := 79) (by rw [hM]; rfl)]; decide) ?_
  rw [g.len (n := 79) (by rw [hM]; rfl)]
  replace g := g.add (.inr (.int, 12))
  generalize addK _ _ = K21 at g ⊢
  refine e_putR dX6_init_106 fRX6_47 (by exact g.sh0 hb) (by first | exact Or.inl rfl | exact Or.inr ⟨rfl, rfl, rfl⟩) (fun _ => ⟨rfl, rfl⟩) (fun _ _ => rfl) ?_
  replace g := g.putR (a := 60) (k := 20) (c := 79) (Nat.le_refl _) (by rw [hM]; decide) (by decide)
  generalize sR _ _ _ _ = K22 at g ⊢
  refine e_aload_n dX6_init_109 rfl rfl ?_
  refine e_ldc dX6_init_110 kRX6_50 ?_
  refine e_newZ (N := 49152) (rc := 2) (rs := 25) dX6_init_112 (by decide) (by decide) (by decide) g.zf g.ti (by rw [g.len (n := 80) (by rw [hM]; rfl)]; decide) ?_
  rw [g.len (n := 80) (by rw [hM]; rfl)]
  replace g := g.add (.inr (.boolean, 49152))
  generalize addK _ _ = K23 at g ⊢
  refine e_putR dX6_init_114 fRX6_51 (by exact g.sh0 hb) (by first | exact Or.inl rfl | exact Or.inr ⟨rfl, rfl, rfl⟩) (fun _ => ⟨rfl, rfl⟩) (fun _ _ => rfl) ?_
  replace g := g.putR (a := 60) (k := 21) (c := 80) (Nat.le_refl _) (by rw [hM]; decide) (by decide)
  generalize sR _ _ _ _ = K24 at g ⊢
  refine e_aload_n dX6_init_117 rfl rfl ?_
  refine e_bipush (v := 13) dX6_init_118 (by decide) ?_
  refine e_newI (N := 13) (rc := 1) (rs := 12) dX6_init_120 (by decide) (by decide) (by decide) g.zf g.ti (by rw [g.len (n := 81) (by rw [hM]; rfl)]; decide) ?_
  rw [g.len (n := 81) (by rw [hM]; rfl)]
  replace g := g.add (.inr (.int, 13))
  generalize addK _ _ = K25 at g ⊢
  refine e_putR dX6_init_122 fRX6_55 (by exact g.sh0 hb) (by first | exact Or.inl rfl | exact Or.inr ⟨rfl, rfl, rfl⟩) (fun _ => ⟨rfl, rfl⟩) (fun _ _ => rfl) ?_
  replace g := g.putR (a := 60) (k := 24) (c := 81) (Nat.le_refl _) (by rw [hM]; decide) (by decide)
  generalize sR _ _ _ _ = K26 at g ⊢
  refine e_aload_n dX6_init_125 rfl rfl ?_
  refine e_bipush (v := 12) dX6_init_126 (by decide) ?_
  refine e_newI (N := 12) (rc := 0) (rs := 0) dX6_init_128 (by decide) (by decide) (by decide) g.zf g.ti (by rw [g.len (n := 82) (by rw [hM]; rfl)]; decide) ?_
  rw [g.len (n := 82) (by rw [hM]; rfl)]
  replace g := g.add (.inr (.int, 12))
  generalize addK _ _ = K27 at g ⊢
  refine e_putR dX6_init_130 fRX6_58 (by exact g.sh0 hb) (by first | exact Or.inl rfl | exact Or.inr ⟨rfl, rfl, rfl⟩) (fun _ => ⟨rfl, rfl⟩) (fun _ _ => rfl) ?_
  replace g := g.putR (a := 60) (k := 26) (c := 82) (Nat.le_refl _) (by rw [hM]; decide) (by decide)
  generalize sR _ _ _ _ = K28 at g ⊢
  refine e_aload_n dX6_init_133 rfl rfl ?_
  refine e_getR (b := 63) dX6_init_134 fRX6_20 (by exact g.sh0 hb) (by exact g.2.2.2.2.1 (60, 9, 63) (by decide)) (fun _ => rfl) ?_
  refine e_callS1 [_] dX6_init_137 msmX6_begins lkRX6_61 rfl rfl (Nat.le_of_ble_eq_true rfl) (by decide) (c_begins (a := 63) (g.sh (by rw [hM]; rfl))) (fun v N h => ?_)
  obtain ⟨rfl, hf, hx⟩ := h
  replace g := g.fr (ok' := okM) hf (by decide) (by rw [hM]; decide) (fun a ha => ⟨rfl, by have := okM_s ha; omega⟩)
  clear hf
  rename Mm => K29
  refine e_aload_n dX6_init_140 rfl rfl ?_
  refine e_getR (b := 63) dX6_init_141 fRX6_20 (by exact g.sh0 hb) (by exact g.2.2.2.2.1 (60, 9, 63) (by decide)) (fun _ => rfl) ?_
  refine e_iconst (v := 0) dX6_init_144 (by decide) ?_
  refine e_iconst (v := 2) dX6_init_145 (by decide) ?_
  refine e_iastore dX6_init_146 (g.sh (by rw [hM]; rfl)) (by unfold vp_in; decide) ?_
  rw [show Int32.toNatClampNeg 0 = 0 by decide]
  replace g := g.fr (ok' := okM) (Fr.rf.sI (i := 0) (v := 2) (lo := 63) (hi := 63) (a := 63) (by decide) (by decide)) (by decide) (by rw [hM]; decide) (fun a ha => ⟨ha, by have := okM_s ha; omega⟩)
  refine e_aload_n dX6_init_147 rfl rfl ?_
  refine e_getR (b := 63) dX6_init_148 fRX6_20 (by exact g.sh0 hb) (by exact g.2.2.2.2.1 (60, 9, 63) (by decide)) (fun _ => rfl) ?_
  refine e_iconst (v := 0) dX6_init_151 (by decide) ?_
  refine e_iconst (v := 1) dX6_init_152 (by decide) ?_
  refine e_iconst (v := 1) dX6_init_153 (by decide) ?_
  refine e_callS0v [_, _, _, _] dX6_init_154 msmX6_joins lkRX6_65 rfl rfl (Nat.le_of_ble_eq_true rfl) (by decide) (c_joins (a := 0) (b := 1) (g.sh (by rw [hM]; rfl)) (by decide) (by decide)) ?_
  replace g := g.fr (ok' := okM) ((Fr.rf.sI (i := 13 + 12 * 0 + 1) (v := 1) (lo := 63) (hi := 63) (a := 63) (by decide) (by decide)).sI (a := 63) (i := 13 + 12 * 1 + 0) (v := 1) (by decide) (by decide)) (by decide) (by rw [hM]; decide) (fun a ha => ⟨ha, by have := okM_s ha; omega⟩)
  replace hx := now_start hx
  generalize sI (sI _ _ _ _) _ _ _ = K30 at g hx ⊢
  refine e_aload_n dX6_init_157 rfl rfl ?_
  refine e_callV0v [] dX6_init_158 mvmX6_changes lkRX6_69 (by exact g.sh0 hb) ⟨by decide, rfl⟩ rfl rfl (Nat.le_of_ble_eq_true rfl) (by decide) (c_changes0 (g.sh0 hb)) ?_
  replace g := g.putI (j := 19) (v := 0) hbl
  replace hx : NowR (sI K30 60 19 0) 63 g00 := hx.at (show (sI K30 60 19 0).2.1 63 = K30.2.1 63 from (show u2 K30.2.1 60 19 0 63 = K30.2.1 63 from u2_ne _ _ _ (by decide)))
  exact e_vret dX6_init_161 rfl (⟨none, rfl, rfl, _, g, rfl, rfl, rfl, rfl, hx⟩)
