/-! the Model's acts -/
theorem MI.tape {M : Mm} {s : Sx} {T : Nat → Nat} {l : Nat} {v : Int32} (h : MI M s) (hv : v = nI l) (hl : l ≤ 500) (hT : (∀ i, T i < 256) ∧ ∀ i, i < 500 → M.2.1 62 i = nI (T i)) : MI (sI M 60 2 v) (setT s T l) := by
  obtain ⟨ok, ⟨a1, a2, a3, a4, a5⟩, ⟨b1, b2⟩, ⟨c1, c2⟩, d1, e1, f1⟩ := h
  have e : ∀ b, b ≠ 60 → (sI M 60 2 v).2.1 b = M.2.1 b := fun b hb => u2_ne _ _ _ hb
  exact ⟨ok.of rfl rfl, ⟨by rw [rd_self]; exact hv, hl, by rw [rd_ni (by decide)]; exact a3, by rw [rd_ni (by decide)]; exact a4, a5⟩, ⟨hT.1, fun i hi => by rw [e 62 (by decide)]; exact hT.2 i hi⟩, ⟨c1.at (e 63 (by decide)), c2⟩, fun i g hg => ⟨(d1 i g hg).1.at (e _ (by omega)), (d1 i g hg).2⟩, e1.at (by rw [rd_ni (by decide)]) (e _ (by decide)) (e _ (by decide)) (e _ (by decide)) rfl, fun i hi => by rw [e 61 (by decide)]; exact f1 i hi⟩
theorem MI.place {M : Mm} {s : Sx} {v : Int32} (h : MI M s) : MI (sI M 60 5 v) (setF s v) := by
  obtain ⟨ok, ⟨a1, a2, a3, a4, a5⟩, ⟨b1, b2⟩, ⟨c1, c2⟩, d1, e1, f1⟩ := h
  have e : ∀ b, b ≠ 60 → (sI M 60 5 v).2.1 b = M.2.1 b := fun b hb => u2_ne _ _ _ hb
  exact ⟨ok.of rfl rfl, ⟨by rw [rd_ni (by decide)]; exact a1, a2, by rw [rd_self]; rfl, by rw [rd_ni (by decide)]; exact a4, a5⟩, ⟨b1, fun i hi => by rw [e 62 (by decide)]; exact b2 i hi⟩, ⟨c1.at (e 63 (by decide)), c2⟩, fun i g hg => ⟨(d1 i g hg).1.at (e _ (by omega)), (d1 i g hg).2⟩, e1.at (by rw [rd_ni (by decide)]) (e _ (by decide)) (e _ (by decide)) (e _ (by decide)) rfl, fun i hi => by rw [e 61 (by decide)]; exact f1 i hi⟩
theorem byA_m1 {T : Nat → Nat} {n q : Nat} (hT : T q < 256) : byA T n q = -1 ↔ ¬ q < n := by
  unfold byA
  by_cases h : q < n
  · rw [if_pos h]
    constructor
    · intro e
      have : (nI (T q)).toInt = (-1 : Int32).toInt := by rw [e]
      rw [nI_toInt (by omega)] at this
      have h2 : (-1 : Int32).toInt = -1 := by decide
      omega
    · intro q; exact absurd h q
  · rw [if_neg h]; exact ⟨fun _ => h, fun _ => rfl⟩
theorem c_mtext {B : Bd} {M : Mm} {s : Sx} {x : Int32} (h : MI M s) : Ct B mX6_text 6 0 0 [.ref 60, .int x] M (MPo M (sText s x)) := by
  refine Ct.of (by decide) rfl rfl (Nat.le_of_ble_eq_true rfl) ?_
  refine e_aload_n dX6_text_0 rfl rfl ?_
  refine e_iconst (v := 0) dX6_text_1 (by decide) ?_
  refine e_putI dX6_text_2 fRX6_72 (by exact h.1.sh rfl) rfl rfl rfl (fun _ _ => rfl) ?_
  generalize hM1 : sI M 60 0 0 = M1
  have h1 : MI M1 s := by rw [← hM1]; exact h.t
  have z1 : M1.2.1 60 0 = 0 := by rw [← hM1, rd_self]
  have f1 : FM M M1 := by rw [← hM1]; exact FM.rf.sI (by decide)
  have hl5 := h1.2.1.2.1
  refine e_aload_n dX6_text_5 rfl rfl ?_
  refine e_iload_n dX6_text_6 rfl rfl ?_
  refine e_iconst (v := 0) dX6_text_7 (by decide) ?_
  refine e_aload_n dX6_text_8 rfl rfl ?_
  refine e_getI dX6_text_9 fRX6_75 (by exact h1.1.sh rfl) (fun _ => rfl) ?_
  rw [h1.2.1.1]
  refine e_callS0i [_, _, _] dX6_text_12 msmX6_in lkRX6_111 rfl rfl (Nat.le_of_ble_eq_true rfl) (by decide) (c_in (x := x) (lo := 0) (hi := nI (sll s))) ?_
  have e5 : (0 : Int32).toInt = 0 := rfl
  rw [e5, nI_toInt (by omega)]
  by_cases hin : 0 ≤ x.toInt ∧ x.toInt ≤ sll s
  · rw [if_pos hin]
    refine e_if_ne (tgt := 22) dX6_text_15 (by decide) (fun _ => ?_) (fun hz => absurd hz (by decide))
    refine e_iconst (v := 0) dX6_text_22 (by decide) ?_
    refine e_iconst (v := 1) dX6_text_23 (by decide) ?_
    refine e_iconst (v := 1) dX6_text_24 (by decide) ?_
    refine e_callV0i [_, _, _] dX6_text_25 mvmX6_bad lkRX6_159 (by exact h1.1.sh rfl) ⟨by decide, rfl⟩ rfl rfl (Nat.le_of_ble_eq_true rfl) (by decide) (c_bad0 h1.1 z1) ?_
    refine e_if_eq (tgt := 33) dX6_text_28 (by decide) (fun _ => ?_) (fun hz => absurd rfl hz)
    have ex : x = nI x.toInt.toNat := by rw [fa_eq, nI_toInt (by omega)]; omega
    have hsT : sText s x = (match ptx (sTT s) x.toInt.toNat with
      | .inl (k, pl) => okR (nI k - 10) (setF (setT s (sTT s) 0) (nI pl))
      | .inr g => okR (nI (lnc g.2.1)) (setG (setH (setF (setT s (sTT s) 0) (-1)) (psh (shh s) (sgg s))) g)) := by unfold sText; rw [if_pos hin]; rfl
    generalize hn : x.toInt.toNat = n at *
    have hn5 : n ≤ 500 := by omega
    subst ex
    rw [hsT]
    generalize hT : sTT s = T at *
    generalize hΦ : MPo M (match ptx T n with
      | .inl (k, pl) => okR (nI k - 10) (setF (setT s T 0) (nI pl))
      | .inr g => okR (nI (lnc g.2.1)) (setG (setH (setF (setT s T 0) (-1)) (psh (shh s) (sgg s))) g)) = Φ
    have hTb : (∀ i, T i < 256) ∧ ∀ i, i < 500 → M1.2.1 62 i = nI (T i) := by rw [← hT]; exact h1.2.2.1
    have h2 : MI (sI M1 60 2 0) (setT s T 0) := h1.tape rfl (by decide) hTb
    refine e_aload_n dX6_text_33 rfl rfl ?_
    refine e_iconst (v := 0) dX6_text_34 (by decide) ?_
    refine e_putI dX6_text_35 fRX6_75 (by exact h1.1.sh rfl) rfl rfl rfl (fun _ _ => rfl) ?_
    refine e_aload_n dX6_text_38 rfl rfl ?_
    refine e_iload_n dX6_text_39 rfl rfl ?_
    refine e_putI dX6_text_40 fRX6_78 (by exact h1.1.sh rfl) rfl rfl rfl (fun _ _ => rfl) ?_
    refine e_aload_n dX6_text_43 rfl rfl ?_
    refine e_iconst (v := 0) dX6_text_44 (by decide) ?_
    refine e_putI dX6_text_45 fRX6_81 (by exact h1.1.sh rfl) rfl rfl rfl (fun _ _ => rfl) ?_
    refine e_aload_n dX6_text_48 rfl rfl ?_
    refine e_iconst (v := 0) dX6_text_49 (by decide) ?_
    refine e_putI dX6_text_50 fRX6_88 (by exact h1.1.sh rfl) rfl rfl rfl (fun _ _ => rfl) ?_
    refine e_aload_n dX6_text_53 rfl rfl ?_
    refine e_iconst (v := (-1)) dX6_text_54 (by decide) ?_
    refine e_putI dX6_text_55 fRX6_91 (by exact h1.1.sh rfl) rfl rfl rfl (fun _ _ => rfl) ?_
    refine e_aload_n dX6_text_58 rfl rfl ?_
    refine e_iconst (v := 0) dX6_text_59 (by decide) ?_
    refine e_putI dX6_text_60 fRX6_152 (by exact h1.1.sh rfl) rfl rfl rfl (fun _ _ => rfl) ?_
    refine e_aload_n dX6_text_63 rfl rfl ?_
    refine e_getR dX6_text_64 fRX6_23 (by exact h1.1.sh rfl) (by exact h1.1.rf rfl) (fun _ => rfl) ?_
    generalize hM2 : sI M1 60 2 0 = M2 at *
    have z2 : M2.2.1 60 0 = 0 := by rw [← hM2, rd_ni (by decide)]; exact z1
    have f2 : FM M M2 := by rw [← hM2]; exact f1.sI (by decide)
    have zz3 : MZ M2 (sI (sI (sI (sI (sI M2 60 3 (nI n)) 60 4 0) 60 6 0) 60 7 (-1)) 60 14 0) := ((((MZ.rf.f (by decide)).f (by decide)).f (by decide)).f (by decide)).f (by decide)
    have t3 : MT (sI (sI (sI (sI (sI M2 60 3 (nI n)) 60 4 0) 60 6 0) 60 7 (-1)) 60 14 0) T n := ⟨by rw [rd_ni (by decide), rd_ni (by decide), rd_ni (by decide), rd_ni (by decide), rd_self], hn5, hTb.1, fun i hi => by rw [zz3.2.2.2 62 (by decide), ← hM2, rd_na (by decide)]; exact hTb.2 i hi⟩
    have rd3 : Mrd (sI (sI (sI (sI (sI M2 60 3 (nI n)) 60 4 0) 60 6 0) 60 7 (-1)) 60 14 0) n (.inr 0) := ⟨Nat.zero_le _, by rw [rd_ni (by decide), rd_ni (by decide), rd_self], by rw [rd_ni (by decide), rd_self], by rw [rd_ni (by decide), rd_ni (by decide), rd_ni (by decide), rd_self]; rfl⟩
    have z14 : (sI (sI (sI (sI (sI M2 60 3 (nI n)) 60 4 0) 60 6 0) 60 7 (-1)) 60 14 0).2.1 60 14 = 0 := by rw [rd_self]
    generalize hM3 : sI (sI (sI (sI (sI M2 60 3 (nI n)) 60 4 0) 60 6 0) 60 7 (-1)) 60 14 0 = M3 at *
    have ok3 : OkM M3 := zz3.ok h2.1
    -- the end, with a fault
    have bad : ∀ K f, MZ M2 K → Mrd K n (.inl f) → ptx T n = .inl f → Ev B mX6_text 6 0 0 Φ 153 [some (.ref 60), some (.int (nI n))] [] K := by
      intro K f zK rdK e9
      obtain ⟨k, pl⟩ := f
      have okK : OkM K := zK.ok h2.1
      have iK := h2.z zK
      refine e_aload_n dX6_text_153 rfl rfl ?_
      refine e_aload_n dX6_text_154 rfl rfl ?_
      refine e_getI dX6_text_155 fRX6_91 (by exact okK.sh rfl) (fun _ => rfl) ?_
      rw [rdK.2.2]
      refine e_putI dX6_text_158 fRX6_13 (by exact okK.sh rfl) rfl rfl rfl (fun _ _ => rfl) ?_
      refine e_aload_n dX6_text_161 rfl rfl ?_
      have ok4 : OkM (sI K 60 5 (nI pl)) := okK.of rfl rfl
      have rd4 : Mrd (sI K 60 5 (nI pl)) n (.inl (k, pl)) := ⟨rdK.1, by rw [rd_ni (by decide)]; exact rdK.2.1, by rw [rd_ni (by decide)]; exact rdK.2.2⟩
      refine e_callV0i [] dX6_text_162 mvmX6_fine lkRX6_94 (by exact ok4.sh rfl) ⟨by decide, rfl⟩ rfl rfl (Nat.le_of_ble_eq_true rfl) (by decide) (c_fine ok4 rd4) ?_
      refine e_if_ne (tgt := 176) dX6_text_165 (by decide) (fun hz => absurd rfl hz) (fun _ => ?_)
      refine e_aload_n dX6_text_168 rfl rfl ?_
      refine e_getI dX6_text_169 fRX6_88 (by exact ok4.sh rfl) (fun _ => rfl) ?_
      rw [rd4.2.1]
      refine e_bipush (v := 10) dX6_text_172 (by decide) ?_
      refine e_isub dX6_text_174 ?_
      refine e_iret dX6_text_175 rfl rfl ?_
      rw [← hΦ, e9]
      refine mpo_ok iK.place ?_ ((f2.trans zK.FM).sI (by decide))
      rw [rd_ni (by decide), zK.2.2.1 0 (by decide)]; exact z2
    -- .. without
    have good : ∀ K e g, MZ M2 K → Mrd K n (.inr e) → NowR K 64 g → Gd g → ptx T n = .inr g → Ev B mX6_text 6 0 0 Φ 153 [some (.ref 60), some (.int (nI n))] [] K := by
      intro K e g zK rdK hnow hgd e9
      have okK : OkM K := zK.ok h2.1
      have iK := (h2.z zK).place (v := -1)
      refine e_aload_n dX6_text_153 rfl rfl ?_
      refine e_aload_n dX6_text_154 rfl rfl ?_
      refine e_getI dX6_text_155 fRX6_91 (by exact okK.sh rfl) (fun _ => rfl) ?_
      rw [rdK.2.2.1]
      refine e_putI dX6_text_158 fRX6_13 (by exact okK.sh rfl) rfl rfl rfl (fun _ _ => rfl) ?_
      refine e_aload_n dX6_text_161 rfl rfl ?_
      have ok4 : OkM (sI K 60 5 (-1)) := iK.1
      have rd4 : Mrd (sI K 60 5 (-1)) n (.inr e) := ⟨rdK.1, by rw [rd_ni (by decide)]; exact rdK.2.1, by rw [rd_ni (by decide)]; exact rdK.2.2.1, by rw [rd_ni (by decide)]; exact rdK.2.2.2⟩
      refine e_callV0i [] dX6_text_162 mvmX6_fine lkRX6_94 (by exact ok4.sh rfl) ⟨by decide, rfl⟩ rfl rfl (Nat.le_of_ble_eq_true rfl) (by decide) (c_fine ok4 rd4) ?_
      refine e_if_ne (tgt := 176) dX6_text_165 (by decide) (fun _ => ?_) (fun hz => absurd hz (fin01_r e))
      refine e_aload_n dX6_text_176 rfl rfl ?_
      refine e_callV1 [] dX6_text_177 mvmX6_remembers lkRX6_171 (by exact ok4.sh rfl) ⟨by decide, rfl⟩ rfl rfl (Nat.le_of_ble_eq_true rfl) (by decide) (c_remembers iK) (fun u N5 h5 => ?_)
      obtain ⟨hu, i5, r5⟩ := h5
      subst hu
      refine e_aload_n dX6_text_180 rfl rfl ?_
      refine e_getR dX6_text_181 fRX6_23 (by exact i5.1.sh rfl) (by exact i5.1.rf rfl) (fun _ => rfl) ?_
      refine e_aload_n dX6_text_184 rfl rfl ?_
      refine e_getR dX6_text_185 fRX6_20 (by exact i5.1.sh rfl) (by exact i5.1.rf rfl) (fun _ => rfl) ?_
      refine e_callS1 [_, _] dX6_text_188 msmX6_copies lkRX6_174 rfl rfl (Nat.le_of_ble_eq_true rfl) (by decide) (c_copies (a := 64) (b := 63) (i5.1.sh rfl) (i5.1.sh rfl) (by decide)) (fun u N6 h6 => ?_)
      obtain ⟨hu, k1, k2⟩ := h6
      subst hu
      have n5 : NowR N5 64 g := (hnow.at (N := sI K 60 5 (-1)) (sI_row (by decide))).at (r5.2.2.2 64 (by decide) (by decide))
      have ok6 : OkM N6 := i5.1.fr k1
      have i6 := i5.net k1 (n5.copy k2) hgd
      refine e_aload_n dX6_text_191 rfl rfl ?_
      refine e_callV0v [] dX6_text_192 mvmX6_changes lkRX6_69 (by exact ok6.sh rfl) ⟨by decide, rfl⟩ rfl rfl (Nat.le_of_ble_eq_true rfl) (by decide) (c_changes ok6) ?_
      refine e_aload_n dX6_text_195 rfl rfl ?_
      refine e_callV0i [] dX6_text_196 mvmX6_lines lkRX6_178 (by exact i6.1.sh rfl) ⟨by decide, rfl⟩ rfl rfl (Nat.le_of_ble_eq_true rfl) (by decide) (c_lines i6.1 i6.now i6.wf) ?_
      refine e_iret dX6_text_199 rfl rfl ?_
      rw [← hΦ, e9]
      refine mpo_ok i6 ?_ ((((f2.trans zK.FM).sI (by decide)).trans r5.FM).trans ((k1.FM (by decide)).sI (by decide)))
      rw [rd_ni (by decide), k1.2.2 60 (by omega), r5.2.2.1 0 (by decide), rd_ni (by decide), zK.2.2.1 0 (by decide)]; exact z2
    -- all is read
    have fin : ∀ K e s', MZ M2 K → MT K T n → Mrd K n (.inr e) → MS K s' → ptx T n = pfin n s' → Ev B mX6_text 6 0 0 Φ 130 [some (.ref 60), some (.int (nI n))] [] K := by
      intro K e s' zK tK rdK sK e9
      have okK : OkM K := zK.ok h2.1
      have wp := sK.2.2.2.2
      refine e_aload_n dX6_text_130 rfl rfl ?_
      refine e_callV0i [] dX6_text_131 mvmX6_fine lkRX6_94 (by exact okK.sh rfl) ⟨by decide, rfl⟩ rfl rfl (Nat.le_of_ble_eq_true rfl) (by decide) (c_fine okK rdK) ?_
      refine e_if_eq (tgt := 153) dX6_text_134 (by decide) (fun hz => absurd hz (fin01_r e)) (fun _ => ?_)
      refine e_aload_n dX6_text_137 rfl rfl ?_
      by_cases hP : (pmt s'.2.2).2 = false ∧ ∀ ab, ab ∈ s'.2.2 → (s'.2.1 ab.1 ab.2).isSome = true
      · refine e_callV1 [] dX6_text_138 mvmX6_arePairs lkRX6_168 (by exact okK.sh rfl) ⟨by decide, rfl⟩ rfl rfl (Nat.le_of_ble_eq_true rfl) (by decide) (c_arePairs (r := 1) okK sK (fun _ => rfl) (fun q => absurd hP q)) (fun u K2 hq => ?_)
        obtain ⟨hu, k1, k2⟩ := hq
        subst hu
        have hpal := (pal_ps wp hP.1).mp hP.2
        refine e_if_ne (tgt := 153) dX6_text_141 (by decide) (fun _ => ?_) (fun hz => absurd hz (by decide))
        refine good K2 e (s'.1, s'.2.1, (pmt s'.2.2).1) (zK.trans (k1.Z (by decide))) (rdK.at (k1.2.2 60 (by omega))) (k2 rfl) ⟨wp.1, fun a b hab => hpal a (wp.1.2.2.2.2 a b hab).2.1 b hab⟩ ?_
        rw [e9]; unfold pfin; rw [if_pos hP]
      · refine e_callV1 [] dX6_text_138 mvmX6_arePairs lkRX6_168 (by exact okK.sh rfl) ⟨by decide, rfl⟩ rfl rfl (Nat.le_of_ble_eq_true rfl) (by decide) (c_arePairs (r := 0) okK sK (fun q => absurd q hP) (fun _ => rfl)) (fun u K2 hq => ?_)
        obtain ⟨hu, k1, k2⟩ := hq
        subst hu
        have ok2 : OkM K2 := okK.fr k1
        have rd2 := rdK.at (N := K2) (k1.2.2 60 (by omega))
        refine e_if_ne (tgt := 153) dX6_text_141 (by decide) (fun hz => absurd rfl hz) (fun _ => ?_)
        refine e_aload_n dX6_text_144 rfl rfl ?_
        refine e_iconst (v := 3) dX6_text_145 (by decide) ?_
        refine e_aload_n dX6_text_146 rfl rfl ?_
        refine e_getI dX6_text_147 fRX6_78 (by exact ok2.sh rfl) (fun _ => rfl) ?_
        rw [k1.2.2 60 (by omega), tK.1]
        refine e_callV0v [_, _] dX6_text_150 mvmX6_wrong lkRX6_115 (by exact ok2.sh rfl) ⟨by decide, rfl⟩ rfl rfl (Nat.le_of_ble_eq_true rfl) (by decide) (c_wrong ok2) ?_
        rw [if_pos rd2.2.1]
        refine bad _ (3, n) ((zK.trans (k1.Z (by decide))).trans ((MZ.rf.f (by decide)).f (by decide))) (Mrd.fl ⟨by decide, by decide, Nat.le_refl _⟩ rfl) ?_
        rw [e9]; unfold pfin; rw [if_neg hP]
    have loop : ∀ f K s' e, 500 ≤ f + e → MZ M2 K → MT K T n → Mrd K n (.inr e) → MS K s' → 2 * s'.2.2.length ≤ e → ptx T n = bd (ploop T n f s' e) (pfin n) → Ev B mX6_text 6 0 0 Φ 108 [some (.ref 60), some (.int (nI n))] [] K := by
      intro f
      induction f with
      | zero =>
        intro K s' e hfe zK tK rdK sK hlen e9
        have okK : OkM K := zK.ok h2.1
        have hen := rdK.1
        have hsk : sk T n e = e := ru_f (by omega)
        refine e_aload_n dX6_text_108 rfl rfl ?_
        refine e_callV0i [] dX6_text_109 mvmX6_fine lkRX6_94 (by exact okK.sh rfl) ⟨by decide, rfl⟩ rfl rfl (Nat.le_of_ble_eq_true rfl) (by decide) (c_fine okK rdK) ?_
        refine e_if_eq (tgt := 130) dX6_text_112 (by decide) (fun hz => absurd hz (fin01_r e)) (fun _ => ?_)
        refine e_aload_n dX6_text_115 rfl rfl ?_
        refine e_callV1 [] dX6_text_116 mvmX6_here lkRX6_98 (by exact okK.sh rfl) ⟨by decide, rfl⟩ rfl rfl (Nat.le_of_ble_eq_true rfl) (by decide) (c_here okK tK rdK.2.2.2 rdK.1) (fun u K2 hq => ?_)
        obtain ⟨hu, a2, mf2⟩ := hq
        subst hu
        rw [hsk] at a2 ⊢
        show Ev _ _ _ _ _ _ 119 _ [.int (byA T n e)] _
        refine e_iconst (v := (-1)) dX6_text_119 (by decide) ?_
        refine e_icmp_eq (tgt := 130) dX6_text_120 (by decide) (fun _ => ?_) (fun hz => absurd ((byA_m1 (tK.2.2.1 e)).mpr (by omega)) hz)
        exact fin K2 e s' (zK.trans (mf2.Z (by decide))) (tK.rf mf2 (by decide)) (rdK.go mf2 hen a2) (sK.rf mf2 (by decide)) e9
      | succ f ih =>
        intro K s' e hfe zK tK rdK sK hlen e9
        have okK : OkM K := zK.ok h2.1
        have hen := rdK.1
        have hsk := sk_le (T := T) rdK.1
        have hskg : e ≤ sk T n e := ru_ge _ _ _
        have e7 : ploop T n (f + 1) s' e = if sk T n e < n then (match pstm T n s' e with
              | .inl e => .inl e
              | .inr (e, s') => ploop T n f s' e) else .inr s' := rfl
        refine e_aload_n dX6_text_108 rfl rfl ?_
        refine e_callV0i [] dX6_text_109 mvmX6_fine lkRX6_94 (by exact okK.sh rfl) ⟨by decide, rfl⟩ rfl rfl (Nat.le_of_ble_eq_true rfl) (by decide) (c_fine okK rdK) ?_
        refine e_if_eq (tgt := 130) dX6_text_112 (by decide) (fun hz => absurd hz (fin01_r e)) (fun _ => ?_)
        refine e_aload_n dX6_text_115 rfl rfl ?_
        refine e_callV1 [] dX6_text_116 mvmX6_here lkRX6_98 (by exact okK.sh rfl) ⟨by decide, rfl⟩ rfl rfl (Nat.le_of_ble_eq_true rfl) (by decide) (c_here okK tK rdK.2.2.2 rdK.1) (fun u K2 hq => ?_)
        obtain ⟨hu, a2, mf2⟩ := hq
        subst hu
        have z2' : MZ M2 K2 := zK.trans (mf2.Z (by decide))
        have ok2 : OkM K2 := z2'.ok h2.1
        have t2 := tK.rf mf2 (by decide)
        have s2 := sK.rf mf2 (by decide)
        have rd2 := rdK.go mf2 hsk a2
        show Ev _ _ _ _ _ _ 119 _ [.int (byA T n (sk T n e))] _
        refine e_iconst (v := (-1)) dX6_text_119 (by decide) ?_
        have hb := byA_m1 (n := n) (tK.2.2.1 (sk T n e))
        by_cases hlt : sk T n e < n
        · rw [if_pos hlt] at e7
          refine e_icmp_eq (tgt := 130) dX6_text_120 (by decide) (fun hz => absurd hlt (hb.mp hz)) (fun _ => ?_)
          refine e_aload_n dX6_text_123 rfl rfl ?_
          refine e_callV1 [] dX6_text_124 mvmX6_readsLine lkRX6_165 (by exact ok2.sh rfl) ⟨by decide, rfl⟩ rfl rfl (Nat.le_of_ble_eq_true rfl) (by decide) (c_readsLine ok2 t2 rd2 s2 (by omega)) (fun u K3 hq => ?_)
          obtain ⟨hu, t3', x3, hm⟩ := hq
          subst hu
          have eps : pstm T n s' (sk T n e) = pstm T n s' e := by
            unfold pstm
            rw [pwd_sk, pwd_sk, pwd_sk, pwd_sk, sk_sk]
          rw [eps] at hm
          have z3 : MZ M2 K3 := z2'.trans x3.Z
          have ok3' : OkM K3 := z3.ok h2.1
          refine e_goto (tgt := 108) dX6_text_127 (by decide) ?_
          cases hst : pstm T n s' e with
          | inl fa =>
            rw [hst] at e7 hm
            rw [e7] at e9
            have hm' : Mrd K3 n (.inl fa) := hm
            refine e_aload_n dX6_text_108 rfl rfl ?_
            refine e_callV0i [] dX6_text_109 mvmX6_fine lkRX6_94 (by exact ok3'.sh rfl) ⟨by decide, rfl⟩ rfl rfl (Nat.le_of_ble_eq_true rfl) (by decide) (c_fine ok3' hm') ?_
            refine e_if_eq (tgt := 130) dX6_text_112 (by decide) (fun _ => ?_) (fun hz => absurd rfl hz)
            refine e_aload_n dX6_text_130 rfl rfl ?_
            refine e_callV0i [] dX6_text_131 mvmX6_fine lkRX6_94 (by exact ok3'.sh rfl) ⟨by decide, rfl⟩ rfl rfl (Nat.le_of_ble_eq_true rfl) (by decide) (c_fine ok3' hm') ?_
            refine e_if_eq (tgt := 153) dX6_text_134 (by decide) (fun _ => ?_) (fun hz => absurd rfl hz)
            exact bad K3 fa z3 hm' e9
          | inr w =>
            obtain ⟨e2, s''⟩ := w
            rw [hst] at e7 hm
            rw [e7] at e9
            exact ih K3 s'' e2 (by omega) z3 t3' hm.1 hm.2.1 hm.2.2.1 e9
        · rw [if_neg hlt] at e7
          rw [e7] at e9
          refine e_icmp_eq (tgt := 130) dX6_text_120 (by decide) (fun _ => ?_) (fun hz => absurd (hb.mpr hlt) hz)
          exact fin K2 (sk T n e) s' z2' t2 rd2 s2 e9
    -- a fault in the first statement
    have bad1 : ∀ K f, MZ M2 K → Mrd K n (.inl f) → ptx T n = .inl f → Ev B mX6_text 6 0 0 Φ 108 [some (.ref 60), some (.int (nI n))] [] K := by
      intro K f zK rdK e9
      have okK : OkM K := zK.ok h2.1
      refine e_aload_n dX6_text_108 rfl rfl ?_
      refine e_callV0i [] dX6_text_109 mvmX6_fine lkRX6_94 (by exact okK.sh rfl) ⟨by decide, rfl⟩ rfl rfl (Nat.le_of_ble_eq_true rfl) (by decide) (c_fine okK rdK) ?_
      refine e_if_eq (tgt := 130) dX6_text_112 (by decide) (fun _ => ?_) (fun hz => absurd rfl hz)
      refine e_aload_n dX6_text_130 rfl rfl ?_
      refine e_callV0i [] dX6_text_131 mvmX6_fine lkRX6_94 (by exact okK.sh rfl) ⟨by decide, rfl⟩ rfl rfl (Nat.le_of_ble_eq_true rfl) (by decide) (c_fine okK rdK) ?_
      refine e_if_eq (tgt := 153) dX6_text_134 (by decide) (fun _ => ?_) (fun hz => absurd rfl hz)
      exact bad K f zK rdK e9
    -- the number of nodes
    have nds : ∀ K y, MZ M2 K → MT K T n → Mrd K n y → K.2.1 60 14 = 0 → (∀ i, i < 157 → K.2.1 64 i = -1) → pnds T n = bd y (fun p => match pnum T n 1 12 p with
        | .inl e => .inl e
        | .inr (e, v, _) => match pend T n e with
          | .inl f => .inl f
          | .inr e2 => .inr (e2, v)) → Ev B mX6_text 6 0 0 Φ 88 [some (.ref 60), some (.int (nI n))] [] K := by
      intro K y zK tK rdK k14 k66 e8
      have okK : OkM K := zK.ok h2.1
      refine e_aload_n dX6_text_88 rfl rfl ?_
      refine e_getR dX6_text_89 fRX6_23 (by exact okK.sh rfl) (by exact okK.rf rfl) (fun _ => rfl) ?_
      refine e_iconst (v := 0) dX6_text_92 (by decide) ?_
      refine e_aload_n dX6_text_93 rfl rfl ?_
      refine e_iconst (v := 1) dX6_text_94 (by decide) ?_
      refine e_bipush (v := 12) dX6_text_95 (by decide) ?_
      refine e_iconst (v := 0) dX6_text_97 (by decide) ?_
      rw [show (12 : Int32) = nI 12 from fa_lit 12]
      refine e_callV1 [_, _, _] dX6_text_98 mvmX6_number lkRX6_128 (by exact okK.sh rfl) ⟨by decide, rfl⟩ rfl rfl (Nat.le_of_ble_eq_true rfl) (by decide) (c_number (lo := 1) (hi := 12) (bt := 0) okK tK rdK (by decide) (by decide) (by decide)) (fun u K2 hq => ?_)
      obtain ⟨r, hu, rd2, mf2, v2⟩ := hq
      subst hu
      have z2' : MZ M2 K2 := zK.trans (mf2.Z (by decide))
      have ok2 : OkM K2 := z2'.ok h2.1
      have t2 := tK.rf mf2 (by decide)
      show Ev _ _ _ _ _ _ 101 _ [.int r, .int 0, .ref 64] _
      refine e_iastore dX6_text_101 (by exact ok2.sh rfl) (by exact vp_in_nI (n := 0) (N := 157) (by decide) (by decide)) ?_
      refine e_aload_n dX6_text_102 rfl rfl ?_
      refine e_bipush (v := 59) dX6_text_103 (by decide) ?_
      generalize hK3 : sI K2 64 (0 : Int32).toNatClampNeg r = K3
      have f3 : Fr 64 64 K2 K3 := by rw [← hK3]; exact Fr.rf.sI (by decide) (by decide)
      have z3 : MZ M2 K3 := z2'.trans (f3.Z (by decide))
      have ok3' : OkM K3 := z3.ok h2.1
      have t3' := t2.mx f3.X66
      have rd3' := rd2.at (N := K3) (f3.2.2 60 (by omega))
      refine e_callV1 [_] dX6_text_105 mvmX6_must lkRX6_155 (by exact ok3'.sh rfl) ⟨by decide, rfl⟩ rfl rfl (Nat.le_of_ble_eq_true rfl) (by decide) (c_must ok3' t3' rd3') (fun u K4 hq => ?_)
      obtain ⟨hu, rd4, mf4⟩ := hq
      subst hu
      have z4 : MZ M2 K4 := z3.trans (mf4.Z (by decide))
      have t4 := t3'.rf mf4 (by decide)
      have bd0 : ∀ f, Mrd K4 n (.inl f) → pnds T n = .inl f → Ev B mX6_text 6 0 0 Φ 108 [some (.ref 60), some (.int (nI n))] [] K4 := fun f r4 e5 => bad1 K4 f z4 r4 (by unfold ptx; rw [e5])
      cases y with
      | inl f => exact bd0 f rd4 e8
      | inr p =>
        simp only [bd_r, pnb_0] at rd4 e8
        cases hp1 : pnum T n 1 12 p with
        | inl f =>
          rw [hp1] at rd4 e8
          exact bd0 f rd4 e8
        | inr w =>
          obtain ⟨e, v, q⟩ := w
          have ho := pnum_ok rdK.1 hp1
          have vv := v2 p e v q rfl (by rw [pnb_0]; exact hp1)
          rw [hp1] at rd4 e8
          simp only [bd_r] at rd4
          dsimp only at e8
          cases hpe : pend T n e with
          | inl f =>
            rw [hpe] at rd4 e8
            exact bd0 f rd4 e8
          | inr e2 =>
            rw [hpe] at rd4 e8
            refine loop 500 K4 (v, fun _ _ => none, []) e2 (by omega) z4 t4 rd4 ?_ (by simp) ?_
            · refine ⟨?_, ?_, fun i ab hi => by simp at hi, by simp, wf_new ho.2.1 ho.2.2.1⟩
              · have e66 : K4.2.1 64 = K3.2.1 64 := mf4.1.2.2 64 (by omega)
                have e66b : ∀ i, i ≠ 0 → i < 157 → K4.2.1 64 i = -1 := fun i hi h157 => by
                  rw [e66, ← hK3, rd_ni (by show i ≠ 0; exact hi), mf2.1.2.2 64 (by omega)]
                  exact k66 i h157
                refine ⟨?_, fun x hx => ?_, fun x y hx hy => ?_⟩
                · rw [e66, ← hK3]
                  show (sI K2 64 0 r).2.1 64 0 = nI v
                  rw [rd_self]; exact vv
                · exact e66b _ (by omega) (by omega)
                · exact e66b _ (by omega) (by omega)
              · rw [mf4.2 14 (by decide), f3.2.2 60 (by omega), mf2.2 14 (by decide)]; exact k14
            · unfold ptx
              rw [e8]
              dsimp only
              cases ploop T n 500 (v, fun _ _ => none, []) e2 <;> rfl
    refine e_callS1 [_] dX6_text_67 msmX6_begins lkRX6_61 rfl rfl (Nat.le_of_ble_eq_true rfl) (by decide) (c_begins (a := 64) (ok3.sh rfl)) (fun u N4 h4 => ?_)
    obtain ⟨hu, k1, k2⟩ := h4
    subst hu
    have z4 : MZ M2 N4 := zz3.trans (k1.Z (by decide))
    have ok4 : OkM N4 := z4.ok h2.1
    have t4 := t3.mx k1.X66
    have rd4 := rd3.at (N := N4) (k1.2.2 60 (by omega))
    have n14 : N4.2.1 60 14 = 0 := by rw [k1.2.2 60 (by omega)]; exact z14
    refine e_aload_n dX6_text_70 rfl rfl ?_
    refine e_ldcS (k0 := 1) (tx := "nodes") dX6_text_71 (by decide) ?_
    refine e_callV1 [_] dX6_text_73 mvmX6_takes lkRX6_139 (by exact ok4.sh rfl) ⟨by decide, rfl⟩ rfl rfl (Nat.le_of_ble_eq_true rfl) (by decide) (c_takes ok4 t4 rd4 wd_nodes lw_nodes) (fun u N5 h5 => ?_)
    obtain ⟨hu, rd5, mf5⟩ := h5
    subst hu
    have z5 : MZ M2 N5 := z4.trans (mf5.Z (by decide))
    have ok5 : OkM N5 := z5.ok h2.1
    have t5 := t4.rf mf5 (by decide)
    have hsk0 := sk_le (T := T) (Nat.zero_le n)
    have n66 : ∀ i, i < 157 → N5.2.1 64 i = -1 := fun i hi => by rw [mf5.1.2.2 64 (by omega)]; exact k2 i hi
    have m14 : N5.2.1 60 14 = 0 := by rw [mf5.2 14 (by decide)]; exact n14
    by_cases p1 : pwd T n wNodes 0 = true
    · rw [if_pos p1] at rd5 ⊢
      refine e_if_ne (tgt := 88) dX6_text_76 (by decide) (fun _ => ?_) (fun hz => absurd hz (by decide))
      exact nds N5 (.inr (sk T n 0 + 5)) z5 t5 rd5 m14 n66 (by unfold pnds; rw [if_pos p1]; rfl)
    · rw [if_neg p1] at rd5 ⊢
      refine e_if_ne (tgt := 88) dX6_text_76 (by decide) (fun hz => absurd rfl hz) (fun _ => ?_)
      refine e_aload_n dX6_text_79 rfl rfl ?_
      refine e_iconst (v := 1) dX6_text_80 (by decide) ?_
      refine e_aload_n dX6_text_81 rfl rfl ?_
      refine e_getI dX6_text_82 fRX6_81 (by exact ok5.sh rfl) (fun _ => rfl) ?_
      rw [rd5.2.2.2]
      refine e_callV0v [_, _] dX6_text_85 mvmX6_wrong lkRX6_115 (by exact ok5.sh rfl) ⟨by decide, rfl⟩ rfl rfl (Nat.le_of_ble_eq_true rfl) (by decide) (c_wrong ok5) ?_
      rw [if_pos rd5.2.1]
      have mfw : MF [6, 7] N5 (sI (sI N5 60 6 1) 60 7 (nI (sk T n 0))) := (MF.rf.s (by decide)).s (by decide)
      exact nds _ (.inl (1, sk T n 0)) (z5.trans (mfw.Z (by decide))) (t5.rf mfw (by decide)) (Mrd.fl ⟨by decide, by decide, hsk0⟩ rfl) (by rw [mfw.2 14 (by decide)]; exact m14) (fun i hi => by rw [mfw.1.2.2 64 (by omega)]; exact n66 i hi) (by unfold pnds; rw [if_neg p1]; rfl)
  · rw [if_neg hin]
    have e9 : sText s x = rej 1 1 s := by unfold sText; rw [if_neg hin]
    rw [e9]
    refine e_if_ne (tgt := 22) dX6_text_15 (by decide) (fun hz => absurd rfl hz) (fun _ => ?_)
    refine e_iconst (v := 1) dX6_text_18 (by decide) ?_
    refine e_goto (tgt := 23) dX6_text_19 (by decide) ?_
    refine e_iconst (v := 1) dX6_text_23 (by decide) ?_
    refine e_iconst (v := 1) dX6_text_24 (by decide) ?_
    refine e_callV0i [_, _, _] dX6_text_25 mvmX6_bad lkRX6_159 (by exact h1.1.sh rfl) ⟨by decide, rfl⟩ rfl rfl (Nat.le_of_ble_eq_true rfl) (by decide) (c_bad1 (c := 0) (k := 1) h1.1 z1 (by decide) (by decide)) ?_
    refine e_if_eq (tgt := 33) dX6_text_28 (by decide) (fun hz => absurd hz (by decide)) (fun _ => ?_)
    refine e_iconst (v := 0) dX6_text_31 (by decide) ?_
    exact e_iret dX6_text_32 rfl rfl (mpo_rej h1 (by decide) f1)
theorem c_mfault {B : Bd} {M : Mm} {s : Sx} (h : MI M s) : Ct B mX6_fault 0 0 0 [.ref 60] M (MPo M (sFault s)) := by
  refine Ct.of (by decide) rfl rfl (Nat.le_of_ble_eq_true rfl) ?_
  refine e_aload_n dX6_fault_0 rfl rfl ?_
  refine e_iconst (v := 0) dX6_fault_1 (by decide) ?_
  refine e_putI dX6_fault_2 fRX6_72 (by exact h.1.sh rfl) rfl rfl rfl (fun _ _ => rfl) ?_
  refine e_aload_n dX6_fault_5 rfl rfl ?_
  refine e_getI dX6_fault_6 fRX6_13 (by exact h.1.sh rfl) (fun _ => rfl) ?_
  rw [rd_ni (by decide), h.2.1.2.2.1]
  exact e_iret dX6_fault_9 rfl rfl (mpo_ok h.t (by rw [rd_self]) (FM.rf.sI (by decide)))
theorem c_mstatus {B : Bd} {M : Mm} {s : Sx} {x : Int32} (h : MI M s) : Ct B mX6_status 1 0 0 [.ref 60, .int x] M (MPo M (sStatus s x)) := by
  refine Ct.of (by decide) rfl rfl (Nat.le_of_ble_eq_true rfl) ?_
  refine e_aload_n dX6_status_0 rfl rfl ?_
  refine e_iconst (v := 0) dX6_status_1 (by decide) ?_
  refine e_putI dX6_status_2 fRX6_72 (by exact h.1.sh rfl) rfl rfl rfl (fun _ _ => rfl) ?_
  refine e_iload_n dX6_status_5 rfl rfl ?_
  refine e_iconst (v := 0) dX6_status_6 (by decide) ?_
  refine e_iconst (v := 2) dX6_status_7 (by decide) ?_
  refine e_callS0i [_, _, _] dX6_status_8 msmX6_in lkRX6_111 rfl rfl (Nat.le_of_ble_eq_true rfl) (by decide) (c_in (x := x) (lo := 0) (hi := 2)) ?_
  have e5 : (0 : Int32).toInt = 0 := rfl
  have e6 : (2 : Int32).toInt = 2 := rfl
  rw [e5, e6]
  by_cases hin : 0 ≤ x.toInt ∧ x.toInt ≤ 2
  · rw [if_pos hin]
    have ex : x = nI x.toInt.toNat := by rw [fa_eq, nI_toInt (by omega)]; omega
    have e9 : sStatus s x = okR (srr s x.toInt.toNat) s := by unfold sStatus; rw [if_pos (by omega)]
    rw [e9]
    generalize hn : x.toInt.toNat = n at *
    subst ex
    refine e_if_eq (tgt := 23) dX6_status_11 (by decide) (fun hz => absurd hz (by decide)) (fun _ => ?_)
    refine e_aload_n dX6_status_14 rfl rfl ?_
    refine e_getR dX6_status_15 fRX6_9 (by exact h.1.sh rfl) (by exact h.1.rf rfl) (fun _ => rfl) ?_
    refine e_iload_n dX6_status_18 rfl rfl ?_
    refine e_iaload dX6_status_19 (by exact h.1.sh rfl) (by exact vp_in_nI (show n < 3 by omega) (by decide)) ?_
    refine e_goto (tgt := 24) dX6_status_20 (by decide) ?_
    rw [nI_clamp (by omega), rd_na (by decide), h.2.2.2.2.2.2 n (by omega)]
    exact e_iret dX6_status_24 rfl rfl (mpo_ok h.t (by rw [rd_self]) (FM.rf.sI (by decide)))
  · rw [if_neg hin]
    have e9 : sStatus s x = okR (-1) s := by unfold sStatus; rw [if_neg (by omega)]
    rw [e9]
    refine e_if_eq (tgt := 23) dX6_status_11 (by decide) (fun _ => ?_) (fun hz => absurd rfl hz)
    refine e_iconst (v := (-1)) dX6_status_23 (by decide) ?_
    exact e_iret dX6_status_24 rfl rfl (mpo_ok h.t (by rw [rd_self]) (FM.rf.sI (by decide)))
theorem c_mundo {B : Bd} {M : Mm} {s : Sx} (h : MI M s) : Ct B mX6_undo 1 0 0 [.ref 60] M (MPo M (sUndo s)) := by
  refine Ct.of (by decide) rfl rfl (Nat.le_of_ble_eq_true rfl) ?_
  refine e_aload_n dX6_undo_0 rfl rfl ?_
  refine e_iconst (v := 0) dX6_undo_1 (by decide) ?_
  refine e_putI dX6_undo_2 fRX6_72 (by exact h.1.sh rfl) rfl rfl rfl (fun _ _ => rfl) ?_
  generalize hM1 : sI M 60 0 0 = M1
  have h1 : MI M1 s := by rw [← hM1]; exact h.t
  have z1 : M1.2.1 60 0 = 0 := by rw [← hM1, rd_self]
  have f1 : FM M M1 := by rw [← hM1]; exact FM.rf.sI (by decide)
  have h8 := h1.2.1.2.2.2.2
  refine e_aload_n dX6_undo_5 rfl rfl ?_
  refine e_getI dX6_undo_6 fRX6_242 (by exact h1.1.sh rfl) (fun _ => rfl) ?_
  rw [h1.2.1.2.2.2.1]
  cases hg : (shh s).getLast? with
  | none =>
    have hnil : shh s = [] := List.getLast?_eq_none_iff.mp hg
    have e9 : sUndo s = okR (-1) s := by unfold sUndo; rw [hg]
    rw [e9, hnil]
    refine e_if_ne (tgt := 14) dX6_undo_9 (by decide) (fun hz => absurd rfl hz) (fun _ => ?_)
    refine e_iconst (v := (-1)) dX6_undo_12 (by decide) ?_
    exact e_iret dX6_undo_13 rfl rfl (mpo_ok h1 z1 f1)
  | some g =>
    have hne : shh s ≠ [] := fun q => by rw [q] at hg; cases hg
    have hpos : 0 < (shh s).length := List.length_pos_iff.mpr hne
    have e9 : sUndo s = okR (nI ((shh s).length - 1)) (setG (setH s (shh s).dropLast) g) := by unfold sUndo; rw [hg]
    rw [e9]
    have hget : (shh s)[(shh s).length - 1]? = some g := by rw [← List.getLast?_eq_getElem?]; exact hg
    refine e_if_ne (tgt := 14) dX6_undo_9 (by decide) (fun _ => ?_) (fun hz => absurd ((nI_eq (b := 0) (by omega) (by decide)).mp hz) (by omega))
    refine e_aload_n dX6_undo_14 rfl rfl ?_
    refine e_dup dX6_undo_15 rfl ?_
    refine e_getI dX6_undo_16 fRX6_242 (by exact h1.1.sh rfl) (fun _ => rfl) ?_
    rw [h1.2.1.2.2.2.1]
    refine e_iconst (v := 1) dX6_undo_19 (by decide) ?_
    refine e_isub dX6_undo_20 ?_
    rw [nI_m1 (by omega)]
    refine e_putI dX6_undo_21 fRX6_242 (by exact h1.1.sh rfl) rfl rfl rfl (fun _ _ => rfl) ?_
    have hdl : (shh s).dropLast.length = (shh s).length - 1 := List.length_dropLast
    have i2 : MI (sI M1 60 12 (nI ((shh s).length - 1))) (setH s (shh s).dropLast) := h1.past MR.rf.b (by omega) (by rw [rd_self, hdl]) (fun i g' hi => by
      have hil : i < (shh s).dropLast.length := by
        rcases Nat.lt_or_ge i (shh s).dropLast.length with q | q
        · exact q
        · rw [List.getElem?_eq_none q] at hi; cases hi
      rw [List.getElem?_dropLast] at hi
      rw [if_pos (by omega)] at hi
      have := h1.2.2.2.2.1 i g' hi
      exact ⟨this.1.at (sI_row (by omega)), this.2⟩)
    have hold := h1.2.2.2.2.1 _ g hget
    have hnow : NowR (sI M1 60 12 (nI ((shh s).length - 1))) (66 + ((shh s).length - 1)) g := hold.1.at (sI_row (by omega))
    have h12 : (sI M1 60 12 (nI ((shh s).length - 1))).2.1 60 12 = nI ((shh s).length - 1) := by rw [rd_self]
    have z2 : (sI M1 60 12 (nI ((shh s).length - 1))).2.1 60 0 = 0 := by rw [rd_ni (by decide)]; exact z1
    have f2 : FM M (sI M1 60 12 (nI ((shh s).length - 1))) := f1.sI (by decide)
    generalize sI M1 60 12 (nI ((shh s).length - 1)) = M2 at *
    refine e_aload_n dX6_undo_24 rfl rfl ?_
    refine e_getR dX6_undo_25 fRX6_28 (by exact i2.1.sh rfl) (by first | exact i2.1.rf rfl | (rw [nI_clamp (by omega)]; exact i2.1.rf (fin_past _ (by omega)))) (fun _ => rfl) ?_
    refine e_aload_n dX6_undo_28 rfl rfl ?_
    refine e_getI dX6_undo_29 fRX6_242 (by exact i2.1.sh rfl) (fun _ => rfl) ?_
    rw [h12]
    refine e_aaloadA dX6_undo_32 (by exact i2.1.sh rfl) (by exact vp_in_nI (show (shh s).length - 1 < 8 by omega) (by decide)) (by first | exact i2.1.rf rfl | (rw [nI_clamp (by omega)]; exact i2.1.rf (fin_past _ (by omega)))) ?_
    refine e_aload_n dX6_undo_33 rfl rfl ?_
    refine e_getR dX6_undo_34 fRX6_20 (by exact i2.1.sh rfl) (by first | exact i2.1.rf rfl | (rw [nI_clamp (by omega)]; exact i2.1.rf (fin_past _ (by omega)))) (fun _ => rfl) ?_
    refine e_callS1 [_, _] dX6_undo_37 msmX6_copies lkRX6_174 rfl rfl (Nat.le_of_ble_eq_true rfl) (by decide) (c_copies (a := 66 + ((shh s).length - 1)) (b := 63) (i2.1.sh (sz_past _ (by omega))) (i2.1.sh rfl) (by omega)) (fun u K hk => ?_)
    obtain ⟨hu, k1, k2⟩ := hk
    subst hu
    have okK : OkM K := i2.1.fr k1
    have i3 := i2.net k1 (hnow.copy k2) hold.2
    refine e_aload_n dX6_undo_40 rfl rfl ?_
    refine e_callV0v [] dX6_undo_41 mvmX6_changes lkRX6_69 (by exact okK.sh rfl) ⟨by decide, rfl⟩ rfl rfl (Nat.le_of_ble_eq_true rfl) (by decide) (c_changes okK) ?_
    refine e_aload_n dX6_undo_44 rfl rfl ?_
    refine e_getI dX6_undo_45 fRX6_242 (by exact i3.1.sh rfl) (fun _ => rfl) ?_
    rw [rd_ni (by decide), k1.2.2 60 (by omega), h12]
    refine e_iret dX6_undo_48 rfl rfl (mpo_ok i3 ?_ (f2.trans ((k1.FM (by decide)).sI (by decide))))
    rw [rd_ni (by decide), k1.2.2 60 (by omega)]; exact z2
/-- the bytes of five ints -/
def v5 (a b c d e : Int32) (i : Nat) : Int32 := match i with
  | 0 => a
  | 1 => b
  | 2 => c
  | 3 => d
  | _ => e
def fk (T : Nat → Nat) (l : Nat) (v : Nat → Int32) : Nat → Nat → Nat
  | 0 => T
  | k + 1 => w1 (fk T l v k) (l + k) (byt (v (k / 4)) (k % 4))
theorem fk_fed5 (T : Nat → Nat) (l : Nat) (a b c d e : Int32) : fk T l (v5 a b c d e) 20 = fed5 T l a b c d e := rfl
theorem sub_nI {a b : Nat} (h : b ≤ a) : nI a - nI b = nI (a - b) := by
  have : nI (a - b) + nI b = nI a := by rw [nI_add]; congr 1; omega
  rw [← this, Int32.add_sub_cancel]
theorem c_mfeed {B : Bd} {M : Mm} {s : Sx} {a b c d e : Int32} (h : MI M s) : Ct B mX6_feed 0 0 0 [.ref 60, .int a, .int b, .int c, .int d, .int e] M (MPo M (sFeed s a b c d e)) := by
  refine Ct.of (by decide) rfl rfl (Nat.le_of_ble_eq_true rfl) ?_
  refine e_aload_n dX6_feed_0 rfl rfl ?_
  refine e_iconst (v := 0) dX6_feed_1 (by decide) ?_
  refine e_putI dX6_feed_2 fRX6_72 (by exact h.1.sh rfl) rfl rfl rfl (fun _ _ => rfl) ?_
  generalize hM1 : sI M 60 0 0 = M1
  have h1 : MI M1 s := by rw [← hM1]; exact h.t
  have z1 : M1.2.1 60 0 = 0 := by rw [← hM1, rd_self]
  have f1 : FM M M1 := by rw [← hM1]; exact FM.rf.sI (by decide)
  have hl5 := h1.2.1.2.1
  refine e_aload_n dX6_feed_5 rfl rfl ?_
  refine e_getI dX6_feed_6 fRX6_75 (by exact h1.1.sh rfl) (fun _ => rfl) ?_
  rw [h1.2.1.1]
  refine e_bipush (v := 20) dX6_feed_9 (by decide) ?_
  refine e_iadd dX6_feed_11 ?_
  refine e_sipush (v := 500) dX6_feed_12 (by decide) ?_
  rw [show nI (sll s) + 20 = nI (sll s + 20) from by rw [show (20 : Int32) = nI 20 from rfl, nI_add], show (500 : Int32) = nI 500 from fa_lit 500]
  by_cases hle : sll s + 20 ≤ 500
  · have e9 : sFeed s a b c d e = okR (nI (sll s + 20)) (setT s (fed5 (sTT s) (sll s) a b c d e) (sll s + 20)) := by unfold sFeed; rw [if_pos hle]
    rw [e9, ← fk_fed5]
    refine e_icmp_le (tgt := 20) dX6_feed_15 (by decide) (fun _ => ?_) (fun hz => absurd (nI_le hle (by omega)) hz)
    generalize hv : v5 a b c d e = v
    refine e_iconst (v := 0) dX6_feed_20 (by decide) ?_
    refine e_istore dX6_feed_21 (by decide) rfl rfl ?_
    have loop : ∀ j k N (t : Option Value), k + j = 20 → MI N (setT s (fk (sTT s) (sll s) v k) (sll s + k)) → N.2.1 60 0 = 0 → FM M N → Ev B mX6_feed 0 0 0 (MPo M (okR (nI (sll s + 20)) (setT s (fk (sTT s) (sll s) v 20) (sll s + 20)))) 23 [some (.ref 60), some (.int a), some (.int b), some (.int c), some (.int d), some (.int e), some (.int (nI k)), t] [] N := by
      intro j
      induction j with
      | zero =>
        intro k N t hk iN zN fN
        have : k = 20 := by omega
        subst this
        refine e_iload dX6_feed_23 rfl ?_
        refine e_bipush (v := 20) dX6_feed_25 (by decide) ?_
        refine e_icmp_ge (tgt := 120) dX6_feed_27 (by decide) (fun _ => ?_) (fun hz => absurd (nI_le (a := 20) (b := 20) (by omega) (by omega)) hz)
        refine e_aload_n dX6_feed_120 rfl rfl ?_
        refine e_getI dX6_feed_121 fRX6_75 (by exact iN.1.sh rfl) (fun _ => rfl) ?_
        rw [iN.2.1.1]
        exact e_iret dX6_feed_124 rfl rfl (mpo_ok iN zN fN)
      | succ j ih =>
        intro k N t hk iN zN fN
        -- behind the choice
        have go : Ev B mX6_feed 0 0 0 (MPo M (okR (nI (sll s + 20)) (setT s (fk (sTT s) (sll s) v 20) (sll s + 20)))) 76 [some (.ref 60), some (.int a), some (.int b), some (.int c), some (.int d), some (.int e), some (.int (nI k)), t] [.int (v (k / 4))] N := by
          refine e_istore dX6_feed_76 (by decide) rfl rfl ?_
          refine e_aload_n dX6_feed_78 rfl rfl ?_
          refine e_getR dX6_feed_79 fRX6_17 (by exact iN.1.sh rfl) (by exact iN.1.rf rfl) (fun _ => rfl) ?_
          refine e_aload_n dX6_feed_82 rfl rfl ?_
          refine e_getI dX6_feed_83 fRX6_75 (by exact iN.1.sh rfl) (fun _ => rfl) ?_
          rw [iN.2.1.1]
          refine e_iload dX6_feed_86 rfl ?_
          refine e_bipush (v := 24) dX6_feed_88 (by decide) ?_
          refine e_bipush (v := 8) dX6_feed_90 (by decide) ?_
          refine e_iload dX6_feed_92 rfl ?_
          refine e_iconst (v := 4) dX6_feed_94 (by decide) ?_
          refine e_irem dX6_feed_95 (by decide) ?_
          have er : nI k - nI k / 4 * 4 = nI (k % 4) := fa_rem (k := 2) (by omega) (by decide)
          rw [er]
          refine e_imul dX6_feed_96 ?_
          have em : 8 * nI (k % 4) = nI (8 * (k % 4)) := pk_mul 8 _
          rw [em]
          refine e_isub dX6_feed_97 ?_
          have es : 24 - nI (8 * (k % 4)) = nI (24 - 8 * (k % 4)) := sub_nI (a := 24) (by omega)
          rw [es]
          refine e_ishr dX6_feed_98 ?_
          refine e_sipush (v := 255) dX6_feed_99 (by decide) ?_
          refine e_iand dX6_feed_102 ?_
          rw [(byt_ok (v (k / 4)) (k % 4)).2]
          refine e_iastore dX6_feed_103 (by exact iN.1.sh rfl) (by exact vp_in_nI (show sll s + k < 500 by omega) (by decide)) ?_
          have ec : (nI (sll (setT s (fk (sTT s) (sll s) v k) (sll s + k)))).toNatClampNeg = sll s + k := nI_clamp (by show sll s + k < _; omega)
          rw [ec]
          refine e_aload_n dX6_feed_104 rfl rfl ?_
          refine e_dup dX6_feed_105 rfl ?_
          refine e_getI dX6_feed_106 fRX6_75 (by exact iN.1.sh rfl) (fun _ => rfl) ?_
          rw [rd_na (by decide), iN.2.1.1]
          refine e_iconst (v := 1) dX6_feed_109 (by decide) ?_
          refine e_iadd dX6_feed_110 ?_
          rw [nI_1]
          refine e_putI dX6_feed_111 fRX6_75 (by exact iN.1.sh rfl) rfl rfl rfl (fun _ _ => rfl) ?_
          refine e_iinc (v := nI (k + 1)) dX6_feed_114 rfl (nI_1 k) (by decide) rfl rfl ?_
          refine e_goto (tgt := 23) dX6_feed_117 (by decide) ?_
          refine ih (k + 1) _ _ (by omega) ?_ (by rw [rd_ni (by decide), rd_na (by decide)]; exact zN) ((fN.sI (by decide)).sI (by decide))
          have hb := byt_ok (v (k / 4)) (k % 4)
          obtain ⟨ok, ⟨a1, a2, a3, a4, a5⟩, ⟨b1, b2⟩, ⟨c1, c2⟩, d1, e1, f1⟩ := iN
          generalize hK : sI (sI N 62 (sll s + k) (nI (byt (v (k / 4)) (k % 4)))) 60 2 (nI (sll (setT s (fk (sTT s) (sll s) v k) (sll s + k)) + 1)) = K
          have eq : ∀ q, q ≠ 60 → q ≠ 62 → K.2.1 q = N.2.1 q := fun q h1 h2 => by rw [← hK]; exact (u2_ne _ _ _ h1).trans (u2_ne _ _ _ h2)
          have eq2 : ∀ i, i ≠ 2 → K.2.1 60 i = N.2.1 60 i := fun i hi => by rw [← hK, rd_ni hi, rd_na (by decide)]
          refine ⟨by rw [← hK]; exact ok.of rfl rfl, ⟨by rw [← hK, rd_self]; rfl, by show sll s + (k + 1) ≤ 500; omega, by rw [eq2 5 (by decide)]; exact a3, by rw [eq2 12 (by decide)]; exact a4, a5⟩, ⟨fun i => ?_, fun i hi => ?_⟩, ⟨c1.at (eq 63 (by decide) (by decide)), c2⟩, fun i g hg => ⟨(d1 i g hg).1.at (eq _ (by omega) (by omega)), (d1 i g hg).2⟩, e1.at (eq2 19 (by decide)) (eq _ (by decide) (by decide)) (eq _ (by decide) (by decide)) (eq _ (by decide) (by decide)) (by rw [← hK]; rfl), fun i hi => by rw [eq 61 (by decide) (by decide)]; exact f1 i hi⟩
          · show (if i = sll s + k then byt (v (k / 4)) (k % 4) else fk (sTT s) (sll s) v k i) < 256
            by_cases hi : i = sll s + k
            · rw [if_pos hi]; exact hb.1
            · rw [if_neg hi]; exact b1 i
          · show K.2.1 62 i = nI (if i = sll s + k then byt (v (k / 4)) (k % 4) else fk (sTT s) (sll s) v k i)
            rw [← hK, rd_na (by decide)]
            by_cases hi2 : i = sll s + k
            · rw [if_pos hi2, hi2, rd_self]
            · rw [if_neg hi2, rd_ni hi2]; exact b2 i hi
        refine e_iload dX6_feed_23 rfl ?_
        refine e_bipush (v := 20) dX6_feed_25 (by decide) ?_
        refine e_icmp_ge (tgt := 120) dX6_feed_27 (by decide) (fun hz => absurd hz (nI_ge (b := 20) (by omega) (by omega))) (fun _ => ?_)
        refine e_iload dX6_feed_30 rfl ?_
        refine e_iconst (v := 4) dX6_feed_32 (by decide) ?_
        refine e_icmp_ge (tgt := 40) dX6_feed_33 (by decide) (fun hz => ?_) (fun hz => ?_)
        · have k4 : 4 ≤ k := (nI_leI (a := 4) (by decide) (by omega)).mp hz
          refine e_iload dX6_feed_40 rfl ?_
          refine e_bipush (v := 8) dX6_feed_42 (by decide) ?_
          refine e_icmp_ge (tgt := 51) dX6_feed_44 (by decide) (fun hz => ?_) (fun hz => ?_)
          · have k8 : 8 ≤ k := (nI_leI (a := 8) (by decide) (by omega)).mp hz
            refine e_iload dX6_feed_51 rfl ?_
            refine e_bipush (v := 12) dX6_feed_53 (by decide) ?_
            refine e_icmp_ge (tgt := 62) dX6_feed_55 (by decide) (fun hz => ?_) (fun hz => ?_)
            · have k12 : 12 ≤ k := (nI_leI (a := 12) (by decide) (by omega)).mp hz
              refine e_iload dX6_feed_62 rfl ?_
              refine e_bipush (v := 16) dX6_feed_64 (by decide) ?_
              refine e_icmp_ge (tgt := 74) dX6_feed_66 (by decide) (fun hz => ?_) (fun hz => ?_)
              · have k16 : 16 ≤ k := (nI_leI (a := 16) (by decide) (by omega)).mp hz
                refine e_iload dX6_feed_74 rfl ?_
                have ev : e = v (k / 4) := by rw [← hv, show k / 4 = 4 by omega]; rfl
                rw [← ev] at go
                exact go
              · have k16 : k < 16 := Classical.byContradiction (fun q => hz (nI_le (a := 16) (by omega) (by omega)))
                refine e_iload dX6_feed_69 rfl ?_
                refine e_goto (tgt := 76) dX6_feed_71 (by decide) ?_
                have ev : d = v (k / 4) := by rw [← hv, show k / 4 = 3 by omega]; rfl
                rw [← ev] at go
                exact go
            · have k12 : k < 12 := Classical.byContradiction (fun q => hz (nI_le (a := 12) (by omega) (by omega)))
              refine e_iload_n dX6_feed_58 rfl rfl ?_
              refine e_goto (tgt := 76) dX6_feed_59 (by decide) ?_
              have ev : c = v (k / 4) := by rw [← hv, show k / 4 = 2 by omega]; rfl
              rw [← ev] at go
              exact go
          · have k8 : k < 8 := Classical.byContradiction (fun q => hz (nI_le (a := 8) (by omega) (by omega)))
            refine e_iload_n dX6_feed_47 rfl rfl ?_
            refine e_goto (tgt := 76) dX6_feed_48 (by decide) ?_
            have ev : b = v (k / 4) := by rw [← hv, show k / 4 = 1 by omega]; rfl
            rw [← ev] at go
            exact go
        · have k4 : k < 4 := Classical.byContradiction (fun q => hz (nI_le (a := 4) (by omega) (by omega)))
          refine e_iload_n dX6_feed_36 rfl rfl ?_
          refine e_goto (tgt := 76) dX6_feed_37 (by decide) ?_
          have ev : a = v (k / 4) := by rw [← hv, show k / 4 = 0 by omega]; rfl
          rw [← ev] at go
          exact go
    exact loop 20 0 M1 none (by omega) h1 z1 f1
  · have e9 : sFeed s a b c d e = okR (-1) s := by unfold sFeed; rw [if_neg hle]
    rw [e9]
    refine e_icmp_le (tgt := 20) dX6_feed_15 (by decide) (fun hz => absurd ((nI_leI (by omega) (by decide)).mp hz) hle) (fun _ => ?_)
    refine e_iconst (v := (-1)) dX6_feed_18 (by decide) ?_
    exact e_iret dX6_feed_19 rfl rfl (mpo_ok h1 z1 f1)
theorem c_mjoin {B : Bd} {M : Mm} {s : Sx} {x y z : Int32} (h : MI M s) : Ct B mX6_join 2 0 0 [.ref 60, .int x, .int y, .int z] M (MPo M (sJoin s x y z)) := by
  refine Ct.of (by decide) rfl rfl (Nat.le_of_ble_eq_true rfl) ?_
  refine e_aload_n dX6_join_0 rfl rfl ?_
  refine e_iconst (v := 0) dX6_join_1 (by decide) ?_
  refine e_putI dX6_join_2 fRX6_72 (by exact h.1.sh rfl) rfl rfl rfl (fun _ _ => rfl) ?_
  generalize hM1 : sI M 60 0 0 = M1
  have h1 : MI M1 s := by rw [← hM1]; exact h.t
  have z1 : M1.2.1 60 0 = 0 := by rw [← hM1, rd_self]
  have f1 : FM M M1 := by rw [← hM1]; exact FM.rf.sI (by decide)
  have hg12 := h1.g12
  have wf := h1.wf
  refine e_aload_n dX6_join_5 rfl rfl ?_
  refine e_aload_n dX6_join_6 rfl rfl ?_
  refine e_iload_n dX6_join_7 rfl rfl ?_
  refine e_callV0i [_] dX6_join_8 mvmX6_isNode lkRX6_245 (by exact h1.1.sh rfl) ⟨by decide, rfl⟩ rfl rfl (Nat.le_of_ble_eq_true rfl) (by decide) (c_isNode h1.1 h1.now hg12) ?_
  cases hx : nod (sgg s) x with
  | none =>
    rw [if_neg (by simp)]
    refine e_if_eq (tgt := 22) dX6_join_11 (by decide) (fun _ => ?_) (fun hz => absurd rfl hz)
    refine e_iconst (v := 1) dX6_join_22 (by decide) ?_
    refine e_goto (tgt := 27) dX6_join_23 (by decide) ?_
    refine e_iconst (v := 1) dX6_join_27 (by decide) ?_
    refine e_iconst (v := 0) dX6_join_28 (by decide) ?_
    refine e_callV0i [_, _, _] dX6_join_29 mvmX6_bad lkRX6_159 (by exact h1.1.sh rfl) ⟨by decide, rfl⟩ rfl rfl (Nat.le_of_ble_eq_true rfl) (by decide) (c_bad1 (c := 0) (k := 0) h1.1 z1 (by decide) (by decide)) ?_
    refine e_if_ne (tgt := 65) dX6_join_32 (by decide) (fun _ => ?_) (fun hz => absurd hz (by decide))
    refine e_iconst (v := 0) dX6_join_65 (by decide) ?_
    refine e_iret dX6_join_66 rfl rfl ?_
    show MPo M (sJoin s x y z) _ _
    unfold sJoin
    rw [hx]
    cases nod (sgg s) y <;> exact mpo_rej h1 (by decide) f1
  | some a =>
    rw [if_pos (by rfl)]
    refine e_if_eq (tgt := 22) dX6_join_11 (by decide) (fun hz => absurd hz (by decide)) (fun _ => ?_)
    refine e_aload_n dX6_join_14 rfl rfl ?_
    refine e_iload_n dX6_join_15 rfl rfl ?_
    refine e_callV0i [_] dX6_join_16 mvmX6_isNode lkRX6_245 (by exact h1.1.sh rfl) ⟨by decide, rfl⟩ rfl rfl (Nat.le_of_ble_eq_true rfl) (by decide) (c_isNode h1.1 h1.now hg12) ?_
    cases hy : nod (sgg s) y with
    | none =>
      rw [if_neg (by simp)]
      refine e_if_ne (tgt := 26) dX6_join_19 (by decide) (fun hz => absurd rfl hz) (fun _ => ?_)
      refine e_iconst (v := 1) dX6_join_22 (by decide) ?_
      refine e_goto (tgt := 27) dX6_join_23 (by decide) ?_
      refine e_iconst (v := 1) dX6_join_27 (by decide) ?_
      refine e_iconst (v := 0) dX6_join_28 (by decide) ?_
      refine e_callV0i [_, _, _] dX6_join_29 mvmX6_bad lkRX6_159 (by exact h1.1.sh rfl) ⟨by decide, rfl⟩ rfl rfl (Nat.le_of_ble_eq_true rfl) (by decide) (c_bad1 (c := 0) (k := 0) h1.1 z1 (by decide) (by decide)) ?_
      refine e_if_ne (tgt := 65) dX6_join_32 (by decide) (fun _ => ?_) (fun hz => absurd hz (by decide))
      refine e_iconst (v := 0) dX6_join_65 (by decide) ?_
      refine e_iret dX6_join_66 rfl rfl ?_
      show MPo M (sJoin s x y z) _ _
      unfold sJoin
      rw [hx, hy]
      exact mpo_rej h1 (by decide) f1
    | some b =>
      obtain ⟨ha, hxa⟩ := (nod_some hg12.2).mp hx
      obtain ⟨hb, hyb⟩ := (nod_some hg12.2).mp hy
      rw [if_pos (by rfl)]
      refine e_if_ne (tgt := 26) dX6_join_19 (by decide) (fun _ => ?_) (fun hz => absurd hz (by decide))
      refine e_iconst (v := 0) dX6_join_26 (by decide) ?_
      refine e_iconst (v := 1) dX6_join_27 (by decide) ?_
      refine e_iconst (v := 0) dX6_join_28 (by decide) ?_
      refine e_callV0i [_, _, _] dX6_join_29 mvmX6_bad lkRX6_159 (by exact h1.1.sh rfl) ⟨by decide, rfl⟩ rfl rfl (Nat.le_of_ble_eq_true rfl) (by decide) (c_bad0 h1.1 z1) ?_
      refine e_if_ne (tgt := 65) dX6_join_32 (by decide) (fun hz => absurd rfl hz) (fun _ => ?_)
      have e9 : sJoin s x y z = if a ≠ b ∧ 0 ≤ z.toInt ∧ z.toInt ≤ 999 then act s (nI (lnc (w2 (sgg s).2.1 a b (some z.toInt.toNat)))) (gPut (sgg s) a b (some z.toInt.toNat)) else rej 2 1 s := by unfold sJoin; rw [hx, hy]
      subst hxa hyb
      -- refused
      have no : ¬ (a ≠ b ∧ 0 ≤ z.toInt ∧ z.toInt ≤ 999) → Ev B mX6_join 2 0 0 (MPo M (sJoin s (nI a) (nI b) z)) 52 [some (.ref 60), some (.int (nI a)), some (.int (nI b)), some (.int z)] [.ref 60] M1 := by
        intro hno
        rw [e9, if_neg hno]
        refine e_iconst (v := 1) dX6_join_52 (by decide) ?_
        refine e_goto (tgt := 57) dX6_join_53 (by decide) ?_
        refine e_iconst (v := 2) dX6_join_57 (by decide) ?_
        refine e_iconst (v := 1) dX6_join_58 (by decide) ?_
        refine e_callV0i [_, _, _] dX6_join_59 mvmX6_bad lkRX6_159 (by exact h1.1.sh rfl) ⟨by decide, rfl⟩ rfl rfl (Nat.le_of_ble_eq_true rfl) (by decide) (c_bad1 (c := 1) (k := 1) h1.1 z1 (by decide) (by decide)) ?_
        refine e_if_eq (tgt := 67) dX6_join_62 (by decide) (fun hz => absurd hz (by decide)) (fun _ => ?_)
        refine e_iconst (v := 0) dX6_join_65 (by decide) ?_
        exact e_iret dX6_join_66 rfl rfl (mpo_rej h1 (by decide) f1)
      refine e_aload_n dX6_join_35 rfl rfl ?_
      refine e_iload_n dX6_join_36 rfl rfl ?_
      refine e_iload_n dX6_join_37 rfl rfl ?_
      refine e_icmp_eq (tgt := 52) dX6_join_38 (by decide) (fun hz => ?_) (fun hz => ?_)
      · have hab := (nI_eq (by omega) (by omega)).mp hz
        exact no (fun q => q.1 hab)
      · have hab : a ≠ b := fun q => hz (by rw [q])
        refine e_iload_n dX6_join_41 rfl rfl ?_
        refine e_iconst (v := 0) dX6_join_42 (by decide) ?_
        refine e_sipush (v := 999) dX6_join_43 (by decide) ?_
        refine e_callS0i [_, _, _] dX6_join_46 msmX6_in lkRX6_111 rfl rfl (Nat.le_of_ble_eq_true rfl) (by decide) (c_in (x := z) (lo := 0) (hi := 999)) ?_
        have e5 : (0 : Int32).toInt = 0 := rfl
        have e6 : (999 : Int32).toInt = 999 := rfl
        rw [e5, e6]
        by_cases hw : 0 ≤ z.toInt ∧ z.toInt ≤ 999
        · rw [if_pos hw]
          refine e_if_ne (tgt := 56) dX6_join_49 (by decide) (fun _ => ?_) (fun hz => absurd hz (by decide))
          refine e_iconst (v := 0) dX6_join_56 (by decide) ?_
          refine e_iconst (v := 2) dX6_join_57 (by decide) ?_
          refine e_iconst (v := 1) dX6_join_58 (by decide) ?_
          refine e_callV0i [_, _, _] dX6_join_59 mvmX6_bad lkRX6_159 (by exact h1.1.sh rfl) ⟨by decide, rfl⟩ rfl rfl (Nat.le_of_ble_eq_true rfl) (by decide) (c_bad0 h1.1 z1) ?_
          refine e_if_eq (tgt := 67) dX6_join_62 (by decide) (fun _ => ?_) (fun hz => absurd rfl hz)
          refine e_aload_n dX6_join_67 rfl rfl ?_
          refine e_callV1 [] dX6_join_68 mvmX6_remembers lkRX6_171 (by exact h1.1.sh rfl) ⟨by decide, rfl⟩ rfl rfl (Nat.le_of_ble_eq_true rfl) (by decide) (c_remembers h1) (fun u N2 h2 => ?_)
          obtain ⟨hu, i2, r2⟩ := h2
          subst hu
          have ok2 := i2.1
          have ez : z = nI z.toInt.toNat := by rw [fa_eq, nI_toInt (by omega)]; omega
          refine e_aload_n dX6_join_71 rfl rfl ?_
          refine e_getR dX6_join_72 fRX6_20 (by exact ok2.sh rfl) (by exact ok2.rf rfl) (fun _ => rfl) ?_
          refine e_iload_n dX6_join_75 rfl rfl ?_
          refine e_iload_n dX6_join_76 rfl rfl ?_
          refine e_iload_n dX6_join_77 rfl rfl ?_
          refine e_callS0v [_, _, _, _] dX6_join_78 msmX6_joins lkRX6_65 rfl rfl (Nat.le_of_ble_eq_true rfl) (by decide) (c_joins (r := 63) (v := z) (ok2.sh rfl) (by omega : a < 12) (by omega : b < 12)) ?_
          have hj := i2.now.join (v := some z.toInt.toNat) (by omega : a < 12) (by omega : b < 12)
          have ez2 : wI (some z.toInt.toNat) = z := ez.symm
          rw [ez2] at hj
          have f65 : Fr 63 63 N2 (sI (sI N2 63 (13 + 12 * a + b) z) 63 (13 + 12 * b + a) z) := (Fr.rf.sI (by decide) (by decide)).sI (by decide) (by decide)
          generalize sI (sI N2 63 (13 + 12 * a + b) z) 63 (13 + 12 * b + a) z = K at hj f65
          have okK : OkM K := ok2.fr f65
          have hgd : Gd (gPut (sgg s) a b (some z.toInt.toNat)) := Gd_put h1.2.2.2.1.2 ha hb hab (by omega)
          have iK := i2.net f65 hj hgd
          refine e_aload_n dX6_join_81 rfl rfl ?_
          refine e_callV0v [] dX6_join_82 mvmX6_changes lkRX6_69 (by exact okK.sh rfl) ⟨by decide, rfl⟩ rfl rfl (Nat.le_of_ble_eq_true rfl) (by decide) (c_changes okK) ?_
          refine e_aload_n dX6_join_85 rfl rfl ?_
          refine e_callV0i [] dX6_join_86 mvmX6_lines lkRX6_178 (by exact iK.1.sh rfl) ⟨by decide, rfl⟩ rfl rfl (Nat.le_of_ble_eq_true rfl) (by decide) (c_lines iK.1 iK.now iK.wf) ?_
          rw [e9, if_pos ⟨hab, hw⟩]
          refine e_iret dX6_join_89 rfl rfl (mpo_ok iK ?_ ((f1.trans r2.FM).trans ((f65.FM (by decide)).sI (by decide))))
          rw [rd_ni (by decide), f65.2.2 60 (by omega), r2.2.2.1 0 (by decide)]; exact z1
        · rw [if_neg hw]
          refine e_if_ne (tgt := 56) dX6_join_49 (by decide) (fun hz => absurd rfl hz) (fun _ => ?_)
          exact no (fun q => hw q.2)
theorem c_mcut {B : Bd} {M : Mm} {s : Sx} {x y : Int32} (h : MI M s) : Ct B mX6_cut 2 0 0 [.ref 60, .int x, .int y] M (MPo M (sCut s x y)) := by
  refine Ct.of (by decide) rfl rfl (Nat.le_of_ble_eq_true rfl) ?_
  refine e_aload_n dX6_cut_0 rfl rfl ?_
  refine e_iconst (v := 0) dX6_cut_1 (by decide) ?_
  refine e_putI dX6_cut_2 fRX6_72 (by exact h.1.sh rfl) rfl rfl rfl (fun _ _ => rfl) ?_
  generalize hM1 : sI M 60 0 0 = M1
  have h1 : MI M1 s := by rw [← hM1]; exact h.t
  have z1 : M1.2.1 60 0 = 0 := by rw [← hM1, rd_self]
  have f1 : FM M M1 := by rw [← hM1]; exact FM.rf.sI (by decide)
  have hg12 := h1.g12
  have wf := h1.wf
  refine e_aload_n dX6_cut_5 rfl rfl ?_
  refine e_aload_n dX6_cut_6 rfl rfl ?_
  refine e_iload_n dX6_cut_7 rfl rfl ?_
  refine e_callV0i [_] dX6_cut_8 mvmX6_isNode lkRX6_245 (by exact h1.1.sh rfl) ⟨by decide, rfl⟩ rfl rfl (Nat.le_of_ble_eq_true rfl) (by decide) (c_isNode h1.1 h1.now hg12) ?_
  cases hx : nod (sgg s) x with
  | none =>
    rw [if_neg (by simp)]
    refine e_if_eq (tgt := 22) dX6_cut_11 (by decide) (fun _ => ?_) (fun hz => absurd rfl hz)
    refine e_iconst (v := 1) dX6_cut_22 (by decide) ?_
    refine e_goto (tgt := 27) dX6_cut_23 (by decide) ?_
    refine e_iconst (v := 1) dX6_cut_27 (by decide) ?_
    refine e_iconst (v := 0) dX6_cut_28 (by decide) ?_
    refine e_callV0i [_, _, _] dX6_cut_29 mvmX6_bad lkRX6_159 (by exact h1.1.sh rfl) ⟨by decide, rfl⟩ rfl rfl (Nat.le_of_ble_eq_true rfl) (by decide) (c_bad1 (c := 0) (k := 0) h1.1 z1 (by decide) (by decide)) ?_
    refine e_if_ne (tgt := 78) dX6_cut_32 (by decide) (fun _ => ?_) (fun hz => absurd hz (by decide))
    refine e_iconst (v := 0) dX6_cut_78 (by decide) ?_
    refine e_iret dX6_cut_79 rfl rfl ?_
    show MPo M (sCut s x y) _ _
    unfold sCut
    rw [hx]
    cases nod (sgg s) y <;> exact mpo_rej h1 (by decide) f1
  | some a =>
    rw [if_pos (by rfl)]
    refine e_if_eq (tgt := 22) dX6_cut_11 (by decide) (fun hz => absurd hz (by decide)) (fun _ => ?_)
    refine e_aload_n dX6_cut_14 rfl rfl ?_
    refine e_iload_n dX6_cut_15 rfl rfl ?_
    refine e_callV0i [_] dX6_cut_16 mvmX6_isNode lkRX6_245 (by exact h1.1.sh rfl) ⟨by decide, rfl⟩ rfl rfl (Nat.le_of_ble_eq_true rfl) (by decide) (c_isNode h1.1 h1.now hg12) ?_
    cases hy : nod (sgg s) y with
    | none =>
      rw [if_neg (by simp)]
      refine e_if_ne (tgt := 26) dX6_cut_19 (by decide) (fun hz => absurd rfl hz) (fun _ => ?_)
      refine e_iconst (v := 1) dX6_cut_22 (by decide) ?_
      refine e_goto (tgt := 27) dX6_cut_23 (by decide) ?_
      refine e_iconst (v := 1) dX6_cut_27 (by decide) ?_
      refine e_iconst (v := 0) dX6_cut_28 (by decide) ?_
      refine e_callV0i [_, _, _] dX6_cut_29 mvmX6_bad lkRX6_159 (by exact h1.1.sh rfl) ⟨by decide, rfl⟩ rfl rfl (Nat.le_of_ble_eq_true rfl) (by decide) (c_bad1 (c := 0) (k := 0) h1.1 z1 (by decide) (by decide)) ?_
      refine e_if_ne (tgt := 78) dX6_cut_32 (by decide) (fun _ => ?_) (fun hz => absurd hz (by decide))
      refine e_iconst (v := 0) dX6_cut_78 (by decide) ?_
      refine e_iret dX6_cut_79 rfl rfl ?_
      show MPo M (sCut s x y) _ _
      unfold sCut
      rw [hx, hy]
      exact mpo_rej h1 (by decide) f1
    | some b =>
      obtain ⟨ha, hxa⟩ := (nod_some hg12.2).mp hx
      obtain ⟨hb, hyb⟩ := (nod_some hg12.2).mp hy
      rw [if_pos (by rfl)]
      refine e_if_ne (tgt := 26) dX6_cut_19 (by decide) (fun _ => ?_) (fun hz => absurd hz (by decide))
      refine e_iconst (v := 0) dX6_cut_26 (by decide) ?_
      refine e_iconst (v := 1) dX6_cut_27 (by decide) ?_
      refine e_iconst (v := 0) dX6_cut_28 (by decide) ?_
      refine e_callV0i [_, _, _] dX6_cut_29 mvmX6_bad lkRX6_159 (by exact h1.1.sh rfl) ⟨by decide, rfl⟩ rfl rfl (Nat.le_of_ble_eq_true rfl) (by decide) (c_bad0 h1.1 z1) ?_
      refine e_if_ne (tgt := 78) dX6_cut_32 (by decide) (fun hz => absurd rfl hz) (fun _ => ?_)
      have e9 : sCut s x y = if a = b then rej 2 1 s else if (sgg s).2.1 a b = none then rej 3 2 s else act s (nI (lnc (gCut (sgg s) a b).2.1)) (gCut (sgg s) a b) := by unfold sCut; rw [hx, hy]
      subst hxa hyb
      refine e_aload_n dX6_cut_35 rfl rfl ?_
      refine e_iload_n dX6_cut_36 rfl rfl ?_
      refine e_iload_n dX6_cut_37 rfl rfl ?_
      refine e_icmp_ne (tgt := 45) dX6_cut_38 (by decide) (fun hz => ?_) (fun hz => ?_)
      · have hab : a ≠ b := fun q => hz (by rw [q])
        refine e_iconst (v := 0) dX6_cut_45 (by decide) ?_
        refine e_iconst (v := 2) dX6_cut_46 (by decide) ?_
        refine e_iconst (v := 1) dX6_cut_47 (by decide) ?_
        refine e_callV0i [_, _, _] dX6_cut_48 mvmX6_bad lkRX6_159 (by exact h1.1.sh rfl) ⟨by decide, rfl⟩ rfl rfl (Nat.le_of_ble_eq_true rfl) (by decide) (c_bad0 h1.1 z1) ?_
        refine e_if_ne (tgt := 78) dX6_cut_51 (by decide) (fun hz => absurd rfl hz) (fun _ => ?_)
        refine e_aload_n dX6_cut_54 rfl rfl ?_
        refine e_aload_n dX6_cut_55 rfl rfl ?_
        refine e_iload_n dX6_cut_56 rfl rfl ?_
        refine e_iload_n dX6_cut_57 rfl rfl ?_
        refine e_callV0i [_, _] dX6_cut_58 mvmX6_weight lkRX6_203 (by exact h1.1.sh rfl) ⟨by decide, rfl⟩ rfl rfl (Nat.le_of_ble_eq_true rfl) (by decide) (c_weight h1.1 h1.now (by omega) (by omega)) ?_
        refine e_iconst (v := (-1)) dX6_cut_61 (by decide) ?_
        have hn := wI_none (wf.wb a b)
        rw [if_neg hab] at e9
        refine e_icmp_ne (tgt := 69) dX6_cut_62 (by decide) (fun hz => ?_) (fun hz => ?_)
        · have hl : ¬ (sgg s).2.1 a b = none := fun q => hz (hn.mpr q)
          refine e_iconst (v := 0) dX6_cut_69 (by decide) ?_
          refine e_iconst (v := 3) dX6_cut_70 (by decide) ?_
          refine e_iconst (v := 2) dX6_cut_71 (by decide) ?_
          refine e_callV0i [_, _, _] dX6_cut_72 mvmX6_bad lkRX6_159 (by exact h1.1.sh rfl) ⟨by decide, rfl⟩ rfl rfl (Nat.le_of_ble_eq_true rfl) (by decide) (c_bad0 h1.1 z1) ?_
          refine e_if_eq (tgt := 80) dX6_cut_75 (by decide) (fun _ => ?_) (fun hz => absurd rfl hz)
          refine e_aload_n dX6_cut_80 rfl rfl ?_
          refine e_callV1 [] dX6_cut_81 mvmX6_remembers lkRX6_171 (by exact h1.1.sh rfl) ⟨by decide, rfl⟩ rfl rfl (Nat.le_of_ble_eq_true rfl) (by decide) (c_remembers h1) (fun u N2 h2 => ?_)
          obtain ⟨hu, i2, r2⟩ := h2
          subst hu
          have ok2 := i2.1
          have gd := h1.2.2.2.1.2
          -- from 98 on
          have rest : ∀ K, Fr 63 63 N2 K → NowR K 63 (if (sgg s).2.2 a = some b then gUn (sgg s) a else sgg s) → Ev B mX6_cut 2 0 0 (MPo M (sCut s (nI a) (nI b))) 98 [some (.ref 60), some (.int (nI a)), some (.int (nI b))] [] K := by
            intro K fK hK
            have okK : OkM K := ok2.fr fK
            refine e_aload_n dX6_cut_98 rfl rfl ?_
            refine e_getR dX6_cut_99 fRX6_20 (by exact okK.sh rfl) (by exact okK.rf rfl) (fun _ => rfl) ?_
            refine e_iload_n dX6_cut_102 rfl rfl ?_
            refine e_iload_n dX6_cut_103 rfl rfl ?_
            refine e_iconst (v := (-1)) dX6_cut_104 (by decide) ?_
            refine e_callS0v [_, _, _, _] dX6_cut_105 msmX6_joins lkRX6_65 rfl rfl (Nat.le_of_ble_eq_true rfl) (by decide) (c_joins (r := 63) (v := -1) (okK.sh rfl) (by omega : a < 12) (by omega : b < 12)) ?_
            have hj := hK.join (v := none) (by omega : a < 12) (by omega : b < 12)
            have f65 : Fr 63 63 K (sI (sI K 63 (13 + 12 * a + b) (-1)) 63 (13 + 12 * b + a) (-1)) := (Fr.rf.sI (by decide) (by decide)).sI (by decide) (by decide)
            have hj' : NowR (sI (sI K 63 (13 + 12 * a + b) (-1)) 63 (13 + 12 * b + a) (-1)) 63 (gCut (sgg s) a b) := hj
            generalize sI (sI K 63 (13 + 12 * a + b) (-1)) 63 (13 + 12 * b + a) (-1) = J at hj' f65
            have okJ : OkM J := okK.fr f65
            have hgd : Gd (gCut (sgg s) a b) := by
              unfold gCut
              by_cases hm : (sgg s).2.2 a = some b
              · rw [if_pos hm]
                refine Gd_cut (Gd_un gd) (fun q => ?_)
                exact ((gUn_iff gd.1).mp q).2.1 rfl
              · rw [if_neg hm]; exact Gd_cut gd hm
            have iJ := i2.net (fK.trans f65) hj' hgd
            refine e_aload_n dX6_cut_108 rfl rfl ?_
            refine e_callV0v [] dX6_cut_109 mvmX6_changes lkRX6_69 (by exact okJ.sh rfl) ⟨by decide, rfl⟩ rfl rfl (Nat.le_of_ble_eq_true rfl) (by decide) (c_changes okJ) ?_
            refine e_aload_n dX6_cut_112 rfl rfl ?_
            refine e_callV0i [] dX6_cut_113 mvmX6_lines lkRX6_178 (by exact iJ.1.sh rfl) ⟨by decide, rfl⟩ rfl rfl (Nat.le_of_ble_eq_true rfl) (by decide) (c_lines iJ.1 iJ.now iJ.wf) ?_
            rw [e9, if_neg hl]
            refine e_iret dX6_cut_116 rfl rfl (mpo_ok iJ ?_ ((f1.trans r2.FM).trans (((fK.trans f65).FM (by decide)).sI (by decide))))
            rw [rd_ni (by decide), f65.2.2 60 (by omega), fK.2.2 60 (by omega), r2.2.2.1 0 (by decide)]; exact z1
          refine e_aload_n dX6_cut_84 rfl rfl ?_
          refine e_iload_n dX6_cut_85 rfl rfl ?_
          refine e_callV0i [_] dX6_cut_86 mvmX6_mate lkRX6_206 (by exact ok2.sh rfl) ⟨by decide, rfl⟩ rfl rfl (Nat.le_of_ble_eq_true rfl) (by decide) (c_mate ok2 i2.now (by omega)) ?_
          refine e_iload_n dX6_cut_89 rfl rfl ?_
          have hwm := wI_some (b := b) (wf.mb a) (by omega)
          refine e_icmp_ne (tgt := 98) dX6_cut_90 (by decide) (fun hz => ?_) (fun hz => ?_)
          · have hm : ¬ (sgg s).2.2 a = some b := fun q => hz (hwm.mpr q)
            exact rest N2 Fr.rf (by rw [if_neg hm]; exact i2.now)
          · have hm : (sgg s).2.2 a = some b := hwm.mp hz
            refine e_aload_n dX6_cut_93 rfl rfl ?_
            refine e_iload_n dX6_cut_94 rfl rfl ?_
            refine e_callV1 [_] dX6_cut_95 mvmX6_parts lkRX6_248 (by exact ok2.sh rfl) ⟨by decide, rfl⟩ rfl rfl (Nat.le_of_ble_eq_true rfl) (by decide) (c_parts ok2 i2.now (by omega) (by omega) hm) (fun u K h3 => ?_)
            obtain ⟨hu, k1, k2⟩ := h3
            subst hu
            exact rest K k2 (by rw [if_pos hm]; exact k1)
        · have hl : (sgg s).2.1 a b = none := hn.mp hz
          rw [e9, if_pos hl]
          refine e_iconst (v := 1) dX6_cut_65 (by decide) ?_
          refine e_goto (tgt := 70) dX6_cut_66 (by decide) ?_
          refine e_iconst (v := 3) dX6_cut_70 (by decide) ?_
          refine e_iconst (v := 2) dX6_cut_71 (by decide) ?_
          refine e_callV0i [_, _, _] dX6_cut_72 mvmX6_bad lkRX6_159 (by exact h1.1.sh rfl) ⟨by decide, rfl⟩ rfl rfl (Nat.le_of_ble_eq_true rfl) (by decide) (c_bad1 (c := 2) (k := 2) h1.1 z1 (by decide) (by decide)) ?_
          refine e_if_eq (tgt := 80) dX6_cut_75 (by decide) (fun hz => absurd hz (by decide)) (fun _ => ?_)
          refine e_iconst (v := 0) dX6_cut_78 (by decide) ?_
          exact e_iret dX6_cut_79 rfl rfl (mpo_rej h1 (by decide) f1)
      · have hab : a = b := (nI_eq (by omega) (by omega)).mp hz
        rw [e9, if_pos hab]
        refine e_iconst (v := 1) dX6_cut_41 (by decide) ?_
        refine e_goto (tgt := 46) dX6_cut_42 (by decide) ?_
        refine e_iconst (v := 2) dX6_cut_46 (by decide) ?_
        refine e_iconst (v := 1) dX6_cut_47 (by decide) ?_
        refine e_callV0i [_, _, _] dX6_cut_48 mvmX6_bad lkRX6_159 (by exact h1.1.sh rfl) ⟨by decide, rfl⟩ rfl rfl (Nat.le_of_ble_eq_true rfl) (by decide) (c_bad1 (c := 1) (k := 1) h1.1 z1 (by decide) (by decide)) ?_
        refine e_if_ne (tgt := 78) dX6_cut_51 (by decide) (fun _ => ?_) (fun hz => absurd hz (by decide))
        refine e_iconst (v := 0) dX6_cut_78 (by decide) ?_
        exact e_iret dX6_cut_79 rfl rfl (mpo_rej h1 (by decide) f1)
theorem c_mpair {B : Bd} {M : Mm} {s : Sx} {x y : Int32} (h : MI M s) : Ct B mX6_pair 2 0 0 [.ref 60, .int x, .int y] M (MPo M (sPair s x y)) := by
  refine Ct.of (by decide) rfl rfl (Nat.le_of_ble_eq_true rfl) ?_
  refine e_aload_n dX6_pair_0 rfl rfl ?_
  refine e_iconst (v := 0) dX6_pair_1 (by decide) ?_
  refine e_putI dX6_pair_2 fRX6_72 (by exact h.1.sh rfl) rfl rfl rfl (fun _ _ => rfl) ?_
  generalize hM1 : sI M 60 0 0 = M1
  have h1 : MI M1 s := by rw [← hM1]; exact h.t
  have z1 : M1.2.1 60 0 = 0 := by rw [← hM1, rd_self]
  have f1 : FM M M1 := by rw [← hM1]; exact FM.rf.sI (by decide)
  have hg12 := h1.g12
  have wf := h1.wf
  refine e_aload_n dX6_pair_5 rfl rfl ?_
  refine e_aload_n dX6_pair_6 rfl rfl ?_
  refine e_iload_n dX6_pair_7 rfl rfl ?_
  refine e_callV0i [_] dX6_pair_8 mvmX6_isNode lkRX6_245 (by exact h1.1.sh rfl) ⟨by decide, rfl⟩ rfl rfl (Nat.le_of_ble_eq_true rfl) (by decide) (c_isNode h1.1 h1.now hg12) ?_
  cases hx : nod (sgg s) x with
  | none =>
    rw [if_neg (by simp)]
    refine e_if_eq (tgt := 22) dX6_pair_11 (by decide) (fun _ => ?_) (fun hz => absurd rfl hz)
    refine e_iconst (v := 1) dX6_pair_22 (by decide) ?_
    refine e_goto (tgt := 27) dX6_pair_23 (by decide) ?_
    refine e_iconst (v := 1) dX6_pair_27 (by decide) ?_
    refine e_iconst (v := 0) dX6_pair_28 (by decide) ?_
    refine e_callV0i [_, _, _] dX6_pair_29 mvmX6_bad lkRX6_159 (by exact h1.1.sh rfl) ⟨by decide, rfl⟩ rfl rfl (Nat.le_of_ble_eq_true rfl) (by decide) (c_bad1 (c := 0) (k := 0) h1.1 z1 (by decide) (by decide)) ?_
    refine e_if_ne (tgt := 96) dX6_pair_32 (by decide) (fun _ => ?_) (fun hz => absurd hz (by decide))
    refine e_iconst (v := 0) dX6_pair_96 (by decide) ?_
    refine e_iret dX6_pair_97 rfl rfl ?_
    show MPo M (sPair s x y) _ _
    unfold sPair
    rw [hx]
    cases nod (sgg s) y <;> exact mpo_rej h1 (by decide) f1
  | some a =>
    rw [if_pos (by rfl)]
    refine e_if_eq (tgt := 22) dX6_pair_11 (by decide) (fun hz => absurd hz (by decide)) (fun _ => ?_)
    refine e_aload_n dX6_pair_14 rfl rfl ?_
    refine e_iload_n dX6_pair_15 rfl rfl ?_
    refine e_callV0i [_] dX6_pair_16 mvmX6_isNode lkRX6_245 (by exact h1.1.sh rfl) ⟨by decide, rfl⟩ rfl rfl (Nat.le_of_ble_eq_true rfl) (by decide) (c_isNode h1.1 h1.now hg12) ?_
    cases hy : nod (sgg s) y with
    | none =>
      rw [if_neg (by simp)]
      refine e_if_ne (tgt := 26) dX6_pair_19 (by decide) (fun hz => absurd rfl hz) (fun _ => ?_)
      refine e_iconst (v := 1) dX6_pair_22 (by decide) ?_
      refine e_goto (tgt := 27) dX6_pair_23 (by decide) ?_
      refine e_iconst (v := 1) dX6_pair_27 (by decide) ?_
      refine e_iconst (v := 0) dX6_pair_28 (by decide) ?_
      refine e_callV0i [_, _, _] dX6_pair_29 mvmX6_bad lkRX6_159 (by exact h1.1.sh rfl) ⟨by decide, rfl⟩ rfl rfl (Nat.le_of_ble_eq_true rfl) (by decide) (c_bad1 (c := 0) (k := 0) h1.1 z1 (by decide) (by decide)) ?_
      refine e_if_ne (tgt := 96) dX6_pair_32 (by decide) (fun _ => ?_) (fun hz => absurd hz (by decide))
      refine e_iconst (v := 0) dX6_pair_96 (by decide) ?_
      refine e_iret dX6_pair_97 rfl rfl ?_
      show MPo M (sPair s x y) _ _
      unfold sPair
      rw [hx, hy]
      exact mpo_rej h1 (by decide) f1
    | some b =>
      obtain ⟨ha, hxa⟩ := (nod_some hg12.2).mp hx
      obtain ⟨hb, hyb⟩ := (nod_some hg12.2).mp hy
      rw [if_pos (by rfl)]
      refine e_if_ne (tgt := 26) dX6_pair_19 (by decide) (fun _ => ?_) (fun hz => absurd hz (by decide))
      refine e_iconst (v := 0) dX6_pair_26 (by decide) ?_
      refine e_iconst (v := 1) dX6_pair_27 (by decide) ?_
      refine e_iconst (v := 0) dX6_pair_28 (by decide) ?_
      refine e_callV0i [_, _, _] dX6_pair_29 mvmX6_bad lkRX6_159 (by exact h1.1.sh rfl) ⟨by decide, rfl⟩ rfl rfl (Nat.le_of_ble_eq_true rfl) (by decide) (c_bad0 h1.1 z1) ?_
      refine e_if_ne (tgt := 96) dX6_pair_32 (by decide) (fun hz => absurd rfl hz) (fun _ => ?_)
      have e9 : sPair s x y = if a = b then rej 2 1 s else if (sgg s).2.1 a b = none ∨ (sgg s).2.2 a ≠ none ∨ (sgg s).2.2 b ≠ none then rej 3 2 s else act s (nI (cpr (gPair (sgg s) a b))) (gPair (sgg s) a b) := by unfold sPair; rw [hx, hy]
      subst hxa hyb
      refine e_aload_n dX6_pair_35 rfl rfl ?_
      refine e_iload_n dX6_pair_36 rfl rfl ?_
      refine e_iload_n dX6_pair_37 rfl rfl ?_
      refine e_icmp_ne (tgt := 45) dX6_pair_38 (by decide) (fun hz => ?_) (fun hz => ?_)
      · have hab : a ≠ b := fun q => hz (by rw [q])
        refine e_iconst (v := 0) dX6_pair_45 (by decide) ?_
        refine e_iconst (v := 2) dX6_pair_46 (by decide) ?_
        refine e_iconst (v := 1) dX6_pair_47 (by decide) ?_
        refine e_callV0i [_, _, _] dX6_pair_48 mvmX6_bad lkRX6_159 (by exact h1.1.sh rfl) ⟨by decide, rfl⟩ rfl rfl (Nat.le_of_ble_eq_true rfl) (by decide) (c_bad0 h1.1 z1) ?_
        refine e_if_ne (tgt := 96) dX6_pair_51 (by decide) (fun hz => absurd rfl hz) (fun _ => ?_)
        rw [if_neg hab] at e9
        have no : ((sgg s).2.1 a b = none ∨ (sgg s).2.2 a ≠ none ∨ (sgg s).2.2 b ≠ none) → Ev B mX6_pair 2 0 0 (MPo M (sPair s (nI a) (nI b))) 83 [some (.ref 60), some (.int (nI a)), some (.int (nI b))] [.ref 60] M1 := by
          intro hno
          rw [e9, if_pos hno]
          refine e_iconst (v := 1) dX6_pair_83 (by decide) ?_
          refine e_goto (tgt := 88) dX6_pair_84 (by decide) ?_
          refine e_iconst (v := 3) dX6_pair_88 (by decide) ?_
          refine e_iconst (v := 2) dX6_pair_89 (by decide) ?_
          refine e_callV0i [_, _, _] dX6_pair_90 mvmX6_bad lkRX6_159 (by exact h1.1.sh rfl) ⟨by decide, rfl⟩ rfl rfl (Nat.le_of_ble_eq_true rfl) (by decide) (c_bad1 (c := 2) (k := 2) h1.1 z1 (by decide) (by decide)) ?_
          refine e_if_eq (tgt := 98) dX6_pair_93 (by decide) (fun hz => absurd hz (by decide)) (fun _ => ?_)
          refine e_iconst (v := 0) dX6_pair_96 (by decide) ?_
          exact e_iret dX6_pair_97 rfl rfl (mpo_rej h1 (by decide) f1)
        refine e_aload_n dX6_pair_54 rfl rfl ?_
        refine e_aload_n dX6_pair_55 rfl rfl ?_
        refine e_iload_n dX6_pair_56 rfl rfl ?_
        refine e_iload_n dX6_pair_57 rfl rfl ?_
        refine e_callV0i [_, _] dX6_pair_58 mvmX6_weight lkRX6_203 (by exact h1.1.sh rfl) ⟨by decide, rfl⟩ rfl rfl (Nat.le_of_ble_eq_true rfl) (by decide) (c_weight h1.1 h1.now (by omega) (by omega)) ?_
        refine e_iconst (v := (-1)) dX6_pair_61 (by decide) ?_
        have hn := wI_none (wf.wb a b)
        refine e_icmp_eq (tgt := 83) dX6_pair_62 (by decide) (fun hz => no (Or.inl (hn.mp hz))) (fun hz => ?_)
        have hl : ¬ (sgg s).2.1 a b = none := fun q => hz (hn.mpr q)
        refine e_aload_n dX6_pair_65 rfl rfl ?_
        refine e_iload_n dX6_pair_66 rfl rfl ?_
        refine e_callV0i [_] dX6_pair_67 mvmX6_mate lkRX6_206 (by exact h1.1.sh rfl) ⟨by decide, rfl⟩ rfl rfl (Nat.le_of_ble_eq_true rfl) (by decide) (c_mate h1.1 h1.now (by omega)) ?_
        refine e_iconst (v := (-1)) dX6_pair_70 (by decide) ?_
        have hna := wI_none (wf.mb a)
        refine e_icmp_ne (tgt := 83) dX6_pair_71 (by decide) (fun hz => no (Or.inr (Or.inl (fun q => hz (hna.mpr q))))) (fun hz => ?_)
        have ma := hna.mp hz
        refine e_aload_n dX6_pair_74 rfl rfl ?_
        refine e_iload_n dX6_pair_75 rfl rfl ?_
        refine e_callV0i [_] dX6_pair_76 mvmX6_mate lkRX6_206 (by exact h1.1.sh rfl) ⟨by decide, rfl⟩ rfl rfl (Nat.le_of_ble_eq_true rfl) (by decide) (c_mate h1.1 h1.now (by omega)) ?_
        refine e_iconst (v := (-1)) dX6_pair_79 (by decide) ?_
        have hnb := wI_none (wf.mb b)
        refine e_icmp_eq (tgt := 87) dX6_pair_80 (by decide) (fun hz => ?_) (fun hz => no (Or.inr (Or.inr (fun q => hz (hnb.mpr q)))))
        have mb := hnb.mp hz
        refine e_iconst (v := 0) dX6_pair_87 (by decide) ?_
        refine e_iconst (v := 3) dX6_pair_88 (by decide) ?_
        refine e_iconst (v := 2) dX6_pair_89 (by decide) ?_
        refine e_callV0i [_, _, _] dX6_pair_90 mvmX6_bad lkRX6_159 (by exact h1.1.sh rfl) ⟨by decide, rfl⟩ rfl rfl (Nat.le_of_ble_eq_true rfl) (by decide) (c_bad0 h1.1 z1) ?_
        refine e_if_eq (tgt := 98) dX6_pair_93 (by decide) (fun _ => ?_) (fun hz => absurd rfl hz)
        refine e_aload_n dX6_pair_98 rfl rfl ?_
        refine e_callV1 [] dX6_pair_99 mvmX6_remembers lkRX6_171 (by exact h1.1.sh rfl) ⟨by decide, rfl⟩ rfl rfl (Nat.le_of_ble_eq_true rfl) (by decide) (c_remembers h1) (fun u N2 h2 => ?_)
        obtain ⟨hu, i2, r2⟩ := h2
        subst hu
        have ok2 := i2.1
        refine e_aload_n dX6_pair_102 rfl rfl ?_
        refine e_iload_n dX6_pair_103 rfl rfl ?_
        refine e_iload_n dX6_pair_104 rfl rfl ?_
        refine e_callV1 [_, _] dX6_pair_105 mvmX6_mates lkRX6_251 (by exact ok2.sh rfl) ⟨by decide, rfl⟩ rfl rfl (Nat.le_of_ble_eq_true rfl) (by decide) (c_mates ok2 i2.now (by omega : a < 12) (by omega : b < 12)) (fun u K h3 => ?_)
        obtain ⟨hu, k1, k2⟩ := h3
        subst hu
        have hsm : ((sgg s).2.1 a b).isSome = true := by
          cases hw : (sgg s).2.1 a b with
          | none => exact absurd hw hl
          | some k => rfl
        have hgd : Gd (gPair (sgg s) a b) := Gd_pair h1.2.2.2.1.2 ha hb hab ma mb hsm
        have iK : MI K (setG (setH s (psh (shh s) (sgg s))) (gPair (sgg s) a b)) := i2.matesOf k2 k1 hgd
        refine e_aload_n dX6_pair_108 rfl rfl ?_
        refine e_callV0i [] dX6_pair_109 mvmX6_pairsNow lkRX6_254 (by exact iK.1.sh rfl) ⟨by decide, rfl⟩ rfl rfl (Nat.le_of_ble_eq_true rfl) (by decide) (c_pairsNow iK.1 iK.now iK.wf) ?_
        rw [e9, if_neg (fun q => q.elim hl (fun q => q.elim (fun q => q ma) (fun q => q mb)))]
        refine e_iret dX6_pair_112 rfl rfl (mpo_ok iK ?_ ((f1.trans r2.FM).trans (k2.FM (by decide))))
        rw [k2.2.2 60 (by omega), r2.2.2.1 0 (by decide)]; exact z1
      · have hab : a = b := (nI_eq (by omega) (by omega)).mp hz
        rw [e9, if_pos hab]
        refine e_iconst (v := 1) dX6_pair_41 (by decide) ?_
        refine e_goto (tgt := 46) dX6_pair_42 (by decide) ?_
        refine e_iconst (v := 2) dX6_pair_46 (by decide) ?_
        refine e_iconst (v := 1) dX6_pair_47 (by decide) ?_
        refine e_callV0i [_, _, _] dX6_pair_48 mvmX6_bad lkRX6_159 (by exact h1.1.sh rfl) ⟨by decide, rfl⟩ rfl rfl (Nat.le_of_ble_eq_true rfl) (by decide) (c_bad1 (c := 1) (k := 1) h1.1 z1 (by decide) (by decide)) ?_
        refine e_if_ne (tgt := 96) dX6_pair_51 (by decide) (fun _ => ?_) (fun hz => absurd hz (by decide))
        refine e_iconst (v := 0) dX6_pair_96 (by decide) ?_
        exact e_iret dX6_pair_97 rfl rfl (mpo_rej h1 (by decide) f1)
theorem c_mpart {B : Bd} {M : Mm} {s : Sx} {x : Int32} (h : MI M s) : Ct B mX6_part 2 0 0 [.ref 60, .int x] M (MPo M (sPart s x)) := by
  refine Ct.of (by decide) rfl rfl (Nat.le_of_ble_eq_true rfl) ?_
  refine e_aload_n dX6_part_0 rfl rfl ?_
  refine e_iconst (v := 0) dX6_part_1 (by decide) ?_
  refine e_putI dX6_part_2 fRX6_72 (by exact h.1.sh rfl) rfl rfl rfl (fun _ _ => rfl) ?_
  generalize hM1 : sI M 60 0 0 = M1
  have h1 : MI M1 s := by rw [← hM1]; exact h.t
  have z1 : M1.2.1 60 0 = 0 := by rw [← hM1, rd_self]
  have f1 : FM M M1 := by rw [← hM1]; exact FM.rf.sI (by decide)
  have hg12 := h1.g12
  have wf := h1.wf
  refine e_aload_n dX6_part_5 rfl rfl ?_
  refine e_aload_n dX6_part_6 rfl rfl ?_
  refine e_iload_n dX6_part_7 rfl rfl ?_
  refine e_callV0i [_] dX6_part_8 mvmX6_isNode lkRX6_245 (by exact h1.1.sh rfl) ⟨by decide, rfl⟩ rfl rfl (Nat.le_of_ble_eq_true rfl) (by decide) (c_isNode h1.1 h1.now hg12) ?_
  cases hx : nod (sgg s) x with
  | none =>
    rw [if_neg (by simp)]
    refine e_if_ne (tgt := 18) dX6_part_11 (by decide) (fun hz => absurd rfl hz) (fun _ => ?_)
    refine e_iconst (v := 1) dX6_part_14 (by decide) ?_
    refine e_goto (tgt := 19) dX6_part_15 (by decide) ?_
    refine e_iconst (v := 1) dX6_part_19 (by decide) ?_
    refine e_iconst (v := 0) dX6_part_20 (by decide) ?_
    refine e_callV0i [_, _, _] dX6_part_21 mvmX6_bad lkRX6_159 (by exact h1.1.sh rfl) ⟨by decide, rfl⟩ rfl rfl (Nat.le_of_ble_eq_true rfl) (by decide) (c_bad1 (c := 0) (k := 0) h1.1 z1 (by decide) (by decide)) ?_
    refine e_if_ne (tgt := 50) dX6_part_24 (by decide) (fun _ => ?_) (fun hz => absurd hz (by decide))
    refine e_iconst (v := 0) dX6_part_50 (by decide) ?_
    refine e_iret dX6_part_51 rfl rfl ?_
    show MPo M (sPart s x) _ _
    unfold sPart
    rw [hx]
    exact mpo_rej h1 (by decide) f1
  | some a =>
    obtain ⟨ha, hxa⟩ := (nod_some hg12.2).mp hx
    subst hxa
    rw [if_pos (by rfl)]
    refine e_if_ne (tgt := 18) dX6_part_11 (by decide) (fun _ => ?_) (fun hz => absurd hz (by decide))
    refine e_iconst (v := 0) dX6_part_18 (by decide) ?_
    refine e_iconst (v := 1) dX6_part_19 (by decide) ?_
    refine e_iconst (v := 0) dX6_part_20 (by decide) ?_
    refine e_callV0i [_, _, _] dX6_part_21 mvmX6_bad lkRX6_159 (by exact h1.1.sh rfl) ⟨by decide, rfl⟩ rfl rfl (Nat.le_of_ble_eq_true rfl) (by decide) (c_bad0 h1.1 z1) ?_
    refine e_if_ne (tgt := 50) dX6_part_24 (by decide) (fun hz => absurd rfl hz) (fun _ => ?_)
    refine e_aload_n dX6_part_27 rfl rfl ?_
    refine e_aload_n dX6_part_28 rfl rfl ?_
    refine e_iload_n dX6_part_29 rfl rfl ?_
    refine e_callV0i [_] dX6_part_30 mvmX6_mate lkRX6_206 (by exact h1.1.sh rfl) ⟨by decide, rfl⟩ rfl rfl (Nat.le_of_ble_eq_true rfl) (by decide) (c_mate h1.1 h1.now (by omega)) ?_
    refine e_iconst (v := (-1)) dX6_part_33 (by decide) ?_
    have hn := wI_none (wf.mb a)
    cases hm : (sgg s).2.2 a with
    | none =>
      refine e_icmp_ne (tgt := 41) dX6_part_34 (by decide) (fun hz => absurd rfl hz) (fun _ => ?_)
      have e9 : sPart s (nI a) = rej 2 2 s := by unfold sPart; rw [hx]; dsimp only; rw [hm]
      rw [e9]
      refine e_iconst (v := 1) dX6_part_37 (by decide) ?_
      refine e_goto (tgt := 42) dX6_part_38 (by decide) ?_
      refine e_iconst (v := 2) dX6_part_42 (by decide) ?_
      refine e_iconst (v := 2) dX6_part_43 (by decide) ?_
      refine e_callV0i [_, _, _] dX6_part_44 mvmX6_bad lkRX6_159 (by exact h1.1.sh rfl) ⟨by decide, rfl⟩ rfl rfl (Nat.le_of_ble_eq_true rfl) (by decide) (c_bad1 (c := 1) (k := 2) h1.1 z1 (by decide) (by decide)) ?_
      refine e_if_eq (tgt := 52) dX6_part_47 (by decide) (fun hz => absurd hz (by decide)) (fun _ => ?_)
      refine e_iconst (v := 0) dX6_part_50 (by decide) ?_
      exact e_iret dX6_part_51 rfl rfl (mpo_rej h1 (by decide) f1)
    | some b =>
      have hb := (wf.2.2.2.2 a b hm).2.2.1
      have e9 : sPart s (nI a) = act s (nI b) (gUn (sgg s) a) := by unfold sPart; rw [hx]; dsimp only; rw [hm]
      rw [e9]
      rw [hm] at hn
      refine e_icmp_ne (tgt := 41) dX6_part_34 (by decide) (fun _ => ?_) (fun hz => by cases hn.mp hz)
      refine e_iconst (v := 0) dX6_part_41 (by decide) ?_
      refine e_iconst (v := 2) dX6_part_42 (by decide) ?_
      refine e_iconst (v := 2) dX6_part_43 (by decide) ?_
      refine e_callV0i [_, _, _] dX6_part_44 mvmX6_bad lkRX6_159 (by exact h1.1.sh rfl) ⟨by decide, rfl⟩ rfl rfl (Nat.le_of_ble_eq_true rfl) (by decide) (c_bad0 h1.1 z1) ?_
      refine e_if_eq (tgt := 52) dX6_part_47 (by decide) (fun _ => ?_) (fun hz => absurd rfl hz)
      refine e_aload_n dX6_part_52 rfl rfl ?_
      refine e_callV1 [] dX6_part_53 mvmX6_remembers lkRX6_171 (by exact h1.1.sh rfl) ⟨by decide, rfl⟩ rfl rfl (Nat.le_of_ble_eq_true rfl) (by decide) (c_remembers h1) (fun u N2 h2 => ?_)
      obtain ⟨hu, i2, r2⟩ := h2
      subst hu
      have ok2 := i2.1
      refine e_aload_n dX6_part_56 rfl rfl ?_
      refine e_iload_n dX6_part_57 rfl rfl ?_
      refine e_callV0i [_] dX6_part_58 mvmX6_mate lkRX6_206 (by exact ok2.sh rfl) ⟨by decide, rfl⟩ rfl rfl (Nat.le_of_ble_eq_true rfl) (by decide) (c_mate ok2 i2.now (by omega)) ?_
      rw [show (sgg (setH s (psh (shh s) (sgg s)))).2.2 a = some b from hm]
      show Ev _ _ _ _ _ _ 61 _ [.int (nI b)] _
      refine e_istore_n dX6_part_61 rfl (by decide) rfl rfl ?_
      refine e_aload_n dX6_part_62 rfl rfl ?_
      refine e_iload_n dX6_part_63 rfl rfl ?_
      refine e_callV1 [_] dX6_part_64 mvmX6_parts lkRX6_248 (by exact ok2.sh rfl) ⟨by decide, rfl⟩ rfl rfl (Nat.le_of_ble_eq_true rfl) (by decide) (c_parts ok2 i2.now (by omega : a < 12) (by omega : b < 12) hm) (fun u K h3 => ?_)
      obtain ⟨hu, k1, k2⟩ := h3
      subst hu
      have hgd : Gd (gUn (sgg s) a) := Gd_un h1.2.2.2.1.2
      have iK : MI K (setG (setH s (psh (shh s) (sgg s))) (gUn (sgg s) a)) := i2.matesOf k2 k1 hgd
      refine e_iload_n dX6_part_67 rfl rfl ?_
      refine e_iret dX6_part_68 rfl rfl (mpo_ok iK ?_ ((f1.trans r2.FM).trans (k2.FM (by decide))))
      rw [k2.2.2 60 (by omega), r2.2.2.1 0 (by decide)]; exact z1

