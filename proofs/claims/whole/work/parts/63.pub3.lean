theorem flw_ok {g : Nw} (h : Gd g) {a : Nat} (ha : a < g.1) {l : List Nat} (hl : flw g a = some l) : ∃ k r, Vr g a k r ∧ l = r.reverse := by
  unfold flw at hl
  cases hf : (wlk g a).find? (fun r => (g.2.1 (hd r) a).isSome) with
  | none => rw [hf] at hl; cases hl
  | some r =>
    rw [hf] at hl
    obtain ⟨q1, -⟩ := find_mem hf
    obtain ⟨k, hk⟩ := wlk_v h.1 ha q1
    exact ⟨k, r, hk, (Option.some.inj hl).symm⟩
theorem c_better {B : Bd} {M : Mm} {s : Sx} {x : Int32} (h : CI M s) : Ct B mX5_better 8 2 12 [.ref 0, .int x] M (CPo [xNS, xIS] M (sBetter s x)) := by
  have ok := h.1
  have hn := h.2.2.2.1.1
  have hgd := h.2.2.2.1.2
  have hg12 := hgd.1.1.2
  refine Ct.of (by decide) rfl rfl (Nat.le_of_ble_eq_true rfl) ?_
  refine e_aload_n dX5_better_0 rfl rfl ?_
  refine e_iload_n dX5_better_1 rfl rfl ?_
  refine e_callV (rc1 := 1) (rs1 := 6) (rc2 := 1) (rs2 := 6) [_] dX5_better_2 mvmX5_needNode lkRX5_102 (by exact ok.sh rfl) ⟨by decide, rfl⟩ rfl rfl (Nat.le_of_ble_eq_true rfl) (by decide) (by decide) (by decide) (c_needNode (x := x) ok hn hg12) (fun v N h1 => ?_) (fun v N h1 => ?_)
  · obtain ⟨p1, rfl, rfl⟩ := h1.t
    obtain ⟨a, na, ha, rfl⟩ := nod_of hg12 p1
    refine e_aload_n dX5_better_5 rfl rfl ?_
    refine e_aload_n dX5_better_6 rfl rfl ?_
    refine e_getR dX5_better_7 fRX5_63 (by exact ok.sh rfl) (by exact ok.rf rfl) (fun _ => rfl) ?_
    refine e_aload_n dX5_better_10 rfl rfl ?_
    refine e_getR dX5_better_11 fRX5_23 (by exact ok.sh rfl) (by exact ok.rf rfl) (fun _ => rfl) ?_
    refine e_iload_n dX5_better_14 rfl rfl ?_
    refine e_callV1 [_, _] dX5_better_15 mvmX4_findBetterPath lkRX5_142 (by exact ok.sh rfl) ⟨by decide, rfl⟩ rfl rfl (Nat.le_of_ble_eq_true rfl) (by decide) (c_findBetterPath ok hn hgd.1 ha h.2.2.2.2.2.1.2.2) (fun u N h2 => ?_)
    obtain ⟨hu, hrow, hw, hf⟩ := h2
    subst hu
    have hN := h.walks hf hw
    have okN := hN.1
    have hfc := hf.FC (by decide)
    refine e_callV (rc1 := 1) (rs1 := 6) (rc2 := 0) (rs2 := 0) [_] dX5_better_18 mvmX5_needState lkRX5_116 (by exact okN.sh rfl) ⟨by decide, rfl⟩ rfl rfl (Nat.le_of_ble_eq_true rfl) (by decide) (by decide) (by decide) (c_needState okN) (fun v K h3 => ?_) (fun v K h3 => ?_)
    · obtain ⟨p3, rfl, rfl⟩ := h3.t
      cases hp : pth (sgg s) a with
      | none =>
        rw [hp] at p3
        exact absurd (if_neg (by intro q; cases q)) p3
      | some l =>
        have e8 : sBetter s (nI a) = act s (nI (cpr ((sgg s).1, (sgg s).2.1, bpr (sgg s).2.2 l))) ((sgg s).1, (sgg s).2.1, bpr (sgg s).2.2 l) := by unfold sBetter; rw [na]; dsimp only; rw [hp]
        rw [e8]
        obtain ⟨l1, l2, l3, l4, l5, l6, -⟩ := pth_ok hgd ha hp
        have hgb := Gd_better hgd ha hp
        have hr := hrow l hp
        refine e_aload_n dX5_better_21 rfl rfl ?_
        refine e_callV1 [] dX5_better_22 mvmX5_remember lkRX5_126 (by exact okN.sh rfl) ⟨by decide, rfl⟩ rfl rfl (Nat.le_of_ble_eq_true rfl) (by decide) (c_remember hN) (fun u K h4 => ?_)
        obtain ⟨hu, q1, q2, q3⟩ := h4
        subst hu
        have okK := q1.1
        have hnK : NetRep K 2 (sgg s) := q1.2.2.2.1.1
        have hrK : RowAt K l := by
          have e23 := q3.2.1 19 (by decide) (by decide)
          have e24 := q3.2.1 20 (by decide) (by decide)
          exact ⟨by rw [e23]; exact hr.1, fun i y hi => by rw [e24]; exact hr.2 i y hi⟩
        refine e_aload_n dX5_better_25 rfl rfl ?_
        refine e_getR dX5_better_26 fRX5_63 (by exact okK.sh rfl) (by exact okK.rf rfl) (fun _ => rfl) ?_
        refine e_aload_n dX5_better_29 rfl rfl ?_
        refine e_getR dX5_better_30 fRX5_23 (by exact okK.sh rfl) (by exact okK.rf rfl) (fun _ => rfl) ?_
        refine e_callV1 [_] dX5_better_33 mvmX4_betterPairs lkRX5_146 (by exact okK.sh rfl) ⟨by decide, rfl⟩ rfl rfl (Nat.le_of_ble_eq_true rfl) (by decide) (c_betterPairs okK hnK hrK (by omega) l1 (fun y hy => by have := l4 y hy; omega) l3) (fun u J h5 => ?_)
        obtain ⟨hu, r1, r2⟩ := h5
        subst hu
        have okJ := okK.fr r2
        have hJ := q1.mates (m := bpr (sgg s).2.2 l) r2 r1 hgb
        refine e_aload_n dX5_better_36 rfl rfl ?_
        refine e_getR dX5_better_37 fRX5_23 (by exact okJ.sh rfl) (by exact okJ.rf rfl) (fun _ => rfl) ?_
        refine e_callV0i [] dX5_better_40 mvmX1_countPairs lkRX5_132 (by exact okJ.sh rfl) ⟨by decide, rfl⟩ rfl rfl (Nat.le_of_ble_eq_true rfl) (by decide) (c_countPairs r1 hg12 (fun a k hk => hgb.1.m a k hk)) ?_
        exact e_iret dX5_better_43 rfl rfl (cpo_ok hJ ((hfc.trans q2).trans (r2.FC (by decide))))
    · obtain ⟨p3, rfl, e2⟩ := h3.x
      have hp : pth (sgg s) a = none := by
        cases hh : pth (sgg s) a with
        | none => rfl
        | some l => exact absurd (by rw [hh, if_pos (by rfl)]; decide) p3
      have e8 : sBetter s (nI a) = rej 2 2 s := by unfold sBetter; rw [na]; dsimp only; rw [hp]
      rw [e8]
      exact e_out rfl (cpo_rej hN (by decide) rfl e2 hfc)
  · obtain ⟨p1, rfl, e2⟩ := h1.x
    have e8 : sBetter s x = rej 1 0 s := by unfold sBetter; rw [nod_no p1]
    rw [e8]
    exact e_out rfl (cpo_rej h (by decide) rfl e2 FC.rf)
theorem c_shrink {B : Bd} {M : Mm} {s : Sx} {x : Int32} (h : CI M s) : Ct B mX5_shrink 8 2 12 [.ref 0, .int x] M (CPo [xNS, xIS] M (sShrink s x)) := by
  have ok := h.1
  have hn := h.2.2.2.1.1
  have hgd := h.2.2.2.1.2
  have hg12 := hgd.1.1.2
  refine Ct.of (by decide) rfl rfl (Nat.le_of_ble_eq_true rfl) ?_
  refine e_aload_n dX5_shrink_0 rfl rfl ?_
  refine e_iload_n dX5_shrink_1 rfl rfl ?_
  refine e_callV (rc1 := 1) (rs1 := 6) (rc2 := 1) (rs2 := 6) [_] dX5_shrink_2 mvmX5_needNode lkRX5_102 (by exact ok.sh rfl) ⟨by decide, rfl⟩ rfl rfl (Nat.le_of_ble_eq_true rfl) (by decide) (by decide) (by decide) (c_needNode (x := x) ok hn hg12) (fun v N h1 => ?_) (fun v N h1 => ?_)
  · obtain ⟨p1, rfl, rfl⟩ := h1.t
    obtain ⟨a, na, ha, rfl⟩ := nod_of hg12 p1
    refine e_aload_n dX5_shrink_5 rfl rfl ?_
    refine e_aload_n dX5_shrink_6 rfl rfl ?_
    refine e_getR dX5_shrink_7 fRX5_63 (by exact ok.sh rfl) (by exact ok.rf rfl) (fun _ => rfl) ?_
    refine e_aload_n dX5_shrink_10 rfl rfl ?_
    refine e_getR dX5_shrink_11 fRX5_23 (by exact ok.sh rfl) (by exact ok.rf rfl) (fun _ => rfl) ?_
    refine e_iload_n dX5_shrink_14 rfl rfl ?_
    refine e_callV1 [_, _] dX5_shrink_15 mvmX4_findFlower lkRX5_164 (by exact ok.sh rfl) ⟨by decide, rfl⟩ rfl rfl (Nat.le_of_ble_eq_true rfl) (by decide) (c_findFlower ok hn hgd.1 ha h.2.2.2.2.2.1.2.2) (fun u N h2 => ?_)
    obtain ⟨hu, hrow, hw, hf⟩ := h2
    subst hu
    have hN := h.walks hf hw
    have okN := hN.1
    have hfc := hf.FC (by decide)
    refine e_callV (rc1 := 1) (rs1 := 6) (rc2 := 0) (rs2 := 0) [_] dX5_shrink_18 mvmX5_needState lkRX5_116 (by exact okN.sh rfl) ⟨by decide, rfl⟩ rfl rfl (Nat.le_of_ble_eq_true rfl) (by decide) (by decide) (by decide) (c_needState okN) (fun v K h3 => ?_) (fun v K h3 => ?_)
    · obtain ⟨p3, rfl, rfl⟩ := h3.t
      cases hp : flw (sgg s) a with
      | none =>
        rw [hp] at p3
        exact absurd (if_neg (by intro q; cases q)) p3
      | some l =>
        have e8 : sShrink s (nI a) = act s (nI (shrG (sgg s) a l).1) (shrG (sgg s) a l) := by unfold sShrink; rw [na]; dsimp only; rw [hp]
        rw [e8]
        obtain ⟨k, r, hv, hlr⟩ := flw_ok hgd ha hp
        have hr := hrow l hp
        rw [hlr] at hr
        have hnN : NetRep N 2 (sgg s) := hN.2.2.2.1.1
        refine e_aload_n dX5_shrink_21 rfl rfl ?_
        refine e_getR dX5_shrink_22 fRX5_63 (by exact okN.sh rfl) (by exact okN.rf rfl) (fun _ => rfl) ?_
        refine e_aload_n dX5_shrink_25 rfl rfl ?_
        refine e_getR dX5_shrink_26 fRX5_23 (by exact okN.sh rfl) (by exact okN.rf rfl) (fun _ => rfl) ?_
        refine e_aload_n dX5_shrink_29 rfl rfl ?_
        refine e_getR dX5_shrink_30 fRX5_27 (by exact okN.sh rfl) (by exact okN.rf rfl) (fun _ => rfl) ?_
        refine e_callV1 [_, _] dX5_shrink_33 mvmX4_shrinkInto lkRX5_167 (by exact okN.sh rfl) ⟨by decide, rfl⟩ rfl rfl (Nat.le_of_ble_eq_true rfl) (by decide) (c_shrinkInto okN hnN hgd.1 ha hv hr) (fun u K h4 => ?_)
        obtain ⟨hu, ⟨g', s1, s2⟩, s3⟩ := h4
        subst hu
        have hg' := Gd_shr hgd ha hv s1
        have hsh : shrG (sgg s) a l = g' := by
          refine shrG_eq ?_
          rw [hlr, (gof_row hv).1, List.length_reverse]; exact s1
        rw [hsh]
        have hK : CI K s := by
          obtain ⟨ok, h0, hT, ⟨hn, hg⟩, hpa, ⟨a1, a2, a3⟩, hrr⟩ := hN
          exact ⟨ok.fr s3, h0.fr s3 (by omega), hT.fr s3 (by omega), ⟨hn.fr s3 (by omega), hg⟩, hpa.fr h0.2.2.2.2 s3 (by omega), ⟨a1.fr s3 (by omega), a2.fr s3 (by omega), a3.fr s3 (by omega)⟩, hrr.fr s3 (by omega)⟩
        have okK := hK.1
        refine e_aload_n dX5_shrink_36 rfl rfl ?_
        refine e_callV1 [] dX5_shrink_37 mvmX5_becomeDraft lkRX5_96 (by exact okK.sh rfl) ⟨by decide, rfl⟩ rfl rfl (Nat.le_of_ble_eq_true rfl) (by decide) (c_becomeDraft hK s2 hg') (fun u J h5 => ?_)
        obtain ⟨hu, q1, q2⟩ := h5
        subst hu
        have okJ := q1.1
        have hl2 : J.2.1 2 0 = nI g'.1 := q1.2.2.2.1.1.2.1
        refine e_aload_n dX5_shrink_40 rfl rfl ?_
        refine e_getR dX5_shrink_41 fRX5_23 (by exact okJ.sh rfl) (by exact okJ.rf rfl) (fun _ => rfl) ?_
        refine e_getI dX5_shrink_44 fRX5_171 (by exact okJ.sh rfl) (fun _ => rfl) ?_
        rw [hl2]
        exact e_iret dX5_shrink_47 rfl rfl (cpo_ok q1 ((hfc.trans (s3.FC (by decide))).trans q2))
    · obtain ⟨p3, rfl, e2⟩ := h3.x
      have hp : flw (sgg s) a = none := by
        cases hh : flw (sgg s) a with
        | none => rfl
        | some l => exact absurd (by rw [hh, if_pos (by rfl)]; decide) p3
      have e8 : sShrink s (nI a) = rej 2 2 s := by unfold sShrink; rw [na]; dsimp only; rw [hp]
      rw [e8]
      exact e_out rfl (cpo_rej hN (by decide) rfl e2 hfc)
  · obtain ⟨p1, rfl, e2⟩ := h1.x
    have e8 : sShrink s x = rej 1 0 s := by unfold sShrink; rw [nod_no p1]
    rw [e8]
    exact e_out rfl (cpo_rej h (by decide) rfl e2 FC.rf)
theorem c_finish {B : Bd} {M : Mm} {s : Sx} (h : CI M s) : Ct B mX5_finish 34 0 0 [.ref 0] M (CPo [] M (sFinish s)) := by
  have ok := h.1
  have hn := h.2.2.2.1.1
  have hgd := h.2.2.2.1.2
  have hg12 := hgd.1.1.2
  have hgf := Gd_first hgd
  refine Ct.of (by decide) rfl rfl (Nat.le_of_ble_eq_true rfl) ?_
  refine e_aload_n dX5_finish_0 rfl rfl ?_
  refine e_callV1 [] dX5_finish_1 mvmX5_learn lkRX5_149 (by exact ok.sh rfl) ⟨by decide, rfl⟩ rfl rfl (Nat.le_of_ble_eq_true rfl) (by decide) (c_learn5 h) (fun u L h0 => ?_)
  obtain ⟨hu, hL, gL, fL⟩ := h0
  subst hu
  have okL := hL.1
  have hk14 : L.2.1 14 0 = 0 ∨ L.2.1 14 0 = 1 := hL.2.2.2.2.2.1.1.elim Or.inl (fun q => Or.inr q.1)
  refine e_aload_n dX5_finish_4 rfl rfl ?_
  refine e_getR dX5_finish_5 fRX5_49 (by exact okL.sh rfl) (by exact okL.rf rfl) (fun _ => rfl) ?_
  refine e_callV1 [] dX5_finish_8 mvmX0_fillFirst lkRX5_152 (by exact okL.sh rfl) ⟨by decide, rfl⟩ rfl rfl (Nat.le_of_ble_eq_true rfl) (by decide) (c_fillFirst okL hL.2.2.2.1.1 hgd.1 gL) (fun u N h2 => ?_)
  obtain ⟨hu, g1, g2, hf, hfst⟩ := h2
  subst hu
  have hN := hL.great hf (by
    unfold GInv
    rw [g2]
    exact hk14.elim Or.inl (fun q => Or.inr ⟨q, g1⟩))
  have hfMN : FC M N := fL.trans hf.FC
  have okN := hN.1
  have hnN : NetRep N 2 (sgg s) := hN.2.2.2.1.1
  refine e_aload_n dX5_finish_11 rfl rfl ?_
  refine e_getR dX5_finish_12 fRX5_23 (by exact okN.sh rfl) (by exact okN.rf rfl) (fun _ => rfl) ?_
  refine e_callV0i [] dX5_finish_15 mvmX1_countPairs lkRX5_132 (by exact okN.sh rfl) ⟨by decide, rfl⟩ rfl rfl (Nat.le_of_ble_eq_true rfl) (by decide) (c_countPairs hnN hg12 (fun a k hk => hgd.1.m a k hk)) ?_
  refine e_istore_n dX5_finish_18 rfl (by decide) rfl rfl ?_
  refine e_aload_n dX5_finish_19 rfl rfl ?_
  refine e_callV1 [] dX5_finish_20 mvmX5_remember lkRX5_126 (by exact okN.sh rfl) ⟨by decide, rfl⟩ rfl rfl (Nat.le_of_ble_eq_true rfl) (by decide) (c_remember hN) (fun u K h4 => ?_)
  obtain ⟨hu, q1, q2, q3⟩ := h4
  subst hu
  have okK := q1.1
  have hnK : NetRep K 2 (sgg s) := q1.2.2.2.1.1
  have e15 := q3.2.1 15 (by decide) (by decide)
  refine e_aload_n dX5_finish_23 rfl rfl ?_
  refine e_getR dX5_finish_24 fRX5_49 (by exact okK.sh rfl) (by exact okK.rf rfl) (fun _ => rfl) ?_
  refine e_getR dX5_finish_27 fRX5_155 (by exact okK.sh rfl) (by exact okK.rf rfl) (fun _ => rfl) ?_
  refine e_iconst (v := 0) dX5_finish_30 (by decide) ?_
  refine e_aload_n dX5_finish_31 rfl rfl ?_
  refine e_getR dX5_finish_32 fRX5_23 (by exact okK.sh rfl) (by exact okK.rf rfl) (fun _ => rfl) ?_
  refine e_getR dX5_finish_35 fRX5_136 (by exact okK.sh rfl) (by exact okK.rf rfl) (fun _ => rfl) ?_
  refine e_iconst (v := 0) dX5_finish_38 (by decide) ?_
  refine e_bipush (v := 12) dX5_finish_39 (by decide) ?_
  refine e_acopy dX5_finish_41 ac_lk5 ac_nat ac_st ac_ini (by exact okK.lo) (by exact okK.sh rfl) (by exact okK.sh rfl) (by decide) (by decide) (by decide) (by decide) (by decide) (Nat.le_of_ble_eq_true rfl) (by decide) ?_
  have c12 : (12 : Int32).toNatClampNeg = 12 := by decide
  have c0 : (0 : Int32).toNatClampNeg = 0 := by decide
  rw [c12, c0]
  generalize hJ : sA K 5 (va_cpy (K.2.1 15) (K.2.1 5) 0 0 12) = J
  have fJ : Fr 5 5 K J := by rw [← hJ]; exact sA_Fr _ _ _
  have rJ : NetRep J 2 ((sgg s).1, (sgg s).2.1, fstm (sgg s)) := by
    refine ⟨net2 (okK.fr fJ), ?_, ?_, fun x y hx hy => ?_, fun x hx => ?_, fun x hx => ?_⟩
    · rw [fJ.2.2 2 (by omega)]; exact hnK.2.1
    · rw [fJ.2.2 2 (by omega)]; exact hnK.2.2.1
    · rw [fJ.2.2 3 (by omega)]; exact hnK.2.2.2.1 x y hx hy
    · rw [fJ.2.2 4 (by omega)]; exact hnK.2.2.2.2.1 x hx
    · rw [← hJ, rd_sA, if_pos rfl, pk_cpy_in (by omega) (by omega), Nat.zero_add, Nat.sub_zero, e15]
      exact hfst x hx
  have okJ := okK.fr fJ
  have hCJ := q1.mates (m := fstm (sgg s)) (fJ.wide (by decide) (by decide)) rJ hgf
  refine e_aload_n dX5_finish_44 rfl rfl ?_
  refine e_getR dX5_finish_45 fRX5_23 (by exact okJ.sh rfl) (by exact okJ.rf rfl) (fun _ => rfl) ?_
  refine e_callV0i [] dX5_finish_48 mvmX1_countPairs lkRX5_132 (by exact okJ.sh rfl) ⟨by decide, rfl⟩ rfl rfl (Nat.le_of_ble_eq_true rfl) (by decide) (c_countPairs rJ hg12 (fun a k hk => hgf.1.m a k hk)) ?_
  refine e_iload_n dX5_finish_51 rfl rfl ?_
  refine e_isub dX5_finish_52 ?_
  exact e_iret dX5_finish_53 rfl rfl (cpo_ok hCJ ((hfMN.trans q2).trans (fJ.FC (by decide))))
theorem c_undo {B : Bd} {M : Mm} {s : Sx} (h : CI M s) : Ct B mX5_undo 2 0 0 [.ref 0] M (CPo [] M (sUndo s)) := by
  have ok := h.1
  have c0 := h.2.1
  have hl8 := c0.2.2.2.2
  refine Ct.of (by decide) rfl rfl (Nat.le_of_ble_eq_true rfl) ?_
  refine e_aload_n dX5_undo_0 rfl rfl ?_
  refine e_getI dX5_undo_1 fRX5_34 (by exact ok.sh rfl) (fun _ => rfl) ?_
  rw [c0.2.2.2.1]
  by_cases hl : (shh s).length = 0
  · have e8 : sUndo s = okR (-1) s := by
      unfold sUndo
      rw [List.eq_nil_of_length_eq_zero hl]; rfl
    rw [e8, hl]
    refine e_if_gt (tgt := 9) dX5_undo_4 (by decide) (fun hq => absurd hq (by decide)) (fun _ => ?_)
    refine e_iconst (v := (-1)) dX5_undo_7 (by decide) ?_
    exact e_iret dX5_undo_8 rfl rfl (cpo_ok h FC.rf)
  · have hlt : (shh s).length - 1 < (shh s).length := by omega
    have hg1 : (shh s)[(shh s).length - 1]? = some (shh s)[(shh s).length - 1] := List.getElem?_eq_getElem hlt
    have hla : (shh s).getLast? = some (shh s)[(shh s).length - 1] := by rw [List.getLast?_eq_getElem?]; exact hg1
    generalize (shh s)[(shh s).length - 1] = g at hg1 hla
    have e8 : sUndo s = okR (nI ((shh s).length - 1)) (setG (setH s (shh s).dropLast) g) := by unfold sUndo; rw [hla]
    rw [e8]
    refine e_if_gt (tgt := 9) dX5_undo_4 (by decide) (fun _ => ?_) (fun hq => absurd ((gtN (x := nI (shh s).length) (k := 0) (by decide)).mpr (by rw [nI_toInt (by omega)]; omega)) hq)
    refine e_aload_n dX5_undo_9 rfl rfl ?_
    refine e_dup dX5_undo_10 rfl ?_
    refine e_getI dX5_undo_11 fRX5_34 (by exact ok.sh rfl) (fun _ => rfl) ?_
    rw [c0.2.2.2.1]
    refine e_iconst (v := 1) dX5_undo_14 (by decide) ?_
    refine e_isub dX5_undo_15 ?_
    rw [nI_m1 (by omega)]
    refine e_putI dX5_undo_16 fRX5_34 (by exact ok.sh rfl) rfl rfl rfl (fun _ _ => rfl) ?_
    obtain ⟨okk, -, hT, ⟨hn, hg⟩, ⟨π, p1, p2, p3, p4⟩, ⟨a1, a2, a3⟩, hrr⟩ := h
    generalize hM1 : sI M 0 6 (nI ((shh s).length - 1)) = M1
    have f1 : Fr 0 0 M M1 := by rw [← hM1]; exact Fr.rf.sI (by omega) (by omega)
    have ok1 := ok.fr f1
    have e6 : M1.2.1 0 6 = nI ((shh s).length - 1) := by rw [← hM1, rd_self]
    have hi8 : (shh s).length - 1 < 8 := by omega
    have hpi := p1 _ hi8
    obtain ⟨g2, g3⟩ := p4 _ g hg1
    have href : M1.2.2.2 10 ((shh s).length - 1) = some (28 + 4 * π ((shh s).length - 1)) := by rw [f1.2.1]; exact p3 _ hi8
    refine e_aload_n dX5_undo_19 rfl rfl ?_
    refine e_getR dX5_undo_20 fRX5_23 (by first | exact ok1.sh rfl) (by first | exact ok1.rf rfl | (rw [nI_clamp (by omega)]; exact href)) (fun _ => rfl) ?_
    refine e_aload_n dX5_undo_23 rfl rfl ?_
    refine e_getR dX5_undo_24 fRX5_30 (by first | exact ok1.sh rfl) (by first | exact ok1.rf rfl | (rw [nI_clamp (by omega)]; exact href)) (fun _ => rfl) ?_
    refine e_aload_n dX5_undo_27 rfl rfl ?_
    refine e_getI dX5_undo_28 fRX5_34 (by first | exact ok1.sh rfl) (fun _ => rfl) ?_
    rw [e6]
    refine e_aaloadN dX5_undo_31 (by first | exact ok1.sh rfl) (by exact vp_in_nI hi8 (by decide)) (by first | exact ok1.rf rfl | (rw [nI_clamp (by omega)]; exact href)) ?_
    refine e_callV1 [_] dX5_undo_32 mvmX1_copyFrom lkRX5_174 (by first | exact ok1.sh rfl) ⟨by decide, rfl⟩ rfl rfl (Nat.le_of_ble_eq_true rfl) (by decide) (c_copyFrom (n := 2) (net2 ok1) (g2.fr f1 (by omega)) ok1.lo (by omega)) (fun u N h2 => ?_)
    obtain ⟨hu, q1, q2⟩ := h2
    subst hu
    have okN := ok1.fr q2
    refine e_aload_n dX5_undo_35 rfl rfl ?_
    refine e_callV0v [] dX5_undo_36 mvmX5_forgetAnswers lkRX5_177 (by exact okN.sh rfl) ⟨by decide, rfl⟩ rfl rfl (Nat.le_of_ble_eq_true rfl) (by decide) (c_forget okN) ?_
    have f3 : Fr 14 17 N (sI (sI N 14 0 0) 17 0 0) := (Fr.rf.sI (by omega) (by omega)).sI (by omega) (by omega)
    have f13 : Fr 0 17 M (sI (sI N 14 0 0) 17 0 0) := ((f1.wide (by omega) (by omega)).trans (q2.wide (by omega) (by omega))).trans (f3.wide (by omega) (by omega))
    have e0 : (sI (sI N 14 0 0) 17 0 0).2.1 0 = M1.2.1 0 := by rw [f3.2.2 0 (by omega), q2.2.2 0 (by omega)]
    have okF := okN.fr f3
    refine e_aload_n dX5_undo_39 rfl rfl ?_
    refine e_getI dX5_undo_40 fRX5_34 (by exact okF.sh rfl) (fun _ => rfl) ?_
    rw [e0, e6]
    refine e_iret dX5_undo_43 rfl rfl (cpo_ok ?_ (f13.FC (by decide)))
    have hdl : (shh s).dropLast.length = (shh s).length - 1 := List.length_dropLast
    have zp : N.2.1 18 0 = 0 := by
      rw [q2.2.2 18 (by omega), f1.2.2 18 (by omega)]
      exact a2.1
    refine ⟨okF, ⟨?_, c0.2.1, ?_, ?_, ?_⟩, ?_, ⟨q1.fr f3 (by omega), g3⟩, ⟨π, p1, p2, fun i hi => ?_, fun i g5 hi => ?_⟩, ⟨Or.inl ?_, ⟨?_, Or.inl ?_⟩, trivial⟩, ?_⟩
    · rw [e0, ← hM1, rd_ni (by decide)]; exact c0.1
    · rw [e0, ← hM1, rd_ni (by decide)]; exact c0.2.2.1
    · rw [e0, e6]
      show nI _ = nI (shh s).dropLast.length
      rw [hdl]
    · show (shh s).dropLast.length ≤ 8
      omega
    · exact ((hT.fr f1 (by omega)).fr q2 (by omega)).fr f3 (by omega)
    · rw [f13.2.1]; exact p3 i hi
    · have hi' : (shh s).dropLast[i]? = some g5 := hi
      have hil : i < (shh s).dropLast.length := by
        rcases Nat.lt_or_ge i (shh s).dropLast.length with z | z
        · exact z
        · rw [List.getElem?_eq_none z] at hi'; cases hi'
      rw [List.getElem?_dropLast, if_pos (by omega)] at hi'
      obtain ⟨g6, g7⟩ := p4 i g5 hi'
      have := p1 i (by omega)
      exact ⟨g6.fr f13 (by omega), g7⟩
    · rw [rd_na (by decide), rd_self]
    · rw [rd_na (by decide), rd_na (by decide)]
      exact zp
    · rw [rd_self]
    · exact hrr.fr f13 (by omega)

