/-! the wrappers of the law -/
theorem mdL_text : MdX mL_text 3 := ⟨cwmL_text, ini_RL, by decide +kernel, by decide, by decide, stmL_text⟩
set_option maxHeartbeats 4000000 in
theorem cw_text {B : Bd} {M : Mm} {s : Sx} {x : Int32} (h : CI M s) : Ct B mL_text 35 1 6 [.ref 0, .int x, .ref 83] M (WPo M (sText s x)) := by
  refine Ct.ofH (by decide) (by decide) rfl (Nat.le_of_ble_eq_true rfl) ?_
  refine e_aload_n dL_text_0 rfl rfl ?_
  refine e_iconst (v := 0) dL_text_1 (by decide) ?_
  refine e_aload_n dL_text_2 rfl rfl ?_
  refine e_iload_n dL_text_3 rfl rfl ?_
  refine e_callV (rc1 := 1) (rs1 := 6) (rc2 := 0) (rs2 := 0) [_] dL_text_4 mvmX5_text lkRL_7 (by exact h.1.sh rfl) ⟨by decide, rfl⟩ rfl rfl (Nat.le_of_ble_eq_true rfl) (by decide) (by decide) (by decide) (c_text h) (fun v N hp => ?_) (fun E N hp => ?_)
  · obtain ⟨e0, rfl, hI, hF⟩ := cpo_ret hp
    refine e_i2l dL_text_7 ?_
    refine e_lastore dL_text_8 hI.1.lo (by exact hI.1.sh rfl) (by unfold vp_in; decide) ?_
    rw [show Int32.toNatClampNeg 0 = 0 by decide]
    refine e_goto (tgt := 15) dL_text_9 (by decide) ?_
    refine e_iconst (v := 0) dL_text_15 (by decide) ?_
    exact e_iret dL_text_16 rfl rfl ⟨_, rfl, ⟨by rw [e0]; rfl, by omega⟩, hI.out, hF.fo.out, fun _ => sJ_self⟩
  · obtain ⟨c, e0, hE, hI, hF⟩ := cpo_thr hp
    rcases c with _ | c
    · have hE2 : xIA = E := Option.some.inj hE
      subst hE2
      refine e_catch (pre := []) (x := (0, 9, 12, 13)) (suf := []) (i := 3) rfl (fun z hz => nomatch hz) (by decide) (by decide) clRL_13 (by decide) (Or.inl ⟨⟨3, rfl, dL_text_12⟩, fun k hk => ?_⟩) (by decide) rfl rfl
      subst hk
      refine e_iconst (v := 1) dL_text_13 (by decide) ?_
      exact e_iret dL_text_14 rfl rfl ⟨_, rfl, ⟨by rw [e0]; rfl, by omega⟩, hI, hF.fo, fun q => by omega⟩
    · cases hE
theorem mdL_join : MdX mL_join 5 := ⟨cwmL_join, ini_RL, by decide +kernel, by decide, by decide, stmL_join⟩
set_option maxHeartbeats 4000000 in
theorem cw_join {B : Bd} {M : Mm} {s : Sx} {x y z : Int32} (h : CI M s) : Ct B mL_join 35 3 18 [.ref 0, .int x, .int y, .int z, .ref 83] M (WPo M (sJoin s x y z)) := by
  refine Ct.ofH (by decide) (by decide) rfl (Nat.le_of_ble_eq_true rfl) ?_
  refine e_aload dL_join_0 rfl ?_
  refine e_iconst (v := 0) dL_join_2 (by decide) ?_
  refine e_aload_n dL_join_3 rfl rfl ?_
  refine e_iload_n dL_join_4 rfl rfl ?_
  refine e_iload_n dL_join_5 rfl rfl ?_
  refine e_iload_n dL_join_6 rfl rfl ?_
  refine e_callV (rc1 := 3) (rs1 := 18) (rc2 := 0) (rs2 := 0) [_, _, _] dL_join_7 mvmX5_join lkRL_15 (by exact h.1.sh rfl) ⟨by decide, rfl⟩ rfl rfl (Nat.le_of_ble_eq_true rfl) (by decide) (by decide) (by decide) (c_join h) (fun v N hp => ?_) (fun E N hp => ?_)
  · obtain ⟨e0, rfl, hI, hF⟩ := cpo_ret hp
    refine e_i2l dL_join_10 ?_
    refine e_lastore dL_join_11 hI.1.lo (by exact hI.1.sh rfl) (by unfold vp_in; decide) ?_
    rw [show Int32.toNatClampNeg 0 = 0 by decide]
    refine e_goto (tgt := 23) dL_join_12 (by decide) ?_
    refine e_iconst (v := 0) dL_join_23 (by decide) ?_
    exact e_iret dL_join_24 rfl rfl ⟨_, rfl, ⟨by rw [e0]; rfl, by omega⟩, hI.out, hF.fo.out, fun _ => sJ_self⟩
  · obtain ⟨c, e0, hE, hI, hF⟩ := cpo_thr hp
    rcases c with _ | _ | c
    · have hE2 : xNS = E := Option.some.inj hE
      subst hE2
      refine e_catch (pre := []) (x := (0, 12, 15, 19)) (suf := [(0, 12, 19, 13)]) (i := 5) rfl (fun z hz => nomatch hz) (by decide) (by decide) clRL_19 (by decide) (Or.inr ⟨dL_join_15, fun k hk => ?_⟩) (by decide) rfl rfl
      subst hk
      refine e_iconst (v := 1) dL_join_17 (by decide) ?_
      exact e_iret dL_join_18 rfl rfl ⟨_, rfl, ⟨by rw [e0]; rfl, by omega⟩, hI, hF.fo, fun q => by omega⟩
    · have hE2 : xIA = E := Option.some.inj hE
      subst hE2
      refine e_catch (pre := [(0, 12, 15, 19)]) (x := (0, 12, 19, 13)) (suf := []) (i := 5) rfl (by intro z hz; simp only [List.mem_cons, List.not_mem_nil, or_false] at hz; subst hz; exact ⟨by decide, xNS, clRL_19, by decide⟩) (by decide) (by decide) clRL_13 (by decide) (Or.inr ⟨dL_join_19, fun k hk => ?_⟩) (by decide) rfl rfl
      subst hk
      refine e_iconst (v := 2) dL_join_21 (by decide) ?_
      exact e_iret dL_join_22 rfl rfl ⟨_, rfl, ⟨by rw [e0]; rfl, by omega⟩, hI, hF.fo, fun q => by omega⟩
    · cases hE
theorem mdL_cut : MdX mL_cut 4 := ⟨cwmL_cut, ini_RL, by decide +kernel, by decide, by decide, stmL_cut⟩
set_option maxHeartbeats 4000000 in
theorem cw_cut {B : Bd} {M : Mm} {s : Sx} {x y : Int32} (h : CI M s) : Ct B mL_cut 35 4 24 [.ref 0, .int x, .int y, .ref 83] M (WPo M (sCut s x y)) := by
  refine Ct.ofH (by decide) (by decide) rfl (Nat.le_of_ble_eq_true rfl) ?_
  refine e_aload_n dL_cut_0 rfl rfl ?_
  refine e_iconst (v := 0) dL_cut_1 (by decide) ?_
  refine e_aload_n dL_cut_2 rfl rfl ?_
  refine e_iload_n dL_cut_3 rfl rfl ?_
  refine e_iload_n dL_cut_4 rfl rfl ?_
  refine e_callV (rc1 := 4) (rs1 := 24) (rc2 := 0) (rs2 := 0) [_, _] dL_cut_5 mvmX5_cut lkRL_21 (by exact h.1.sh rfl) ⟨by decide, rfl⟩ rfl rfl (Nat.le_of_ble_eq_true rfl) (by decide) (by decide) (by decide) (c_cut h) (fun v N hp => ?_) (fun E N hp => ?_)
  · obtain ⟨e0, rfl, hI, hF⟩ := cpo_ret hp
    refine e_i2l dL_cut_8 ?_
    refine e_lastore dL_cut_9 hI.1.lo (by exact hI.1.sh rfl) (by unfold vp_in; decide) ?_
    rw [show Int32.toNatClampNeg 0 = 0 by decide]
    refine e_goto (tgt := 25) dL_cut_10 (by decide) ?_
    refine e_iconst (v := 0) dL_cut_25 (by decide) ?_
    exact e_iret dL_cut_26 rfl rfl ⟨_, rfl, ⟨by rw [e0]; rfl, by omega⟩, hI.out, hF.fo.out, fun _ => sJ_self⟩
  · obtain ⟨c, e0, hE, hI, hF⟩ := cpo_thr hp
    rcases c with _ | _ | _ | c
    · have hE2 : xNS = E := Option.some.inj hE
      subst hE2
      refine e_catch (pre := []) (x := (0, 10, 13, 19)) (suf := [(0, 10, 17, 13), (0, 10, 21, 25)]) (i := 4) rfl (fun z hz => nomatch hz) (by decide) (by decide) clRL_19 (by decide) (Or.inr ⟨dL_cut_13, fun k hk => ?_⟩) (by decide) rfl rfl
      subst hk
      refine e_iconst (v := 1) dL_cut_15 (by decide) ?_
      exact e_iret dL_cut_16 rfl rfl ⟨_, rfl, ⟨by rw [e0]; rfl, by omega⟩, hI, hF.fo, fun q => by omega⟩
    · have hE2 : xIA = E := Option.some.inj hE
      subst hE2
      refine e_catch (pre := [(0, 10, 13, 19)]) (x := (0, 10, 17, 13)) (suf := [(0, 10, 21, 25)]) (i := 4) rfl (by intro z hz; simp only [List.mem_cons, List.not_mem_nil, or_false] at hz; subst hz; exact ⟨by decide, xNS, clRL_19, by decide⟩) (by decide) (by decide) clRL_13 (by decide) (Or.inr ⟨dL_cut_17, fun k hk => ?_⟩) (by decide) rfl rfl
      subst hk
      refine e_iconst (v := 2) dL_cut_19 (by decide) ?_
      exact e_iret dL_cut_20 rfl rfl ⟨_, rfl, ⟨by rw [e0]; rfl, by omega⟩, hI, hF.fo, fun q => by omega⟩
    · have hE2 : xIS = E := Option.some.inj hE
      subst hE2
      refine e_catch (pre := [(0, 10, 13, 19), (0, 10, 17, 13)]) (x := (0, 10, 21, 25)) (suf := []) (i := 4) rfl (by intro z hz; simp only [List.mem_cons, List.not_mem_nil, or_false] at hz; rcases hz with rfl | rfl; exact ⟨by decide, xNS, clRL_19, by decide⟩; exact ⟨by decide, xIA, clRL_13, by decide⟩) (by decide) (by decide) clRL_25 (by decide) (Or.inr ⟨dL_cut_21, fun k hk => ?_⟩) (by decide) rfl rfl
      subst hk
      refine e_iconst (v := 3) dL_cut_23 (by decide) ?_
      exact e_iret dL_cut_24 rfl rfl ⟨_, rfl, ⟨by rw [e0]; rfl, by omega⟩, hI, hF.fo, fun q => by omega⟩
    · cases hE
theorem mdL_pair : MdX mL_pair 4 := ⟨cwmL_pair, ini_RL, by decide +kernel, by decide, by decide, stmL_pair⟩
set_option maxHeartbeats 4000000 in
theorem cw_pair {B : Bd} {M : Mm} {s : Sx} {x y : Int32} (h : CI M s) : Ct B mL_pair 35 4 24 [.ref 0, .int x, .int y, .ref 83] M (WPo M (sPair s x y)) := by
  refine Ct.ofH (by decide) (by decide) rfl (Nat.le_of_ble_eq_true rfl) ?_
  refine e_aload_n dL_pair_0 rfl rfl ?_
  refine e_iconst (v := 0) dL_pair_1 (by decide) ?_
  refine e_aload_n dL_pair_2 rfl rfl ?_
  refine e_iload_n dL_pair_3 rfl rfl ?_
  refine e_iload_n dL_pair_4 rfl rfl ?_
  refine e_callV (rc1 := 4) (rs1 := 24) (rc2 := 0) (rs2 := 0) [_, _] dL_pair_5 mvmX5_pair lkRL_27 (by exact h.1.sh rfl) ⟨by decide, rfl⟩ rfl rfl (Nat.le_of_ble_eq_true rfl) (by decide) (by decide) (by decide) (c_pair h) (fun v N hp => ?_) (fun E N hp => ?_)
  · obtain ⟨e0, rfl, hI, hF⟩ := cpo_ret hp
    refine e_i2l dL_pair_8 ?_
    refine e_lastore dL_pair_9 hI.1.lo (by exact hI.1.sh rfl) (by unfold vp_in; decide) ?_
    rw [show Int32.toNatClampNeg 0 = 0 by decide]
    refine e_goto (tgt := 25) dL_pair_10 (by decide) ?_
    refine e_iconst (v := 0) dL_pair_25 (by decide) ?_
    exact e_iret dL_pair_26 rfl rfl ⟨_, rfl, ⟨by rw [e0]; rfl, by omega⟩, hI.out, hF.fo.out, fun _ => sJ_self⟩
  · obtain ⟨c, e0, hE, hI, hF⟩ := cpo_thr hp
    rcases c with _ | _ | _ | c
    · have hE2 : xNS = E := Option.some.inj hE
      subst hE2
      refine e_catch (pre := []) (x := (0, 10, 13, 19)) (suf := [(0, 10, 17, 13), (0, 10, 21, 25)]) (i := 4) rfl (fun z hz => nomatch hz) (by decide) (by decide) clRL_19 (by decide) (Or.inr ⟨dL_pair_13, fun k hk => ?_⟩) (by decide) rfl rfl
      subst hk
      refine e_iconst (v := 1) dL_pair_15 (by decide) ?_
      exact e_iret dL_pair_16 rfl rfl ⟨_, rfl, ⟨by rw [e0]; rfl, by omega⟩, hI, hF.fo, fun q => by omega⟩
    · have hE2 : xIA = E := Option.some.inj hE
      subst hE2
      refine e_catch (pre := [(0, 10, 13, 19)]) (x := (0, 10, 17, 13)) (suf := [(0, 10, 21, 25)]) (i := 4) rfl (by intro z hz; simp only [List.mem_cons, List.not_mem_nil, or_false] at hz; subst hz; exact ⟨by decide, xNS, clRL_19, by decide⟩) (by decide) (by decide) clRL_13 (by decide) (Or.inr ⟨dL_pair_17, fun k hk => ?_⟩) (by decide) rfl rfl
      subst hk
      refine e_iconst (v := 2) dL_pair_19 (by decide) ?_
      exact e_iret dL_pair_20 rfl rfl ⟨_, rfl, ⟨by rw [e0]; rfl, by omega⟩, hI, hF.fo, fun q => by omega⟩
    · have hE2 : xIS = E := Option.some.inj hE
      subst hE2
      refine e_catch (pre := [(0, 10, 13, 19), (0, 10, 17, 13)]) (x := (0, 10, 21, 25)) (suf := []) (i := 4) rfl (by intro z hz; simp only [List.mem_cons, List.not_mem_nil, or_false] at hz; rcases hz with rfl | rfl; exact ⟨by decide, xNS, clRL_19, by decide⟩; exact ⟨by decide, xIA, clRL_13, by decide⟩) (by decide) (by decide) clRL_25 (by decide) (Or.inr ⟨dL_pair_21, fun k hk => ?_⟩) (by decide) rfl rfl
      subst hk
      refine e_iconst (v := 3) dL_pair_23 (by decide) ?_
      exact e_iret dL_pair_24 rfl rfl ⟨_, rfl, ⟨by rw [e0]; rfl, by omega⟩, hI, hF.fo, fun q => by omega⟩
    · cases hE
theorem mdL_part : MdX mL_part 3 := ⟨cwmL_part, ini_RL, by decide +kernel, by decide, by decide, stmL_part⟩
set_option maxHeartbeats 4000000 in
theorem cw_part {B : Bd} {M : Mm} {s : Sx} {x : Int32} (h : CI M s) : Ct B mL_part 35 2 12 [.ref 0, .int x, .ref 83] M (WPo M (sPart s x)) := by
  refine Ct.ofH (by decide) (by decide) rfl (Nat.le_of_ble_eq_true rfl) ?_
  refine e_aload_n dL_part_0 rfl rfl ?_
  refine e_iconst (v := 0) dL_part_1 (by decide) ?_
  refine e_aload_n dL_part_2 rfl rfl ?_
  refine e_iload_n dL_part_3 rfl rfl ?_
  refine e_callV (rc1 := 2) (rs1 := 12) (rc2 := 0) (rs2 := 0) [_] dL_part_4 mvmX5_part lkRL_30 (by exact h.1.sh rfl) ⟨by decide, rfl⟩ rfl rfl (Nat.le_of_ble_eq_true rfl) (by decide) (by decide) (by decide) (c_part h) (fun v N hp => ?_) (fun E N hp => ?_)
  · obtain ⟨e0, rfl, hI, hF⟩ := cpo_ret hp
    refine e_i2l dL_part_7 ?_
    refine e_lastore dL_part_8 hI.1.lo (by exact hI.1.sh rfl) (by unfold vp_in; decide) ?_
    rw [show Int32.toNatClampNeg 0 = 0 by decide]
    refine e_goto (tgt := 18) dL_part_9 (by decide) ?_
    refine e_iconst (v := 0) dL_part_18 (by decide) ?_
    exact e_iret dL_part_19 rfl rfl ⟨_, rfl, ⟨by rw [e0]; rfl, by omega⟩, hI.out, hF.fo.out, fun _ => sJ_self⟩
  · obtain ⟨c, e0, hE, hI, hF⟩ := cpo_thr hp
    rcases c with _ | _ | c
    · have hE2 : xNS = E := Option.some.inj hE
      subst hE2
      refine e_catch (pre := []) (x := (0, 9, 12, 19)) (suf := [(0, 9, 15, 25)]) (i := 3) rfl (fun z hz => nomatch hz) (by decide) (by decide) clRL_19 (by decide) (Or.inl ⟨⟨3, rfl, dL_part_12⟩, fun k hk => ?_⟩) (by decide) rfl rfl
      subst hk
      refine e_iconst (v := 1) dL_part_13 (by decide) ?_
      exact e_iret dL_part_14 rfl rfl ⟨_, rfl, ⟨by rw [e0]; rfl, by omega⟩, hI, hF.fo, fun q => by omega⟩
    · have hE2 : xIS = E := Option.some.inj hE
      subst hE2
      refine e_catch (pre := [(0, 9, 12, 19)]) (x := (0, 9, 15, 25)) (suf := []) (i := 3) rfl (by intro z hz; simp only [List.mem_cons, List.not_mem_nil, or_false] at hz; subst hz; exact ⟨by decide, xNS, clRL_19, by decide⟩) (by decide) (by decide) clRL_25 (by decide) (Or.inl ⟨⟨3, rfl, dL_part_15⟩, fun k hk => ?_⟩) (by decide) rfl rfl
      subst hk
      refine e_iconst (v := 2) dL_part_16 (by decide) ?_
      exact e_iret dL_part_17 rfl rfl ⟨_, rfl, ⟨by rw [e0]; rfl, by omega⟩, hI, hF.fo, fun q => by omega⟩
    · cases hE
theorem mdL_better : MdX mL_better 3 := ⟨cwmL_better, ini_RL, by decide +kernel, by decide, by decide, stmL_better⟩
set_option maxHeartbeats 4000000 in
theorem cw_better {B : Bd} {M : Mm} {s : Sx} {x : Int32} (h : CI M s) : Ct B mL_better 35 2 12 [.ref 0, .int x, .ref 83] M (WPo M (sBetter s x)) := by
  refine Ct.ofH (by decide) (by decide) rfl (Nat.le_of_ble_eq_true rfl) ?_
  refine e_aload_n dL_better_0 rfl rfl ?_
  refine e_iconst (v := 0) dL_better_1 (by decide) ?_
  refine e_aload_n dL_better_2 rfl rfl ?_
  refine e_iload_n dL_better_3 rfl rfl ?_
  refine e_callV (rc1 := 2) (rs1 := 12) (rc2 := 0) (rs2 := 0) [_] dL_better_4 mvmX5_better lkRL_33 (by exact h.1.sh rfl) ⟨by decide, rfl⟩ rfl rfl (Nat.le_of_ble_eq_true rfl) (by decide) (by decide) (by decide) (c_better h) (fun v N hp => ?_) (fun E N hp => ?_)
  · obtain ⟨e0, rfl, hI, hF⟩ := cpo_ret hp
    refine e_i2l dL_better_7 ?_
    refine e_lastore dL_better_8 hI.1.lo (by exact hI.1.sh rfl) (by unfold vp_in; decide) ?_
    rw [show Int32.toNatClampNeg 0 = 0 by decide]
    refine e_goto (tgt := 18) dL_better_9 (by decide) ?_
    refine e_iconst (v := 0) dL_better_18 (by decide) ?_
    exact e_iret dL_better_19 rfl rfl ⟨_, rfl, ⟨by rw [e0]; rfl, by omega⟩, hI.out, hF.fo.out, fun _ => sJ_self⟩
  · obtain ⟨c, e0, hE, hI, hF⟩ := cpo_thr hp
    rcases c with _ | _ | c
    · have hE2 : xNS = E := Option.some.inj hE
      subst hE2
      refine e_catch (pre := []) (x := (0, 9, 12, 19)) (suf := [(0, 9, 15, 25)]) (i := 3) rfl (fun z hz => nomatch hz) (by decide) (by decide) clRL_19 (by decide) (Or.inl ⟨⟨3, rfl, dL_better_12⟩, fun k hk => ?_⟩) (by decide) rfl rfl
      subst hk
      refine e_iconst (v := 1) dL_better_13 (by decide) ?_
      exact e_iret dL_better_14 rfl rfl ⟨_, rfl, ⟨by rw [e0]; rfl, by omega⟩, hI, hF.fo, fun q => by omega⟩
    · have hE2 : xIS = E := Option.some.inj hE
      subst hE2
      refine e_catch (pre := [(0, 9, 12, 19)]) (x := (0, 9, 15, 25)) (suf := []) (i := 3) rfl (by intro z hz; simp only [List.mem_cons, List.not_mem_nil, or_false] at hz; subst hz; exact ⟨by decide, xNS, clRL_19, by decide⟩) (by decide) (by decide) clRL_25 (by decide) (Or.inl ⟨⟨3, rfl, dL_better_15⟩, fun k hk => ?_⟩) (by decide) rfl rfl
      subst hk
      refine e_iconst (v := 2) dL_better_16 (by decide) ?_
      exact e_iret dL_better_17 rfl rfl ⟨_, rfl, ⟨by rw [e0]; rfl, by omega⟩, hI, hF.fo, fun q => by omega⟩
    · cases hE
theorem mdL_shrink : MdX mL_shrink 3 := ⟨cwmL_shrink, ini_RL, by decide +kernel, by decide, by decide, stmL_shrink⟩
set_option maxHeartbeats 4000000 in
theorem cw_shrink {B : Bd} {M : Mm} {s : Sx} {x : Int32} (h : CI M s) : Ct B mL_shrink 35 2 12 [.ref 0, .int x, .ref 83] M (WPo M (sShrink s x)) := by
  refine Ct.ofH (by decide) (by decide) rfl (Nat.le_of_ble_eq_true rfl) ?_
  refine e_aload_n dL_shrink_0 rfl rfl ?_
  refine e_iconst (v := 0) dL_shrink_1 (by decide) ?_
  refine e_aload_n dL_shrink_2 rfl rfl ?_
  refine e_iload_n dL_shrink_3 rfl rfl ?_
  refine e_callV (rc1 := 2) (rs1 := 12) (rc2 := 0) (rs2 := 0) [_] dL_shrink_4 mvmX5_shrink lkRL_36 (by exact h.1.sh rfl) ⟨by decide, rfl⟩ rfl rfl (Nat.le_of_ble_eq_true rfl) (by decide) (by decide) (by decide) (c_shrink h) (fun v N hp => ?_) (fun E N hp => ?_)
  · obtain ⟨e0, rfl, hI, hF⟩ := cpo_ret hp
    refine e_i2l dL_shrink_7 ?_
    refine e_lastore dL_shrink_8 hI.1.lo (by exact hI.1.sh rfl) (by unfold vp_in; decide) ?_
    rw [show Int32.toNatClampNeg 0 = 0 by decide]
    refine e_goto (tgt := 18) dL_shrink_9 (by decide) ?_
    refine e_iconst (v := 0) dL_shrink_18 (by decide) ?_
    exact e_iret dL_shrink_19 rfl rfl ⟨_, rfl, ⟨by rw [e0]; rfl, by omega⟩, hI.out, hF.fo.out, fun _ => sJ_self⟩
  · obtain ⟨c, e0, hE, hI, hF⟩ := cpo_thr hp
    rcases c with _ | _ | c
    · have hE2 : xNS = E := Option.some.inj hE
      subst hE2
      refine e_catch (pre := []) (x := (0, 9, 12, 19)) (suf := [(0, 9, 15, 25)]) (i := 3) rfl (fun z hz => nomatch hz) (by decide) (by decide) clRL_19 (by decide) (Or.inl ⟨⟨3, rfl, dL_shrink_12⟩, fun k hk => ?_⟩) (by decide) rfl rfl
      subst hk
      refine e_iconst (v := 1) dL_shrink_13 (by decide) ?_
      exact e_iret dL_shrink_14 rfl rfl ⟨_, rfl, ⟨by rw [e0]; rfl, by omega⟩, hI, hF.fo, fun q => by omega⟩
    · have hE2 : xIS = E := Option.some.inj hE
      subst hE2
      refine e_catch (pre := [(0, 9, 12, 19)]) (x := (0, 9, 15, 25)) (suf := []) (i := 3) rfl (by intro z hz; simp only [List.mem_cons, List.not_mem_nil, or_false] at hz; subst hz; exact ⟨by decide, xNS, clRL_19, by decide⟩) (by decide) (by decide) clRL_25 (by decide) (Or.inl ⟨⟨3, rfl, dL_shrink_15⟩, fun k hk => ?_⟩) (by decide) rfl rfl
      subst hk
      refine e_iconst (v := 2) dL_shrink_16 (by decide) ?_
      exact e_iret dL_shrink_17 rfl rfl ⟨_, rfl, ⟨by rw [e0]; rfl, by omega⟩, hI, hF.fo, fun q => by omega⟩
    · cases hE
theorem mdL_told : MdX mL_told 3 := ⟨cwmL_told, ini_RL, by decide +kernel, by decide, by decide, stmL_told⟩
set_option maxHeartbeats 4000000 in
theorem cw_told {B : Bd} {M : Mm} {s : Sx} {x : Int32} (h : CI M s) : Ct B mL_told 35 1 6 [.ref 0, .int x, .ref 83] M (WPo M (sTold s x)) := by
  refine Ct.ofH (by decide) (by decide) rfl (Nat.le_of_ble_eq_true rfl) ?_
  refine e_aload_n dL_told_0 rfl rfl ?_
  refine e_iconst (v := 0) dL_told_1 (by decide) ?_
  refine e_aload_n dL_told_2 rfl rfl ?_
  refine e_iload_n dL_told_3 rfl rfl ?_
  refine e_callV (rc1 := 1) (rs1 := 6) (rc2 := 0) (rs2 := 0) [_] dL_told_4 mvmX5_told lkRL_39 (by exact h.1.sh rfl) ⟨by decide, rfl⟩ rfl rfl (Nat.le_of_ble_eq_true rfl) (by decide) (by decide) (by decide) (c_told h) (fun v N hp => ?_) (fun E N hp => ?_)
  · obtain ⟨e0, rfl, hI, hF⟩ := cpo_ret hp
    refine e_i2l dL_told_7 ?_
    refine e_lastore dL_told_8 hI.1.lo (by exact hI.1.sh rfl) (by unfold vp_in; decide) ?_
    rw [show Int32.toNatClampNeg 0 = 0 by decide]
    refine e_goto (tgt := 15) dL_told_9 (by decide) ?_
    refine e_iconst (v := 0) dL_told_15 (by decide) ?_
    exact e_iret dL_told_16 rfl rfl ⟨_, rfl, ⟨by rw [e0]; rfl, by omega⟩, hI.out, hF.fo.out, fun _ => sJ_self⟩
  · obtain ⟨c, e0, hE, hI, hF⟩ := cpo_thr hp
    rcases c with _ | c
    · have hE2 : xIA = E := Option.some.inj hE
      subst hE2
      refine e_catch (pre := []) (x := (0, 9, 12, 13)) (suf := []) (i := 3) rfl (fun z hz => nomatch hz) (by decide) (by decide) clRL_13 (by decide) (Or.inl ⟨⟨3, rfl, dL_told_12⟩, fun k hk => ?_⟩) (by decide) rfl rfl
      subst hk
      refine e_iconst (v := 1) dL_told_13 (by decide) ?_
      exact e_iret dL_told_14 rfl rfl ⟨_, rfl, ⟨by rw [e0]; rfl, by omega⟩, hI, hF.fo, fun q => by omega⟩
    · cases hE
theorem mdL_line : MdX mL_line 5 := ⟨cwmL_line, ini_RL, by decide +kernel, by decide, by decide, stmL_line⟩
set_option maxHeartbeats 4000000 in
theorem cw_line {B : Bd} {M : Mm} {s : Sx} {x y z : Int32} (h : CI M s) : Ct B mL_line 35 3 18 [.ref 0, .int x, .int y, .int z, .ref 83] M (WPo M (sLine s x y z)) := by
  refine Ct.ofH (by decide) (by decide) rfl (Nat.le_of_ble_eq_true rfl) ?_
  refine e_aload dL_line_0 rfl ?_
  refine e_iconst (v := 0) dL_line_2 (by decide) ?_
  refine e_aload_n dL_line_3 rfl rfl ?_
  refine e_iload_n dL_line_4 rfl rfl ?_
  refine e_iload_n dL_line_5 rfl rfl ?_
  refine e_iload_n dL_line_6 rfl rfl ?_
  refine e_callV (rc1 := 3) (rs1 := 18) (rc2 := 0) (rs2 := 0) [_, _, _] dL_line_7 mvmX5_line lkRL_42 (by exact h.1.sh rfl) ⟨by decide, rfl⟩ rfl rfl (Nat.le_of_ble_eq_true rfl) (by decide) (by decide) (by decide) (c_line h) (fun v N hp => ?_) (fun E N hp => ?_)
  · obtain ⟨e0, rfl, hI, hF⟩ := cpo_ret hp
    refine e_i2l dL_line_10 ?_
    refine e_lastore dL_line_11 hI.1.lo (by exact hI.1.sh rfl) (by unfold vp_in; decide) ?_
    rw [show Int32.toNatClampNeg 0 = 0 by decide]
    refine e_goto (tgt := 23) dL_line_12 (by decide) ?_
    refine e_iconst (v := 0) dL_line_23 (by decide) ?_
    exact e_iret dL_line_24 rfl rfl ⟨_, rfl, ⟨by rw [e0]; rfl, by omega⟩, hI.out, hF.fo.out, fun _ => sJ_self⟩
  · obtain ⟨c, e0, hE, hI, hF⟩ := cpo_thr hp
    rcases c with _ | _ | c
    · have hE2 : xNS = E := Option.some.inj hE
      subst hE2
      refine e_catch (pre := []) (x := (0, 12, 15, 19)) (suf := [(0, 12, 19, 13)]) (i := 5) rfl (fun z hz => nomatch hz) (by decide) (by decide) clRL_19 (by decide) (Or.inr ⟨dL_line_15, fun k hk => ?_⟩) (by decide) rfl rfl
      subst hk
      refine e_iconst (v := 1) dL_line_17 (by decide) ?_
      exact e_iret dL_line_18 rfl rfl ⟨_, rfl, ⟨by rw [e0]; rfl, by omega⟩, hI, hF.fo, fun q => by omega⟩
    · have hE2 : xIA = E := Option.some.inj hE
      subst hE2
      refine e_catch (pre := [(0, 12, 15, 19)]) (x := (0, 12, 19, 13)) (suf := []) (i := 5) rfl (by intro z hz; simp only [List.mem_cons, List.not_mem_nil, or_false] at hz; subst hz; exact ⟨by decide, xNS, clRL_19, by decide⟩) (by decide) (by decide) clRL_13 (by decide) (Or.inr ⟨dL_line_19, fun k hk => ?_⟩) (by decide) rfl rfl
      subst hk
      refine e_iconst (v := 2) dL_line_21 (by decide) ?_
      exact e_iret dL_line_22 rfl rfl ⟨_, rfl, ⟨by rw [e0]; rfl, by omega⟩, hI, hF.fo, fun q => by omega⟩
    · cases hE
theorem mdL_node : MdX mL_node 4 := ⟨cwmL_node, ini_RL, by decide +kernel, by decide, by decide, stmL_node⟩
set_option maxHeartbeats 4000000 in
theorem cw_node {B : Bd} {M : Mm} {s : Sx} {x y : Int32} (h : CI M s) : Ct B mL_node 35 2 12 [.ref 0, .int x, .int y, .ref 83] M (WPo M (sNode s x y)) := by
  refine Ct.ofH (by decide) (by decide) rfl (Nat.le_of_ble_eq_true rfl) ?_
  refine e_aload_n dL_node_0 rfl rfl ?_
  refine e_iconst (v := 0) dL_node_1 (by decide) ?_
  refine e_aload_n dL_node_2 rfl rfl ?_
  refine e_iload_n dL_node_3 rfl rfl ?_
  refine e_iload_n dL_node_4 rfl rfl ?_
  refine e_callV (rc1 := 2) (rs1 := 12) (rc2 := 0) (rs2 := 0) [_, _] dL_node_5 mvmX5_node lkRL_45 (by exact h.1.sh rfl) ⟨by decide, rfl⟩ rfl rfl (Nat.le_of_ble_eq_true rfl) (by decide) (by decide) (by decide) (c_node h) (fun v N hp => ?_) (fun E N hp => ?_)
  · obtain ⟨e0, rfl, hI, hF⟩ := cpo_ret hp
    refine e_i2l dL_node_8 ?_
    refine e_lastore dL_node_9 hI.1.lo (by exact hI.1.sh rfl) (by unfold vp_in; decide) ?_
    rw [show Int32.toNatClampNeg 0 = 0 by decide]
    refine e_goto (tgt := 21) dL_node_10 (by decide) ?_
    refine e_iconst (v := 0) dL_node_21 (by decide) ?_
    exact e_iret dL_node_22 rfl rfl ⟨_, rfl, ⟨by rw [e0]; rfl, by omega⟩, hI.out, hF.fo.out, fun _ => sJ_self⟩
  · obtain ⟨c, e0, hE, hI, hF⟩ := cpo_thr hp
    rcases c with _ | _ | c
    · have hE2 : xNS = E := Option.some.inj hE
      subst hE2
      refine e_catch (pre := []) (x := (0, 10, 13, 19)) (suf := [(0, 10, 17, 13)]) (i := 4) rfl (fun z hz => nomatch hz) (by decide) (by decide) clRL_19 (by decide) (Or.inr ⟨dL_node_13, fun k hk => ?_⟩) (by decide) rfl rfl
      subst hk
      refine e_iconst (v := 1) dL_node_15 (by decide) ?_
      exact e_iret dL_node_16 rfl rfl ⟨_, rfl, ⟨by rw [e0]; rfl, by omega⟩, hI, hF.fo, fun q => by omega⟩
    · have hE2 : xIA = E := Option.some.inj hE
      subst hE2
      refine e_catch (pre := [(0, 10, 13, 19)]) (x := (0, 10, 17, 13)) (suf := []) (i := 4) rfl (by intro z hz; simp only [List.mem_cons, List.not_mem_nil, or_false] at hz; subst hz; exact ⟨by decide, xNS, clRL_19, by decide⟩) (by decide) (by decide) clRL_13 (by decide) (Or.inr ⟨dL_node_17, fun k hk => ?_⟩) (by decide) rfl rfl
      subst hk
      refine e_iconst (v := 2) dL_node_19 (by decide) ?_
      exact e_iret dL_node_20 rfl rfl ⟨_, rfl, ⟨by rw [e0]; rfl, by omega⟩, hI, hF.fo, fun q => by omega⟩
    · cases hE
theorem mdL_sets : MdX mL_sets 3 := ⟨cwmL_sets, ini_RL, by decide +kernel, by decide, by decide, stmL_sets⟩
set_option maxHeartbeats 4000000 in
theorem cw_sets {B : Bd} {M : Mm} {s : Sx} {x : Int32} (h : CI M s) : Ct B mL_sets 35 1 6 [.ref 0, .int x, .ref 83] M (WPo M (sSets s x)) := by
  refine Ct.ofH (by decide) (by decide) rfl (Nat.le_of_ble_eq_true rfl) ?_
  refine e_aload_n dL_sets_0 rfl rfl ?_
  refine e_iconst (v := 0) dL_sets_1 (by decide) ?_
  refine e_aload_n dL_sets_2 rfl rfl ?_
  refine e_iload_n dL_sets_3 rfl rfl ?_
  refine e_callV (rc1 := 1) (rs1 := 6) (rc2 := 0) (rs2 := 0) [_] dL_sets_4 mvmX5_sets lkRL_48 (by exact h.1.sh rfl) ⟨by decide, rfl⟩ rfl rfl (Nat.le_of_ble_eq_true rfl) (by decide) (by decide) (by decide) (c_sets h) (fun v N hp => ?_) (fun E N hp => ?_)
  · obtain ⟨e0, rfl, hI, hF⟩ := cpo_ret hp
    refine e_i2l dL_sets_7 ?_
    refine e_lastore dL_sets_8 hI.1.lo (by exact hI.1.sh rfl) (by unfold vp_in; decide) ?_
    rw [show Int32.toNatClampNeg 0 = 0 by decide]
    refine e_goto (tgt := 15) dL_sets_9 (by decide) ?_
    refine e_iconst (v := 0) dL_sets_15 (by decide) ?_
    exact e_iret dL_sets_16 rfl rfl ⟨_, rfl, ⟨by rw [e0]; rfl, by omega⟩, hI.out, hF.fo.out, fun _ => sJ_self⟩
  · obtain ⟨c, e0, hE, hI, hF⟩ := cpo_thr hp
    rcases c with _ | c
    · have hE2 : xIA = E := Option.some.inj hE
      subst hE2
      refine e_catch (pre := []) (x := (0, 9, 12, 13)) (suf := []) (i := 3) rfl (fun z hz => nomatch hz) (by decide) (by decide) clRL_13 (by decide) (Or.inl ⟨⟨3, rfl, dL_sets_12⟩, fun k hk => ?_⟩) (by decide) rfl rfl
      subst hk
      refine e_iconst (v := 1) dL_sets_13 (by decide) ?_
      exact e_iret dL_sets_14 rfl rfl ⟨_, rfl, ⟨by rw [e0]; rfl, by omega⟩, hI, hF.fo, fun q => by omega⟩
    · cases hE
theorem mdL_odd : MdX mL_odd 3 := ⟨cwmL_odd, ini_RL, by decide +kernel, by decide, by decide, stmL_odd⟩
set_option maxHeartbeats 4000000 in
theorem cw_odd {B : Bd} {M : Mm} {s : Sx} {x : Int32} (h : CI M s) : Ct B mL_odd 35 1 6 [.ref 0, .int x, .ref 83] M (WPo M (sOdd s x)) := by
  refine Ct.ofH (by decide) (by decide) rfl (Nat.le_of_ble_eq_true rfl) ?_
  refine e_aload_n dL_odd_0 rfl rfl ?_
  refine e_iconst (v := 0) dL_odd_1 (by decide) ?_
  refine e_aload_n dL_odd_2 rfl rfl ?_
  refine e_iload_n dL_odd_3 rfl rfl ?_
  refine e_callV (rc1 := 1) (rs1 := 6) (rc2 := 0) (rs2 := 0) [_] dL_odd_4 mvmX5_odd lkRL_51 (by exact h.1.sh rfl) ⟨by decide, rfl⟩ rfl rfl (Nat.le_of_ble_eq_true rfl) (by decide) (by decide) (by decide) (c_odd h) (fun v N hp => ?_) (fun E N hp => ?_)
  · obtain ⟨e0, rfl, hI, hF⟩ := cpo_ret hp
    refine e_i2l dL_odd_7 ?_
    refine e_lastore dL_odd_8 hI.1.lo (by exact hI.1.sh rfl) (by unfold vp_in; decide) ?_
    rw [show Int32.toNatClampNeg 0 = 0 by decide]
    refine e_goto (tgt := 15) dL_odd_9 (by decide) ?_
    refine e_iconst (v := 0) dL_odd_15 (by decide) ?_
    exact e_iret dL_odd_16 rfl rfl ⟨_, rfl, ⟨by rw [e0]; rfl, by omega⟩, hI.out, hF.fo.out, fun _ => sJ_self⟩
  · obtain ⟨c, e0, hE, hI, hF⟩ := cpo_thr hp
    rcases c with _ | c
    · have hE2 : xIA = E := Option.some.inj hE
      subst hE2
      refine e_catch (pre := []) (x := (0, 9, 12, 13)) (suf := []) (i := 3) rfl (fun z hz => nomatch hz) (by decide) (by decide) clRL_13 (by decide) (Or.inl ⟨⟨3, rfl, dL_odd_12⟩, fun k hk => ?_⟩) (by decide) rfl rfl
      subst hk
      refine e_iconst (v := 1) dL_odd_13 (by decide) ?_
      exact e_iret dL_odd_14 rfl rfl ⟨_, rfl, ⟨by rw [e0]; rfl, by omega⟩, hI, hF.fo, fun q => by omega⟩
    · cases hE
theorem mdL_barrier : MdX mL_barrier 3 := ⟨cwmL_barrier, ini_RL, by decide +kernel, by decide, by decide, stmL_barrier⟩
set_option maxHeartbeats 4000000 in
theorem cw_barrier {B : Bd} {M : Mm} {s : Sx} {x : Int32} (h : CI M s) : Ct B mL_barrier 35 1 6 [.ref 0, .int x, .ref 83] M (WPo M (sBarrier s x)) := by
  refine Ct.ofH (by decide) (by decide) rfl (Nat.le_of_ble_eq_true rfl) ?_
  refine e_aload_n dL_barrier_0 rfl rfl ?_
  refine e_iconst (v := 0) dL_barrier_1 (by decide) ?_
  refine e_aload_n dL_barrier_2 rfl rfl ?_
  refine e_iload_n dL_barrier_3 rfl rfl ?_
  refine e_callV (rc1 := 1) (rs1 := 6) (rc2 := 0) (rs2 := 0) [_] dL_barrier_4 mvmX5_barrier lkRL_54 (by exact h.1.sh rfl) ⟨by decide, rfl⟩ rfl rfl (Nat.le_of_ble_eq_true rfl) (by decide) (by decide) (by decide) (c_barrier h) (fun v N hp => ?_) (fun E N hp => ?_)
  · obtain ⟨e0, rfl, hI, hF⟩ := cpo_ret hp
    refine e_i2l dL_barrier_7 ?_
    refine e_lastore dL_barrier_8 hI.1.lo (by exact hI.1.sh rfl) (by unfold vp_in; decide) ?_
    rw [show Int32.toNatClampNeg 0 = 0 by decide]
    refine e_goto (tgt := 15) dL_barrier_9 (by decide) ?_
    refine e_iconst (v := 0) dL_barrier_15 (by decide) ?_
    exact e_iret dL_barrier_16 rfl rfl ⟨_, rfl, ⟨by rw [e0]; rfl, by omega⟩, hI.out, hF.fo.out, fun _ => sJ_self⟩
  · obtain ⟨c, e0, hE, hI, hF⟩ := cpo_thr hp
    rcases c with _ | c
    · have hE2 : xIA = E := Option.some.inj hE
      subst hE2
      refine e_catch (pre := []) (x := (0, 9, 12, 13)) (suf := []) (i := 3) rfl (fun z hz => nomatch hz) (by decide) (by decide) clRL_13 (by decide) (Or.inl ⟨⟨3, rfl, dL_barrier_12⟩, fun k hk => ?_⟩) (by decide) rfl rfl
      subst hk
      refine e_iconst (v := 1) dL_barrier_13 (by decide) ?_
      exact e_iret dL_barrier_14 rfl rfl ⟨_, rfl, ⟨by rw [e0]; rfl, by omega⟩, hI, hF.fo, fun q => by omega⟩
    · cases hE
theorem mdL_heavy : MdX mL_heavy 3 := ⟨cwmL_heavy, ini_RL, by decide +kernel, by decide, by decide, stmL_heavy⟩
set_option maxHeartbeats 4000000 in
theorem cw_heavy {B : Bd} {M : Mm} {s : Sx} {x : Int32} (h : CI M s) : Ct B mL_heavy 35 1 6 [.ref 0, .int x, .ref 83] M (WPo M (sHeavy s x)) := by
  refine Ct.ofH (by decide) (by decide) rfl (Nat.le_of_ble_eq_true rfl) ?_
  refine e_aload_n dL_heavy_0 rfl rfl ?_
  refine e_iconst (v := 0) dL_heavy_1 (by decide) ?_
  refine e_aload_n dL_heavy_2 rfl rfl ?_
  refine e_iload_n dL_heavy_3 rfl rfl ?_
  refine e_callV (rc1 := 1) (rs1 := 6) (rc2 := 0) (rs2 := 0) [_] dL_heavy_4 mvmX5_heavy lkRL_57 (by exact h.1.sh rfl) ⟨by decide, rfl⟩ rfl rfl (Nat.le_of_ble_eq_true rfl) (by decide) (by decide) (by decide) (c_heavy h) (fun v N hp => ?_) (fun E N hp => ?_)
  · obtain ⟨e0, rfl, hI, hF⟩ := cpo_ret hp
    refine e_i2l dL_heavy_7 ?_
    refine e_lastore dL_heavy_8 hI.1.lo (by exact hI.1.sh rfl) (by unfold vp_in; decide) ?_
    rw [show Int32.toNatClampNeg 0 = 0 by decide]
    refine e_goto (tgt := 15) dL_heavy_9 (by decide) ?_
    refine e_iconst (v := 0) dL_heavy_15 (by decide) ?_
    exact e_iret dL_heavy_16 rfl rfl ⟨_, rfl, ⟨by rw [e0]; rfl, by omega⟩, hI.out, hF.fo.out, fun _ => sJ_self⟩
  · obtain ⟨c, e0, hE, hI, hF⟩ := cpo_thr hp
    rcases c with _ | c
    · have hE2 : xIA = E := Option.some.inj hE
      subst hE2
      refine e_catch (pre := []) (x := (0, 9, 12, 13)) (suf := []) (i := 3) rfl (fun z hz => nomatch hz) (by decide) (by decide) clRL_13 (by decide) (Or.inl ⟨⟨3, rfl, dL_heavy_12⟩, fun k hk => ?_⟩) (by decide) rfl rfl
      subst hk
      refine e_iconst (v := 1) dL_heavy_13 (by decide) ?_
      exact e_iret dL_heavy_14 rfl rfl ⟨_, rfl, ⟨by rw [e0]; rfl, by omega⟩, hI, hF.fo, fun q => by omega⟩
    · cases hE
theorem mdL_path : MdX mL_path 4 := ⟨cwmL_path, ini_RL, by decide +kernel, by decide, by decide, stmL_path⟩
set_option maxHeartbeats 4000000 in
theorem cw_path {B : Bd} {M : Mm} {s : Sx} {x y : Int32} (h : CI M s) : Ct B mL_path 35 2 12 [.ref 0, .int x, .int y, .ref 83] M (WPo M (sPath s x y)) := by
  refine Ct.ofH (by decide) (by decide) rfl (Nat.le_of_ble_eq_true rfl) ?_
  refine e_aload_n dL_path_0 rfl rfl ?_
  refine e_iconst (v := 0) dL_path_1 (by decide) ?_
  refine e_aload_n dL_path_2 rfl rfl ?_
  refine e_iload_n dL_path_3 rfl rfl ?_
  refine e_iload_n dL_path_4 rfl rfl ?_
  refine e_callV (rc1 := 2) (rs1 := 12) (rc2 := 0) (rs2 := 0) [_, _] dL_path_5 mvmX5_path lkRL_60 (by exact h.1.sh rfl) ⟨by decide, rfl⟩ rfl rfl (Nat.le_of_ble_eq_true rfl) (by decide) (by decide) (by decide) (c_path h) (fun v N hp => ?_) (fun E N hp => ?_)
  · obtain ⟨e0, rfl, hI, hF⟩ := cpo_ret hp
    refine e_i2l dL_path_8 ?_
    refine e_lastore dL_path_9 hI.1.lo (by exact hI.1.sh rfl) (by unfold vp_in; decide) ?_
    rw [show Int32.toNatClampNeg 0 = 0 by decide]
    refine e_goto (tgt := 17) dL_path_10 (by decide) ?_
    refine e_iconst (v := 0) dL_path_17 (by decide) ?_
    exact e_iret dL_path_18 rfl rfl ⟨_, rfl, ⟨by rw [e0]; rfl, by omega⟩, hI.out, hF.fo.out, fun _ => sJ_self⟩
  · obtain ⟨c, e0, hE, hI, hF⟩ := cpo_thr hp
    rcases c with _ | c
    · have hE2 : xNS = E := Option.some.inj hE
      subst hE2
      refine e_catch (pre := []) (x := (0, 10, 13, 19)) (suf := []) (i := 4) rfl (fun z hz => nomatch hz) (by decide) (by decide) clRL_19 (by decide) (Or.inr ⟨dL_path_13, fun k hk => ?_⟩) (by decide) rfl rfl
      subst hk
      refine e_iconst (v := 1) dL_path_15 (by decide) ?_
      exact e_iret dL_path_16 rfl rfl ⟨_, rfl, ⟨by rw [e0]; rfl, by omega⟩, hI, hF.fo, fun q => by omega⟩
    · cases hE
theorem mdL_flower : MdX mL_flower 4 := ⟨cwmL_flower, ini_RL, by decide +kernel, by decide, by decide, stmL_flower⟩
set_option maxHeartbeats 4000000 in
theorem cw_flower {B : Bd} {M : Mm} {s : Sx} {x y : Int32} (h : CI M s) : Ct B mL_flower 35 2 12 [.ref 0, .int x, .int y, .ref 83] M (WPo M (sFlower s x y)) := by
  refine Ct.ofH (by decide) (by decide) rfl (Nat.le_of_ble_eq_true rfl) ?_
  refine e_aload_n dL_flower_0 rfl rfl ?_
  refine e_iconst (v := 0) dL_flower_1 (by decide) ?_
  refine e_aload_n dL_flower_2 rfl rfl ?_
  refine e_iload_n dL_flower_3 rfl rfl ?_
  refine e_iload_n dL_flower_4 rfl rfl ?_
  refine e_callV (rc1 := 2) (rs1 := 12) (rc2 := 0) (rs2 := 0) [_, _] dL_flower_5 mvmX5_flower lkRL_63 (by exact h.1.sh rfl) ⟨by decide, rfl⟩ rfl rfl (Nat.le_of_ble_eq_true rfl) (by decide) (by decide) (by decide) (c_flower h) (fun v N hp => ?_) (fun E N hp => ?_)
  · obtain ⟨e0, rfl, hI, hF⟩ := cpo_ret hp
    refine e_i2l dL_flower_8 ?_
    refine e_lastore dL_flower_9 hI.1.lo (by exact hI.1.sh rfl) (by unfold vp_in; decide) ?_
    rw [show Int32.toNatClampNeg 0 = 0 by decide]
    refine e_goto (tgt := 17) dL_flower_10 (by decide) ?_
    refine e_iconst (v := 0) dL_flower_17 (by decide) ?_
    exact e_iret dL_flower_18 rfl rfl ⟨_, rfl, ⟨by rw [e0]; rfl, by omega⟩, hI.out, hF.fo.out, fun _ => sJ_self⟩
  · obtain ⟨c, e0, hE, hI, hF⟩ := cpo_thr hp
    rcases c with _ | c
    · have hE2 : xNS = E := Option.some.inj hE
      subst hE2
      refine e_catch (pre := []) (x := (0, 10, 13, 19)) (suf := []) (i := 4) rfl (fun z hz => nomatch hz) (by decide) (by decide) clRL_19 (by decide) (Or.inr ⟨dL_flower_13, fun k hk => ?_⟩) (by decide) rfl rfl
      subst hk
      refine e_iconst (v := 1) dL_flower_15 (by decide) ?_
      exact e_iret dL_flower_16 rfl rfl ⟨_, rfl, ⟨by rw [e0]; rfl, by omega⟩, hI, hF.fo, fun q => by omega⟩
    · cases hE
