def al (g : Nw) : Nat := 2 ^ g.1 - 1
def mst (g : Nw) (S : Nat) : Nat := (Tq g.2.1 S).1
def cnq (g : Nw) (S : Nat) : Nat := (Tq g.2.1 S).2.1
theorem al_lt (g : Nw) : al g < 2 ^ g.1 := by
  have := Nat.two_pow_pos g.1
  unfold al; omega
theorem al_bit (g : Nw) (i : Nat) : (al g).testBit i = decide (i < g.1) := by unfold al; exact Nat.testBit_two_pow_sub_one _ _
def GInv (M : Mm) (g : Nw) : Prop := M.2.1 14 0 = 0 ∨ (M.2.1 14 0 = 1 ∧ GR M g)
theorem GR.fl0 {M N : Mm} {g : Nw} (h : GR M g) (hf : N.2.2.1 16 = M.2.2.1 16) : GR N g := by unfold GR; rw [hf]; exact h
theorem c_learn0 {B : Bd} {M : Mm} {g : Nw} (ok : OkM M) (hi : GInv M g) : Ct B mX0_learn 1 0 0 [.ref 14] M (Rt (fun v N => v = none ∧ GR N g ∧ N.2.1 14 0 = 1 ∧ Fg M N)) := by
  refine Ct.of (by decide) rfl rfl (Nat.le_of_ble_eq_true rfl) ?_
  refine e_aload_n dX0_learn_0 rfl rfl ?_
  refine e_getI dX0_learn_1 fRX0_9 (by exact ok.sh rfl) (fun _ => rfl) ?_
  refine e_if_ne (tgt := 20) dX0_learn_4 (by decide) (fun hq => ?_) (fun hq => ?_)
  · rcases hi with hi | hi
    · exact absurd hi hq
    · exact e_vret dX0_learn_20 rfl ⟨none, rfl, rfl, hi.2, hi.1, Fg.rf⟩
  · refine e_aload_n dX0_learn_7 rfl rfl ?_
    refine e_iconst (v := 1) dX0_learn_8 (by decide) ?_
    refine e_putI dX0_learn_9 fRX0_9 (by exact ok.sh rfl) rfl rfl rfl (fun _ _ => rfl) ?_
    refine e_aload_n dX0_learn_12 rfl rfl ?_
    refine e_getR dX0_learn_13 fRX0_19 (by exact ok.sh rfl) (by exact ok.rf rfl) (fun _ => rfl) ?_
    refine e_lconst (v := 0) dX0_learn_16 (by decide) ?_
    refine e_callS0v [_, _] dX0_learn_17 msmJ7_fill_d0a16 lkRX0_27 rfl rfl (Nat.le_of_ble_eq_true rfl) (by decide) (c_fillJ (a := 16) (n := 4096) ok.lo (ok.sh rfl) (by decide)) ?_
    refine e_vret dX0_learn_20 rfl ⟨none, rfl, rfl, fun S hS => Or.inl ?_, ?_, ?_⟩
    · show (if 16 = 16 ∧ S < 4096 then (0 : Int64) else _) = 0
      rw [if_pos ⟨rfl, hS⟩]
    · exact rd_self M 14 0 1
    · refine ⟨rfl, fun a ha => ?_, rfl, fun a ha => ?_⟩
      · exact u2_ne _ _ _ (by omega)
      · funext j
        show (if a = 16 ∧ j < 4096 then (0 : Int64) else M.2.2.1 a j) = _
        rw [if_neg (fun q => ha q.1)]
/-! the questions -/
theorem cl_al {g : Nw} (wf : Wfn g) : (nI (al g)).toNatClampNeg = al g ∧ al g < 4096 := by
  have h1 := al_lt g
  have h2 := p12 wf.1.2
  exact ⟨nI_clamp (by omega), by omega⟩
section Q0
variable {B : Bd} {M : Mm} {g : Nw} {a b : Nat}
theorem c_greatestIn {S : Nat} (ok : OkM M) (h : NetRep M 2 g) (wf : Wfn g) (hg : GR M g) (hS : S < 2 ^ g.1) : Ct B mX0_greatestIn 27 0 0 [.ref 14, .int (nI S)] M (Rt (fun u N => u = some (.long (pk (Tq g.2.1 S))) ∧ GP g M N)) := by
  have h12 := wf.1.2
  refine Ct.of (by decide) rfl rfl (Nat.le_of_ble_eq_true rfl) ?_
  refine e_aload_n dX0_greatestIn_0 rfl rfl ?_
  refine e_aload_n dX0_greatestIn_1 rfl rfl ?_
  refine e_getR dX0_greatestIn_2 fRX0_23 (by first | exact ok.sh rfl) (by first | exact ok.rf rfl) (fun _ => rfl) ?_
  refine e_getI dX0_greatestIn_5 fRX0_33 (by first | exact ok.sh rfl) (fun _ => rfl) ?_
  rw [h.2.1]
  refine e_iload_n dX0_greatestIn_8 rfl rfl ?_
  refine e_callV1l [_, _] dX0_greatestIn_9 mvmX0_greatestBelow lkRX0_39 (by first | exact ok.sh rfl) ⟨by decide, rfl⟩ rfl rfl (Nat.le_of_ble_eq_true rfl) (by omega) (c_greatestBelow wf g.1 h12 M S ok h hg hS) (fun N h1 => ?_)
  exact e_lret dX0_greatestIn_12 rfl (⟨_, rfl, rfl, h1⟩)
theorem c_size (ok : OkM M) (h : NetRep M 2 g) (wf : Wfn g) (hg : GR M g) : Ct B mX0_size 28 0 0 [.ref 14] M (Rt (fun u N => u = some (.int (nI (mst g (al g)))) ∧ GP g M N)) := by
  refine Ct.of (by decide) rfl rfl (Nat.le_of_ble_eq_true rfl) ?_
  refine e_aload_n dX0_size_0 rfl rfl ?_
  refine e_aload_n dX0_size_1 rfl rfl ?_
  refine e_getR dX0_size_2 fRX0_23 (by first | exact ok.sh rfl) (by first | exact ok.rf rfl) (fun _ => rfl) ?_
  refine e_callV0i [] dX0_size_5 mvmX1_all lkRX0_88 (by first | exact ok.sh rfl) ⟨by decide, rfl⟩ rfl rfl (Nat.le_of_ble_eq_true rfl) (by decide) (c_all h wf.1.2) ?_
  refine e_callV1l [_] dX0_size_8 mvmX0_greatestIn lkRX0_92 (by first | exact ok.sh rfl) ⟨by decide, rfl⟩ rfl rfl (Nat.le_of_ble_eq_true rfl) (by decide) (c_greatestIn (S := al g) ok h wf hg (al_lt g)) (fun N h1 => ?_)
  refine e_callS0i [_] dX0_size_11 msmX0_sizeIn lkRX0_65 rfl rfl (Nat.le_of_ble_eq_true rfl) (by decide) (c_sizeIn (Tq_Qb wf.w _)) ?_
  exact e_iret dX0_size_14 rfl rfl (⟨_, rfl, rfl, h1⟩)
theorem c_missing (ok : OkM M) (h : NetRep M 2 g) (wf : Wfn g) (hg : GR M g) : Ct B mX0_missing 29 0 0 [.ref 14] M (Rt (fun u N => u = some (.int (nI g.1 - 2 * nI (mst g (al g)))) ∧ GP g M N)) := by
  refine Ct.of (by decide) rfl rfl (Nat.le_of_ble_eq_true rfl) ?_
  refine e_aload_n dX0_missing_0 rfl rfl ?_
  refine e_getR dX0_missing_1 fRX0_23 (by first | exact ok.sh rfl) (by first | exact ok.rf rfl) (fun _ => rfl) ?_
  refine e_getI dX0_missing_4 fRX0_33 (by first | exact ok.sh rfl) (fun _ => rfl) ?_
  rw [h.2.1]
  refine e_iconst (v := 2) dX0_missing_7 (by decide) ?_
  refine e_aload_n dX0_missing_8 rfl rfl ?_
  refine e_callV1i [] dX0_missing_9 mvmX0_size lkRX0_96 (by first | exact ok.sh rfl) ⟨by decide, rfl⟩ rfl rfl (Nat.le_of_ble_eq_true rfl) (by decide) (c_size ok h wf hg) (fun N h1 => ?_)
  refine e_imul dX0_missing_12 ?_
  refine e_isub dX0_missing_13 ?_
  exact e_iret dX0_missing_14 rfl rfl (⟨_, rfl, rfl, h1⟩)
theorem c_count (ok : OkM M) (h : NetRep M 2 g) (wf : Wfn g) (hg : GR M g) : Ct B mX0_count 28 0 0 [.ref 14] M (Rt (fun u N => u = some (.int (nI (cnq g (al g)))) ∧ GP g M N)) := by
  refine Ct.of (by decide) rfl rfl (Nat.le_of_ble_eq_true rfl) ?_
  refine e_aload_n dX0_count_0 rfl rfl ?_
  refine e_aload_n dX0_count_1 rfl rfl ?_
  refine e_getR dX0_count_2 fRX0_23 (by first | exact ok.sh rfl) (by first | exact ok.rf rfl) (fun _ => rfl) ?_
  refine e_callV0i [] dX0_count_5 mvmX1_all lkRX0_88 (by first | exact ok.sh rfl) ⟨by decide, rfl⟩ rfl rfl (Nat.le_of_ble_eq_true rfl) (by decide) (c_all h wf.1.2) ?_
  refine e_callV1l [_] dX0_count_8 mvmX0_greatestIn lkRX0_92 (by first | exact ok.sh rfl) ⟨by decide, rfl⟩ rfl rfl (Nat.le_of_ble_eq_true rfl) (by decide) (c_greatestIn (S := al g) ok h wf hg (al_lt g)) (fun N h1 => ?_)
  refine e_callS0i [_] dX0_count_11 msmX0_countIn lkRX0_69 rfl rfl (Nat.le_of_ble_eq_true rfl) (by decide) (c_countIn (Tq_Qb wf.w _)) ?_
  exact e_iret dX0_count_14 rfl rfl (⟨_, rfl, rfl, h1⟩)
theorem c_mostWeight (ok : OkM M) (h : NetRep M 2 g) (wf : Wfn g) (hg : GR M g) : Ct B mX0_mostWeight 28 0 0 [.ref 14] M (Rt (fun u N => u = some (.int (nI (Tq g.2.1 (al g)).2.2.1)) ∧ GP g M N)) := by
  refine Ct.of (by decide) rfl rfl (Nat.le_of_ble_eq_true rfl) ?_
  refine e_aload_n dX0_mostWeight_0 rfl rfl ?_
  refine e_aload_n dX0_mostWeight_1 rfl rfl ?_
  refine e_getR dX0_mostWeight_2 fRX0_23 (by first | exact ok.sh rfl) (by first | exact ok.rf rfl) (fun _ => rfl) ?_
  refine e_callV0i [] dX0_mostWeight_5 mvmX1_all lkRX0_88 (by first | exact ok.sh rfl) ⟨by decide, rfl⟩ rfl rfl (Nat.le_of_ble_eq_true rfl) (by decide) (c_all h wf.1.2) ?_
  refine e_callV1l [_] dX0_mostWeight_8 mvmX0_greatestIn lkRX0_92 (by first | exact ok.sh rfl) ⟨by decide, rfl⟩ rfl rfl (Nat.le_of_ble_eq_true rfl) (by decide) (c_greatestIn (S := al g) ok h wf hg (al_lt g)) (fun N h1 => ?_)
  refine e_callS0i [_] dX0_mostWeight_11 msmX0_heaviestIn lkRX0_72 rfl rfl (Nat.le_of_ble_eq_true rfl) (by decide) (c_heaviestIn (Tq_Qb wf.w _)) ?_
  exact e_iret dX0_mostWeight_14 rfl rfl (⟨_, rfl, rfl, h1⟩)
theorem c_leastWeight (ok : OkM M) (h : NetRep M 2 g) (wf : Wfn g) (hg : GR M g) : Ct B mX0_leastWeight 28 0 0 [.ref 14] M (Rt (fun u N => u = some (.int (nI (Tq g.2.1 (al g)).2.2.2)) ∧ GP g M N)) := by
  refine Ct.of (by decide) rfl rfl (Nat.le_of_ble_eq_true rfl) ?_
  refine e_aload_n dX0_leastWeight_0 rfl rfl ?_
  refine e_aload_n dX0_leastWeight_1 rfl rfl ?_
  refine e_getR dX0_leastWeight_2 fRX0_23 (by first | exact ok.sh rfl) (by first | exact ok.rf rfl) (fun _ => rfl) ?_
  refine e_callV0i [] dX0_leastWeight_5 mvmX1_all lkRX0_88 (by first | exact ok.sh rfl) ⟨by decide, rfl⟩ rfl rfl (Nat.le_of_ble_eq_true rfl) (by decide) (c_all h wf.1.2) ?_
  refine e_callV1l [_] dX0_leastWeight_8 mvmX0_greatestIn lkRX0_92 (by first | exact ok.sh rfl) ⟨by decide, rfl⟩ rfl rfl (Nat.le_of_ble_eq_true rfl) (by decide) (c_greatestIn (S := al g) ok h wf hg (al_lt g)) (fun N h1 => ?_)
  refine e_callS0i [_] dX0_leastWeight_11 msmX0_lightestIn lkRX0_80 rfl rfl (Nat.le_of_ble_eq_true rfl) (by decide) (c_lightestIn (Tq_Qb wf.w _)) ?_
  exact e_iret dX0_leastWeight_14 rfl rfl (⟨_, rfl, rfl, h1⟩)
end Q0
def wo (g : Nw) (a b : Nat) : Nat := dif (al g) (2 ^ a ||| 2 ^ b)
theorem c_without {B : Bd} {M : Mm} {g : Nw} {a b : Nat} (ok : OkM M) (h : NetRep M 2 g) (wf : Wfn g) (ha : a < 12) (hb : b < 12) : Ct B mX0_without 1 0 0 [.ref 14, .int (nI a), .int (nI b)] M (Is (some (.int (nI (wo g a b)))) M) := by
  refine Ct.of (by decide) rfl rfl (Nat.le_of_ble_eq_true rfl) ?_
  refine e_aload_n dX0_without_0 rfl rfl ?_
  refine e_getR dX0_without_1 fRX0_23 (by first | exact ok.sh rfl) (by first | exact ok.rf rfl) (fun _ => rfl) ?_
  refine e_callV0i [] dX0_without_4 mvmX1_all lkRX0_88 (by first | exact ok.sh rfl) ⟨by decide, rfl⟩ rfl rfl (Nat.le_of_ble_eq_true rfl) (by decide) (c_all h wf.1.2) ?_
  refine e_iconst (v := 1) dX0_without_7 (by decide) ?_
  refine e_iload_n dX0_without_8 rfl rfl ?_
  refine e_ishl dX0_without_9 ?_
  rw [shl_1 (by omega)]
  refine e_iconst (v := 1) dX0_without_10 (by decide) ?_
  refine e_iload_n dX0_without_11 rfl rfl ?_
  refine e_ishl dX0_without_12 ?_
  rw [shl_1 (by omega)]
  refine e_ior dX0_without_13 ?_
  rw [fa_or]
  refine e_iconst (v := (-1)) dX0_without_14 (by decide) ?_
  refine e_ixor dX0_without_15 ?_
  refine e_iand dX0_without_16 ?_
  rw [andn_nI]
  exact e_iret dX0_without_17 rfl rfl (⟨rfl, rfl⟩)
theorem wo_lt {g : Nw} (wf : Wfn g) (a b : Nat) : wo g a b < 2 ^ g.1 ∧ wo g a b < 4096 := by
  have h1 := al_lt g
  have h2 := p12 wf.1.2
  have h3 : wo g a b ≤ al g := dif_le _ _
  omega
theorem mst_lt {g : Nw} (wf : Wfn g) (S : Nat) : mst g S < 2 ^ 29 := (Tq_bd wf.w S).1
theorem cnq_lt {g : Nw} (wf : Wfn g) (S : Nat) : cnq g S < 2 ^ 29 := (Tq_bd wf.w S).2.1
def sHas (g : Nw) (a b : Nat) : Prop := (g.2.1 a b).isSome = true ∧ mst g (wo g a b) + 1 = mst g (al g)
theorem c_someHave {B : Bd} {M : Mm} {g : Nw} {a b : Nat} (ok : OkM M) (h : NetRep M 2 g) (wf : Wfn g) (hg : GR M g) (ha : a < 12) (hb : b < 12) (r : Int32) (hr1 : sHas g a b → r = 1) (hr0 : ¬ sHas g a b → r = 0) : Ct B mX0_someHave 29 0 0 [.ref 14, .int (nI a), .int (nI b)] M (Rt (fun u N => u = some (.int r) ∧ GP g M N)) := by
  obtain ⟨w1, w2⟩ := wo_lt wf a b
  have m1 := mst_lt wf (wo g a b)
  have m2 := mst_lt wf (al g)
  refine Ct.of (by decide) rfl rfl (Nat.le_of_ble_eq_true rfl) ?_
  refine e_aload_n dX0_someHave_0 rfl rfl ?_
  refine e_getR dX0_someHave_1 fRX0_23 (by first | exact ok.sh rfl) (by first | exact ok.rf rfl) (fun _ => rfl) ?_
  refine e_iload_n dX0_someHave_4 rfl rfl ?_
  refine e_iload_n dX0_someHave_5 rfl rfl ?_
  refine e_callV0i [_, _] dX0_someHave_6 mvmX1_isLine lkRX0_99 (by first | exact ok.sh rfl) ⟨by decide, rfl⟩ rfl rfl (Nat.le_of_ble_eq_true rfl) (by decide) (c_isLine h ha hb) ?_
  by_cases hw : (g.2.1 a b).isSome = true
  · rw [if_pos hw]
    refine e_if_eq (tgt := 38) dX0_someHave_9 (by decide) (fun hq => absurd hq (by decide)) (fun hq => ?_)
    refine e_aload_n dX0_someHave_12 rfl rfl ?_
    refine e_aload_n dX0_someHave_13 rfl rfl ?_
    refine e_iload_n dX0_someHave_14 rfl rfl ?_
    refine e_iload_n dX0_someHave_15 rfl rfl ?_
    refine e_callV0i [_, _] dX0_someHave_16 mvmX0_without lkRX0_102 (by first | exact ok.sh rfl) ⟨by decide, rfl⟩ rfl rfl (Nat.le_of_ble_eq_true rfl) (by decide) (c_without ok h wf ha hb) ?_
    refine e_callV1l [_] dX0_someHave_19 mvmX0_greatestIn lkRX0_92 (by first | exact ok.sh rfl) ⟨by decide, rfl⟩ rfl rfl (Nat.le_of_ble_eq_true rfl) (by decide) (c_greatestIn ok h wf hg w1) (fun N h1 => ?_)
    refine e_callS0i [_] dX0_someHave_22 msmX0_sizeIn lkRX0_65 rfl rfl (Nat.le_of_ble_eq_true rfl) (by decide) (c_sizeIn (Tq_Qb wf.w _)) ?_
    refine e_iconst (v := 1) dX0_someHave_25 (by decide) ?_
    refine e_iadd dX0_someHave_26 ?_
    rw [nI_1]
    obtain ⟨g1, f1⟩ := h1
    have ok1 := ok.fl f1
    refine e_aload_n dX0_someHave_27 rfl rfl ?_
    refine e_callV1i [] dX0_someHave_28 mvmX0_size lkRX0_96 (by exact ok1.sh rfl) ⟨by decide, rfl⟩ rfl rfl (Nat.le_of_ble_eq_true rfl) (by decide) (c_size ok1 (h.fl f1) wf g1) (fun N2 h2 => ?_)
    obtain ⟨g2, f2⟩ := h2
    show Ev _ _ _ _ _ _ 31 _ [.int (nI (mst g (al g))), .int (nI (mst g (wo g a b) + 1))] _
    refine e_icmp_ne (tgt := 38) dX0_someHave_31 (by decide) (fun hq2 => ?_) (fun hq2 => ?_)
    · refine e_iconst (v := 0) dX0_someHave_38 (by decide) ?_
      exact e_iret dX0_someHave_39 rfl rfl (⟨_, rfl, by rw [hr0 (fun q => hq2 (by rw [q.2]))], g2, f1.trans f2⟩)
    · refine e_iconst (v := 1) dX0_someHave_34 (by decide) ?_
      refine e_goto (tgt := 39) dX0_someHave_35 (by decide) ?_
      rw [nI_eq (by omega) (by omega)] at hq2
      exact e_iret dX0_someHave_39 rfl rfl (⟨_, rfl, by rw [hr1 ⟨hw, hq2⟩], g2, f1.trans f2⟩)
  · rw [if_neg hw]
    refine e_if_eq (tgt := 38) dX0_someHave_9 (by decide) (fun hq => ?_) (fun hq => absurd rfl hq)
    refine e_iconst (v := 0) dX0_someHave_38 (by decide) ?_
    exact e_iret dX0_someHave_39 rfl rfl (⟨_, rfl, by rw [hr0 (fun q => hw q.1)], hg, Fj.rf⟩)
theorem c_allHave {B : Bd} {M : Mm} {g : Nw} {a b : Nat} (ok : OkM M) (h : NetRep M 2 g) (wf : Wfn g) (hg : GR M g) (ha : a < 12) (hb : b < 12) (r : Int32) (hr1 : sHas g a b ∧ cnq g (wo g a b) = cnq g (al g) → r = 1) (hr0 : ¬ (sHas g a b ∧ cnq g (wo g a b) = cnq g (al g)) → r = 0) : Ct B mX0_allHave 30 0 0 [.ref 14, .int (nI a), .int (nI b)] M (Rt (fun u N => u = some (.int r) ∧ GP g M N)) := by
  obtain ⟨w1, w2⟩ := wo_lt wf a b
  have m1 := cnq_lt wf (wo g a b)
  have m2 := cnq_lt wf (al g)
  refine Ct.of (by decide) rfl rfl (Nat.le_of_ble_eq_true rfl) ?_
  refine e_aload_n dX0_allHave_0 rfl rfl ?_
  refine e_iload_n dX0_allHave_1 rfl rfl ?_
  refine e_iload_n dX0_allHave_2 rfl rfl ?_
  by_cases hs : sHas g a b
  · refine e_callV1i [_, _] dX0_allHave_3 mvmX0_someHave lkRX0_105 (by exact ok.sh rfl) ⟨by decide, rfl⟩ rfl rfl (Nat.le_of_ble_eq_true rfl) (by decide) (c_someHave ok h wf hg ha hb 1 (fun _ => rfl) (fun q => absurd hs q)) (fun N h1 => ?_)
    obtain ⟨g1, f1⟩ := h1
    have ok1 := ok.fl f1
    have n1 := h.fl f1
    refine e_if_eq (tgt := 33) dX0_allHave_6 (by decide) (fun hq => absurd hq (by decide)) (fun hq => ?_)
    refine e_aload_n dX0_allHave_9 rfl rfl ?_
    refine e_aload_n dX0_allHave_10 rfl rfl ?_
    refine e_iload_n dX0_allHave_11 rfl rfl ?_
    refine e_iload_n dX0_allHave_12 rfl rfl ?_
    refine e_callV0i [_, _] dX0_allHave_13 mvmX0_without lkRX0_102 (by exact ok1.sh rfl) ⟨by decide, rfl⟩ rfl rfl (Nat.le_of_ble_eq_true rfl) (by decide) (c_without ok1 n1 wf ha hb) ?_
    refine e_callV1l [_] dX0_allHave_16 mvmX0_greatestIn lkRX0_92 (by exact ok1.sh rfl) ⟨by decide, rfl⟩ rfl rfl (Nat.le_of_ble_eq_true rfl) (by decide) (c_greatestIn ok1 n1 wf g1 w1) (fun N2 h2 => ?_)
    refine e_callS0i [_] dX0_allHave_19 msmX0_countIn lkRX0_69 rfl rfl (Nat.le_of_ble_eq_true rfl) (by decide) (c_countIn (Tq_Qb wf.w _)) ?_
    obtain ⟨g2, f2⟩ := h2
    have ok2 := ok1.fl f2
    refine e_aload_n dX0_allHave_22 rfl rfl ?_
    refine e_callV1i [] dX0_allHave_23 mvmX0_count lkRX0_108 (by exact ok2.sh rfl) ⟨by decide, rfl⟩ rfl rfl (Nat.le_of_ble_eq_true rfl) (by decide) (c_count ok2 (n1.fl f2) wf g2) (fun N3 h3 => ?_)
    obtain ⟨g3, f3⟩ := h3
    show Ev _ _ _ _ _ _ 26 _ [.int (nI (cnq g (al g))), .int (nI (cnq g (wo g a b)))] _
    refine e_icmp_ne (tgt := 33) dX0_allHave_26 (by decide) (fun hq2 => ?_) (fun hq2 => ?_)
    · refine e_iconst (v := 0) dX0_allHave_33 (by decide) ?_
      exact e_iret dX0_allHave_34 rfl rfl (⟨_, rfl, by rw [hr0 (fun q => hq2 (by rw [q.2]))], g3, (f1.trans f2).trans f3⟩)
    · refine e_iconst (v := 1) dX0_allHave_29 (by decide) ?_
      refine e_goto (tgt := 34) dX0_allHave_30 (by decide) ?_
      rw [nI_eq (by omega) (by omega)] at hq2
      exact e_iret dX0_allHave_34 rfl rfl (⟨_, rfl, by rw [hr1 ⟨hs, hq2⟩], g3, (f1.trans f2).trans f3⟩)
  · refine e_callV1i [_, _] dX0_allHave_3 mvmX0_someHave lkRX0_105 (by exact ok.sh rfl) ⟨by decide, rfl⟩ rfl rfl (Nat.le_of_ble_eq_true rfl) (by decide) (c_someHave ok h wf hg ha hb 0 (fun q => absurd q hs) (fun _ => rfl)) (fun N h1 => ?_)
    refine e_if_eq (tgt := 33) dX0_allHave_6 (by decide) (fun hq => ?_) (fun hq => absurd rfl hq)
    refine e_iconst (v := 0) dX0_allHave_33 (by decide) ?_
    exact e_iret dX0_allHave_34 rfl rfl (⟨_, rfl, by rw [hr0 (fun q => hs q.1)], h1⟩)

