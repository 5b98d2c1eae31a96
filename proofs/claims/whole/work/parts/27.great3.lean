def al (g : Nw) : Nat := 2 ^ g.1 - 1
def mst (g : Nw) (S : Nat) : Nat := (Tq g.2.1 S).1
def cnq (g : Nw) (S : Nat) : Nat := (Tq g.2.1 S).2.1
theorem al_lt (g : Nw) : al g < 2 ^ g.1 := by
  have := Nat.two_pow_pos g.1
  unfold al; omega
theorem al_bit (g : Nw) (i : Nat) : (al g).testBit i = decide (i < g.1) := by unfold al; exact Nat.testBit_two_pow_sub_one _ _
/-- the tables are those of g -/
def GR (M : Mm) (g : Nw) : Prop := (∀ S, S < 2 ^ g.1 → QR M S (Tq g.2.1 S)) ∧ M.2.1 14 2 = nI (al g) ∧ M.2.1 14 3 = nI g.1
def Z0 (M : Mm) : Prop := M.2.1 16 0 = 0 ∧ M.2.1 18 0 = 0 ∧ M.2.1 19 0 = 0
def GInv (M : Mm) (g : Nw) : Prop := Z0 M ∧ (M.2.1 14 0 = 0 ∨ (M.2.1 14 0 = 1 ∧ GR M g))
theorem c_learn0 {B : Bd} {M : Mm} {g : Nw} (ok : OkM M) (h : NetRep M 2 g) (wf : Wfn g) (hi : GInv M g) : Ct B mX0_learn 3 0 0 [.ref 14, .ref 2] M (Rt (fun v N => v = none ∧ GR N g ∧ N.2.1 14 0 = 1 ∧ Z0 N ∧ Fr 14 19 M N ∧ N.2.1 15 = M.2.1 15)) := by
  have hN := h.1
  obtain ⟨z, hi⟩ := hi
  refine Ct.of (by decide) rfl rfl (Nat.le_of_ble_eq_true rfl) ?_
  refine e_aload_n dX0_learn_0 rfl rfl ?_
  refine e_getI dX0_learn_1 fRX0_9 (by first | exact ok.sh rfl) (fun _ => rfl) ?_
  refine e_if_eq (tgt := 8) dX0_learn_4 (by decide) (fun hq => ?_) (fun hq => ?_)
  · refine e_aload_n dX0_learn_8 rfl rfl ?_
    refine e_iconst (v := 1) dX0_learn_9 (by decide) ?_
    refine e_putI dX0_learn_10 fRX0_9 (by first | exact ok.sh rfl) rfl rfl rfl (fun _ _ => rfl) ?_
    refine e_aload_n dX0_learn_13 rfl rfl ?_
    refine e_aload_n dX0_learn_14 rfl rfl ?_
    refine e_getI dX0_learn_15 fRX0_38 (by first | exact ok.sh rfl) (fun _ => rfl) ?_
    refine e_putI dX0_learn_18 fRX0_23 (by first | exact ok.sh rfl) rfl rfl rfl (fun _ _ => rfl) ?_
    refine e_aload_n dX0_learn_21 rfl rfl ?_
    refine e_aload_n dX0_learn_22 rfl rfl ?_
    refine e_callV0i [] dX0_learn_23 mvmX1_all lkRX0_41 (by first | exact ok.sh rfl) ⟨by decide, rfl⟩ rfl rfl (Nat.le_of_ble_eq_true rfl) (by decide) (c_all (M := sI (sI M 14 0 1) 14 3 (M.2.1 2 0)) (h.fr ((Fr.rf.sI (lo := 14) (hi := 19) (by decide) (by decide)).sI (by decide) (by decide)) (by omega)) wf.1.2) ?_
    have e0 : M.2.1 2 0 = nI g.1 := h.2.1
    rw [e0]
    show Ev _ _ _ _ _ _ 26 _ [.int (nI (al g)), .ref 14] _
    refine e_putI dX0_learn_26 fRX0_19 (by first | exact ok.sh rfl) rfl rfl rfl (fun _ _ => rfl) ?_
    refine e_aload_n dX0_learn_29 rfl rfl ?_
    refine e_getR dX0_learn_30 fRX0_29 (by first | exact ok.sh rfl) (by first | exact ok.rf rfl) (fun _ => rfl) ?_
    refine e_iconst (v := 0) dX0_learn_33 (by decide) ?_
    refine e_iconst (v := 1) dX0_learn_34 (by decide) ?_
    refine e_iastore dX0_learn_35 (by first | exact ok.sh rfl) (by exact vp_in_nI (n := 0) (by decide) (by decide)) ?_
    refine e_iconst (v := 0) dX0_learn_36 (by decide) ?_
    refine e_istore_n dX0_learn_37 rfl (by decide) rfl rfl ?_
    generalize hM1 : sI (sI (sI (sI M 14 0 1) 14 3 (nI g.1)) 14 2 (nI (al g))) 17 (Int32.toNatClampNeg 0) 1 = M1
    have c0 : Int32.toNatClampNeg 0 = 0 := by decide
    rw [c0] at hM1
    have hf1 : Fr 14 19 M M1 := by
      rw [← hM1]
      exact (((Fr.rf.sI (by decide) (by decide)).sI (by decide) (by decide)).sI (by decide) (by decide)).sI (by decide) (by decide)
    have q0 : QR M1 0 (Tq g.2.1 0) := by
      rw [Tq_0, ← hM1]
      refine ⟨?_, ?_, ?_, ?_⟩
      · rw [rd_na (by decide), rd_na (by decide), rd_na (by decide), rd_na (by decide)]; exact z.1
      · rw [rd_self]; rfl
      · rw [rd_na (by decide), rd_na (by decide), rd_na (by decide), rd_na (by decide)]; exact z.2.1
      · rw [rd_na (by decide), rd_na (by decide), rd_na (by decide), rd_na (by decide)]; exact z.2.2
    have k0 : M1.2.1 14 0 = 1 := by rw [← hM1, rd_na (by decide), rd_ni (by decide), rd_ni (by decide), rd_self]
    have k2 : M1.2.1 14 2 = nI (al g) := by rw [← hM1, rd_na (by decide), rd_self]
    have k3 : M1.2.1 14 3 = nI g.1 := by rw [← hM1, rd_na (by decide), rd_ni (by decide), rd_self]
    have k15 : M1.2.1 15 = M.2.1 15 := by
      rw [← hM1]
      funext j
      rw [rd_na (by decide), rd_na (by decide), rd_na (by decide), rd_na (by decide)]
    -- what stays while the tables grow
    have keep : ∀ N, Fr 16 19 M1 N → N.2.1 14 0 = 1 ∧ N.2.1 14 2 = nI (al g) ∧ N.2.1 14 3 = nI g.1 ∧ N.2.1 15 = M.2.1 15 ∧ Fr 14 19 M N := by
      intro N hf
      have e14 : N.2.1 14 = M1.2.1 14 := hf.2.2 14 (by omega)
      have e15 : N.2.1 15 = M1.2.1 15 := hf.2.2 15 (by omega)
      rw [e14, e15]
      exact ⟨k0, k2, k3, k15, hf1.trans (hf.wide (by decide) (by decide))⟩
    have outer : ∀ k a N (t : Option Value), a + k = g.1 → (∀ S, S < 2 ^ a → QR N S (Tq g.2.1 S)) → Fr 16 19 M1 N → Ev B mX0_learn 3 0 0 (Rt (fun v N => v = none ∧ GR N g ∧ N.2.1 14 0 = 1 ∧ Z0 N ∧ Fr 14 19 M N ∧ N.2.1 15 = M.2.1 15)) 38 [some (.ref 14), some (.ref 2), some (.int (nI a)), t] [] N := by
      intro k
      induction k with
      | zero =>
        intro a N t hak hT hf
        have hag : a = g.1 := by omega
        have hg12 := wf.1.2
        obtain ⟨r0, r2, r3, r15, rf⟩ := keep N hf
        have okN : OkM N := ok.fr rf
        refine e_iload_n dX0_learn_38 rfl rfl ?_
        refine e_aload_n dX0_learn_39 rfl rfl ?_
        refine e_getI dX0_learn_40 fRX0_23 (by exact okN.sh rfl) (fun _ => rfl) ?_
        rw [r3]
        refine e_icmp_ge (tgt := 78) dX0_learn_43 (by decide) (fun hc => ?_) (fun hc => ?_)
        · refine e_vret dX0_learn_78 rfl ⟨none, rfl, rfl, ⟨by rw [← hag]; exact hT, r2, r3⟩, r0, ?_, rf, r15⟩
          have h0 := hT 0 (Nat.two_pow_pos a)
          rw [Tq_0] at h0
          exact ⟨h0.1, h0.2.2.1, h0.2.2.2⟩
        · exact absurd (nI_le (by omega : g.1 ≤ a) (by omega)) hc
      | succ k ih =>
        intro a N t hak hT hf
        have hg12 := wf.1.2
        obtain ⟨r0, r2, r3, r15, rf⟩ := keep N hf
        have okN : OkM N := ok.fr rf
        refine e_iload_n dX0_learn_38 rfl rfl ?_
        refine e_aload_n dX0_learn_39 rfl rfl ?_
        refine e_getI dX0_learn_40 fRX0_23 (by exact okN.sh rfl) (fun _ => rfl) ?_
        rw [r3]
        refine e_icmp_ge (tgt := 78) dX0_learn_43 (by decide) (fun hc => ?_) (fun hc => ?_)
        · exact absurd hc (nI_ge (by omega) (by omega))
        · refine e_iconst (v := 1) dX0_learn_46 (by decide) ?_
          refine e_iload_n dX0_learn_47 rfl rfl ?_
          refine e_ishl dX0_learn_48 ?_
          rw [shl_1 (by omega)]
          refine e_istore_n dX0_learn_49 rfl (by decide) rfl rfl ?_
          have hpw : 2 ^ (a + 1) = 2 ^ a * 2 := Nat.pow_succ 2 a
          have hp := p12 (a := a + 1) (by omega)
          have inner : ∀ k2 S N2, S + k2 = 2 ^ (a + 1) → 2 ^ a ≤ S → (∀ T, T < S → QR N2 T (Tq g.2.1 T)) → Fr 16 19 M1 N2 → Ev B mX0_learn 3 0 0 (Rt (fun v N => v = none ∧ GR N g ∧ N.2.1 14 0 = 1 ∧ Z0 N ∧ Fr 14 19 M N ∧ N.2.1 15 = M.2.1 15)) 50 [some (.ref 14), some (.ref 2), some (.int (nI a)), some (.int (nI S))] [] N2 := by
            intro k2
            induction k2 with
            | zero =>
              intro S N2 hS hS1 hT2 hf2
              refine e_iload_n dX0_learn_50 rfl rfl ?_
              refine e_iconst (v := 1) dX0_learn_51 (by decide) ?_
              refine e_iload_n dX0_learn_52 rfl rfl ?_
              refine e_iconst (v := 1) dX0_learn_53 (by decide) ?_
              refine e_iadd dX0_learn_54 ?_
              rw [nI_1]
              refine e_ishl dX0_learn_55 ?_
              rw [shl_1 (by omega)]
              refine e_icmp_ge (tgt := 72) dX0_learn_56 (by decide) (fun hc2 => ?_) (fun hc2 => ?_)
              · refine e_iinc (v := nI (a + 1)) dX0_learn_72 rfl (nI_1 a) (by decide) rfl rfl ?_
                refine e_goto (tgt := 38) dX0_learn_75 (by decide) ?_
                exact ih (a + 1) N2 _ (by omega) (fun T hT => hT2 T (by omega)) hf2
              · exact absurd (nI_le (by omega : 2 ^ (a + 1) ≤ S) (by omega)) hc2
            | succ k2 ih2 =>
              intro S N2 hS hS1 hT2 hf2
              obtain ⟨s0, s2, s3, s15, sf⟩ := keep N2 hf2
              have okN2 : OkM N2 := ok.fr sf
              have hN2 : NetRep N2 2 g := h.fr sf (by omega)
              refine e_iload_n dX0_learn_50 rfl rfl ?_
              refine e_iconst (v := 1) dX0_learn_51 (by decide) ?_
              refine e_iload_n dX0_learn_52 rfl rfl ?_
              refine e_iconst (v := 1) dX0_learn_53 (by decide) ?_
              refine e_iadd dX0_learn_54 ?_
              rw [nI_1]
              refine e_ishl dX0_learn_55 ?_
              rw [shl_1 (by omega)]
              refine e_icmp_ge (tgt := 72) dX0_learn_56 (by decide) (fun hc2 => ?_) (fun hc2 => ?_)
              · exact absurd hc2 (nI_ge (by omega) (by omega))
              · refine e_aload_n dX0_learn_59 rfl rfl ?_
                refine e_aload_n dX0_learn_60 rfl rfl ?_
                refine e_iload_n dX0_learn_61 rfl rfl ?_
                refine e_iload_n dX0_learn_62 rfl rfl ?_
                refine e_callV1 [_, _, _] dX0_learn_63 mvmX0_learnSet lkRX0_44 (by exact okN2.sh rfl) ⟨by decide, rfl⟩ rfl rfl (Nat.le_of_ble_eq_true rfl) (by decide) (c_learnSet okN2 hN2 wf (by omega) hS1 (by omega) hT2) (fun v N3 hn => ?_)
                obtain ⟨rfl, hn1, hn2⟩ := hn
                refine e_iinc (v := nI (S + 1)) dX0_learn_66 rfl (nI_1 S) (by decide) rfl rfl ?_
                refine e_goto (tgt := 50) dX0_learn_69 (by decide) ?_
                refine ih2 (S + 1) N3 (by omega) (by omega) (fun T hT => ?_) (hf2.trans hn2.Fr)
                by_cases hTS : T = S
                · rw [hTS]; exact hn1
                · exact (hT2 T (by omega)).fq hn2 hTS
          exact inner (2 ^ a) (2 ^ a) N (by omega) (Nat.le_refl _) hT hf
    exact outer g.1 0 M1 none (by omega) (fun S hS => by
      have : S = 0 := by
        have e1 : 2 ^ 0 = 1 := rfl
        omega
      rw [this]; exact q0) Fr.rf
  · rcases hi with hi | hi
    · exact absurd hi hq
    · exact e_vret dX0_learn_7 rfl ⟨none, rfl, rfl, hi.2, hi.1, z, Fr.rf, rfl⟩
/-! the small questions -/
theorem QR.bd {M : Mm} {g : Nw} (hg : GR M g) {S : Nat} (hS : S < 2 ^ g.1) : M.2.1 16 S = nI (mst g S) ∧ M.2.1 17 S = nI (cnq g S) := ⟨(hg.1 S hS).1, (hg.1 S hS).2.1⟩
theorem cl_al {g : Nw} (wf : Wfn g) : (nI (al g)).toNatClampNeg = al g ∧ al g < 4096 := by
  have h1 := al_lt g
  have h2 := p12 wf.1.2
  exact ⟨nI_clamp (by omega), by omega⟩
theorem c_size {B : Bd} {M : Mm} {g : Nw} (ok : OkM M) (wf : Wfn g) (hg : GR M g) : Ct B mX0_size 0 0 0 [.ref 14] M (Is (some (.int (nI (mst g (al g))))) M) := by
  obtain ⟨c1, c2⟩ := cl_al wf
  refine Ct.of (by decide) rfl rfl (Nat.le_of_ble_eq_true rfl) ?_
  refine e_aload_n dX0_size_0 rfl rfl ?_
  refine e_getR dX0_size_1 fRX0_26 (by exact ok.sh rfl) (by exact ok.rf rfl) (fun _ => rfl) ?_
  refine e_aload_n dX0_size_4 rfl rfl ?_
  refine e_getI dX0_size_5 fRX0_19 (by exact ok.sh rfl) (fun _ => rfl) ?_
  rw [hg.2.1]
  refine e_iaload dX0_size_8 (by exact ok.sh rfl) (by exact vp_in_nI c2 (by decide)) ?_
  rw [c1, (hg.1 (al g) (al_lt g)).1]
  exact e_iret dX0_size_9 rfl rfl (⟨rfl, rfl⟩)
theorem c_missing {B : Bd} {M : Mm} {g : Nw} (ok : OkM M) (wf : Wfn g) (hg : GR M g) : Ct B mX0_missing 0 0 0 [.ref 14] M (Is (some (.int (nI g.1 - 2 * nI (mst g (al g))))) M) := by
  obtain ⟨c1, c2⟩ := cl_al wf
  refine Ct.of (by decide) rfl rfl (Nat.le_of_ble_eq_true rfl) ?_
  refine e_aload_n dX0_missing_0 rfl rfl ?_
  refine e_getI dX0_missing_1 fRX0_23 (by exact ok.sh rfl) (fun _ => rfl) ?_
  rw [hg.2.2]
  refine e_iconst (v := 2) dX0_missing_4 (by decide) ?_
  refine e_aload_n dX0_missing_5 rfl rfl ?_
  refine e_getR dX0_missing_6 fRX0_26 (by exact ok.sh rfl) (by exact ok.rf rfl) (fun _ => rfl) ?_
  refine e_aload_n dX0_missing_9 rfl rfl ?_
  refine e_getI dX0_missing_10 fRX0_19 (by exact ok.sh rfl) (fun _ => rfl) ?_
  rw [hg.2.1]
  refine e_iaload dX0_missing_13 (by exact ok.sh rfl) (by exact vp_in_nI c2 (by decide)) ?_
  rw [c1, (hg.1 (al g) (al_lt g)).1]
  refine e_imul dX0_missing_14 ?_
  refine e_isub dX0_missing_15 ?_
  exact e_iret dX0_missing_16 rfl rfl (⟨rfl, rfl⟩)
theorem c_count {B : Bd} {M : Mm} {g : Nw} (ok : OkM M) (wf : Wfn g) (hg : GR M g) : Ct B mX0_count 0 0 0 [.ref 14] M (Is (some (.int (nI (cnq g (al g))))) M) := by
  obtain ⟨c1, c2⟩ := cl_al wf
  refine Ct.of (by decide) rfl rfl (Nat.le_of_ble_eq_true rfl) ?_
  refine e_aload_n dX0_count_0 rfl rfl ?_
  refine e_getR dX0_count_1 fRX0_29 (by exact ok.sh rfl) (by exact ok.rf rfl) (fun _ => rfl) ?_
  refine e_aload_n dX0_count_4 rfl rfl ?_
  refine e_getI dX0_count_5 fRX0_19 (by exact ok.sh rfl) (fun _ => rfl) ?_
  rw [hg.2.1]
  refine e_iaload dX0_count_8 (by exact ok.sh rfl) (by exact vp_in_nI c2 (by decide)) ?_
  rw [c1, (hg.1 (al g) (al_lt g)).2.1]
  exact e_iret dX0_count_9 rfl rfl (⟨rfl, rfl⟩)
theorem c_mostWeight {B : Bd} {M : Mm} {g : Nw} (ok : OkM M) (wf : Wfn g) (hg : GR M g) : Ct B mX0_mostWeight 0 0 0 [.ref 14] M (Is (some (.int (nI (Tq g.2.1 (al g)).2.2.1))) M) := by
  obtain ⟨c1, c2⟩ := cl_al wf
  refine Ct.of (by decide) rfl rfl (Nat.le_of_ble_eq_true rfl) ?_
  refine e_aload_n dX0_mostWeight_0 rfl rfl ?_
  refine e_getR dX0_mostWeight_1 fRX0_32 (by exact ok.sh rfl) (by exact ok.rf rfl) (fun _ => rfl) ?_
  refine e_aload_n dX0_mostWeight_4 rfl rfl ?_
  refine e_getI dX0_mostWeight_5 fRX0_19 (by exact ok.sh rfl) (fun _ => rfl) ?_
  rw [hg.2.1]
  refine e_iaload dX0_mostWeight_8 (by exact ok.sh rfl) (by exact vp_in_nI c2 (by decide)) ?_
  rw [c1, (hg.1 (al g) (al_lt g)).2.2.1]
  exact e_iret dX0_mostWeight_9 rfl rfl (⟨rfl, rfl⟩)
theorem c_leastWeight {B : Bd} {M : Mm} {g : Nw} (ok : OkM M) (wf : Wfn g) (hg : GR M g) : Ct B mX0_leastWeight 0 0 0 [.ref 14] M (Is (some (.int (nI (Tq g.2.1 (al g)).2.2.2))) M) := by
  obtain ⟨c1, c2⟩ := cl_al wf
  refine Ct.of (by decide) rfl rfl (Nat.le_of_ble_eq_true rfl) ?_
  refine e_aload_n dX0_leastWeight_0 rfl rfl ?_
  refine e_getR dX0_leastWeight_1 fRX0_35 (by exact ok.sh rfl) (by exact ok.rf rfl) (fun _ => rfl) ?_
  refine e_aload_n dX0_leastWeight_4 rfl rfl ?_
  refine e_getI dX0_leastWeight_5 fRX0_19 (by exact ok.sh rfl) (fun _ => rfl) ?_
  rw [hg.2.1]
  refine e_iaload dX0_leastWeight_8 (by exact ok.sh rfl) (by exact vp_in_nI c2 (by decide)) ?_
  rw [c1, (hg.1 (al g) (al_lt g)).2.2.2]
  exact e_iret dX0_leastWeight_9 rfl rfl (⟨rfl, rfl⟩)
def wo (g : Nw) (a b : Nat) : Nat := dif (al g) (2 ^ a ||| 2 ^ b)
theorem c_without {B : Bd} {M : Mm} {g : Nw} {a b : Nat} (ok : OkM M) (hg : GR M g) (ha : a < 12) (hb : b < 12) : Ct B mX0_without 0 0 0 [.ref 14, .int (nI a), .int (nI b)] M (Is (some (.int (nI (wo g a b)))) M) := by
  refine Ct.of (by decide) rfl rfl (Nat.le_of_ble_eq_true rfl) ?_
  refine e_aload_n dX0_without_0 rfl rfl ?_
  refine e_getI dX0_without_1 fRX0_19 (by exact ok.sh rfl) (fun _ => rfl) ?_
  rw [hg.2.1]
  refine e_iconst (v := 1) dX0_without_4 (by decide) ?_
  refine e_iload_n dX0_without_5 rfl rfl ?_
  refine e_ishl dX0_without_6 ?_
  rw [shl_1 (by omega)]
  refine e_iconst (v := 1) dX0_without_7 (by decide) ?_
  refine e_iload_n dX0_without_8 rfl rfl ?_
  refine e_ishl dX0_without_9 ?_
  rw [shl_1 (by omega)]
  refine e_ior dX0_without_10 ?_
  rw [fa_or]
  refine e_iconst (v := (-1)) dX0_without_11 (by decide) ?_
  refine e_ixor dX0_without_12 ?_
  refine e_iand dX0_without_13 ?_
  rw [andn_nI]
  exact e_iret dX0_without_14 rfl rfl (⟨rfl, rfl⟩)
theorem wo_lt {g : Nw} (wf : Wfn g) (a b : Nat) : wo g a b < 2 ^ g.1 ∧ wo g a b < 4096 := by
  have h1 := al_lt g
  have h2 := p12 wf.1.2
  have h3 : wo g a b ≤ al g := dif_le _ _
  omega
theorem mst_lt {g : Nw} (wf : Wfn g) (S : Nat) : mst g S < 2 ^ 29 := (Tq_bd wf.w S).1
theorem cnq_lt {g : Nw} (wf : Wfn g) (S : Nat) : cnq g S < 2 ^ 29 := (Tq_bd wf.w S).2.1
def sHas (g : Nw) (a b : Nat) : Prop := (g.2.1 a b).isSome = true ∧ mst g (wo g a b) + 1 = mst g (al g)
theorem c_someHave {B : Bd} {M : Mm} {g : Nw} {a b : Nat} (ok : OkM M) (h : NetRep M 2 g) (wf : Wfn g) (hg : GR M g) (ha : a < 12) (hb : b < 12) (r : Int32) (hr1 : sHas g a b → r = 1) (hr0 : ¬ sHas g a b → r = 0) : Ct B mX0_someHave 2 0 0 [.ref 14, .ref 2, .int (nI a), .int (nI b)] M (Is (some (.int r)) M) := by
  have hN := h.1
  obtain ⟨c1, c2⟩ := cl_al wf
  obtain ⟨w1, w2⟩ := wo_lt wf a b
  have m1 := mst_lt wf (wo g a b)
  have m2 := mst_lt wf (al g)
  refine Ct.of (by decide) rfl rfl (Nat.le_of_ble_eq_true rfl) ?_
  refine e_aload_n dX0_someHave_0 rfl rfl ?_
  refine e_iload_n dX0_someHave_1 rfl rfl ?_
  refine e_iload_n dX0_someHave_2 rfl rfl ?_
  refine e_callV0i [_, _] dX0_someHave_3 mvmX1_isLine lkRX0_71 (by exact ok.sh rfl) ⟨by decide, rfl⟩ rfl rfl (Nat.le_of_ble_eq_true rfl) (by decide) (c_isLine h ha hb) ?_
  by_cases hw : (g.2.1 a b).isSome = true
  · refine e_if_eq (tgt := 38) dX0_someHave_6 (by decide) (fun hq => ?_) (fun hq => ?_)
    · rw [if_pos hw] at hq; exact absurd hq (by decide)
    · refine e_aload_n dX0_someHave_9 rfl rfl ?_
      refine e_getR dX0_someHave_10 fRX0_26 (by exact ok.sh rfl) (by exact ok.rf rfl) (fun _ => rfl) ?_
      refine e_aload_n dX0_someHave_13 rfl rfl ?_
      refine e_iload_n dX0_someHave_14 rfl rfl ?_
      refine e_iload_n dX0_someHave_15 rfl rfl ?_
      refine e_callV0i [_, _] dX0_someHave_16 mvmX0_without lkRX0_74 (by exact ok.sh rfl) ⟨by decide, rfl⟩ rfl rfl (Nat.le_of_ble_eq_true rfl) (by decide) (c_without ok hg ha hb) ?_
      refine e_iaload dX0_someHave_19 (by exact ok.sh rfl) (by first | exact vp_in_nI w2 (by decide) | exact vp_in_nI c2 (by decide)) ?_
      rw [nI_clamp (by omega), (hg.1 _ w1).1]
      refine e_iconst (v := 1) dX0_someHave_20 (by decide) ?_
      refine e_iadd dX0_someHave_21 ?_
      rw [nI_1]
      refine e_aload_n dX0_someHave_22 rfl rfl ?_
      refine e_getR dX0_someHave_23 fRX0_26 (by exact ok.sh rfl) (by exact ok.rf rfl) (fun _ => rfl) ?_
      refine e_aload_n dX0_someHave_26 rfl rfl ?_
      refine e_getI dX0_someHave_27 fRX0_19 (by exact ok.sh rfl) (fun _ => rfl) ?_
      rw [hg.2.1]
      refine e_iaload dX0_someHave_30 (by exact ok.sh rfl) (by first | exact vp_in_nI w2 (by decide) | exact vp_in_nI c2 (by decide)) ?_
      rw [c1, (hg.1 _ (al_lt g)).1]
      show Ev _ _ _ _ _ _ 31 _ [.int (nI (mst g (al g))), .int (nI (mst g (wo g a b) + 1))] _
      refine e_icmp_ne (tgt := 38) dX0_someHave_31 (by decide) (fun hq2 => ?_) (fun hq2 => ?_)
      · refine e_iconst (v := 0) dX0_someHave_38 (by decide) ?_
        exact e_iret dX0_someHave_39 rfl rfl (⟨by rw [hr0 (fun q => hq2 (by rw [q.2]))], rfl⟩)
      · refine e_iconst (v := 1) dX0_someHave_34 (by decide) ?_
        refine e_goto (tgt := 39) dX0_someHave_35 (by decide) ?_
        rw [nI_eq (by omega) (by omega)] at hq2
        exact e_iret dX0_someHave_39 rfl rfl (⟨by rw [hr1 ⟨hw, hq2⟩], rfl⟩)
  · refine e_if_eq (tgt := 38) dX0_someHave_6 (by decide) (fun hq => ?_) (fun hq => ?_)
    · refine e_iconst (v := 0) dX0_someHave_38 (by decide) ?_
      exact e_iret dX0_someHave_39 rfl rfl (⟨by rw [hr0 (fun q => hw q.1)], rfl⟩)
    · rw [if_neg hw] at hq; exact absurd rfl hq
theorem c_allHave {B : Bd} {M : Mm} {g : Nw} {a b : Nat} (ok : OkM M) (h : NetRep M 2 g) (wf : Wfn g) (hg : GR M g) (ha : a < 12) (hb : b < 12) (r : Int32) (hr1 : sHas g a b ∧ cnq g (wo g a b) = cnq g (al g) → r = 1) (hr0 : ¬ (sHas g a b ∧ cnq g (wo g a b) = cnq g (al g)) → r = 0) : Ct B mX0_allHave 3 0 0 [.ref 14, .ref 2, .int (nI a), .int (nI b)] M (Is (some (.int r)) M) := by
  obtain ⟨c1, c2⟩ := cl_al wf
  obtain ⟨w1, w2⟩ := wo_lt wf a b
  have m1 := cnq_lt wf (wo g a b)
  have m2 := cnq_lt wf (al g)
  refine Ct.of (by decide) rfl rfl (Nat.le_of_ble_eq_true rfl) ?_
  refine e_aload_n dX0_allHave_0 rfl rfl ?_
  refine e_aload_n dX0_allHave_1 rfl rfl ?_
  refine e_iload_n dX0_allHave_2 rfl rfl ?_
  refine e_iload_n dX0_allHave_3 rfl rfl ?_
  by_cases hs : sHas g a b
  · refine e_callV0i [_, _, _] dX0_allHave_4 mvmX0_someHave lkRX0_77 (by exact ok.sh rfl) ⟨by decide, rfl⟩ rfl rfl (Nat.le_of_ble_eq_true rfl) (by decide) (c_someHave ok h wf hg ha hb 1 (fun _ => rfl) (fun q => absurd hs q)) ?_
    refine e_if_eq (tgt := 37) dX0_allHave_7 (by decide) (fun hq => ?_) (fun hq => ?_)
    · exact absurd hq (by decide)
    · refine e_aload_n dX0_allHave_10 rfl rfl ?_
      refine e_getR dX0_allHave_11 fRX0_29 (by exact ok.sh rfl) (by exact ok.rf rfl) (fun _ => rfl) ?_
      refine e_aload_n dX0_allHave_14 rfl rfl ?_
      refine e_iload_n dX0_allHave_15 rfl rfl ?_
      refine e_iload_n dX0_allHave_16 rfl rfl ?_
      refine e_callV0i [_, _] dX0_allHave_17 mvmX0_without lkRX0_74 (by exact ok.sh rfl) ⟨by decide, rfl⟩ rfl rfl (Nat.le_of_ble_eq_true rfl) (by decide) (c_without ok hg ha hb) ?_
      refine e_iaload dX0_allHave_20 (by exact ok.sh rfl) (by first | exact vp_in_nI w2 (by decide) | exact vp_in_nI c2 (by decide)) ?_
      rw [nI_clamp (by omega), (hg.1 _ w1).2.1]
      refine e_aload_n dX0_allHave_21 rfl rfl ?_
      refine e_getR dX0_allHave_22 fRX0_29 (by exact ok.sh rfl) (by exact ok.rf rfl) (fun _ => rfl) ?_
      refine e_aload_n dX0_allHave_25 rfl rfl ?_
      refine e_getI dX0_allHave_26 fRX0_19 (by exact ok.sh rfl) (fun _ => rfl) ?_
      rw [hg.2.1]
      refine e_iaload dX0_allHave_29 (by exact ok.sh rfl) (by first | exact vp_in_nI w2 (by decide) | exact vp_in_nI c2 (by decide)) ?_
      rw [c1, (hg.1 _ (al_lt g)).2.1]
      show Ev _ _ _ _ _ _ 30 _ [.int (nI (cnq g (al g))), .int (nI (cnq g (wo g a b)))] _
      refine e_icmp_ne (tgt := 37) dX0_allHave_30 (by decide) (fun hq2 => ?_) (fun hq2 => ?_)
      · refine e_iconst (v := 0) dX0_allHave_37 (by decide) ?_
        exact e_iret dX0_allHave_38 rfl rfl (⟨by rw [hr0 (fun q => hq2 (by rw [q.2]))], rfl⟩)
      · refine e_iconst (v := 1) dX0_allHave_33 (by decide) ?_
        refine e_goto (tgt := 38) dX0_allHave_34 (by decide) ?_
        rw [nI_eq (by omega) (by omega)] at hq2
        exact e_iret dX0_allHave_38 rfl rfl (⟨by rw [hr1 ⟨hs, hq2⟩], rfl⟩)
  · refine e_callV0i [_, _, _] dX0_allHave_4 mvmX0_someHave lkRX0_77 (by exact ok.sh rfl) ⟨by decide, rfl⟩ rfl rfl (Nat.le_of_ble_eq_true rfl) (by decide) (c_someHave ok h wf hg ha hb 0 (fun q => absurd q hs) (fun _ => rfl)) ?_
    refine e_if_eq (tgt := 37) dX0_allHave_7 (by decide) (fun hq => ?_) (fun hq => ?_)
    · refine e_iconst (v := 0) dX0_allHave_37 (by decide) ?_
      exact e_iret dX0_allHave_38 rfl rfl (⟨by rw [hr0 (fun q => hs q.1)], rfl⟩)
    · exact absurd rfl hq

