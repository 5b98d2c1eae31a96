theorem c_node {B : Bd} {M : Mm} {s : Sx} {x z : Int32} (h : CI M s) : Ct B mX5_node 34 2 12 [.ref 0, .int x, .int z] M (CPo [xNS, xIA] M (sNode s x z)) := by
  have ok := h.1
  have hn := h.2.2.2.1.1
  have hgd := h.2.2.2.1.2
  have hg12 := hgd.1.1.2
  refine Ct.of (by decide) rfl rfl (Nat.le_of_ble_eq_true rfl) ?_
  refine e_aload_n dX5_node_0 rfl rfl ?_
  refine e_iload_n dX5_node_1 rfl rfl ?_
  refine e_callV (rc1 := 1) (rs1 := 6) (rc2 := 1) (rs2 := 6) [_] dX5_node_2 mvmX5_needNode lkRX5_102 (by exact ok.sh rfl) ⟨by decide, rfl⟩ rfl rfl (Nat.le_of_ble_eq_true rfl) (by decide) (by decide) (by decide) (c_needNode (x := x) ok hn hg12) (fun v N h1 => ?_) (fun v N h1 => ?_)
  · obtain ⟨p1, rfl, rfl⟩ := h1.t
    obtain ⟨a, na, ha, rfl⟩ := nod_of hg12 p1
    have need : ∀ q : Int32, (¬ q = 0 ↔ (0 ≤ z.toInt ∧ z.toInt ≤ 4)) → Ev B mX5_node 34 1 6 (CPo [xNS, xIA] M (sNode s (nI a) z)) 20 [some (.ref 0), some (.int (nI a)), some (.int z)] [.int q, .ref 0] M := by
      intro q hq
      refine e_callV (rc1 := 1) (rs1 := 6) (rc2 := 0) (rs2 := 0) [_] dX5_node_20 mvmX5_needArgument lkRX5_82 (by exact ok.sh rfl) ⟨by decide, rfl⟩ rfl rfl (Nat.le_of_ble_eq_true rfl) (by decide) (by decide) (by decide) (c_needArgument (z := q) ok) (fun v N h1 => ?_) (fun v N h1 => ?_)
      · obtain ⟨p3, rfl, rfl⟩ := h1.t
        have hx := hq.mp p3
        obtain ⟨e1, e2⟩ := toN hx.1 (k := 4) hx.2 (by decide)
        unfold sNode
        rw [na]
        dsimp only
        rw [if_pos hx]
        generalize z.toInt.toNat = n at e1 e2
        subst e1
        refine e_iload_n dX5_node_23 rfl rfl ?_
        match n, e2 with
        | 0, _ =>
          refine e_swIn (tgt := 56) dX5_node_24 (by decide) (by decide) rfl (by decide) ?_
          refine e_aload_n dX5_node_56 rfl rfl ?_
          refine e_getR dX5_node_57 fRX5_23 (by exact ok.sh rfl) (by exact ok.rf rfl) (fun _ => rfl) ?_
          refine e_getR dX5_node_60 fRX5_203 (by exact ok.sh rfl) (by exact ok.rf rfl) (fun _ => rfl) ?_
          refine e_iload_n dX5_node_63 rfl rfl ?_
          refine e_iaload dX5_node_64 (by exact ok.sh rfl) (by exact vp_in_nI (show a < 12 by omega) (by decide)) ?_
          rw [nI_clamp (by omega), hn.2.2.2.2.1 a (by omega)]
          refine e_callS0i [_] dX5_node_65 msmJ6_bitCount_0f7a4 lkRX5_206 rfl rfl (Nat.le_of_ble_eq_true rfl) (by decide) (c_bitCount (nbr_lt _ _)) ?_
          exact e_iret dX5_node_68 rfl rfl (cpo_ok h FC.rf)
        | 1, _ =>
          refine e_swIn (tgt := 69) dX5_node_24 (by decide) (by decide) rfl (by decide) ?_
          refine e_aload_n dX5_node_69 rfl rfl ?_
          refine e_getR dX5_node_70 fRX5_23 (by exact ok.sh rfl) (by exact ok.rf rfl) (fun _ => rfl) ?_
          refine e_getR dX5_node_73 fRX5_136 (by exact ok.sh rfl) (by exact ok.rf rfl) (fun _ => rfl) ?_
          refine e_iload_n dX5_node_76 rfl rfl ?_
          refine e_iaload dX5_node_77 (by exact ok.sh rfl) (by exact vp_in_nI (show a < 12 by omega) (by decide)) ?_
          rw [nI_clamp (by omega), hn.2.2.2.2.2 a (by omega)]
          exact e_iret dX5_node_78 rfl rfl (cpo_ok h FC.rf)
        | 2, _ =>
          refine e_swIn (tgt := 79) dX5_node_24 (by decide) (by decide) rfl (by decide) ?_
          refine e_aload_n dX5_node_79 rfl rfl ?_
          refine e_iload_n dX5_node_80 rfl rfl ?_
          refine e_callV1 [_] dX5_node_81 mvmX5_labelOf lkRX5_212 (by exact ok.sh rfl) ⟨by decide, rfl⟩ rfl rfl (Nat.le_of_ble_eq_true rfl) (by decide) (c_labelOf h (show a < 12 by omega)) (fun u N h2 => ?_)
          obtain ⟨hu, q1, q2⟩ := h2
          subst hu
          exact e_iret dX5_node_84 rfl rfl (cpo_ok q1 q2)
        | 3, _ =>
          refine e_swIn (tgt := 85) dX5_node_24 (by decide) (by decide) rfl (by decide) ?_
          refine e_aload_n dX5_node_85 rfl rfl ?_
          refine e_iload_n dX5_node_86 rfl rfl ?_
          refine e_callV1 [_] dX5_node_87 mvmX5_setOf lkRX5_215 (by exact ok.sh rfl) ⟨by decide, rfl⟩ rfl rfl (Nat.le_of_ble_eq_true rfl) (by decide) (c_setOf h (show a < 12 by omega)) (fun u N h2 => ?_)
          obtain ⟨hu, q1, q2⟩ := h2
          subst hu
          exact e_iret dX5_node_90 rfl rfl (cpo_ok q1 q2)
        | 4, _ =>
          refine e_swOut (tgt := 91) dX5_node_24 (Or.inr (by decide)) (by decide) ?_
          refine e_aload_n dX5_node_91 rfl rfl ?_
          refine e_callV1 [] dX5_node_92 mvmX5_learn lkRX5_149 (by exact ok.sh rfl) ⟨by decide, rfl⟩ rfl rfl (Nat.le_of_ble_eq_true rfl) (by decide) (c_learn5 h) (fun u L h0 => ?_)
          obtain ⟨hu, hL, gL, fL⟩ := h0
          subst hu
          have okL := hL.1
          have hk14 : L.2.1 14 0 = 0 ∨ L.2.1 14 0 = 1 := hL.2.2.2.2.2.1.1.elim Or.inl (fun q => Or.inr q.1)
          refine e_aload_n dX5_node_95 rfl rfl ?_
          refine e_getR dX5_node_96 fRX5_49 (by exact okL.sh rfl) (by exact okL.rf rfl) (fun _ => rfl) ?_
          refine e_callV1 [] dX5_node_99 mvmX0_fillFirst lkRX5_152 (by exact okL.sh rfl) ⟨by decide, rfl⟩ rfl rfl (Nat.le_of_ble_eq_true rfl) (by decide) (c_fillFirst okL hL.2.2.2.1.1 hgd.1 gL) (fun u N h2 => ?_)
          obtain ⟨hu, g1, g2, hf, hfst⟩ := h2
          subst hu
          have hN := hL.great hf (by
            unfold GInv
            rw [g2]
            exact hk14.elim Or.inl (fun q => Or.inr ⟨q, g1⟩))
          have okN := hN.1
          refine e_aload_n dX5_node_102 rfl rfl ?_
          refine e_getR dX5_node_103 fRX5_49 (by exact okN.sh rfl) (by exact okN.rf rfl) (fun _ => rfl) ?_
          refine e_getR dX5_node_106 fRX5_155 (by exact okN.sh rfl) (by exact okN.rf rfl) (fun _ => rfl) ?_
          refine e_iload_n dX5_node_109 rfl rfl ?_
          refine e_iaload dX5_node_110 (by exact okN.sh rfl) (by exact vp_in_nI (show a < 12 by omega) (by decide)) ?_
          rw [nI_clamp (by omega), hfst a (by omega)]
          exact e_iret dX5_node_111 rfl rfl (cpo_ok hN (fL.trans hf.FC))
      · obtain ⟨p3, rfl, e2⟩ := h1.x
        have e8 : sNode s (nI a) z = rej 2 1 s := by unfold sNode; rw [na]; dsimp only; rw [if_neg (fun w => p3 (hq.mpr w))]
        rw [e8]
        exact e_out rfl (cpo_rej h (by decide) rfl e2 FC.rf)
    refine e_aload_n dX5_node_5 rfl rfl ?_
    refine e_iload_n dX5_node_6 rfl rfl ?_
    refine e_if_lt (tgt := 19) dX5_node_7 (by decide) (fun hz => ?_) (fun hz => ?_)
    · have := (lt0 z).mp hz
      refine e_iconst (v := 0) dX5_node_19 (by decide) ?_
      exact need 0 ⟨fun q => absurd rfl q, fun q => by omega⟩
    · have h0 : ¬ z.toInt < 0 := fun q => hz ((lt0 z).mpr q)
      refine e_iload_n dX5_node_10 rfl rfl ?_
      refine e_iconst (v := 4) dX5_node_11 (by decide) ?_
      rw [show (4 : Int32) = nI 4 from fa_lit 4]
      refine e_icmp_gt (tgt := 19) dX5_node_12 (by decide) (fun hz2 => ?_) (fun hz2 => ?_)
      · have := (gtN (k := 4) (by decide)).mp hz2
        refine e_iconst (v := 0) dX5_node_19 (by decide) ?_
        exact need 0 ⟨fun q => absurd rfl q, fun q => by omega⟩
      · have h2 : ¬ ((4 : Nat) : Int) < z.toInt := fun q => hz2 ((gtN (k := 4) (by decide)).mpr q)
        refine e_iconst (v := 1) dX5_node_15 (by decide) ?_
        refine e_goto (tgt := 20) dX5_node_16 (by decide) ?_
        exact need 1 ⟨fun _ => by omega, fun _ => by decide⟩
  · obtain ⟨p1, rfl, e2⟩ := h1.x
    have e8 : sNode s x z = rej 1 0 s := by unfold sNode; rw [nod_no p1]
    rw [e8]
    exact e_out rfl (cpo_rej h (by decide) rfl e2 FC.rf)
theorem c_sets {B : Bd} {M : Mm} {s : Sx} {x : Int32} (h : CI M s) : Ct B mX5_sets 34 1 6 [.ref 0, .int x] M (CPo [xIA] M (sSets s x)) := by
  have ok := h.1
  have hn := h.2.2.2.1.1
  have hgd := h.2.2.2.1.2
  refine Ct.of (by decide) rfl rfl (Nat.le_of_ble_eq_true rfl) ?_
  have need : ∀ z : Int32, (¬ z = 0 ↔ (0 ≤ x.toInt ∧ x.toInt ≤ 5)) → Ev B mX5_sets 34 1 6 (CPo [xIA] M (sSets s x)) 15 [some (.ref 0), some (.int x)] [.int z, .ref 0] M := by
    intro z hz
    refine e_callV (rc1 := 1) (rs1 := 6) (rc2 := 0) (rs2 := 0) [_] dX5_sets_15 mvmX5_needArgument lkRX5_82 (by exact ok.sh rfl) ⟨by decide, rfl⟩ rfl rfl (Nat.le_of_ble_eq_true rfl) (by decide) (by decide) (by decide) (c_needArgument (z := z) ok) (fun v N h1 => ?_) (fun v N h1 => ?_)
    · obtain ⟨p1, rfl, rfl⟩ := h1.t
      have hx := hz.mp p1
      obtain ⟨e1, e2⟩ := toN hx.1 (k := 5) hx.2 (by decide)
      unfold sSets
      rw [if_pos hx]
      generalize x.toInt.toNat = n at e1 e2
      subst e1
      refine e_iload_n dX5_sets_18 rfl rfl ?_
      refine e_iconst (v := 2) dX5_sets_19 (by decide) ?_
      rw [show (2 : Int32) = nI 2 from fa_lit 2]
      by_cases h3 : n < 3
      · rw [if_pos h3]
        refine e_icmp_gt (tgt := 36) dX5_sets_20 (by decide) (fun hq => ?_) (fun hq => ?_)
        · have := (nI_lt_iff (by omega) (by omega)).mp hq; omega
        · refine e_aload_n dX5_sets_23 rfl rfl ?_
          refine e_callV1 [] dX5_sets_24 mvmX5_learn lkRX5_149 (by exact ok.sh rfl) ⟨by decide, rfl⟩ rfl rfl (Nat.le_of_ble_eq_true rfl) (by decide) (c_learn5 h) (fun u N h2 => ?_)
          obtain ⟨hu, q1, q2, q3⟩ := h2
          subst hu
          have okN := q1.1
          have hnN : NetRep N 2 (sgg s) := q1.2.2.2.1.1
          refine e_aload_n dX5_sets_27 rfl rfl ?_
          refine e_getR dX5_sets_28 fRX5_49 (by exact okN.sh rfl) (by exact okN.rf rfl) (fun _ => rfl) ?_
          refine e_iload_n dX5_sets_31 rfl rfl ?_
          refine e_callV1i [_] dX5_sets_32 mvmX0_bitsOfSet lkRX5_218 (by exact okN.sh rfl) ⟨by decide, rfl⟩ rfl rfl (Nat.le_of_ble_eq_true rfl) (by decide) (c_bitsOfSet okN hnN hgd.1 q2 (by omega)) (fun K k1 => ?_)
          obtain ⟨r1, r2⟩ := q1.asked k1
          exact e_iret dX5_sets_35 rfl rfl (cpo_ok r1 (q3.trans r2))
      · rw [if_neg h3]
        refine e_icmp_gt (tgt := 36) dX5_sets_20 (by decide) (fun hq => ?_) (fun hq => ?_)
        · refine e_aload_n dX5_sets_36 rfl rfl ?_
          refine e_getR dX5_sets_37 fRX5_63 (by exact ok.sh rfl) (by exact ok.rf rfl) (fun _ => rfl) ?_
          refine e_aload_n dX5_sets_40 rfl rfl ?_
          refine e_getR dX5_sets_41 fRX5_23 (by exact ok.sh rfl) (by exact ok.rf rfl) (fun _ => rfl) ?_
          refine e_callV1 [_] dX5_sets_44 mvmX4_label lkRX5_221 (by exact ok.sh rfl) ⟨by decide, rfl⟩ rfl rfl (Nat.le_of_ble_eq_true rfl) (by decide) (c_label ok hn hgd.1 h.2.2.2.2.2.1.2.2) (fun u N h2 => ?_)
          obtain ⟨hu, l1, l2, hw, hf⟩ := h2
          subst hu
          have hN := h.walks hf hw
          have okN := hN.1
          have hnN : NetRep N 2 (sgg s) := hN.2.2.2.1.1
          refine e_aload_n dX5_sets_47 rfl rfl ?_
          refine e_getR dX5_sets_48 fRX5_63 (by exact okN.sh rfl) (by exact okN.rf rfl) (fun _ => rfl) ?_
          refine e_aload_n dX5_sets_51 rfl rfl ?_
          refine e_getR dX5_sets_52 fRX5_23 (by exact okN.sh rfl) (by exact okN.rf rfl) (fun _ => rfl) ?_
          refine e_iload_n dX5_sets_55 rfl rfl ?_
          refine e_iconst (v := 3) dX5_sets_56 (by decide) ?_
          refine e_isub dX5_sets_57 ?_
          have e3 : nI n - 3 = nI (n - 3) := by
            have : nI (n - 3) + nI 3 = nI n := by rw [nI_add]; congr 1; omega
            rw [← this, show (3 : Int32) = nI 3 from rfl, Int32.add_sub_cancel]
          rw [e3]
          refine e_callV0i [_, _] dX5_sets_58 mvmX4_bitsOfLabel lkRX5_224 (by exact okN.sh rfl) ⟨by decide, rfl⟩ rfl rfl (Nat.le_of_ble_eq_true rfl) (by decide) (c_bitsOfLabel okN hnN hgd.1 (by omega) l1 l2) ?_
          exact e_iret dX5_sets_61 rfl rfl (cpo_ok hN (hf.FC (by decide)))
        · exact absurd (nI_lt (by omega) (by omega)) hq
    · obtain ⟨p1, rfl, e2⟩ := h1.x
      have e9 : sSets s x = rej 1 1 s := by unfold sSets; rw [if_neg (fun q => p1 (hz.mpr q))]
      rw [e9]
      exact e_out rfl (cpo_rej h (by decide) rfl e2 FC.rf)
  refine e_aload_n dX5_sets_0 rfl rfl ?_
  refine e_iload_n dX5_sets_1 rfl rfl ?_
  refine e_if_lt (tgt := 14) dX5_sets_2 (by decide) (fun hq => ?_) (fun hq => ?_)
  · have := (lt0 x).mp hq
    refine e_iconst (v := 0) dX5_sets_14 (by decide) ?_
    exact need 0 ⟨fun q => absurd rfl q, fun q => by omega⟩
  · have h0 : ¬ x.toInt < 0 := fun q => hq ((lt0 x).mpr q)
    refine e_iload_n dX5_sets_5 rfl rfl ?_
    refine e_iconst (v := 5) dX5_sets_6 (by decide) ?_
    rw [show (5 : Int32) = nI 5 from fa_lit 5]
    refine e_icmp_gt (tgt := 14) dX5_sets_7 (by decide) (fun hq2 => ?_) (fun hq2 => ?_)
    · have := (gtN (k := 5) (by decide)).mp hq2
      refine e_iconst (v := 0) dX5_sets_14 (by decide) ?_
      exact need 0 ⟨fun q => absurd rfl q, fun q => by omega⟩
    · have h2 : ¬ ((5 : Nat) : Int) < x.toInt := fun q => hq2 ((gtN (k := 5) (by decide)).mpr q)
      refine e_iconst (v := 1) dX5_sets_10 (by decide) ?_
      refine e_goto (tgt := 15) dX5_sets_11 (by decide) ?_
      exact need 1 ⟨fun _ => by omega, fun _ => by decide⟩
theorem CI.plearn {M N : Mm} {s : Sx} (h : CI M s) (h1 : PAR N (sgg s)) (h2 : N.2.1 17 0 = 1) (h3 : N.2.1 18 0 = 0) (hf : Fr 17 18 M N) : CI N s := h.parts hf ⟨h3, Or.inr ⟨h2, h1⟩⟩
theorem c_odd {B : Bd} {M : Mm} {s : Sx} {x : Int32} (h : CI M s) : Ct B mX5_odd 8 1 6 [.ref 0, .int x] M (CPo [xIA] M (sOdd s x)) := by
  have ok := h.1
  have hn := h.2.2.2.1.1
  have hgd := h.2.2.2.1.2
  have hal : al (sgg s) < 4096 := by have := al_lt (sgg s); have := p12 hgd.1.1.2; omega
  refine Ct.of (by decide) rfl rfl (Nat.le_of_ble_eq_true rfl) ?_
  have need : ∀ z : Int32, (¬ z = 0 ↔ (0 ≤ x.toInt ∧ x.toInt ≤ al (sgg s))) → Ev B mX5_odd 8 1 6 (CPo [xIA] M (sOdd s x)) 21 [some (.ref 0), some (.int x)] [.int z, .ref 0] M := by
    intro z hz
    refine e_callV (rc1 := 1) (rs1 := 6) (rc2 := 0) (rs2 := 0) [_] dX5_odd_21 mvmX5_needArgument lkRX5_82 (by exact ok.sh rfl) ⟨by decide, rfl⟩ rfl rfl (Nat.le_of_ble_eq_true rfl) (by decide) (by decide) (by decide) (c_needArgument (z := z) ok) (fun v N h1 => ?_) (fun v N h1 => ?_)
    · obtain ⟨p1, rfl, rfl⟩ := h1.t
      have hx := hz.mp p1
      obtain ⟨e1, e2⟩ := toN hx.1 hx.2 (by omega)
      unfold sOdd
      rw [if_pos hx]
      generalize x.toInt.toNat = n at e1 e2
      subst e1
      refine e_aload_n dX5_odd_24 rfl rfl ?_
      refine e_getR dX5_odd_25 fRX5_56 (by exact ok.sh rfl) (by exact ok.rf rfl) (fun _ => rfl) ?_
      refine e_aload_n dX5_odd_28 rfl rfl ?_
      refine e_getR dX5_odd_29 fRX5_23 (by exact ok.sh rfl) (by exact ok.rf rfl) (fun _ => rfl) ?_
      refine e_callV1 [_] dX5_odd_32 mvmX2_learn lkRX5_231 (by exact ok.sh rfl) ⟨by decide, rfl⟩ rfl rfl (Nat.le_of_ble_eq_true rfl) (by decide) (c_plearn ok hn hgd.1 h.2.2.2.2.2.1.2.1) (fun u N h2 => ?_)
      obtain ⟨hu, q1, q2, q3, q4⟩ := h2
      subst hu
      have hN := h.plearn q1 q2 q3 q4
      have okN := hN.1
      refine e_aload_n dX5_odd_35 rfl rfl ?_
      refine e_getR dX5_odd_36 fRX5_56 (by exact okN.sh rfl) (by exact okN.rf rfl) (fun _ => rfl) ?_
      refine e_iload_n dX5_odd_39 rfl rfl ?_
      refine e_callV0i [_] dX5_odd_40 mvmX2_oddWithout lkRX5_233 (by exact okN.sh rfl) ⟨by decide, rfl⟩ rfl rfl (Nat.le_of_ble_eq_true rfl) (by decide) (c_oddWithout (S := n) okN hgd.1 q1) ?_
      exact e_iret dX5_odd_43 rfl rfl (cpo_ok hN (q4.FC (by decide)))
    · obtain ⟨p1, rfl, e2⟩ := h1.x
      have e9 : sOdd s x = rej 1 1 s := by unfold sOdd; rw [if_neg (fun q => p1 (hz.mpr q))]
      rw [e9]
      exact e_out rfl (cpo_rej h (by decide) rfl e2 FC.rf)
  refine e_aload_n dX5_odd_0 rfl rfl ?_
  refine e_iload_n dX5_odd_1 rfl rfl ?_
  refine e_if_lt (tgt := 20) dX5_odd_2 (by decide) (fun hq => ?_) (fun hq => ?_)
  · have := (lt0 x).mp hq
    refine e_iconst (v := 0) dX5_odd_20 (by decide) ?_
    exact need 0 ⟨fun q => absurd rfl q, fun q => by omega⟩
  · have h0 : ¬ x.toInt < 0 := fun q => hq ((lt0 x).mpr q)
    refine e_iload_n dX5_odd_5 rfl rfl ?_
    refine e_aload_n dX5_odd_6 rfl rfl ?_
    refine e_getR dX5_odd_7 fRX5_23 (by exact ok.sh rfl) (by exact ok.rf rfl) (fun _ => rfl) ?_
    refine e_callV0i [] dX5_odd_10 mvmX1_all lkRX5_228 (by exact ok.sh rfl) ⟨by decide, rfl⟩ rfl rfl (Nat.le_of_ble_eq_true rfl) (by decide) (c_all hn hgd.1.1.2) ?_
    have e9 : nI (2 ^ (sgg s).1 - 1) = nI (al (sgg s)) := rfl
    rw [e9]
    refine e_icmp_gt (tgt := 20) dX5_odd_13 (by decide) (fun hq2 => ?_) (fun hq2 => ?_)
    · have := (gtN (k := al (sgg s)) (by omega)).mp hq2
      refine e_iconst (v := 0) dX5_odd_20 (by decide) ?_
      exact need 0 ⟨fun q => absurd rfl q, fun q => by omega⟩
    · have h2 : ¬ ((al (sgg s) : Nat) : Int) < x.toInt := fun q => hq2 ((gtN (k := al (sgg s)) (by omega)).mpr q)
      refine e_iconst (v := 1) dX5_odd_16 (by decide) ?_
      refine e_goto (tgt := 21) dX5_odd_17 (by decide) ?_
      exact need 1 ⟨fun _ => by omega, fun _ => by decide⟩
theorem c_barrier {B : Bd} {M : Mm} {s : Sx} {x : Int32} (h : CI M s) : Ct B mX5_barrier 34 1 6 [.ref 0, .int x] M (CPo [xIA] M (sBarrier s x)) := by
  have ok := h.1
  have hgd := h.2.2.2.1.2
  refine Ct.of (by decide) rfl rfl (Nat.le_of_ble_eq_true rfl) ?_
  have need : ∀ z : Int32, (¬ z = 0 ↔ (x = 0 ∨ x = 1)) → Ev B mX5_barrier 34 1 6 (CPo [xIA] M (sBarrier s x)) 15 [some (.ref 0), some (.int x)] [.int z, .ref 0] M := by
    intro z hz
    refine e_callV (rc1 := 1) (rs1 := 6) (rc2 := 0) (rs2 := 0) [_] dX5_barrier_15 mvmX5_needArgument lkRX5_82 (by exact ok.sh rfl) ⟨by decide, rfl⟩ rfl rfl (Nat.le_of_ble_eq_true rfl) (by decide) (by decide) (by decide) (c_needArgument (z := z) ok) (fun v N h1 => ?_) (fun v N h1 => ?_)
    · obtain ⟨p1, rfl, rfl⟩ := h1.t
      have hx := hz.mp p1
      refine e_aload_n dX5_barrier_18 rfl rfl ?_
      refine e_callV1 [] dX5_barrier_19 mvmX5_learn lkRX5_149 (by exact ok.sh rfl) ⟨by decide, rfl⟩ rfl rfl (Nat.le_of_ble_eq_true rfl) (by decide) (c_learn5 h) (fun u N h2 => ?_)
      obtain ⟨hu, hN, hgr, hfc⟩ := h2
      subst hu
      have okN := hN.1
      have hnN : NetRep N 2 (sgg s) := hN.2.2.2.1.1
      refine e_aload_n dX5_barrier_22 rfl rfl ?_
      refine e_getR dX5_barrier_23 fRX5_56 (by exact okN.sh rfl) (by exact okN.rf rfl) (fun _ => rfl) ?_
      refine e_aload_n dX5_barrier_26 rfl rfl ?_
      refine e_getR dX5_barrier_27 fRX5_23 (by exact okN.sh rfl) (by exact okN.rf rfl) (fun _ => rfl) ?_
      refine e_callV1 [_] dX5_barrier_30 mvmX2_learn lkRX5_231 (by exact okN.sh rfl) ⟨by decide, rfl⟩ rfl rfl (Nat.le_of_ble_eq_true rfl) (by decide) (c_plearn okN hnN hgd.1 hN.2.2.2.2.2.1.2.1) (fun u K h2 => ?_)
      obtain ⟨hu, q1, q2, q3, q4⟩ := h2
      subst hu
      have hK := hN.plearn q1 q2 q3 q4
      have okK := hK.1
      have hgrK : GR K (sgg s) := by
        unfold GR
        rw [q4.2.1]
        exact hgr
      have hfcK := hfc.trans (q4.FC (by decide))
      refine e_iload_n dX5_barrier_33 rfl rfl ?_
      unfold sBarrier
      by_cases h0 : x = 0
      · rw [if_pos h0]
        refine e_if_ne (tgt := 54) dX5_barrier_34 (by decide) (fun hq => ?_) (fun hq => ?_)
        · exact absurd h0 hq
        · refine e_aload_n dX5_barrier_37 rfl rfl ?_
          refine e_getR dX5_barrier_38 fRX5_56 (by exact okK.sh rfl) (by exact okK.rf rfl) (fun _ => rfl) ?_
          refine e_aload_n dX5_barrier_41 rfl rfl ?_
          refine e_getR dX5_barrier_42 fRX5_49 (by exact okK.sh rfl) (by exact okK.rf rfl) (fun _ => rfl) ?_
          refine e_callV1i [] dX5_barrier_45 mvmX0_missing lkRX5_183 (by exact okK.sh rfl) ⟨by decide, rfl⟩ rfl rfl (Nat.le_of_ble_eq_true rfl) (by decide) (c_missing okK hK.2.2.2.1.1 hgd.1 hgrK) (fun J k1 => ?_)
          obtain ⟨r1, r2⟩ := hK.asked k1
          have okJ := r1.1
          have qJ : PAR J (sgg s) := by unfold PAR PR; rw [k1.2.2.1]; exact q1
          have e9 : nI (sgg s).1 - 2 * nI (mst (sgg s) (al (sgg s))) = msI (sgg s) := rfl
          rw [e9]
          refine e_callV0i [_] dX5_barrier_48 mvmX2_smallestBarrier lkRX5_236 (by exact okJ.sh rfl) ⟨by decide, rfl⟩ rfl rfl (Nat.le_of_ble_eq_true rfl) (by decide) (c_smallestBarrier okJ hgd.1 qJ) ?_
          refine e_goto (tgt := 68) dX5_barrier_51 (by decide) ?_
          exact e_iret dX5_barrier_68 rfl rfl (cpo_ok r1 (hfcK.trans r2))
      · have h1 : x = 1 := hx.elim (fun q => absurd q h0) id
        rw [if_neg h0, if_pos h1]
        refine e_if_ne (tgt := 54) dX5_barrier_34 (by decide) (fun hq => ?_) (fun hq => ?_)
        · refine e_aload_n dX5_barrier_54 rfl rfl ?_
          refine e_getR dX5_barrier_55 fRX5_56 (by exact okK.sh rfl) (by exact okK.rf rfl) (fun _ => rfl) ?_
          refine e_aload_n dX5_barrier_58 rfl rfl ?_
          refine e_getR dX5_barrier_59 fRX5_49 (by exact okK.sh rfl) (by exact okK.rf rfl) (fun _ => rfl) ?_
          refine e_callV1i [] dX5_barrier_62 mvmX0_missing lkRX5_183 (by exact okK.sh rfl) ⟨by decide, rfl⟩ rfl rfl (Nat.le_of_ble_eq_true rfl) (by decide) (c_missing okK hK.2.2.2.1.1 hgd.1 hgrK) (fun J k1 => ?_)
          obtain ⟨r1, r2⟩ := hK.asked k1
          have okJ := r1.1
          have qJ : PAR J (sgg s) := by unfold PAR PR; rw [k1.2.2.1]; exact q1
          have e9 : nI (sgg s).1 - 2 * nI (mst (sgg s) (al (sgg s))) = msI (sgg s) := rfl
          rw [e9]
          refine e_callV0i [_] dX5_barrier_65 mvmX2_greatestBarrier lkRX5_239 (by exact okJ.sh rfl) ⟨by decide, rfl⟩ rfl rfl (Nat.le_of_ble_eq_true rfl) (by decide) (c_greatestBarrier okJ hgd.1 qJ) ?_
          exact e_iret dX5_barrier_68 rfl rfl (cpo_ok r1 (hfcK.trans r2))
        · exact absurd hq h0
    · obtain ⟨p1, rfl, e2⟩ := h1.x
      have e9 : sBarrier s x = rej 1 1 s := by
        unfold sBarrier
        rw [if_neg (fun q => p1 (hz.mpr (Or.inl q))), if_neg (fun q => p1 (hz.mpr (Or.inr q)))]
      rw [e9]
      exact e_out rfl (cpo_rej h (by decide) rfl e2 FC.rf)
  refine e_aload_n dX5_barrier_0 rfl rfl ?_
  refine e_iload_n dX5_barrier_1 rfl rfl ?_
  refine e_if_eq (tgt := 10) dX5_barrier_2 (by decide) (fun hq => ?_) (fun hq => ?_)
  · refine e_iconst (v := 1) dX5_barrier_10 (by decide) ?_
    refine e_goto (tgt := 15) dX5_barrier_11 (by decide) ?_
    exact need 1 ⟨fun _ => Or.inl hq, fun _ => by decide⟩
  · refine e_iload_n dX5_barrier_5 rfl rfl ?_
    refine e_iconst (v := 1) dX5_barrier_6 (by decide) ?_
    refine e_icmp_ne (tgt := 14) dX5_barrier_7 (by decide) (fun hq2 => ?_) (fun hq2 => ?_)
    · refine e_iconst (v := 0) dX5_barrier_14 (by decide) ?_
      exact need 0 ⟨fun q => absurd rfl q, fun q => q.elim (fun w => absurd w hq) (fun w => absurd w hq2)⟩
    · refine e_iconst (v := 1) dX5_barrier_10 (by decide) ?_
      refine e_goto (tgt := 15) dX5_barrier_11 (by decide) ?_
      exact need 1 ⟨fun _ => Or.inr hq2, fun _ => by decide⟩
theorem c_ways {B : Bd} {M : Mm} {s : Sx} (h : CI M s) : Ct B mX5_ways 34 0 0 [.ref 0] M (CPo [] M (sWays s)) := by
  have ok := h.1
  have hgd := h.2.2.2.1.2
  refine Ct.of (by decide) rfl rfl (Nat.le_of_ble_eq_true rfl) ?_
  refine e_aload_n dX5_ways_0 rfl rfl ?_
  refine e_callV1 [] dX5_ways_1 mvmX5_learn lkRX5_149 (by exact ok.sh rfl) ⟨by decide, rfl⟩ rfl rfl (Nat.le_of_ble_eq_true rfl) (by decide) (c_learn5 h) (fun u N h2 => ?_)
  obtain ⟨hu, hN, hgr, hfc⟩ := h2
  subst hu
  have okN := hN.1
  refine e_aload_n dX5_ways_4 rfl rfl ?_
  refine e_getR dX5_ways_5 fRX5_49 (by exact okN.sh rfl) (by exact okN.rf rfl) (fun _ => rfl) ?_
  refine e_callV1i [] dX5_ways_8 mvmX0_count lkRX5_242 (by exact okN.sh rfl) ⟨by decide, rfl⟩ rfl rfl (Nat.le_of_ble_eq_true rfl) (by decide) (c_count okN hN.2.2.2.1.1 hgd.1 hgr) (fun K k1 => ?_)
  obtain ⟨r1, r2⟩ := hN.asked k1
  exact e_iret dX5_ways_11 rfl rfl (cpo_ok r1 (hfc.trans r2))
theorem c_heavy {B : Bd} {M : Mm} {s : Sx} {x : Int32} (h : CI M s) : Ct B mX5_heavy 34 1 6 [.ref 0, .int x] M (CPo [xIA] M (sHeavy s x)) := by
  have ok := h.1
  have hgd := h.2.2.2.1.2
  refine Ct.of (by decide) rfl rfl (Nat.le_of_ble_eq_true rfl) ?_
  have need : ∀ z : Int32, (¬ z = 0 ↔ (x = 0 ∨ x = 1)) → Ev B mX5_heavy 34 1 6 (CPo [xIA] M (sHeavy s x)) 15 [some (.ref 0), some (.int x)] [.int z, .ref 0] M := by
    intro z hz
    refine e_callV (rc1 := 1) (rs1 := 6) (rc2 := 0) (rs2 := 0) [_] dX5_heavy_15 mvmX5_needArgument lkRX5_82 (by exact ok.sh rfl) ⟨by decide, rfl⟩ rfl rfl (Nat.le_of_ble_eq_true rfl) (by decide) (by decide) (by decide) (c_needArgument (z := z) ok) (fun v N h1 => ?_) (fun v N h1 => ?_)
    · obtain ⟨p1, rfl, rfl⟩ := h1.t
      have hx := hz.mp p1
      refine e_aload_n dX5_heavy_18 rfl rfl ?_
      refine e_callV1 [] dX5_heavy_19 mvmX5_learn lkRX5_149 (by exact ok.sh rfl) ⟨by decide, rfl⟩ rfl rfl (Nat.le_of_ble_eq_true rfl) (by decide) (c_learn5 h) (fun u N h2 => ?_)
      obtain ⟨hu, hN, hgr, hfc⟩ := h2
      subst hu
      have okN := hN.1
      refine e_iload_n dX5_heavy_22 rfl rfl ?_
      unfold sHeavy
      by_cases h0 : x = 0
      · rw [if_pos h0]
        refine e_if_ne (tgt := 36) dX5_heavy_23 (by decide) (fun hq => ?_) (fun hq => ?_)
        · exact absurd h0 hq
        · refine e_aload_n dX5_heavy_26 rfl rfl ?_
          refine e_getR dX5_heavy_27 fRX5_49 (by exact okN.sh rfl) (by exact okN.rf rfl) (fun _ => rfl) ?_
          refine e_callV1i [] dX5_heavy_30 mvmX0_mostWeight lkRX5_245 (by exact okN.sh rfl) ⟨by decide, rfl⟩ rfl rfl (Nat.le_of_ble_eq_true rfl) (by decide) (c_mostWeight okN hN.2.2.2.1.1 hgd.1 hgr) (fun K k1 => ?_)
          obtain ⟨r1, r2⟩ := hN.asked k1
          refine e_goto (tgt := 43) dX5_heavy_33 (by decide) ?_
          exact e_iret dX5_heavy_43 rfl rfl (cpo_ok r1 (hfc.trans r2))
      · have h1 : x = 1 := hx.elim (fun q => absurd q h0) id
        rw [if_neg h0, if_pos h1]
        refine e_if_ne (tgt := 36) dX5_heavy_23 (by decide) (fun hq => ?_) (fun hq => ?_)
        · refine e_aload_n dX5_heavy_36 rfl rfl ?_
          refine e_getR dX5_heavy_37 fRX5_49 (by exact okN.sh rfl) (by exact okN.rf rfl) (fun _ => rfl) ?_
          refine e_callV1i [] dX5_heavy_40 mvmX0_leastWeight lkRX5_248 (by exact okN.sh rfl) ⟨by decide, rfl⟩ rfl rfl (Nat.le_of_ble_eq_true rfl) (by decide) (c_leastWeight okN hN.2.2.2.1.1 hgd.1 hgr) (fun K k1 => ?_)
          obtain ⟨r1, r2⟩ := hN.asked k1
          exact e_iret dX5_heavy_43 rfl rfl (cpo_ok r1 (hfc.trans r2))
        · exact absurd hq h0
    · obtain ⟨p1, rfl, e2⟩ := h1.x
      have e9 : sHeavy s x = rej 1 1 s := by
        unfold sHeavy
        rw [if_neg (fun q => p1 (hz.mpr (Or.inl q))), if_neg (fun q => p1 (hz.mpr (Or.inr q)))]
      rw [e9]
      exact e_out rfl (cpo_rej h (by decide) rfl e2 FC.rf)
  refine e_aload_n dX5_heavy_0 rfl rfl ?_
  refine e_iload_n dX5_heavy_1 rfl rfl ?_
  refine e_if_eq (tgt := 10) dX5_heavy_2 (by decide) (fun hq => ?_) (fun hq => ?_)
  · refine e_iconst (v := 1) dX5_heavy_10 (by decide) ?_
    refine e_goto (tgt := 15) dX5_heavy_11 (by decide) ?_
    exact need 1 ⟨fun _ => Or.inl hq, fun _ => by decide⟩
  · refine e_iload_n dX5_heavy_5 rfl rfl ?_
    refine e_iconst (v := 1) dX5_heavy_6 (by decide) ?_
    refine e_icmp_ne (tgt := 14) dX5_heavy_7 (by decide) (fun hq2 => ?_) (fun hq2 => ?_)
    · refine e_iconst (v := 0) dX5_heavy_14 (by decide) ?_
      exact need 0 ⟨fun q => absurd rfl q, fun q => q.elim (fun w => absurd w hq) (fun w => absurd w hq2)⟩
    · refine e_iconst (v := 1) dX5_heavy_10 (by decide) ?_
      refine e_goto (tgt := 15) dX5_heavy_11 (by decide) ?_
      exact need 1 ⟨fun _ => Or.inr hq2, fun _ => by decide⟩
theorem c_placeInRow {B : Bd} {M : Mm} {l : List Nat} {x : Int32} (ok : OkM M) (hr : RowAt M l) (hl : l.length ≤ 12) : Ct B mX5_placeInRow 6 1 6 [.ref 0, .int x] M (fun o N => (∃ n y, x = nI n ∧ l[n]? = some y ∧ o = .inl (some (.int (nI y))) ∧ N = M) ∨ (¬ (0 ≤ x.toInt ∧ x.toInt < l.length) ∧ o = .inr xNS ∧ N = sI M 27 0 (M.2.1 27 0 + 1))) := by
  refine Ct.of (by decide) rfl rfl (Nat.le_of_ble_eq_true rfl) ?_
  have bad : ¬ (0 ≤ x.toInt ∧ x.toInt < l.length) → Ev B mX5_placeInRow 6 1 6 (fun o N => (∃ n y, x = nI n ∧ l[n]? = some y ∧ o = .inl (some (.int (nI y))) ∧ N = M) ∨ (¬ (0 ≤ x.toInt ∧ x.toInt < l.length) ∧ o = .inr xNS ∧ N = sI M 27 0 (M.2.1 27 0 + 1))) 15 [some (.ref 0), some (.int x)] [] M := by
    intro hno
    refine e_aload_n dX5_placeInRow_15 rfl rfl ?_
    refine e_getR dX5_placeInRow_16 fRX5_67 (by exact ok.sh rfl) (by exact ok.rf rfl) (fun _ => rfl) ?_
    refine e_iconst (v := 0) dX5_placeInRow_19 (by decide) ?_
    refine e_dup2 dX5_placeInRow_20 rfl rfl ?_
    refine e_iaload dX5_placeInRow_21 (by exact ok.sh rfl) (by exact vp_in_nI (n := 0) (N := 3) (by decide) (by decide)) ?_
    refine e_iconst (v := 1) dX5_placeInRow_22 (by decide) ?_
    refine e_iadd dX5_placeInRow_23 ?_
    refine e_iastore dX5_placeInRow_24 (by exact ok.sh rfl) (by exact vp_in_nI (n := 0) (N := 3) (by decide) (by decide)) ?_
    refine e_throwW th_place dX5_placeInRow_25 dX5_placeInRow_28 dX5_placeInRow_29 dX5_placeInRow_32 dX5_placeInRow_35 rfl (by decide) (by decide) (by decide) (Nat.le_of_ble_eq_true rfl) ?_
    have okN : OkM (sI M 27 (0 : Int32).toNatClampNeg (M.2.1 27 (0 : Int32).toNatClampNeg + 1)) := ok
    rw [loose_ok okN]
    exact Or.inr ⟨hno, rfl, rfl⟩
  refine e_iload_n dX5_placeInRow_0 rfl rfl ?_
  refine e_if_lt (tgt := 15) dX5_placeInRow_1 (by decide) (fun hq => ?_) (fun hq => ?_)
  · have := (lt0 x).mp hq
    exact bad (fun q => by omega)
  · have h0 : ¬ x.toInt < 0 := fun q => hq ((lt0 x).mpr q)
    refine e_iload_n dX5_placeInRow_4 rfl rfl ?_
    refine e_aload_n dX5_placeInRow_5 rfl rfl ?_
    refine e_getR dX5_placeInRow_6 fRX5_63 (by exact ok.sh rfl) (by exact ok.rf rfl) (fun _ => rfl) ?_
    refine e_getI dX5_placeInRow_9 fRX5_251 (by exact ok.sh rfl) (fun _ => rfl) ?_
    rw [hr.1]
    refine e_icmp_lt (tgt := 36) dX5_placeInRow_12 (by decide) (fun hq2 => ?_) (fun hq2 => ?_)
    · rw [fa_lt, nI_toInt (by omega)] at hq2
      obtain ⟨e1, e2⟩ := toN (x := x) (k := l.length) (by omega) (by omega) (by omega)
      generalize hn : x.toInt.toNat = n at e1 e2
      have hnl : n < l.length := by omega
      have hg : l[n]? = some l[n] := List.getElem?_eq_getElem hnl
      refine e_aload_n dX5_placeInRow_36 rfl rfl ?_
      refine e_getR dX5_placeInRow_37 fRX5_63 (by exact ok.sh rfl) (by exact ok.rf rfl) (fun _ => rfl) ?_
      refine e_getR dX5_placeInRow_40 fRX5_281 (by exact ok.sh rfl) (by exact ok.rf rfl) (fun _ => rfl) ?_
      refine e_iload_n dX5_placeInRow_43 rfl rfl ?_
      refine e_iaload dX5_placeInRow_44 (by exact ok.sh rfl) (by (rw [e1]; exact vp_in_nI (show n < 12 by omega) (by decide))) ?_
      have e3 : x.toNatClampNeg = n := by rw [e1]; exact nI_clamp (by omega)
      rw [e3, hr.2 n _ hg]
      exact e_iret dX5_placeInRow_45 rfl rfl (Or.inl ⟨n, _, e1, hg, rfl, rfl⟩)
    · rw [fa_lt, nI_toInt (by omega)] at hq2
      exact bad (fun q => hq2 q.2)
theorem c_path {B : Bd} {M : Mm} {s : Sx} {x i : Int32} (h : CI M s) : Ct B mX5_path 8 2 12 [.ref 0, .int x, .int i] M (CPo [xNS] M (sPath s x i)) := by
  have ok := h.1
  have hn := h.2.2.2.1.1
  have hgd := h.2.2.2.1.2
  have hg12 := hgd.1.1.2
  refine Ct.of (by decide) rfl rfl (Nat.le_of_ble_eq_true rfl) ?_
  refine e_aload_n dX5_path_0 rfl rfl ?_
  refine e_iload_n dX5_path_1 rfl rfl ?_
  refine e_callV (rc1 := 1) (rs1 := 6) (rc2 := 1) (rs2 := 6) [_] dX5_path_2 mvmX5_needNode lkRX5_102 (by exact ok.sh rfl) ⟨by decide, rfl⟩ rfl rfl (Nat.le_of_ble_eq_true rfl) (by decide) (by decide) (by decide) (c_needNode (x := x) ok hn hg12) (fun v N h1 => ?_) (fun v N h1 => ?_)
  · obtain ⟨p1, rfl, rfl⟩ := h1.t
    obtain ⟨a, na, ha, rfl⟩ := nod_of hg12 p1
    have e8 : sPath s (nI a) i = sRow s (pth (sgg s) a) 1 i := by unfold sPath; rw [na]
    rw [e8]
    refine e_aload_n dX5_path_5 rfl rfl ?_
    refine e_getR dX5_path_6 fRX5_63 (by exact ok.sh rfl) (by exact ok.rf rfl) (fun _ => rfl) ?_
    refine e_aload_n dX5_path_9 rfl rfl ?_
    refine e_getR dX5_path_10 fRX5_23 (by exact ok.sh rfl) (by exact ok.rf rfl) (fun _ => rfl) ?_
    refine e_iload_n dX5_path_13 rfl rfl ?_
    refine e_callV1 [_, _] dX5_path_14 mvmX4_findBetterPath lkRX5_142 (by exact ok.sh rfl) ⟨by decide, rfl⟩ rfl rfl (Nat.le_of_ble_eq_true rfl) (by decide) (c_findBetterPath ok hn hgd.1 ha h.2.2.2.2.2.1.2.2) (fun u N h2 => ?_)
    obtain ⟨hu, hrow, hw, hf⟩ := h2
    subst hu
    have hN := h.walks hf hw
    have okN := hN.1
    have hfc := hf.FC (by decide)
    cases hp : pth (sgg s) a with
    | none =>
      rw [if_neg (by intro q; cases q)]
      refine e_if_ne (tgt := 22) dX5_path_17 (by decide) (fun hz => absurd rfl hz) (fun _ => ?_)
      refine e_iconst (v := (-1)) dX5_path_20 (by decide) ?_
      exact e_iret dX5_path_21 rfl rfl (cpo_ok hN hfc)
    | some l =>
      rw [if_pos (by rfl)]
      have hr := hrow l hp
      have hl : 1 ≤ l.length ∧ l.length ≤ 12 := by
        obtain ⟨l1, l2, -⟩ := pth_ok hgd ha hp
        have hne : l ≠ [] := by
          intro q
          unfold pth at hp
          split at hp
          · cases hp
          · split at hp
            · cases hp
            · rename_i r _
              cases hfb : fbs (sgg s) a r with
              | none => rw [hfb] at hp; cases hp
              | some e =>
                rw [hfb] at hp
                have : r.reverse ++ [e] = l := Option.some.inj hp
                rw [q] at this
                exact absurd this (by simp)
        have : 0 < l.length := List.length_pos_iff.mpr hne
        omega
      refine e_if_ne (tgt := 22) dX5_path_17 (by decide) (fun _ => ?_) (fun hz => absurd hz (by decide))
      refine e_iload_n dX5_path_22 rfl rfl ?_
      refine e_iconst (v := (-1)) dX5_path_23 (by decide) ?_
      unfold sRow
      dsimp only
      by_cases hi : i = -1
      · rw [if_pos hi]
        refine e_icmp_ne (tgt := 39) dX5_path_24 (by decide) (fun hq => ?_) (fun hq => ?_)
        · exact absurd hi hq
        · refine e_aload_n dX5_path_27 rfl rfl ?_
          refine e_getR dX5_path_28 fRX5_63 (by exact okN.sh rfl) (by exact okN.rf rfl) (fun _ => rfl) ?_
          refine e_getI dX5_path_31 fRX5_251 (by exact okN.sh rfl) (fun _ => rfl) ?_
          rw [hr.1]
          refine e_iconst (v := 1) dX5_path_34 (by decide) ?_
          refine e_isub dX5_path_35 ?_
          rw [nI_m1 hl.1]
          refine e_goto (tgt := 44) dX5_path_36 (by decide) ?_
          exact e_iret dX5_path_44 rfl rfl (cpo_ok hN hfc)
      · rw [if_neg hi]
        refine e_icmp_ne (tgt := 39) dX5_path_24 (by decide) (fun hq => ?_) (fun hq => ?_)
        · refine e_aload_n dX5_path_39 rfl rfl ?_
          refine e_iload_n dX5_path_40 rfl rfl ?_
          refine e_callV (rc1 := 1) (rs1 := 6) (rc2 := 0) (rs2 := 0) [_] dX5_path_41 mvmX5_placeInRow lkRX5_254 (by exact okN.sh rfl) ⟨by decide, rfl⟩ rfl rfl (Nat.le_of_ble_eq_true rfl) (by decide) (by decide) (by decide) (c_placeInRow (x := i) okN hr hl.2) (fun v K h3 => ?_) (fun v K h3 => ?_)
          · rcases h3 with ⟨n, y, e1, e2, e3, e4⟩ | ⟨-, e3, -⟩
            · cases e3
              obtain rfl := e4.symm
              have hnl : n < l.length := by
                rcases Nat.lt_or_ge n l.length with z | z
                · exact z
                · rw [List.getElem?_eq_none z] at e2; cases e2
              have e5 : i.toInt = (n : Int) := by rw [e1]; exact nI_toInt (by omega)
              have e6 : l.getD i.toInt.toNat 0 = y := by rw [e5, Int.toNat_natCast, List.getD_eq_getElem?_getD, e2]; rfl
              rw [if_pos (by omega), e6]
              exact e_iret dX5_path_44 rfl rfl (cpo_ok hN hfc)
            · cases e3
          · rcases h3 with ⟨n, y, e1, e2, e3, e4⟩ | ⟨p3, e3, e4⟩
            · cases e3
            · cases e3
              rw [if_neg p3]
              exact e_out rfl (cpo_rej hN (by decide) rfl e4 hfc)
        · exact absurd hq hi
  · obtain ⟨p1, rfl, e2⟩ := h1.x
    have e8 : sPath s x i = rej 1 0 s := by unfold sPath; rw [nod_no p1]
    rw [e8]
    exact e_out rfl (cpo_rej h (by decide) rfl e2 FC.rf)
theorem c_flower {B : Bd} {M : Mm} {s : Sx} {x i : Int32} (h : CI M s) : Ct B mX5_flower 8 2 12 [.ref 0, .int x, .int i] M (CPo [xNS] M (sFlower s x i)) := by
  have ok := h.1
  have hn := h.2.2.2.1.1
  have hgd := h.2.2.2.1.2
  have hg12 := hgd.1.1.2
  refine Ct.of (by decide) rfl rfl (Nat.le_of_ble_eq_true rfl) ?_
  refine e_aload_n dX5_flower_0 rfl rfl ?_
  refine e_iload_n dX5_flower_1 rfl rfl ?_
  refine e_callV (rc1 := 1) (rs1 := 6) (rc2 := 1) (rs2 := 6) [_] dX5_flower_2 mvmX5_needNode lkRX5_102 (by exact ok.sh rfl) ⟨by decide, rfl⟩ rfl rfl (Nat.le_of_ble_eq_true rfl) (by decide) (by decide) (by decide) (c_needNode (x := x) ok hn hg12) (fun v N h1 => ?_) (fun v N h1 => ?_)
  · obtain ⟨p1, rfl, rfl⟩ := h1.t
    obtain ⟨a, na, ha, rfl⟩ := nod_of hg12 p1
    have e8 : sFlower s (nI a) i = sRow s (flw (sgg s) a) 0 i := by unfold sFlower; rw [na]
    rw [e8]
    refine e_aload_n dX5_flower_5 rfl rfl ?_
    refine e_getR dX5_flower_6 fRX5_63 (by exact ok.sh rfl) (by exact ok.rf rfl) (fun _ => rfl) ?_
    refine e_aload_n dX5_flower_9 rfl rfl ?_
    refine e_getR dX5_flower_10 fRX5_23 (by exact ok.sh rfl) (by exact ok.rf rfl) (fun _ => rfl) ?_
    refine e_iload_n dX5_flower_13 rfl rfl ?_
    refine e_callV1 [_, _] dX5_flower_14 mvmX4_findFlower lkRX5_164 (by exact ok.sh rfl) ⟨by decide, rfl⟩ rfl rfl (Nat.le_of_ble_eq_true rfl) (by decide) (c_findFlower ok hn hgd.1 ha h.2.2.2.2.2.1.2.2) (fun u N h2 => ?_)
    obtain ⟨hu, hrow, hw, hf⟩ := h2
    subst hu
    have hN := h.walks hf hw
    have okN := hN.1
    have hfc := hf.FC (by decide)
    cases hp : flw (sgg s) a with
    | none =>
      rw [if_neg (by intro q; cases q)]
      refine e_if_ne (tgt := 22) dX5_flower_17 (by decide) (fun hz => absurd rfl hz) (fun _ => ?_)
      refine e_iconst (v := (-1)) dX5_flower_20 (by decide) ?_
      exact e_iret dX5_flower_21 rfl rfl (cpo_ok hN hfc)
    | some l =>
      rw [if_pos (by rfl)]
      have hr := hrow l hp
      have hl : 1 ≤ l.length ∧ l.length ≤ 12 := by
        obtain ⟨k, r, hv, hlr⟩ := flw_ok hgd ha hp
        have h1 := Vr_len hv
        have h2 := Vr_k hgd.1 ha hv
        rw [hlr, List.length_reverse]
        omega
      refine e_if_ne (tgt := 22) dX5_flower_17 (by decide) (fun _ => ?_) (fun hz => absurd hz (by decide))
      refine e_iload_n dX5_flower_22 rfl rfl ?_
      refine e_iconst (v := (-1)) dX5_flower_23 (by decide) ?_
      unfold sRow
      dsimp only
      by_cases hi : i = -1
      · rw [if_pos hi]
        refine e_icmp_ne (tgt := 37) dX5_flower_24 (by decide) (fun hq => ?_) (fun hq => ?_)
        · exact absurd hi hq
        · refine e_aload_n dX5_flower_27 rfl rfl ?_
          refine e_getR dX5_flower_28 fRX5_63 (by exact okN.sh rfl) (by exact okN.rf rfl) (fun _ => rfl) ?_
          refine e_getI dX5_flower_31 fRX5_251 (by exact okN.sh rfl) (fun _ => rfl) ?_
          rw [hr.1]
          refine e_goto (tgt := 42) dX5_flower_34 (by decide) ?_
          exact e_iret dX5_flower_42 rfl rfl (cpo_ok hN hfc)
      · rw [if_neg hi]
        refine e_icmp_ne (tgt := 37) dX5_flower_24 (by decide) (fun hq => ?_) (fun hq => ?_)
        · refine e_aload_n dX5_flower_37 rfl rfl ?_
          refine e_iload_n dX5_flower_38 rfl rfl ?_
          refine e_callV (rc1 := 1) (rs1 := 6) (rc2 := 0) (rs2 := 0) [_] dX5_flower_39 mvmX5_placeInRow lkRX5_254 (by exact okN.sh rfl) ⟨by decide, rfl⟩ rfl rfl (Nat.le_of_ble_eq_true rfl) (by decide) (by decide) (by decide) (c_placeInRow (x := i) okN hr hl.2) (fun v K h3 => ?_) (fun v K h3 => ?_)
          · rcases h3 with ⟨n, y, e1, e2, e3, e4⟩ | ⟨-, e3, -⟩
            · cases e3
              obtain rfl := e4.symm
              have hnl : n < l.length := by
                rcases Nat.lt_or_ge n l.length with z | z
                · exact z
                · rw [List.getElem?_eq_none z] at e2; cases e2
              have e5 : i.toInt = (n : Int) := by rw [e1]; exact nI_toInt (by omega)
              have e6 : l.getD i.toInt.toNat 0 = y := by rw [e5, Int.toNat_natCast, List.getD_eq_getElem?_getD, e2]; rfl
              rw [if_pos (by omega), e6]
              exact e_iret dX5_flower_42 rfl rfl (cpo_ok hN hfc)
            · cases e3
          · rcases h3 with ⟨n, y, e1, e2, e3, e4⟩ | ⟨p3, e3, e4⟩
            · cases e3
            · cases e3
              rw [if_neg p3]
              exact e_out rfl (cpo_rej hN (by decide) rfl e4 hfc)
        · exact absurd hq hi
  · obtain ⟨p1, rfl, e2⟩ := h1.x
    have e8 : sFlower s x i = rej 1 0 s := by unfold sFlower; rw [nod_no p1]
    rw [e8]
    exact e_out rfl (cpo_rej h (by decide) rfl e2 FC.rf)

