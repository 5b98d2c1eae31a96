/-- an argument between 0 and k -/
theorem c_told {B : Bd} {M : Mm} {s : Sx} {x : Int32} (h : CI M s) : Ct B mX5_told 34 1 6 [.ref 0, .int x] M (CPo [xIA] M (sTold s x)) := by
  have ok := h.1
  have c0 := h.2.1
  have hn := h.2.2.2.1.1
  have hgd := h.2.2.2.1.2
  have hg12 := hgd.1.1.2
  refine Ct.of (by decide) rfl rfl (Nat.le_of_ble_eq_true rfl) ?_
  have need : ∀ z : Int32, (¬ z = 0 ↔ (0 ≤ x.toInt ∧ x.toInt ≤ 7)) → Ev B mX5_told 34 1 6 (CPo [xIA] M (sTold s x)) 16 [some (.ref 0), some (.int x)] [.int z, .ref 0] M := by
    intro z hz
    refine e_callV (rc1 := 1) (rs1 := 6) (rc2 := 0) (rs2 := 0) [_] dX5_told_16 mvmX5_needArgument lkRX5_82 (by exact ok.sh rfl) ⟨by decide, rfl⟩ rfl rfl (Nat.le_of_ble_eq_true rfl) (by decide) (by decide) (by decide) (c_needArgument (z := z) ok) (fun v N h1 => ?_) (fun v N h1 => ?_)
    · obtain ⟨p1, rfl, rfl⟩ := h1.t
      have hx := hz.mp p1
      obtain ⟨e1, e2⟩ := toN hx.1 (k := 7) hx.2 (by decide)
      unfold sTold
      rw [if_pos hx]
      generalize x.toInt.toNat = n at e1 e2
      subst e1
      refine e_iload_n dX5_told_19 rfl rfl ?_
      match n, e2 with
      | 0, _ =>
        refine e_swIn (tgt := 64) dX5_told_20 (by decide) (by decide) rfl (by decide) ?_
        refine e_aload_n dX5_told_64 rfl rfl ?_
        refine e_getR dX5_told_65 fRX5_23 (by exact ok.sh rfl) (by exact ok.rf rfl) (fun _ => rfl) ?_
        refine e_getI dX5_told_68 fRX5_171 (by exact ok.sh rfl) (fun _ => rfl) ?_
        rw [hn.2.1]
        exact e_iret dX5_told_71 rfl rfl (cpo_ok h FC.rf)
      | 1, _ =>
        refine e_swIn (tgt := 72) dX5_told_20 (by decide) (by decide) rfl (by decide) ?_
        refine e_aload_n dX5_told_72 rfl rfl ?_
        refine e_getR dX5_told_73 fRX5_23 (by exact ok.sh rfl) (by exact ok.rf rfl) (fun _ => rfl) ?_
        refine e_getI dX5_told_76 fRX5_99 (by exact ok.sh rfl) (fun _ => rfl) ?_
        rw [hn.2.2.1]
        exact e_iret dX5_told_79 rfl rfl (cpo_ok h FC.rf)
      | 2, _ =>
        refine e_swIn (tgt := 80) dX5_told_20 (by decide) (by decide) rfl (by decide) ?_
        refine e_aload_n dX5_told_80 rfl rfl ?_
        refine e_getR dX5_told_81 fRX5_23 (by exact ok.sh rfl) (by exact ok.rf rfl) (fun _ => rfl) ?_
        refine e_callV0i [] dX5_told_84 mvmX1_countPairs lkRX5_132 (by exact ok.sh rfl) ⟨by decide, rfl⟩ rfl rfl (Nat.le_of_ble_eq_true rfl) (by decide) (c_countPairs hn hg12 (fun a k hk => hgd.1.m a k hk)) ?_
        exact e_iret dX5_told_87 rfl rfl (cpo_ok h FC.rf)
      | 3, _ =>
        refine e_swIn (tgt := 88) dX5_told_20 (by decide) (by decide) rfl (by decide) ?_
        refine e_aload_n dX5_told_88 rfl rfl ?_
        refine e_callV1 [] dX5_told_89 mvmX5_learn lkRX5_149 (by exact ok.sh rfl) ⟨by decide, rfl⟩ rfl rfl (Nat.le_of_ble_eq_true rfl) (by decide) (c_learn5 h) (fun u N h2 => ?_)
        obtain ⟨hu, q1, q2, q3⟩ := h2
        subst hu
        have okN := q1.1
        refine e_aload_n dX5_told_92 rfl rfl ?_
        refine e_getR dX5_told_93 fRX5_49 (by exact okN.sh rfl) (by exact okN.rf rfl) (fun _ => rfl) ?_
        refine e_callV1i [] dX5_told_96 mvmX0_size lkRX5_180 (by exact okN.sh rfl) ⟨by decide, rfl⟩ rfl rfl (Nat.le_of_ble_eq_true rfl) (by decide) (c_size okN q1.2.2.2.1.1 hgd.1 q2) (fun K k1 => ?_)
        obtain ⟨r1, r2⟩ := q1.asked k1
        exact e_iret dX5_told_99 rfl rfl (cpo_ok r1 (q3.trans r2))
      | 4, _ =>
        refine e_swIn (tgt := 100) dX5_told_20 (by decide) (by decide) rfl (by decide) ?_
        refine e_aload_n dX5_told_100 rfl rfl ?_
        refine e_callV1 [] dX5_told_101 mvmX5_learn lkRX5_149 (by exact ok.sh rfl) ⟨by decide, rfl⟩ rfl rfl (Nat.le_of_ble_eq_true rfl) (by decide) (c_learn5 h) (fun u N h2 => ?_)
        obtain ⟨hu, q1, q2, q3⟩ := h2
        subst hu
        have okN := q1.1
        refine e_aload_n dX5_told_104 rfl rfl ?_
        refine e_getR dX5_told_105 fRX5_49 (by exact okN.sh rfl) (by exact okN.rf rfl) (fun _ => rfl) ?_
        refine e_callV1i [] dX5_told_108 mvmX0_missing lkRX5_183 (by exact okN.sh rfl) ⟨by decide, rfl⟩ rfl rfl (Nat.le_of_ble_eq_true rfl) (by decide) (c_missing okN q1.2.2.2.1.1 hgd.1 q2) (fun K k1 => ?_)
        obtain ⟨r1, r2⟩ := q1.asked k1
        exact e_iret dX5_told_111 rfl rfl (cpo_ok r1 (q3.trans r2))
      | 5, _ =>
        refine e_swIn (tgt := 112) dX5_told_20 (by decide) (by decide) rfl (by decide) ?_
        refine e_aload_n dX5_told_112 rfl rfl ?_
        refine e_getR dX5_told_113 fRX5_23 (by exact ok.sh rfl) (by exact ok.rf rfl) (fun _ => rfl) ?_
        refine e_callV0i [] dX5_told_116 mvmX1_weighPairs lkRX5_186 (by exact ok.sh rfl) ⟨by decide, rfl⟩ rfl rfl (Nat.le_of_ble_eq_true rfl) (by decide) (c_weighPairs hn hg12 (fun a k hk => hgd.1.m a k hk) hgd.2) ?_
        exact e_iret dX5_told_119 rfl rfl (cpo_ok h FC.rf)
      | 6, _ =>
        refine e_swIn (tgt := 120) dX5_told_20 (by decide) (by decide) rfl (by decide) ?_
        refine e_aload_n dX5_told_120 rfl rfl ?_
        refine e_getI dX5_told_121 fRX5_13 (by exact ok.sh rfl) (fun _ => rfl) ?_
        rw [c0.1]
        exact e_iret dX5_told_124 rfl rfl (cpo_ok h FC.rf)
      | 7, _ =>
        refine e_swOut (tgt := 125) dX5_told_20 (Or.inr (by decide)) (by decide) ?_
        refine e_aload_n dX5_told_125 rfl rfl ?_
        refine e_getI dX5_told_126 fRX5_34 (by exact ok.sh rfl) (fun _ => rfl) ?_
        rw [c0.2.2.2.1]
        exact e_iret dX5_told_129 rfl rfl (cpo_ok h FC.rf)
    · obtain ⟨p1, rfl, e2⟩ := h1.x
      have e9 : sTold s x = rej 1 1 s := by unfold sTold; rw [if_neg (fun q => p1 (hz.mpr q))]
      rw [e9]
      exact e_out rfl (cpo_rej h (by decide) rfl e2 FC.rf)
  refine e_aload_n dX5_told_0 rfl rfl ?_
  refine e_iload_n dX5_told_1 rfl rfl ?_
  refine e_if_lt (tgt := 15) dX5_told_2 (by decide) (fun hq => ?_) (fun hq => ?_)
  · have := (lt0 x).mp hq
    refine e_iconst (v := 0) dX5_told_15 (by decide) ?_
    exact need 0 ⟨fun q => absurd rfl q, fun q => by omega⟩
  · have h0 : ¬ x.toInt < 0 := fun q => hq ((lt0 x).mpr q)
    refine e_iload_n dX5_told_5 rfl rfl ?_
    refine e_bipush (v := 7) dX5_told_6 (by decide) ?_
    rw [show (7 : Int32) = nI 7 from fa_lit 7]
    refine e_icmp_gt (tgt := 15) dX5_told_8 (by decide) (fun hq2 => ?_) (fun hq2 => ?_)
    · have := (gtN (k := 7) (by decide)).mp hq2
      refine e_iconst (v := 0) dX5_told_15 (by decide) ?_
      exact need 0 ⟨fun q => absurd rfl q, fun q => by omega⟩
    · have h2 : ¬ ((7 : Nat) : Int) < x.toInt := fun q => hq2 ((gtN (k := 7) (by decide)).mpr q)
      refine e_iconst (v := 1) dX5_told_11 (by decide) ?_
      refine e_goto (tgt := 16) dX5_told_12 (by decide) ?_
      exact need 1 ⟨fun _ => by omega, fun _ => by decide⟩
theorem c_asNumber {B : Bd} {M : Mm} {p : Prop} [Decidable p] : Ct B mX5_asNumber 0 0 0 [.int (if p then 1 else 0)] M (Is (some (.int (b01 p))) M) := by
  refine Ct.of (by decide) rfl rfl (Nat.le_of_ble_eq_true rfl) ?_
  refine e_iload_n dX5_asNumber_0 rfl rfl ?_
  unfold b01
  by_cases hp : p
  · rw [if_pos hp]
    refine e_if_eq (tgt := 8) dX5_asNumber_1 (by decide) (fun hz => ?_) (fun hz => ?_)
    · exact absurd hz (by decide)
    · refine e_iconst (v := 1) dX5_asNumber_4 (by decide) ?_
      refine e_goto (tgt := 9) dX5_asNumber_5 (by decide) ?_
      exact e_iret dX5_asNumber_9 rfl rfl (⟨rfl, rfl⟩)
  · rw [if_neg hp]
    refine e_if_eq (tgt := 8) dX5_asNumber_1 (by decide) (fun hz => ?_) (fun hz => ?_)
    · refine e_iconst (v := 0) dX5_asNumber_8 (by decide) ?_
      exact e_iret dX5_asNumber_9 rfl rfl (⟨rfl, rfl⟩)
    · exact absurd rfl hz
theorem c_line {B : Bd} {M : Mm} {s : Sx} {x y z : Int32} (h : CI M s) : Ct B mX5_line 34 3 18 [.ref 0, .int x, .int y, .int z] M (CPo [xNS, xIA] M (sLine s x y z)) := by
  have ok := h.1
  have hn := h.2.2.2.1.1
  have hgd := h.2.2.2.1.2
  have hg12 := hgd.1.1.2
  refine Ct.of (by decide) rfl rfl (Nat.le_of_ble_eq_true rfl) ?_
  refine e_aload_n dX5_line_0 rfl rfl ?_
  refine e_iload_n dX5_line_1 rfl rfl ?_
  refine e_callV (rc1 := 1) (rs1 := 6) (rc2 := 2) (rs2 := 12) [_] dX5_line_2 mvmX5_needNode lkRX5_102 (by exact ok.sh rfl) ⟨by decide, rfl⟩ rfl rfl (Nat.le_of_ble_eq_true rfl) (by decide) (by decide) (by decide) (c_needNode (x := x) ok hn hg12) (fun v N h1 => ?_) (fun v N h1 => ?_)
  · obtain ⟨p1, rfl, rfl⟩ := h1.t
    obtain ⟨a, na, ha, rfl⟩ := nod_of hg12 p1
    refine e_aload_n dX5_line_5 rfl rfl ?_
    refine e_iload_n dX5_line_6 rfl rfl ?_
    refine e_callV (rc1 := 1) (rs1 := 6) (rc2 := 1) (rs2 := 6) [_] dX5_line_7 mvmX5_needNode lkRX5_102 (by exact ok.sh rfl) ⟨by decide, rfl⟩ rfl rfl (Nat.le_of_ble_eq_true rfl) (by decide) (by decide) (by decide) (c_needNode (x := y) ok hn hg12) (fun v N h1 => ?_) (fun v N h1 => ?_)
    · obtain ⟨p2, rfl, rfl⟩ := h1.t
      obtain ⟨b, nb, hb, rfl⟩ := nod_of hg12 p2
      have need : ∀ q : Int32, (¬ q = 0 ↔ (a ≠ b ∧ 0 ≤ z.toInt ∧ z.toInt ≤ 4)) → Ev B mX5_line 34 1 6 (CPo [xNS, xIA] M (sLine s (nI a) (nI b) z)) 30 [some (.ref 0), some (.int (nI a)), some (.int (nI b)), some (.int z)] [.int q, .ref 0] M := by
        intro q hq
        refine e_callV (rc1 := 1) (rs1 := 6) (rc2 := 0) (rs2 := 0) [_] dX5_line_30 mvmX5_needArgument lkRX5_82 (by exact ok.sh rfl) ⟨by decide, rfl⟩ rfl rfl (Nat.le_of_ble_eq_true rfl) (by decide) (by decide) (by decide) (c_needArgument (z := q) ok) (fun v N h1 => ?_) (fun v N h1 => ?_)
        · obtain ⟨p3, rfl, rfl⟩ := h1.t
          have hx := hq.mp p3
          obtain ⟨e1, e2⟩ := toN hx.2.1 (k := 4) hx.2.2 (by decide)
          unfold sLine
          rw [na, nb]
          dsimp only
          rw [if_pos hx]
          generalize z.toInt.toNat = n at e1 e2
          subst e1
          refine e_iload_n dX5_line_33 rfl rfl ?_
          match n, e2 with
          | 0, _ =>
            refine e_swIn (tgt := 64) dX5_line_34 (by decide) (by decide) rfl (by decide) ?_
            refine e_aload_n dX5_line_64 rfl rfl ?_
            refine e_getR dX5_line_65 fRX5_23 (by exact ok.sh rfl) (by exact ok.rf rfl) (fun _ => rfl) ?_
            refine e_iload_n dX5_line_68 rfl rfl ?_
            refine e_iload_n dX5_line_69 rfl rfl ?_
            refine e_callV0i [_, _] dX5_line_70 mvmX1_isLine lkRX5_112 (by exact ok.sh rfl) ⟨by decide, rfl⟩ rfl rfl (Nat.le_of_ble_eq_true rfl) (by decide) (c_isLine hn (by omega) (by omega)) ?_
            refine e_callS0i [_] dX5_line_73 msmX5_asNumber lkRX5_189 rfl rfl (Nat.le_of_ble_eq_true rfl) (by decide) (c_asNumber (p := ((sgg s).2.1 a b).isSome = true)) ?_
            exact e_iret dX5_line_76 rfl rfl (cpo_ok h FC.rf)
          | 1, _ =>
            refine e_swIn (tgt := 77) dX5_line_34 (by decide) (by decide) rfl (by decide) ?_
            refine e_aload_n dX5_line_77 rfl rfl ?_
            refine e_getR dX5_line_78 fRX5_23 (by exact ok.sh rfl) (by exact ok.rf rfl) (fun _ => rfl) ?_
            refine e_iload_n dX5_line_81 rfl rfl ?_
            refine e_iload_n dX5_line_82 rfl rfl ?_
            refine e_callV0i [_, _] dX5_line_83 mvmX1_weightOf lkRX5_193 (by exact ok.sh rfl) ⟨by decide, rfl⟩ rfl rfl (Nat.le_of_ble_eq_true rfl) (by decide) (c_weightOf hn (by omega) (by omega)) ?_
            exact e_iret dX5_line_86 rfl rfl (cpo_ok h FC.rf)
          | 2, _ =>
            refine e_swIn (tgt := 87) dX5_line_34 (by decide) (by decide) rfl (by decide) ?_
            refine e_aload_n dX5_line_87 rfl rfl ?_
            refine e_getR dX5_line_88 fRX5_23 (by exact ok.sh rfl) (by exact ok.rf rfl) (fun _ => rfl) ?_
            refine e_getR dX5_line_91 fRX5_136 (by exact ok.sh rfl) (by exact ok.rf rfl) (fun _ => rfl) ?_
            refine e_iload_n dX5_line_94 rfl rfl ?_
            refine e_iaload dX5_line_95 (by exact ok.sh rfl) (by exact vp_in_nI (show a < 12 by omega) (by decide)) ?_
            rw [nI_clamp (by omega), hn.2.2.2.2.2 a (by omega)]
            refine e_iload_n dX5_line_96 rfl rfl ?_
            have hws : wI ((sgg s).2.2 a) = nI b ↔ (sgg s).2.2 a = some b := wI_some (fun k hk => by have := hgd.1.m a k hk; omega) (by omega)
            have fin : Ev B mX5_line 34 0 0 (CPo [xNS, xIA] M (okR (b01 ((sgg s).2.2 a = some b)) s)) 105 [some (.ref 0), some (.int (nI a)), some (.int (nI b)), some (.int (nI 2))] [.int (if (sgg s).2.2 a = some b then 1 else 0)] M := by
              refine e_callS0i [_] dX5_line_105 msmX5_asNumber lkRX5_189 rfl rfl (Nat.le_of_ble_eq_true rfl) (by decide) (c_asNumber (p := (sgg s).2.2 a = some b)) ?_
              exact e_iret dX5_line_108 rfl rfl (cpo_ok h FC.rf)
            refine e_icmp_ne (tgt := 104) dX5_line_97 (by decide) (fun hc => ?_) (fun hc => ?_)
            · rw [if_neg (fun w => hc (hws.mpr w))] at fin
              refine e_iconst (v := 0) dX5_line_104 (by decide) ?_
              exact fin
            · rw [if_pos (hws.mp hc)] at fin
              refine e_iconst (v := 1) dX5_line_100 (by decide) ?_
              refine e_goto (tgt := 105) dX5_line_101 (by decide) ?_
              exact fin
          | 3, _ =>
            refine e_swIn (tgt := 109) dX5_line_34 (by decide) (by decide) rfl (by decide) ?_
            refine e_aload_n dX5_line_109 rfl rfl ?_
            refine e_callV1 [] dX5_line_110 mvmX5_learn lkRX5_149 (by exact ok.sh rfl) ⟨by decide, rfl⟩ rfl rfl (Nat.le_of_ble_eq_true rfl) (by decide) (c_learn5 h) (fun u N h2 => ?_)
            obtain ⟨hu, q1, q2, q3⟩ := h2
            subst hu
            have okN := q1.1
            have hnN : NetRep N 2 (sgg s) := q1.2.2.2.1.1
            refine e_aload_n dX5_line_113 rfl rfl ?_
            refine e_getR dX5_line_114 fRX5_49 (by exact okN.sh rfl) (by exact okN.rf rfl) (fun _ => rfl) ?_
            refine e_iload_n dX5_line_117 rfl rfl ?_
            refine e_iload_n dX5_line_118 rfl rfl ?_
            refine e_callV1i [_, _] dX5_line_119 mvmX0_someHave lkRX5_197 (by exact okN.sh rfl) ⟨by decide, rfl⟩ rfl rfl (Nat.le_of_ble_eq_true rfl) (by decide) (c_someHave okN hnN hgd.1 q2 (by omega) (by omega) (if ((sgg s).2.1 a b).isSome = true ∧ mst (sgg s) (wo (sgg s) a b) + 1 = mst (sgg s) (al (sgg s)) then 1 else 0) (fun w => if_pos w) (fun w => if_neg w)) (fun K k1 => ?_)
            refine e_callS0i [_] dX5_line_122 msmX5_asNumber lkRX5_189 rfl rfl (Nat.le_of_ble_eq_true rfl) (by decide) (c_asNumber (p := ((sgg s).2.1 a b).isSome = true ∧ mst (sgg s) (wo (sgg s) a b) + 1 = mst (sgg s) (al (sgg s)))) ?_
            obtain ⟨r1, r2⟩ := q1.asked k1
            exact e_iret dX5_line_125 rfl rfl (cpo_ok r1 (q3.trans r2))
          | 4, _ =>
            refine e_swOut (tgt := 126) dX5_line_34 (Or.inr (by decide)) (by decide) ?_
            refine e_aload_n dX5_line_126 rfl rfl ?_
            refine e_callV1 [] dX5_line_127 mvmX5_learn lkRX5_149 (by exact ok.sh rfl) ⟨by decide, rfl⟩ rfl rfl (Nat.le_of_ble_eq_true rfl) (by decide) (c_learn5 h) (fun u N h2 => ?_)
            obtain ⟨hu, q1, q2, q3⟩ := h2
            subst hu
            have okN := q1.1
            have hnN : NetRep N 2 (sgg s) := q1.2.2.2.1.1
            refine e_aload_n dX5_line_130 rfl rfl ?_
            refine e_getR dX5_line_131 fRX5_49 (by exact okN.sh rfl) (by exact okN.rf rfl) (fun _ => rfl) ?_
            refine e_iload_n dX5_line_134 rfl rfl ?_
            refine e_iload_n dX5_line_135 rfl rfl ?_
            refine e_callV1i [_, _] dX5_line_136 mvmX0_allHave lkRX5_200 (by exact okN.sh rfl) ⟨by decide, rfl⟩ rfl rfl (Nat.le_of_ble_eq_true rfl) (by decide) (c_allHave okN hnN hgd.1 q2 (by omega) (by omega) (if (((sgg s).2.1 a b).isSome = true ∧ mst (sgg s) (wo (sgg s) a b) + 1 = mst (sgg s) (al (sgg s))) ∧ cnq (sgg s) (wo (sgg s) a b) = cnq (sgg s) (al (sgg s)) then 1 else 0) (fun w => if_pos w) (fun w => if_neg w)) (fun K k1 => ?_)
            refine e_callS0i [_] dX5_line_139 msmX5_asNumber lkRX5_189 rfl rfl (Nat.le_of_ble_eq_true rfl) (by decide) (c_asNumber (p := (((sgg s).2.1 a b).isSome = true ∧ mst (sgg s) (wo (sgg s) a b) + 1 = mst (sgg s) (al (sgg s))) ∧ cnq (sgg s) (wo (sgg s) a b) = cnq (sgg s) (al (sgg s)))) ?_
            obtain ⟨r1, r2⟩ := q1.asked k1
            exact e_iret dX5_line_142 rfl rfl (cpo_ok r1 (q3.trans r2))
        · obtain ⟨p3, rfl, e2⟩ := h1.x
          have e8 : sLine s (nI a) (nI b) z = rej 2 1 s := by unfold sLine; rw [na, nb]; dsimp only; rw [if_neg (fun w => p3 (hq.mpr w))]
          rw [e8]
          exact e_out rfl (cpo_rej h (by decide) rfl e2 FC.rf)
      refine e_aload_n dX5_line_10 rfl rfl ?_
      refine e_iload_n dX5_line_11 rfl rfl ?_
      refine e_iload_n dX5_line_12 rfl rfl ?_
      refine e_icmp_eq (tgt := 29) dX5_line_13 (by decide) (fun hab => ?_) (fun hab => ?_)
      · rw [nI_eq (by omega) (by omega)] at hab
        refine e_iconst (v := 0) dX5_line_29 (by decide) ?_
        exact need 0 ⟨fun q => absurd rfl q, fun q => absurd hab q.1⟩
      · have hab' : a ≠ b := fun q => hab (by rw [q])
        refine e_iload_n dX5_line_16 rfl rfl ?_
        refine e_if_lt (tgt := 29) dX5_line_17 (by decide) (fun hz => ?_) (fun hz => ?_)
        · have := (lt0 z).mp hz
          refine e_iconst (v := 0) dX5_line_29 (by decide) ?_
          exact need 0 ⟨fun q => absurd rfl q, fun q => by omega⟩
        · have h0 : ¬ z.toInt < 0 := fun q => hz ((lt0 z).mpr q)
          refine e_iload_n dX5_line_20 rfl rfl ?_
          refine e_iconst (v := 4) dX5_line_21 (by decide) ?_
          rw [show (4 : Int32) = nI 4 from fa_lit 4]
          refine e_icmp_gt (tgt := 29) dX5_line_22 (by decide) (fun hz2 => ?_) (fun hz2 => ?_)
          · have := (gtN (k := 4) (by decide)).mp hz2
            refine e_iconst (v := 0) dX5_line_29 (by decide) ?_
            exact need 0 ⟨fun q => absurd rfl q, fun q => by omega⟩
          · have h2 : ¬ ((4 : Nat) : Int) < z.toInt := fun q => hz2 ((gtN (k := 4) (by decide)).mpr q)
            refine e_iconst (v := 1) dX5_line_25 (by decide) ?_
            refine e_goto (tgt := 30) dX5_line_26 (by decide) ?_
            exact need 1 ⟨fun _ => ⟨hab', by omega, by omega⟩, fun _ => by decide⟩
    · obtain ⟨p2, rfl, e2⟩ := h1.x
      have e8 : sLine s (nI a) y z = rej 1 0 s := by unfold sLine; rw [na, nod_no p2]
      rw [e8]
      exact e_out rfl (cpo_rej h (by decide) rfl e2 FC.rf)
  · obtain ⟨p1, rfl, e2⟩ := h1.x
    have e8 : sLine s x y z = rej 1 0 s := by unfold sLine; rw [nod_no p1]
    rw [e8]
    exact e_out rfl (cpo_rej h (by decide) rfl e2 FC.rf)
theorem lab_lt {g : Nw} (wf : Wfn g) (k : Nat) : lab g k < 4096 := by
  have hE : ∀ a, a ≤ g.1 → lbE g a < 4096 := by
    intro a
    induction a with
    | zero => intro _; show 0 < 4096; decide
    | succ a ih =>
      intro ha
      show (if g.2.2 a = none then (wlk g a).foldl mE (lbE g a) else lbE g a) < 4096
      split
      · have key : ∀ (Q : List Rw) (m : Nat), (∀ r, r ∈ Q → hd r < 12) → m < 4096 → Q.foldl mE m < 4096 := by
          intro Q
          induction Q with
          | nil => intro m _ h; exact h
          | cons r Q ih =>
            intro m hr hm
            exact ih _ (fun q hq => hr q (List.mem_cons_of_mem _ hq)) (Nat.or_lt_two_pow (n := 12) hm (two_lt (hr r (List.mem_cons_self ..))))
        refine key _ _ (fun r hr => ?_) (ih (by omega))
        obtain ⟨j, hj⟩ := wlk_v wf (by omega) hr
        have := Vr_in wf (by omega) hj _ (Vr_hd hj)
        have := wf.1.2
        omega
      · exact ih (by omega)
  have hL : ∀ a, a ≤ g.1 → lbL g a < 4096 := by
    intro a
    induction a with
    | zero => intro _; show 0 < 4096; decide
    | succ a ih =>
      intro ha
      show (if g.2.2 a = none then (wlk g a).foldl (mL g) (lbL g a) else lbL g a) < 4096
      split
      · have key : ∀ (Q : List Rw) (m : Nat), m < 4096 → Q.foldl (mL g) m < 4096 := by
          intro Q
          induction Q with
          | nil => intro m h; exact h
          | cons r Q ih =>
            intro m hm
            exact ih _ (Nat.or_lt_two_pow (n := 12) hm (Nat.lt_of_le_of_lt (dif_le _ _) (nbr_lt _ _)))
        exact key _ _ (ih (by omega))
      · exact ih (by omega)
  have hal : al g < 4096 := by have := al_lt g; have := p12 wf.1.2; omega
  unfold lab
  split
  · exact hE _ (Nat.le_refl _)
  · split
    · exact Nat.lt_of_le_of_lt (dif_le _ _) (hL _ (Nat.le_refl _))
    · exact Nat.lt_of_le_of_lt (dif_le _ _) (Nat.lt_of_le_of_lt (dif_le _ _) hal)
theorem c_labelOf {B : Bd} {M : Mm} {s : Sx} {a : Nat} (h : CI M s) (ha : a < 12) : Ct B mX5_labelOf 5 0 0 [.ref 0, .int (nI a)] M (Rt (fun u N => u = some (.int (if (lab (sgg s) 0).testBit a = true then 0 else if (lab (sgg s) 1).testBit a = true then 1 else 2)) ∧ CI N s ∧ FC M N)) := by
  have ok := h.1
  have hn := h.2.2.2.1.1
  have hgd := h.2.2.2.1.2
  generalize hr : (if (lab (sgg s) 0).testBit a = true then (0 : Int32) else if (lab (sgg s) 1).testBit a = true then 1 else 2 : Int32) = r
  refine Ct.of (by decide) rfl rfl (Nat.le_of_ble_eq_true rfl) ?_
  refine e_aload_n dX5_labelOf_0 rfl rfl ?_
  refine e_getR dX5_labelOf_1 fRX5_63 (by exact ok.sh rfl) (by exact ok.rf rfl) (fun _ => rfl) ?_
  refine e_aload_n dX5_labelOf_4 rfl rfl ?_
  refine e_getR dX5_labelOf_5 fRX5_23 (by exact ok.sh rfl) (by exact ok.rf rfl) (fun _ => rfl) ?_
  refine e_callV1 [_] dX5_labelOf_8 mvmX4_label lkRX5_221 (by exact ok.sh rfl) ⟨by decide, rfl⟩ rfl rfl (Nat.le_of_ble_eq_true rfl) (by decide) (c_label ok hn hgd.1 h.2.2.2.2.2.1.2.2) (fun u N h2 => ?_)
  obtain ⟨hu, l1, l2, hw, hf⟩ := h2
  subst hu
  have hN := h.walks hf hw
  have okN := hN.1
  have hnN : NetRep N 2 (sgg s) := hN.2.2.2.1.1
  have hfc := hf.FC (by decide)
  have b0 := lab_lt hgd.1 0
  have b1 := lab_lt hgd.1 1
  refine e_iconst (v := 0) dX5_labelOf_11 (by decide) ?_
  refine e_istore_n dX5_labelOf_12 rfl (by decide) rfl rfl ?_
  have at2 : (lab (sgg s) 0).testBit a = false → (lab (sgg s) 1).testBit a = false → Ev B mX5_labelOf 5 0 0 (Rt (fun u N => u = some (.int r) ∧ CI N s ∧ FC M N)) 13 [some (.ref 0), some (.int (nI a)), some (.int (nI 2))] [] N := by
    intro q0 q1
    refine e_iload_n dX5_labelOf_13 rfl rfl ?_
    refine e_iconst (v := 2) dX5_labelOf_14 (by decide) ?_
    refine e_icmp_ge (tgt := 45) dX5_labelOf_15 (by decide) (fun hz => ?_) (fun hz => ?_)
    · refine e_iconst (v := 2) dX5_labelOf_45 (by decide) ?_
      rw [q0, q1, if_neg (by decide), if_neg (by decide)] at hr
      rw [← hr]
      exact e_iret dX5_labelOf_46 rfl rfl ⟨_, rfl, rfl, hN, hfc⟩
    · exact absurd (by decide) hz
  have at1 : (lab (sgg s) 0).testBit a = false → Ev B mX5_labelOf 5 0 0 (Rt (fun u N => u = some (.int r) ∧ CI N s ∧ FC M N)) 13 [some (.ref 0), some (.int (nI a)), some (.int (nI 1))] [] N := by
    intro q0
    refine e_iload_n dX5_labelOf_13 rfl rfl ?_
    refine e_iconst (v := 2) dX5_labelOf_14 (by decide) ?_
    refine e_icmp_ge (tgt := 45) dX5_labelOf_15 (by decide) (fun hz => ?_) (fun hz => ?_)
    · exact absurd hz (by decide)
    · refine e_aload_n dX5_labelOf_18 rfl rfl ?_
      refine e_getR dX5_labelOf_19 fRX5_63 (by exact okN.sh rfl) (by exact okN.rf rfl) (fun _ => rfl) ?_
      refine e_aload_n dX5_labelOf_22 rfl rfl ?_
      refine e_getR dX5_labelOf_23 fRX5_23 (by exact okN.sh rfl) (by exact okN.rf rfl) (fun _ => rfl) ?_
      refine e_iload_n dX5_labelOf_26 rfl rfl ?_
      refine e_callV0i [_, _] dX5_labelOf_27 mvmX4_bitsOfLabel lkRX5_224 (by exact okN.sh rfl) ⟨by decide, rfl⟩ rfl rfl (Nat.le_of_ble_eq_true rfl) (by decide) (c_bitsOfLabel (k := 1) okN hnN hgd.1 (by decide) l1 l2) ?_
      refine e_iload_n dX5_labelOf_30 rfl rfl ?_
      refine e_callS0i [_, _] dX5_labelOf_31 msmX5_hasBit lkRX5_293 rfl rfl (Nat.le_of_ble_eq_true rfl) (by decide) (c_hasBit (k := lab (sgg s) 1) (j := a) (by omega) (by omega)) ?_
      by_cases hb : (lab (sgg s) 1).testBit a = true
      · rw [if_pos hb]
        refine e_if_eq (tgt := 39) dX5_labelOf_34 (by decide) (fun hz2 => ?_) (fun hz2 => ?_)
        · exact absurd hz2 (by decide)
        · refine e_iload_n dX5_labelOf_37 rfl rfl ?_
          rw [q0, if_neg (by decide), if_pos hb] at hr
          rw [← hr]
          exact e_iret dX5_labelOf_38 rfl rfl ⟨_, rfl, rfl, hN, hfc⟩
      · have hb' : (lab (sgg s) 1).testBit a = false := by
          cases hh : (lab (sgg s) 1).testBit a with
          | false => rfl
          | true => exact absurd hh hb
        rw [if_neg hb]
        refine e_if_eq (tgt := 39) dX5_labelOf_34 (by decide) (fun hz2 => ?_) (fun hz2 => ?_)
        · refine e_iinc (v := nI 2) dX5_labelOf_39 rfl (by decide) (by decide) rfl rfl ?_
          refine e_goto (tgt := 13) dX5_labelOf_42 (by decide) ?_
          exact at2 q0 hb'
        · exact absurd rfl hz2
  refine e_iload_n dX5_labelOf_13 rfl rfl ?_
  refine e_iconst (v := 2) dX5_labelOf_14 (by decide) ?_
  refine e_icmp_ge (tgt := 45) dX5_labelOf_15 (by decide) (fun hz => absurd hz (by decide)) (fun _ => ?_)
  refine e_aload_n dX5_labelOf_18 rfl rfl ?_
  refine e_getR dX5_labelOf_19 fRX5_63 (by exact okN.sh rfl) (by exact okN.rf rfl) (fun _ => rfl) ?_
  refine e_aload_n dX5_labelOf_22 rfl rfl ?_
  refine e_getR dX5_labelOf_23 fRX5_23 (by exact okN.sh rfl) (by exact okN.rf rfl) (fun _ => rfl) ?_
  refine e_iload_n dX5_labelOf_26 rfl rfl ?_
  refine e_callV0i [_, _] dX5_labelOf_27 mvmX4_bitsOfLabel lkRX5_224 (by exact okN.sh rfl) ⟨by decide, rfl⟩ rfl rfl (Nat.le_of_ble_eq_true rfl) (by decide) (c_bitsOfLabel (k := 0) okN hnN hgd.1 (by decide) l1 l2) ?_
  refine e_iload_n dX5_labelOf_30 rfl rfl ?_
  refine e_callS0i [_, _] dX5_labelOf_31 msmX5_hasBit lkRX5_293 rfl rfl (Nat.le_of_ble_eq_true rfl) (by decide) (c_hasBit (k := lab (sgg s) 0) (j := a) (by omega) (by omega)) ?_
  by_cases hb : (lab (sgg s) 0).testBit a = true
  · rw [if_pos hb]
    refine e_if_eq (tgt := 39) dX5_labelOf_34 (by decide) (fun hz2 => ?_) (fun hz2 => ?_)
    · exact absurd hz2 (by decide)
    · refine e_iload_n dX5_labelOf_37 rfl rfl ?_
      rw [if_pos hb] at hr
      rw [← hr]
      exact e_iret dX5_labelOf_38 rfl rfl ⟨_, rfl, rfl, hN, hfc⟩
  · have hb' : (lab (sgg s) 0).testBit a = false := by
      cases hh : (lab (sgg s) 0).testBit a with
      | false => rfl
      | true => exact absurd hh hb
    rw [if_neg hb]
    refine e_if_eq (tgt := 39) dX5_labelOf_34 (by decide) (fun hz2 => ?_) (fun hz2 => ?_)
    · refine e_iinc (v := nI 1) dX5_labelOf_39 rfl (by decide) (by decide) rfl rfl ?_
      refine e_goto (tgt := 13) dX5_labelOf_42 (by decide) ?_
      exact at1 hb'
    · exact absurd rfl hz2
theorem setz_lt {g : Nw} (wf : Wfn g) (k : Nat) : setz g k < 4096 := by
  have hal : al g < 4096 := by have := al_lt g; have := p12 wf.1.2; omega
  unfold setz
  split
  · exact mask_12 _ wf.1.2
  · split
    · exact mask_12 _ wf.1.2
    · exact Nat.lt_of_le_of_lt (dif_le _ _) (Nat.lt_of_le_of_lt (dif_le _ _) hal)
theorem c_setOf {B : Bd} {M : Mm} {s : Sx} {a : Nat} (h : CI M s) (ha : a < 12) : Ct B mX5_setOf 32 0 0 [.ref 0, .int (nI a)] M (Rt (fun u N => u = some (.int (if (setz (sgg s) 0).testBit a = true then 0 else if (setz (sgg s) 1).testBit a = true then 1 else 2)) ∧ CI N s ∧ FC M N)) := by
  have ok := h.1
  have hgd := h.2.2.2.1.2
  generalize hr : (if (setz (sgg s) 0).testBit a = true then (0 : Int32) else if (setz (sgg s) 1).testBit a = true then 1 else 2 : Int32) = r
  refine Ct.of (by decide) rfl rfl (Nat.le_of_ble_eq_true rfl) ?_
  refine e_aload_n dX5_setOf_0 rfl rfl ?_
  refine e_callV1 [] dX5_setOf_1 mvmX5_learn lkRX5_149 (by exact ok.sh rfl) ⟨by decide, rfl⟩ rfl rfl (Nat.le_of_ble_eq_true rfl) (by decide) (c_learn5 h) (fun u N h2 => ?_)
  obtain ⟨hu, hN, hgr, hfc⟩ := h2
  subst hu
  have okN := hN.1
  have hnN : NetRep N 2 (sgg s) := hN.2.2.2.1.1
  have b0 := setz_lt hgd.1 0
  have b1 := setz_lt hgd.1 1
  refine e_iconst (v := 0) dX5_setOf_4 (by decide) ?_
  refine e_istore_n dX5_setOf_5 rfl (by decide) rfl rfl ?_
  have at2 : ∀ N2, GP (sgg s) N N2 → (setz (sgg s) 0).testBit a = false → (setz (sgg s) 1).testBit a = false → Ev B mX5_setOf 32 0 0 (Rt (fun u N => u = some (.int r) ∧ CI N s ∧ FC M N)) 6 [some (.ref 0), some (.int (nI a)), some (.int (nI 2))] [] N2 := by
    intro N2 hP q0 q1
    obtain ⟨r1, r2⟩ := hN.asked hP
    refine e_iload_n dX5_setOf_6 rfl rfl ?_
    refine e_iconst (v := 2) dX5_setOf_7 (by decide) ?_
    refine e_icmp_ge (tgt := 34) dX5_setOf_8 (by decide) (fun hz => ?_) (fun hz => ?_)
    · refine e_iconst (v := 2) dX5_setOf_34 (by decide) ?_
      rw [q0, q1, if_neg (by decide), if_neg (by decide)] at hr
      rw [← hr]
      exact e_iret dX5_setOf_35 rfl rfl ⟨_, rfl, rfl, r1, hfc.trans r2⟩
    · exact absurd (by decide) hz
  have at1 : ∀ N2, GP (sgg s) N N2 → (setz (sgg s) 0).testBit a = false → Ev B mX5_setOf 32 0 0 (Rt (fun u N => u = some (.int r) ∧ CI N s ∧ FC M N)) 6 [some (.ref 0), some (.int (nI a)), some (.int (nI 1))] [] N2 := by
    intro N2 hP q0
    have ok2 := okN.fl hP.2
    refine e_iload_n dX5_setOf_6 rfl rfl ?_
    refine e_iconst (v := 2) dX5_setOf_7 (by decide) ?_
    refine e_icmp_ge (tgt := 34) dX5_setOf_8 (by decide) (fun hz => ?_) (fun hz => ?_)
    · exact absurd hz (by decide)
    · refine e_aload_n dX5_setOf_11 rfl rfl ?_
      refine e_getR dX5_setOf_12 fRX5_49 (by exact ok2.sh rfl) (by exact ok2.rf rfl) (fun _ => rfl) ?_
      refine e_iload_n dX5_setOf_15 rfl rfl ?_
      refine e_callV1i [_] dX5_setOf_16 mvmX0_bitsOfSet lkRX5_218 (by exact ok2.sh rfl) ⟨by decide, rfl⟩ rfl rfl (Nat.le_of_ble_eq_true rfl) (by decide) (c_bitsOfSet (k := 1) ok2 (hnN.fl hP.2) hgd.1 hP.1 (by decide)) (fun N3 h3 => ?_)
      have hP3 : GP (sgg s) N N3 := ⟨h3.1, hP.2.trans h3.2⟩
      obtain ⟨r1, r2⟩ := hN.asked hP3
      refine e_iload_n dX5_setOf_19 rfl rfl ?_
      refine e_callS0i [_, _] dX5_setOf_20 msmX5_hasBit lkRX5_293 rfl rfl (Nat.le_of_ble_eq_true rfl) (by decide) (c_hasBit (k := setz (sgg s) 1) (j := a) (by omega) (by omega)) ?_
      by_cases hb : (setz (sgg s) 1).testBit a = true
      · rw [if_pos hb]
        refine e_if_eq (tgt := 28) dX5_setOf_23 (by decide) (fun hz2 => ?_) (fun hz2 => ?_)
        · exact absurd hz2 (by decide)
        · refine e_iload_n dX5_setOf_26 rfl rfl ?_
          rw [q0, if_neg (by decide), if_pos hb] at hr
          rw [← hr]
          exact e_iret dX5_setOf_27 rfl rfl ⟨_, rfl, rfl, r1, hfc.trans r2⟩
      · have hb' : (setz (sgg s) 1).testBit a = false := by
          cases hh : (setz (sgg s) 1).testBit a with
          | false => rfl
          | true => exact absurd hh hb
        rw [if_neg hb]
        refine e_if_eq (tgt := 28) dX5_setOf_23 (by decide) (fun hz2 => ?_) (fun hz2 => ?_)
        · refine e_iinc (v := nI 2) dX5_setOf_28 rfl (by decide) (by decide) rfl rfl ?_
          refine e_goto (tgt := 6) dX5_setOf_31 (by decide) ?_
          exact at2 N3 hP3 q0 hb'
        · exact absurd rfl hz2
  refine e_iload_n dX5_setOf_6 rfl rfl ?_
  refine e_iconst (v := 2) dX5_setOf_7 (by decide) ?_
  refine e_icmp_ge (tgt := 34) dX5_setOf_8 (by decide) (fun hz => absurd hz (by decide)) (fun _ => ?_)
  refine e_aload_n dX5_setOf_11 rfl rfl ?_
  refine e_getR dX5_setOf_12 fRX5_49 (by exact okN.sh rfl) (by exact okN.rf rfl) (fun _ => rfl) ?_
  refine e_iload_n dX5_setOf_15 rfl rfl ?_
  refine e_callV1i [_] dX5_setOf_16 mvmX0_bitsOfSet lkRX5_218 (by exact okN.sh rfl) ⟨by decide, rfl⟩ rfl rfl (Nat.le_of_ble_eq_true rfl) (by decide) (c_bitsOfSet (k := 0) okN hnN hgd.1 hgr (by decide)) (fun N3 h3 => ?_)
  obtain ⟨r1, r2⟩ := hN.asked h3
  refine e_iload_n dX5_setOf_19 rfl rfl ?_
  refine e_callS0i [_, _] dX5_setOf_20 msmX5_hasBit lkRX5_293 rfl rfl (Nat.le_of_ble_eq_true rfl) (by decide) (c_hasBit (k := setz (sgg s) 0) (j := a) (by omega) (by omega)) ?_
  by_cases hb : (setz (sgg s) 0).testBit a = true
  · rw [if_pos hb]
    refine e_if_eq (tgt := 28) dX5_setOf_23 (by decide) (fun hz2 => ?_) (fun hz2 => ?_)
    · exact absurd hz2 (by decide)
    · refine e_iload_n dX5_setOf_26 rfl rfl ?_
      rw [if_pos hb] at hr
      rw [← hr]
      exact e_iret dX5_setOf_27 rfl rfl ⟨_, rfl, rfl, r1, hfc.trans r2⟩
  · have hb' : (setz (sgg s) 0).testBit a = false := by
      cases hh : (setz (sgg s) 0).testBit a with
      | false => rfl
      | true => exact absurd hh hb
    rw [if_neg hb]
    refine e_if_eq (tgt := 28) dX5_setOf_23 (by decide) (fun hz2 => ?_) (fun hz2 => ?_)
    · refine e_iinc (v := nI 1) dX5_setOf_28 rfl (by decide) (by decide) rfl rfl ?_
      refine e_goto (tgt := 6) dX5_setOf_31 (by decide) ?_
      exact at1 N3 h3 hb'
    · exact absurd rfl hz2

