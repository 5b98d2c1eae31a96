theorem nod_of {g : Nw} (hg : g.1 ≤ 12) {x : Int32} (h : (nod g x).isSome = true) : ∃ a, nod g x = some a ∧ a < g.1 ∧ x = nI a := by
  obtain ⟨a, ha⟩ := Option.isSome_iff_exists.mp h
  exact ⟨a, ha, (nod_some hg).mp ha⟩
theorem nod_no {g : Nw} {x : Int32} (h : ¬ (nod g x).isSome = true) : nod g x = none := by
  cases hh : nod g x with
  | none => rfl
  | some a => rw [hh] at h; exact absurd rfl h
theorem c_join {B : Bd} {M : Mm} {s : Sx} {x y z : Int32} (h : CI M s) : Ct B mX5_join 8 3 18 [.ref 0, .int x, .int y, .int z] M (CPo [xNS, xIA] M (sJoin s x y z)) := by
  have ok := h.1
  have hn := h.2.2.2.1.1
  have hgd := h.2.2.2.1.2
  have hg12 := hgd.1.1.2
  refine Ct.of (by decide) rfl rfl (Nat.le_of_ble_eq_true rfl) ?_
  refine e_aload_n dX5_join_0 rfl rfl ?_
  refine e_iload_n dX5_join_1 rfl rfl ?_
  refine e_callV (rc1 := 1) (rs1 := 6) (rc2 := 2) (rs2 := 12) [_] dX5_join_2 mvmX5_needNode lkRX5_102 (by exact ok.sh rfl) ⟨by decide, rfl⟩ rfl rfl (Nat.le_of_ble_eq_true rfl) (by decide) (by decide) (by decide) (c_needNode (x := x) ok hn hg12) (fun v N h1 => ?_) (fun v N h1 => ?_)
  · obtain ⟨p1, rfl, rfl⟩ := h1.t
    obtain ⟨a, na, ha, rfl⟩ := nod_of hg12 p1
    refine e_aload_n dX5_join_5 rfl rfl ?_
    refine e_iload_n dX5_join_6 rfl rfl ?_
    refine e_callV (rc1 := 1) (rs1 := 6) (rc2 := 1) (rs2 := 6) [_] dX5_join_7 mvmX5_needNode lkRX5_102 (by exact ok.sh rfl) ⟨by decide, rfl⟩ rfl rfl (Nat.le_of_ble_eq_true rfl) (by decide) (by decide) (by decide) (c_needNode (x := y) ok hn hg12) (fun v N h1 => ?_) (fun v N h1 => ?_)
    · obtain ⟨p2, rfl, rfl⟩ := h1.t
      obtain ⟨b, nb, hb, rfl⟩ := nod_of hg12 p2
      have e8 : sJoin s (nI a) (nI b) z = if a ≠ b ∧ 0 ≤ z.toInt ∧ z.toInt ≤ 999 then act s (nI (lnc (w2 (sgg s).2.1 a b (some z.toInt.toNat)))) (gPut (sgg s) a b (some z.toInt.toNat)) else rej 2 1 s := by
        unfold sJoin; rw [na, nb]
      have need : ∀ q : Int32, (¬ q = 0 ↔ (a ≠ b ∧ 0 ≤ z.toInt ∧ z.toInt ≤ 999)) → Ev B mX5_join 8 1 6 (CPo [xNS, xIA] M (sJoin s (nI a) (nI b) z)) 32 [some (.ref 0), some (.int (nI a)), some (.int (nI b)), some (.int z)] [.int q, .ref 0] M := by
        intro q hq
        refine e_callV (rc1 := 1) (rs1 := 6) (rc2 := 0) (rs2 := 0) [_] dX5_join_32 mvmX5_needArgument lkRX5_82 (by exact ok.sh rfl) ⟨by decide, rfl⟩ rfl rfl (Nat.le_of_ble_eq_true rfl) (by decide) (by decide) (by decide) (c_needArgument (z := q) ok) (fun v N h1 => ?_) (fun v N h1 => ?_)
        · obtain ⟨p3, rfl, rfl⟩ := h1.t
          have hx := hq.mp p3
          rw [e8, if_pos hx]
          obtain ⟨e1, e2⟩ := toN hx.2.1 (k := 999) hx.2.2 (by decide)
          generalize z.toInt.toNat = k at e1 e2
          subst e1
          refine e_aload_n dX5_join_35 rfl rfl ?_
          refine e_callV1 [] dX5_join_36 mvmX5_rememberLines lkRX5_105 (by exact ok.sh rfl) ⟨by decide, rfl⟩ rfl rfl (Nat.le_of_ble_eq_true rfl) (by decide) (c_rememberLines h) (fun u N h2 => ?_)
          obtain ⟨hu, q1, q2, q3, q4⟩ := h2
          subst hu
          have okN := q1.1
          have hnN : NetRep N 2 (sgg s) := q1.2.2.2.1.1
          refine e_aload_n dX5_join_39 rfl rfl ?_
          refine e_getR dX5_join_40 fRX5_23 (by exact okN.sh rfl) (by exact okN.rf rfl) (fun _ => rfl) ?_
          refine e_iload_n dX5_join_43 rfl rfl ?_
          refine e_iload_n dX5_join_44 rfl rfl ?_
          refine e_iload_n dX5_join_45 rfl rfl ?_
          refine e_callV1 [_, _, _] dX5_join_46 mvmX1_putLine lkRX5_75 (by exact okN.sh rfl) ⟨by decide, rfl⟩ rfl rfl (Nat.le_of_ble_eq_true rfl) (by decide) (c_putLine (k := k) hnN hgd.1.2.1 (by omega) (by omega) hx.1) (fun u K h3 => ?_)
          obtain ⟨hu, r1, r2⟩ := h3
          subst hu
          have okK := okN.fr r2
          have hK := q1.net q2 r2 r1 (Gd_put hgd ha hb hx.1 e2)
          have hl : K.2.1 2 1 = nI (lnc (w2 (sgg s).2.1 a b (some k))) := r1.2.2.1
          refine e_aload_n dX5_join_49 rfl rfl ?_
          refine e_getR dX5_join_50 fRX5_23 (by exact okK.sh rfl) (by exact okK.rf rfl) (fun _ => rfl) ?_
          refine e_getI dX5_join_53 fRX5_99 (by exact okK.sh rfl) (fun _ => rfl) ?_
          rw [hl]
          exact e_iret dX5_join_56 rfl rfl (cpo_ok hK (q3.trans (r2.FC (by decide))))
        · obtain ⟨p3, rfl, e2⟩ := h1.x
          rw [e8, if_neg (fun w => p3 (hq.mpr w))]
          exact e_out rfl (cpo_rej h (by decide) rfl e2 FC.rf)
      refine e_aload_n dX5_join_10 rfl rfl ?_
      refine e_iload_n dX5_join_11 rfl rfl ?_
      refine e_iload_n dX5_join_12 rfl rfl ?_
      refine e_icmp_eq (tgt := 31) dX5_join_13 (by decide) (fun hab => ?_) (fun hab => ?_)
      · rw [nI_eq (by omega) (by omega)] at hab
        refine e_iconst (v := 0) dX5_join_31 (by decide) ?_
        exact need 0 ⟨fun q => absurd rfl q, fun q => absurd hab q.1⟩
      · have hab' : a ≠ b := fun q => hab (by rw [q])
        refine e_iload_n dX5_join_16 rfl rfl ?_
        refine e_if_lt (tgt := 31) dX5_join_17 (by decide) (fun hz => ?_) (fun hz => ?_)
        · have := (lt0 z).mp hz
          refine e_iconst (v := 0) dX5_join_31 (by decide) ?_
          exact need 0 ⟨fun q => absurd rfl q, fun q => by omega⟩
        · have h0 : ¬ z.toInt < 0 := fun q => hz ((lt0 z).mpr q)
          refine e_iload_n dX5_join_20 rfl rfl ?_
          refine e_sipush (v := 999) dX5_join_21 (by decide) ?_
          rw [show (999 : Int32) = nI 999 from fa_lit 999]
          refine e_icmp_gt (tgt := 31) dX5_join_24 (by decide) (fun hz2 => ?_) (fun hz2 => ?_)
          · have := (gtN (k := 999) (by decide)).mp hz2
            refine e_iconst (v := 0) dX5_join_31 (by decide) ?_
            exact need 0 ⟨fun q => absurd rfl q, fun q => by omega⟩
          · have h2 : ¬ ((999 : Nat) : Int) < z.toInt := fun q => hz2 ((gtN (k := 999) (by decide)).mpr q)
            refine e_iconst (v := 1) dX5_join_27 (by decide) ?_
            refine e_goto (tgt := 32) dX5_join_28 (by decide) ?_
            exact need 1 ⟨fun _ => ⟨hab', by omega, by omega⟩, fun _ => by decide⟩
    · obtain ⟨p2, rfl, e2⟩ := h1.x
      have e8 : sJoin s (nI a) y z = rej 1 0 s := by unfold sJoin; rw [na, nod_no p2]
      rw [e8]
      exact e_out rfl (cpo_rej h (by decide) rfl e2 FC.rf)
  · obtain ⟨p1, rfl, e2⟩ := h1.x
    have e8 : sJoin s x y z = rej 1 0 s := by unfold sJoin; rw [nod_no p1]
    rw [e8]
    exact e_out rfl (cpo_rej h (by decide) rfl e2 FC.rf)
theorem c_cut {B : Bd} {M : Mm} {s : Sx} {x y : Int32} (h : CI M s) : Ct B mX5_cut 8 4 24 [.ref 0, .int x, .int y] M (CPo [xNS, xIA, xIS] M (sCut s x y)) := by
  have ok := h.1
  have hn := h.2.2.2.1.1
  have hgd := h.2.2.2.1.2
  have hg12 := hgd.1.1.2
  refine Ct.of (by decide) rfl rfl (Nat.le_of_ble_eq_true rfl) ?_
  refine e_aload_n dX5_cut_0 rfl rfl ?_
  refine e_iload_n dX5_cut_1 rfl rfl ?_
  refine e_iload_n dX5_cut_2 rfl rfl ?_
  refine e_callV (rc1 := 3) (rs1 := 18) (rc2 := 1) (rs2 := 6) [_, _] dX5_cut_3 mvmX5_needTwoNodes lkRX5_108 (by exact ok.sh rfl) ⟨by decide, rfl⟩ rfl rfl (Nat.le_of_ble_eq_true rfl) (by decide) (by decide) (by decide) (c_needTwoNodes (x := x) (y := y) ok hn hg12) (fun v N h1 => ?_) (fun v N h1 => ?_)
  · rcases h1 with ⟨⟨p1, p2⟩, hxy, e1, e2⟩ | ⟨-, e1, -⟩ | ⟨-, -, e1, -⟩
    · cases e1
      obtain rfl := e2.symm
      obtain ⟨a, na, ha, rfl⟩ := nod_of hg12 p1
      obtain ⟨b, nb, hb, rfl⟩ := nod_of hg12 p2
      have hab : a ≠ b := fun q => hxy (by rw [q])
      have e8 : sCut s (nI a) (nI b) = if (sgg s).2.1 a b = none then rej 3 2 s else act s (nI (lnc (gCut (sgg s) a b).2.1)) (gCut (sgg s) a b) := by
        unfold sCut; rw [na, nb]; dsimp only; rw [if_neg hab]
      refine e_aload_n dX5_cut_6 rfl rfl ?_
      refine e_aload_n dX5_cut_7 rfl rfl ?_
      refine e_getR dX5_cut_8 fRX5_23 (by exact ok.sh rfl) (by exact ok.rf rfl) (fun _ => rfl) ?_
      refine e_iload_n dX5_cut_11 rfl rfl ?_
      refine e_iload_n dX5_cut_12 rfl rfl ?_
      refine e_callV0i [_, _] dX5_cut_13 mvmX1_isLine lkRX5_112 (by exact ok.sh rfl) ⟨by decide, rfl⟩ rfl rfl (Nat.le_of_ble_eq_true rfl) (by decide) (c_isLine hn (by omega) (by omega)) ?_
      refine e_callV (rc1 := 1) (rs1 := 6) (rc2 := 0) (rs2 := 0) [_] dX5_cut_16 mvmX5_needState lkRX5_116 (by exact ok.sh rfl) ⟨by decide, rfl⟩ rfl rfl (Nat.le_of_ble_eq_true rfl) (by decide) (by decide) (by decide) (c_needState ok) (fun v N h1 => ?_) (fun v N h1 => ?_)
      · obtain ⟨p3, rfl, rfl⟩ := h1.t
        have hl : ((sgg s).2.1 a b).isSome = true := Classical.byContradiction (fun q => p3 (if_neg q))
        have hne : ¬ (sgg s).2.1 a b = none := fun q => by rw [q] at hl; cases hl
        rw [e8, if_neg hne]
        refine e_aload_n dX5_cut_19 rfl rfl ?_
        refine e_callV1 [] dX5_cut_20 mvmX5_rememberLines lkRX5_105 (by exact ok.sh rfl) ⟨by decide, rfl⟩ rfl rfl (Nat.le_of_ble_eq_true rfl) (by decide) (c_rememberLines h) (fun u N h2 => ?_)
        obtain ⟨hu, q1, q2, q3, q4⟩ := h2
        subst hu
        have okN := q1.1
        have hnN : NetRep N 2 (sgg s) := q1.2.2.2.1.1
        refine e_aload_n dX5_cut_23 rfl rfl ?_
        refine e_getR dX5_cut_24 fRX5_23 (by exact okN.sh rfl) (by exact okN.rf rfl) (fun _ => rfl) ?_
        refine e_iload_n dX5_cut_27 rfl rfl ?_
        refine e_iload_n dX5_cut_28 rfl rfl ?_
        refine e_callV1 [_, _] dX5_cut_29 mvmX1_removeLine lkRX5_119 (by exact okN.sh rfl) ⟨by decide, rfl⟩ rfl rfl (Nat.le_of_ble_eq_true rfl) (by decide) (c_removeLine hnN hgd.1.2.1 (by omega) (by omega) hab (fun a k hk => hgd.1.m a k hk)) (fun u K h3 => ?_)
        obtain ⟨hu, r1, r2⟩ := h3
        subst hu
        have okK := okN.fr r2
        have hgc : Gd (gCut (sgg s) a b) := by
          unfold gCut
          by_cases hm : (sgg s).2.2 a = some b
          · rw [if_pos hm]
            exact Gd_cut (Gd_un hgd) (fun q => ((gUn_iff hgd.1).mp q).2.1 rfl)
          · rw [if_neg hm]; exact Gd_cut hgd hm
        have hK := q1.net (g := gCut (sgg s) a b) q2 r2 r1 hgc
        have hl2 : K.2.1 2 1 = nI (lnc (gCut (sgg s) a b).2.1) := r1.2.2.1
        refine e_aload_n dX5_cut_32 rfl rfl ?_
        refine e_getR dX5_cut_33 fRX5_23 (by exact okK.sh rfl) (by exact okK.rf rfl) (fun _ => rfl) ?_
        refine e_getI dX5_cut_36 fRX5_99 (by exact okK.sh rfl) (fun _ => rfl) ?_
        rw [hl2]
        exact e_iret dX5_cut_39 rfl rfl (cpo_ok hK (q3.trans (r2.FC (by decide))))
      · obtain ⟨p3, rfl, e2⟩ := h1.x
        have hne : (sgg s).2.1 a b = none := by
          cases hh : (sgg s).2.1 a b with
          | none => rfl
          | some k => exact absurd (by rw [hh, if_pos (by rfl)]; decide) p3
        rw [e8, if_pos hne]
        exact e_out rfl (cpo_rej h (by decide) rfl e2 FC.rf)
    · cases e1
    · cases e1
  · rcases h1 with ⟨-, -, e1, -⟩ | ⟨p1, e1, e2⟩ | ⟨⟨p1, p2⟩, hxy, e1, e2⟩
    · cases e1
    · cases e1
      have e8 : sCut s x y = rej 1 0 s := by
        unfold sCut
        cases h1 : nod (sgg s) x with
        | none => rfl
        | some a =>
          cases h2 : nod (sgg s) y with
          | none => rfl
          | some b => exact absurd ⟨by rw [h1]; rfl, by rw [h2]; rfl⟩ p1
      rw [e8]
      exact e_out rfl (cpo_rej h (by decide) rfl e2 FC.rf)
    · cases e1
      obtain ⟨a, na, ha, rfl⟩ := nod_of hg12 p1
      subst hxy
      have e8 : sCut s (nI a) (nI a) = rej 2 1 s := by unfold sCut; rw [na]; dsimp only; rw [if_pos rfl]
      rw [e8]
      exact e_out rfl (cpo_rej h (by decide) rfl e2 FC.rf)
theorem c_pair {B : Bd} {M : Mm} {s : Sx} {x y : Int32} (h : CI M s) : Ct B mX5_pair 8 4 24 [.ref 0, .int x, .int y] M (CPo [xNS, xIA, xIS] M (sPair s x y)) := by
  have ok := h.1
  have hn := h.2.2.2.1.1
  have hgd := h.2.2.2.1.2
  have hg12 := hgd.1.1.2
  refine Ct.of (by decide) rfl rfl (Nat.le_of_ble_eq_true rfl) ?_
  refine e_aload_n dX5_pair_0 rfl rfl ?_
  refine e_iload_n dX5_pair_1 rfl rfl ?_
  refine e_iload_n dX5_pair_2 rfl rfl ?_
  refine e_callV (rc1 := 3) (rs1 := 18) (rc2 := 1) (rs2 := 6) [_, _] dX5_pair_3 mvmX5_needTwoNodes lkRX5_108 (by exact ok.sh rfl) ⟨by decide, rfl⟩ rfl rfl (Nat.le_of_ble_eq_true rfl) (by decide) (by decide) (by decide) (c_needTwoNodes (x := x) (y := y) ok hn hg12) (fun v N h1 => ?_) (fun v N h1 => ?_)
  · rcases h1 with ⟨⟨p1, p2⟩, hxy, e1, e2⟩ | ⟨-, e1, -⟩ | ⟨-, -, e1, -⟩
    · cases e1
      obtain rfl := e2.symm
      obtain ⟨a, na, ha, rfl⟩ := nod_of hg12 p1
      obtain ⟨b, nb, hb, rfl⟩ := nod_of hg12 p2
      have hab : a ≠ b := fun q => hxy (by rw [q])
      have e8 : sPair s (nI a) (nI b) = if (sgg s).2.1 a b = none ∨ (sgg s).2.2 a ≠ none ∨ (sgg s).2.2 b ≠ none then rej 3 2 s else act s (nI (cpr (gPair (sgg s) a b))) (gPair (sgg s) a b) := by
        unfold sPair; rw [na, nb]; dsimp only; rw [if_neg hab]
      have need : ∀ q : Int32, (q = 0 ↔ ((sgg s).2.1 a b = none ∨ (sgg s).2.2 a ≠ none ∨ (sgg s).2.2 b ≠ none)) → Ev B mX5_pair 8 1 6 (CPo [xNS, xIA, xIS] M (sPair s (nI a) (nI b))) 46 [some (.ref 0), some (.int (nI a)), some (.int (nI b))] [.int q, .ref 0] M := by
        intro q hq
        refine e_callV (rc1 := 1) (rs1 := 6) (rc2 := 0) (rs2 := 0) [_] dX5_pair_46 mvmX5_needState lkRX5_116 (by exact ok.sh rfl) ⟨by decide, rfl⟩ rfl rfl (Nat.le_of_ble_eq_true rfl) (by decide) (by decide) (by decide) (c_needState (z := q) ok) (fun v N h1 => ?_) (fun v N h1 => ?_)
        · obtain ⟨p3, rfl, rfl⟩ := h1.t
          have hx : ¬ ((sgg s).2.1 a b = none ∨ (sgg s).2.2 a ≠ none ∨ (sgg s).2.2 b ≠ none) := fun w => p3 (hq.mpr w)
          have ma : (sgg s).2.2 a = none := Classical.byContradiction (fun w => hx (Or.inr (Or.inl w)))
          have mb : (sgg s).2.2 b = none := Classical.byContradiction (fun w => hx (Or.inr (Or.inr w)))
          have hl : ((sgg s).2.1 a b).isSome = true := by
            cases hh : (sgg s).2.1 a b with
            | none => exact absurd (Or.inl hh) hx
            | some k => rfl
          rw [e8, if_neg hx]
          refine e_aload_n dX5_pair_49 rfl rfl ?_
          refine e_callV1 [] dX5_pair_50 mvmX5_remember lkRX5_126 (by exact ok.sh rfl) ⟨by decide, rfl⟩ rfl rfl (Nat.le_of_ble_eq_true rfl) (by decide) (c_remember h) (fun u N h2 => ?_)
          obtain ⟨hu, q1, q2, q3⟩ := h2
          subst hu
          have okN := q1.1
          have hnN : NetRep N 2 (sgg s) := q1.2.2.2.1.1
          refine e_aload_n dX5_pair_53 rfl rfl ?_
          refine e_getR dX5_pair_54 fRX5_23 (by exact okN.sh rfl) (by exact okN.rf rfl) (fun _ => rfl) ?_
          refine e_iload_n dX5_pair_57 rfl rfl ?_
          refine e_iload_n dX5_pair_58 rfl rfl ?_
          refine e_callV1 [_, _] dX5_pair_59 mvmX1_putPair lkRX5_129 (by exact okN.sh rfl) ⟨by decide, rfl⟩ rfl rfl (Nat.le_of_ble_eq_true rfl) (by decide) (c_putPair hnN (by omega) (by omega) hab) (fun u K h3 => ?_)
          obtain ⟨hu, r1, r2⟩ := h3
          subst hu
          have okK := okN.fr r2
          have hgp : Gd (gPair (sgg s) a b) := Gd_pair hgd ha hb hab ma mb hl
          have hK := q1.mates (m := (gPair (sgg s) a b).2.2) r2 r1 hgp
          refine e_aload_n dX5_pair_62 rfl rfl ?_
          refine e_getR dX5_pair_63 fRX5_23 (by exact okK.sh rfl) (by exact okK.rf rfl) (fun _ => rfl) ?_
          refine e_callV0i [] dX5_pair_66 mvmX1_countPairs lkRX5_132 (by exact okK.sh rfl) ⟨by decide, rfl⟩ rfl rfl (Nat.le_of_ble_eq_true rfl) (by decide) (c_countPairs (g := gPair (sgg s) a b) r1 hg12 (fun a k hk => hgp.1.m a k hk)) ?_
          exact e_iret dX5_pair_69 rfl rfl (cpo_ok hK (q2.trans (r2.FC (by decide))))
        · obtain ⟨p3, rfl, e2⟩ := h1.x
          rw [e8, if_pos (hq.mp (Classical.byContradiction (fun w => p3 w)))]
          exact e_out rfl (cpo_rej h (by decide) rfl e2 FC.rf)
      refine e_aload_n dX5_pair_6 rfl rfl ?_
      refine e_aload_n dX5_pair_7 rfl rfl ?_
      refine e_getR dX5_pair_8 fRX5_23 (by exact ok.sh rfl) (by exact ok.rf rfl) (fun _ => rfl) ?_
      refine e_iload_n dX5_pair_11 rfl rfl ?_
      refine e_iload_n dX5_pair_12 rfl rfl ?_
      refine e_callV0i [_, _] dX5_pair_13 mvmX1_isLine lkRX5_112 (by exact ok.sh rfl) ⟨by decide, rfl⟩ rfl rfl (Nat.le_of_ble_eq_true rfl) (by decide) (c_isLine hn (by omega) (by omega)) ?_
      cases hl : (sgg s).2.1 a b with
      | none =>
        rw [if_neg (by intro q; cases q)]
        refine e_if_eq (tgt := 45) dX5_pair_16 (by decide) (fun hz => ?_) (fun hz => ?_)
        · refine e_iconst (v := 0) dX5_pair_45 (by decide) ?_
          exact need 0 ⟨fun _ => Or.inl hl, fun _ => rfl⟩
        · exact absurd rfl hz
      | some k =>
        rw [if_pos (by rfl)]
        refine e_if_eq (tgt := 45) dX5_pair_16 (by decide) (fun hz => ?_) (fun hz => ?_)
        · exact absurd hz (by decide)
        · refine e_aload_n dX5_pair_19 rfl rfl ?_
          refine e_getR dX5_pair_20 fRX5_23 (by exact ok.sh rfl) (by exact ok.rf rfl) (fun _ => rfl) ?_
          refine e_iload_n dX5_pair_23 rfl rfl ?_
          refine e_callV0i [_] dX5_pair_24 mvmX1_isFree lkRX5_122 (by exact ok.sh rfl) ⟨by decide, rfl⟩ rfl rfl (Nat.le_of_ble_eq_true rfl) (by decide) (c_isFree hn (by omega) (fun k hk => hgd.1.m a k hk)) ?_
          by_cases ma : (sgg s).2.2 a = none
          · rw [if_pos ma]
            refine e_if_eq (tgt := 45) dX5_pair_27 (by decide) (fun hz1 => ?_) (fun hz1 => ?_)
            · exact absurd hz1 (by decide)
            · refine e_aload_n dX5_pair_30 rfl rfl ?_
              refine e_getR dX5_pair_31 fRX5_23 (by exact ok.sh rfl) (by exact ok.rf rfl) (fun _ => rfl) ?_
              refine e_iload_n dX5_pair_34 rfl rfl ?_
              refine e_callV0i [_] dX5_pair_35 mvmX1_isFree lkRX5_122 (by exact ok.sh rfl) ⟨by decide, rfl⟩ rfl rfl (Nat.le_of_ble_eq_true rfl) (by decide) (c_isFree hn (by omega) (fun k hk => hgd.1.m b k hk)) ?_
              by_cases mb : (sgg s).2.2 b = none
              · rw [if_pos mb]
                refine e_if_eq (tgt := 45) dX5_pair_38 (by decide) (fun hz2 => ?_) (fun hz2 => ?_)
                · exact absurd hz2 (by decide)
                · refine e_iconst (v := 1) dX5_pair_41 (by decide) ?_
                  refine e_goto (tgt := 46) dX5_pair_42 (by decide) ?_
                  refine need 1 ⟨fun q => absurd q (by decide), ?_⟩
                  rintro (q | q | q)
                  · rw [hl] at q; cases q
                  · exact absurd ma q
                  · exact absurd mb q
              · rw [if_neg mb]
                refine e_if_eq (tgt := 45) dX5_pair_38 (by decide) (fun hz2 => ?_) (fun hz2 => ?_)
                · refine e_iconst (v := 0) dX5_pair_45 (by decide) ?_
                  exact need 0 ⟨fun _ => Or.inr (Or.inr mb), fun _ => rfl⟩
                · exact absurd rfl hz2
          · rw [if_neg ma]
            refine e_if_eq (tgt := 45) dX5_pair_27 (by decide) (fun hz1 => ?_) (fun hz1 => ?_)
            · refine e_iconst (v := 0) dX5_pair_45 (by decide) ?_
              exact need 0 ⟨fun _ => Or.inr (Or.inl ma), fun _ => rfl⟩
            · exact absurd rfl hz1
    · cases e1
    · cases e1
  · rcases h1 with ⟨-, -, e1, -⟩ | ⟨p1, e1, e2⟩ | ⟨⟨p1, p2⟩, hxy, e1, e2⟩
    · cases e1
    · cases e1
      have e8 : sPair s x y = rej 1 0 s := by
        unfold sPair
        cases h1 : nod (sgg s) x with
        | none => rfl
        | some a =>
          cases h2 : nod (sgg s) y with
          | none => rfl
          | some b => exact absurd ⟨by rw [h1]; rfl, by rw [h2]; rfl⟩ p1
      rw [e8]
      exact e_out rfl (cpo_rej h (by decide) rfl e2 FC.rf)
    · cases e1
      obtain ⟨a, na, ha, rfl⟩ := nod_of hg12 p1
      subst hxy
      have e8 : sPair s (nI a) (nI a) = rej 2 1 s := by unfold sPair; rw [na]; dsimp only; rw [if_pos rfl]
      rw [e8]
      exact e_out rfl (cpo_rej h (by decide) rfl e2 FC.rf)
theorem c_part {B : Bd} {M : Mm} {s : Sx} {x : Int32} (h : CI M s) : Ct B mX5_part 8 2 12 [.ref 0, .int x] M (CPo [xNS, xIS] M (sPart s x)) := by
  have ok := h.1
  have hn := h.2.2.2.1.1
  have hgd := h.2.2.2.1.2
  have hg12 := hgd.1.1.2
  refine Ct.of (by decide) rfl rfl (Nat.le_of_ble_eq_true rfl) ?_
  refine e_aload_n dX5_part_0 rfl rfl ?_
  refine e_iload_n dX5_part_1 rfl rfl ?_
  refine e_callV (rc1 := 1) (rs1 := 6) (rc2 := 1) (rs2 := 6) [_] dX5_part_2 mvmX5_needNode lkRX5_102 (by exact ok.sh rfl) ⟨by decide, rfl⟩ rfl rfl (Nat.le_of_ble_eq_true rfl) (by decide) (by decide) (by decide) (c_needNode (x := x) ok hn hg12) (fun v N h1 => ?_) (fun v N h1 => ?_)
  · obtain ⟨p1, rfl, rfl⟩ := h1.t
    obtain ⟨a, na, ha, rfl⟩ := nod_of hg12 p1
    have need : ∀ q : Int32, (q = 0 ↔ (sgg s).2.2 a = none) → Ev B mX5_part 8 1 6 (CPo [xNS, xIS] M (sPart s (nI a))) 22 [some (.ref 0), some (.int (nI a)), none] [.int q, .ref 0] M := by
      intro q hq
      refine e_callV (rc1 := 1) (rs1 := 6) (rc2 := 0) (rs2 := 0) [_] dX5_part_22 mvmX5_needState lkRX5_116 (by exact ok.sh rfl) ⟨by decide, rfl⟩ rfl rfl (Nat.le_of_ble_eq_true rfl) (by decide) (by decide) (by decide) (c_needState (z := q) ok) (fun v N h1 => ?_) (fun v N h1 => ?_)
      · obtain ⟨p3, rfl, rfl⟩ := h1.t
        cases hm : (sgg s).2.2 a with
        | none => exact absurd (hq.mpr hm) p3
        | some b =>
          have e8 : sPart s (nI a) = act s (nI b) (gUn (sgg s) a) := by unfold sPart; rw [na]; dsimp only; rw [hm]
          rw [e8]
          refine e_aload_n dX5_part_25 rfl rfl ?_
          refine e_callV1 [] dX5_part_26 mvmX5_remember lkRX5_126 (by exact ok.sh rfl) ⟨by decide, rfl⟩ rfl rfl (Nat.le_of_ble_eq_true rfl) (by decide) (c_remember h) (fun u N h2 => ?_)
          obtain ⟨hu, q1, q2, q3⟩ := h2
          subst hu
          have okN := q1.1
          have hnN : NetRep N 2 (sgg s) := q1.2.2.2.1.1
          refine e_aload_n dX5_part_29 rfl rfl ?_
          refine e_getR dX5_part_30 fRX5_23 (by exact okN.sh rfl) (by exact okN.rf rfl) (fun _ => rfl) ?_
          refine e_getR dX5_part_33 fRX5_136 (by exact okN.sh rfl) (by exact okN.rf rfl) (fun _ => rfl) ?_
          refine e_iload_n dX5_part_36 rfl rfl ?_
          refine e_iaload dX5_part_37 (by exact okN.sh rfl) (by exact vp_in_nI (show a < 12 by omega) (by decide)) ?_
          rw [nI_clamp (by omega), hnN.2.2.2.2.2 a (by omega), hm]
          refine e_istore_n dX5_part_38 rfl (by decide) rfl rfl ?_
          refine e_aload_n dX5_part_39 rfl rfl ?_
          refine e_getR dX5_part_40 fRX5_23 (by exact okN.sh rfl) (by exact okN.rf rfl) (fun _ => rfl) ?_
          refine e_iload_n dX5_part_43 rfl rfl ?_
          refine e_callV1 [_] dX5_part_44 mvmX1_removePair lkRX5_139 (by exact okN.sh rfl) ⟨by decide, rfl⟩ rfl rfl (Nat.le_of_ble_eq_true rfl) (by decide) (c_removePair hnN (by omega) (fun k hk => hgd.1.m a k hk)) (fun u K h3 => ?_)
          obtain ⟨hu, r1, r2⟩ := h3
          subst hu
          have r1' : NetRep K 2 (gUn (sgg s) a) := r1
          have hK := q1.mates (m := (gUn (sgg s) a).2.2) r2 r1' (Gd_un hgd)
          refine e_iload_n dX5_part_47 rfl rfl ?_
          exact e_iret dX5_part_48 rfl rfl (cpo_ok hK (q2.trans (r2.FC (by decide))))
      · obtain ⟨p3, rfl, e2⟩ := h1.x
        have hm := hq.mp (Classical.byContradiction (fun w => p3 w))
        have e8 : sPart s (nI a) = rej 2 2 s := by unfold sPart; rw [na]; dsimp only; rw [hm]
        rw [e8]
        exact e_out rfl (cpo_rej h (by decide) rfl e2 FC.rf)
    refine e_aload_n dX5_part_5 rfl rfl ?_
    refine e_aload_n dX5_part_6 rfl rfl ?_
    refine e_getR dX5_part_7 fRX5_23 (by exact ok.sh rfl) (by exact ok.rf rfl) (fun _ => rfl) ?_
    refine e_iload_n dX5_part_10 rfl rfl ?_
    refine e_callV0i [_] dX5_part_11 mvmX1_isFree lkRX5_122 (by exact ok.sh rfl) ⟨by decide, rfl⟩ rfl rfl (Nat.le_of_ble_eq_true rfl) (by decide) (c_isFree hn (by omega) (fun k hk => hgd.1.m a k hk)) ?_
    by_cases ma : (sgg s).2.2 a = none
    · rw [if_pos ma]
      refine e_if_ne (tgt := 21) dX5_part_14 (by decide) (fun hz1 => ?_) (fun hz1 => ?_)
      · refine e_iconst (v := 0) dX5_part_21 (by decide) ?_
        exact need 0 ⟨fun _ => ma, fun _ => rfl⟩
      · exact absurd hz1 (by decide)
    · rw [if_neg ma]
      refine e_if_ne (tgt := 21) dX5_part_14 (by decide) (fun hz1 => ?_) (fun hz1 => ?_)
      · exact absurd rfl hz1
      · refine e_iconst (v := 1) dX5_part_17 (by decide) ?_
        refine e_goto (tgt := 22) dX5_part_18 (by decide) ?_
        exact need 1 ⟨fun q => absurd q (by decide), fun q => absurd q ma⟩
  · obtain ⟨p1, rfl, e2⟩ := h1.x
    have e8 : sPart s x = rej 1 0 s := by unfold sPart; rw [nod_no p1]
    rw [e8]
    exact e_out rfl (cpo_rej h (by decide) rfl e2 FC.rf)

