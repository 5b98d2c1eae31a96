/-! Walks: labels; better pairs -/
def mE (m : Nat) (r : Rw) : Nat := m ||| 2 ^ hd r
def mL (g : Nw) (m : Nat) (r : Rw) : Nat := m ||| dif (nbr g.2.1 (hd r)) (so r)
/-- only the labels have changed -/
def Lf (M N : Mm) : Prop := Fr 19 19 M N ∧ ∀ j, j ≠ 3 → j ≠ 4 → N.2.1 19 j = M.2.1 19 j
theorem Lf.rf {M : Mm} : Lf M M := ⟨Fr.rf, fun _ _ _ => rfl⟩
theorem Lf.trans {M N K : Mm} (h1 : Lf M N) (h2 : Lf N K) : Lf M K := ⟨h1.1.trans h2.1, fun j hj hk => (h2.2 j hj hk).trans (h1.2 j hj hk)⟩
theorem Lf.e {M N : Mm} (h : Lf M N) {v : Int32} : Lf M (sI N 19 3 v) := ⟨h.1.sI (by decide) (by decide), fun j hj hk => by rw [rd_ni hj]; exact h.2 j hj hk⟩
theorem Lf.l {M N : Mm} (h : Lf M N) {v : Int32} : Lf M (sI N 19 4 v) := ⟨h.1.sI (by decide) (by decide), fun j hj hk => by rw [rd_ni hk]; exact h.2 j hj hk⟩
theorem Lf.at {M N : Mm} (h : Lf M N) {c : Nat} (hc : 20 ≤ c) : N.2.1 c = M.2.1 c := h.1.2.2 c (by omega)
theorem WA.lf {g : Nw} {a : Nat} {M N : Mm} {Q : List Rw} (h : WA g a M Q) (hf : Lf M N) : WA g a N Q := by
  have e25 := hf.at (c := 21) (by decide)
  have e26 := hf.at (c := 22) (by decide)
  have e27 := hf.at (c := 23) (by decide)
  have e28 := hf.at (c := 26) (by decide)
  refine ⟨⟨by rw [hf.2 2 (by decide) (by decide)]; exact h.1.1, fun i r hi => by rw [e25, e26]; exact h.1.2.1 i r hi, ⟨fun P hP => by rw [e28]; exact h.1.2.2.1.1 P hP, fun i r hi => by rw [hf.at (c := 25) (by decide)]; exact h.1.2.2.1.2.1 i r hi, fun x y q1 q2 q3 => by rw [hf.at (c := 24) (by decide)]; exact h.1.2.2.1.2.2 x y q1 q2 q3⟩, h.1.2.2.2⟩, h.2.1, h.2.2.1, fun i r hi => ?_⟩
  rcases h.2.2.2 i r hi with h1 | ⟨j, b, c, q, h1, h2, h3, h4⟩
  · exact Or.inl h1
  · exact Or.inr ⟨j, b, c, q, h1, h2, by rw [e27]; exact h3, h4⟩
theorem WInv.lf {M N : Mm} (_ : WInv M) (_ : Lf M N) : WInv N := trivial
theorem c_markEnds {B : Bd} {M : Mm} {g : Nw} {a e l : Nat} {Q : List Rw} (ok : OkM M) (hn : NetRep M 2 g) (wf : Wfn g) (ha : a < g.1) (h : WA g a M Q) (he : M.2.1 19 3 = nI e) (hl : M.2.1 19 4 = nI l) : Ct B mX4_markEnds 0 0 0 [.ref 19, .ref 2] M (Rt (fun u N => u = none ∧ N.2.1 19 3 = nI (Q.foldl mE e) ∧ N.2.1 19 4 = nI (Q.foldl (mL g) l) ∧ Lf M N)) := by
  have hlen := len_161 wf ha h.2.1 h.2.2.1
  refine Ct.of (by decide) rfl rfl (Nat.le_of_ble_eq_true rfl) ?_
  have loop : ∀ j i N e' l', i + j = Q.length → Lf M N → N.2.1 19 3 = nI e' → N.2.1 19 4 = nI l' → (Q.drop i).foldl mE e' = Q.foldl mE e → (Q.drop i).foldl (mL g) l' = Q.foldl (mL g) l → Ev B mX4_markEnds 0 0 0 (Rt (fun u N => u = none ∧ N.2.1 19 3 = nI (Q.foldl mE e) ∧ N.2.1 19 4 = nI (Q.foldl (mL g) l) ∧ Lf M N)) 2 [some (.ref 19), some (.ref 2), some (.int (nI i))] [] N := by
    intro j
    induction j with
    | zero =>
      intro i N e' l' hij hf h1 h2 h3 h4
      have okN : OkM N := ok.fr hf.1
      have hw := h.lf hf
      rw [List.drop_eq_nil_of_le (by omega)] at h3 h4
      refine e_iload_n dX4_markEnds_2 rfl rfl ?_
      refine e_aload_n dX4_markEnds_3 rfl rfl ?_
      refine e_getI dX4_markEnds_4 fRX4_19 (by exact okN.sh rfl) (fun _ => rfl) ?_
      rw [hw.1.1]
      refine e_icmp_ge (tgt := 62) dX4_markEnds_7 (by decide) (fun hc => ?_) (fun hc => ?_)
      · exact e_vret dX4_markEnds_62 rfl ⟨none, rfl, rfl, by rw [← h3]; exact h1, by rw [← h4]; exact h2, hf⟩
      · exact absurd (nI_le (by omega) (by omega)) hc
    | succ j ih =>
      intro i N e' l' hij hf h1 h2 h3 h4
      have okN : OkM N := ok.fr hf.1
      have hnN : NetRep N 2 g := hn.fr hf.1 (by omega)
      have hw := h.lf hf
      have hil : i < Q.length := by omega
      have hq : Q[i]? = some Q[i] := List.getElem?_eq_getElem hil
      obtain ⟨s4, x12⟩ := hw.1.2.2.2 Q[i] (get_mem hq)
      obtain ⟨f25, f26⟩ := hw.1.2.1 i Q[i] hq
      rw [List.drop_eq_getElem_cons hil, List.foldl_cons] at h3 h4
      refine e_iload_n dX4_markEnds_2 rfl rfl ?_
      refine e_aload_n dX4_markEnds_3 rfl rfl ?_
      refine e_getI dX4_markEnds_4 fRX4_19 (by exact okN.sh rfl) (fun _ => rfl) ?_
      rw [hw.1.1]
      refine e_icmp_ge (tgt := 62) dX4_markEnds_7 (by decide) (fun hc => ?_) (fun hc => ?_)
      · exact absurd hc (nI_ge hil (by omega))
      · refine e_aload_n dX4_markEnds_10 rfl rfl ?_
        refine e_dup dX4_markEnds_11 rfl ?_
        refine e_getI dX4_markEnds_12 fRX4_22 (by exact okN.sh rfl) (fun _ => rfl) ?_
        rw [h1]
        refine e_iconst (v := 1) dX4_markEnds_15 (by decide) ?_
        refine e_aload_n dX4_markEnds_16 rfl rfl ?_
        refine e_getR dX4_markEnds_17 fRX4_31 (by exact okN.sh rfl) (by exact okN.rf rfl) (fun _ => rfl) ?_
        refine e_iload_n dX4_markEnds_20 rfl rfl ?_
        refine e_iaload dX4_markEnds_21 (by exact okN.sh rfl) (by first | exact vp_in_nI (show i < 161 by omega) (by decide) | exact vp_in_nI x12 (by decide)) ?_
        rw [nI_clamp (by omega), f26]
        refine e_ishl dX4_markEnds_22 ?_
        rw [shl_1 (by omega)]
        refine e_ior dX4_markEnds_23 ?_
        rw [fa_or]
        refine e_putI dX4_markEnds_24 fRX4_22 (by exact okN.sh rfl) rfl rfl rfl (fun _ _ => rfl) ?_
        have hf2 : Lf M (sI N 19 3 (nI (e' ||| 2 ^ hd Q[i]))) := hf.e
        have q1 : (sI N 19 3 (nI (e' ||| 2 ^ hd Q[i]))).2.1 19 4 = nI l' := by rw [rd_ni (by decide)]; exact h2
        have q2 : (sI N 19 3 (nI (e' ||| 2 ^ hd Q[i]))).2.1 19 3 = nI (mE e' Q[i]) := by rw [rd_self]; rfl
        generalize sI N 19 3 (nI (e' ||| 2 ^ hd Q[i])) = N2 at hf2 q1 q2
        have okN2 : OkM N2 := ok.fr hf2.1
        have hnN2 : NetRep N2 2 g := hn.fr hf2.1 (by omega)
        have hw2 := h.lf hf2
        obtain ⟨g25, g26⟩ := hw2.1.2.1 i Q[i] hq
        refine e_aload_n dX4_markEnds_27 rfl rfl ?_
        refine e_dup dX4_markEnds_28 rfl ?_
        refine e_getI dX4_markEnds_29 fRX4_25 (by exact okN2.sh rfl) (fun _ => rfl) ?_
        rw [q1]
        refine e_aload_n dX4_markEnds_32 rfl rfl ?_
        refine e_getR dX4_markEnds_33 fRX4_71 (by exact okN2.sh rfl) (by exact okN2.rf rfl) (fun _ => rfl) ?_
        refine e_aload_n dX4_markEnds_36 rfl rfl ?_
        refine e_getR dX4_markEnds_37 fRX4_31 (by exact okN2.sh rfl) (by exact okN2.rf rfl) (fun _ => rfl) ?_
        refine e_iload_n dX4_markEnds_40 rfl rfl ?_
        refine e_iaload dX4_markEnds_41 (by exact okN2.sh rfl) (by first | exact vp_in_nI (show i < 161 by omega) (by decide) | exact vp_in_nI x12 (by decide)) ?_
        rw [nI_clamp (by omega), g26]
        refine e_iaload dX4_markEnds_42 (by exact okN2.sh rfl) (by first | exact vp_in_nI (show i < 161 by omega) (by decide) | exact vp_in_nI x12 (by decide)) ?_
        rw [nI_clamp (by omega), hnN2.2.2.2.2.1 _ x12]
        refine e_aload_n dX4_markEnds_43 rfl rfl ?_
        refine e_getR dX4_markEnds_44 fRX4_28 (by exact okN2.sh rfl) (by exact okN2.rf rfl) (fun _ => rfl) ?_
        refine e_iload_n dX4_markEnds_47 rfl rfl ?_
        refine e_iaload dX4_markEnds_48 (by exact okN2.sh rfl) (by first | exact vp_in_nI (show i < 161 by omega) (by decide) | exact vp_in_nI x12 (by decide)) ?_
        rw [nI_clamp (by omega), g25]
        refine e_iconst (v := (-1)) dX4_markEnds_49 (by decide) ?_
        refine e_ixor dX4_markEnds_50 ?_
        refine e_iand dX4_markEnds_51 ?_
        rw [andn_nI]
        refine e_ior dX4_markEnds_52 ?_
        rw [fa_or]
        refine e_putI dX4_markEnds_53 fRX4_25 (by exact okN2.sh rfl) rfl rfl rfl (fun _ _ => rfl) ?_
        refine e_iinc (v := nI (i + 1)) dX4_markEnds_56 rfl (nI_1 i) (by decide) rfl rfl ?_
        refine e_goto (tgt := 2) dX4_markEnds_59 (by decide) ?_
        refine ih (i + 1) _ (mE e' Q[i]) (mL g l' Q[i]) (by omega) hf2.l ?_ ?_ h3 h4
        · rw [rd_ni (by decide)]; exact q2
        · rw [rd_self]; rfl
  refine e_iconst (v := 0) dX4_markEnds_0 (by decide) ?_
  refine e_istore_n dX4_markEnds_1 rfl (by decide) rfl rfl ?_
  exact loop Q.length 0 M e l (by omega) Lf.rf he hl rfl rfl
noncomputable def lbE (g : Nw) : Nat → Nat
  | 0 => 0
  | a + 1 => if g.2.2 a = none then (wlk g a).foldl mE (lbE g a) else lbE g a
noncomputable def lbL (g : Nw) : Nat → Nat
  | 0 => 0
  | a + 1 => if g.2.2 a = none then (wlk g a).foldl (mL g) (lbL g a) else lbL g a
theorem c_label {B : Bd} {M : Mm} {g : Nw} (ok : OkM M) (hn : NetRep M 2 g) (wf : Wfn g) (hi : WInv M) : Ct B mX4_label 4 0 0 [.ref 19, .ref 2] M (Rt (fun u N => u = none ∧ N.2.1 19 3 = nI (lbE g g.1) ∧ N.2.1 19 4 = nI (lbL g g.1) ∧ WInv N ∧ Fr 19 26 M N)) := by
  have hg12 := wf.1.2
  refine Ct.of (by decide) rfl rfl (Nat.le_of_ble_eq_true rfl) ?_
  have loop : ∀ j a N, a + j = g.1 → Fr 19 26 M N → WInv N → N.2.1 19 3 = nI (lbE g a) → N.2.1 19 4 = nI (lbL g a) → Ev B mX4_label 4 0 0 (Rt (fun u N => u = none ∧ N.2.1 19 3 = nI (lbE g g.1) ∧ N.2.1 19 4 = nI (lbL g g.1) ∧ WInv N ∧ Fr 19 26 M N)) 12 [some (.ref 19), some (.ref 2), some (.int (nI a))] [] N := by
    intro j
    induction j with
    | zero =>
      intro a N haj hf hw h1 h2
      have hag : a = g.1 := by omega
      subst hag
      have okN : OkM N := ok.fr hf
      have hnN : NetRep N 2 g := hn.fr hf (by omega)
      refine e_iload_n dX4_label_12 rfl rfl ?_
      refine e_aload_n dX4_label_13 rfl rfl ?_
      refine e_getI dX4_label_14 fRX4_63 (by exact okN.sh rfl) (fun _ => rfl) ?_
      rw [hnN.2.1]
      refine e_icmp_ge (tgt := 45) dX4_label_17 (by decide) (fun hc => ?_) (fun hc => ?_)
      · exact e_vret dX4_label_45 rfl ⟨none, rfl, rfl, h1, h2, hw, hf⟩
      · exact absurd (nI_le (by omega) (by omega)) hc
    | succ j ih =>
      intro a N haj hf hw h1 h2
      have okN : OkM N := ok.fr hf
      have hnN : NetRep N 2 g := hn.fr hf (by omega)
      have ha : a < g.1 := by omega
      have s1 : lbE g (a + 1) = if g.2.2 a = none then (wlk g a).foldl mE (lbE g a) else lbE g a := rfl
      have s2 : lbL g (a + 1) = if g.2.2 a = none then (wlk g a).foldl (mL g) (lbL g a) else lbL g a := rfl
      refine e_iload_n dX4_label_12 rfl rfl ?_
      refine e_aload_n dX4_label_13 rfl rfl ?_
      refine e_getI dX4_label_14 fRX4_63 (by exact okN.sh rfl) (fun _ => rfl) ?_
      rw [hnN.2.1]
      refine e_icmp_ge (tgt := 45) dX4_label_17 (by decide) (fun hc => ?_) (fun hc => ?_)
      · exact absurd hc (nI_ge (by omega) (by omega))
      · have next : ∀ K, Fr 19 26 M K → WInv K → K.2.1 19 3 = nI (lbE g (a + 1)) → K.2.1 19 4 = nI (lbL g (a + 1)) → Ev B mX4_label 4 0 0 (Rt (fun u N => u = none ∧ N.2.1 19 3 = nI (lbE g g.1) ∧ N.2.1 19 4 = nI (lbL g g.1) ∧ WInv N ∧ Fr 19 26 M N)) 39 [some (.ref 19), some (.ref 2), some (.int (nI a))] [] K := by
          intro K hfK hwK k1 k2
          refine e_iinc (v := nI (a + 1)) dX4_label_39 rfl (nI_1 a) (by decide) rfl rfl ?_
          refine e_goto (tgt := 12) dX4_label_42 (by decide) ?_
          exact ih (a + 1) K (by omega) hfK hwK k1 k2
        refine e_aload_n dX4_label_20 rfl rfl ?_
        refine e_iload_n dX4_label_21 rfl rfl ?_
        refine e_callV0i [_] dX4_label_22 mvmX1_isFree lkRX4_78 (by exact okN.sh rfl) ⟨by decide, rfl⟩ rfl rfl (Nat.le_of_ble_eq_true rfl) (by decide) (c_isFree hnN (by omega) (fun k hk => wf.m a k hk)) ?_
        by_cases hm : g.2.2 a = none
        · rw [if_pos hm] at s1 s2 ⊢
          refine e_if_eq (tgt := 39) dX4_label_25 (by decide) (fun hz => ?_) (fun hz => ?_)
          · exact absurd hz (by decide)
          · refine e_aload_n dX4_label_28 rfl rfl ?_
            refine e_aload_n dX4_label_29 rfl rfl ?_
            refine e_iload_n dX4_label_30 rfl rfl ?_
            refine e_callV1 [_, _] dX4_label_31 mvmX4_spread lkRX4_82 (by exact okN.sh rfl) ⟨by decide, rfl⟩ rfl rfl (Nat.le_of_ble_eq_true rfl) (by decide) (c_spread okN hnN wf ha hw) (fun u N2 h3 => ?_)
            obtain ⟨hu, w1, w2⟩ := h3
            subst hu
            have okN2 : OkM N2 := okN.fr w2.1
            have hnN2 : NetRep N2 2 g := hnN.fr w2.1 (by omega)
            refine e_aload_n dX4_label_34 rfl rfl ?_
            refine e_aload_n dX4_label_35 rfl rfl ?_
            refine e_callV1 [_] dX4_label_36 mvmX4_markEnds lkRX4_128 (by exact okN2.sh rfl) ⟨by decide, rfl⟩ rfl rfl (Nat.le_of_ble_eq_true rfl) (by decide) (c_markEnds okN2 hnN2 wf ha w1 (by rw [w2.2.2 3 (by decide)]; exact h1) (by rw [w2.2.2 4 (by decide)]; exact h2)) (fun u N3 h4 => ?_)
            obtain ⟨hu, w3, w4, w5⟩ := h4
            subst hu
            exact next N3 ((hf.trans w2.1).trans (w5.1.wide (by decide) (by decide))) ((w1.lf w5).inv wf ha) (by rw [s1]; exact w3) (by rw [s2]; exact w4)
        · rw [if_neg hm] at s1 s2 ⊢
          refine e_if_eq (tgt := 39) dX4_label_25 (by decide) (fun hz => ?_) (fun hz => ?_)
          · exact next N hf hw (by rw [s1]; exact h1) (by rw [s2]; exact h2)
          · exact absurd rfl hz
  refine e_aload_n dX4_label_0 rfl rfl ?_
  refine e_iconst (v := 0) dX4_label_1 (by decide) ?_
  refine e_putI dX4_label_2 fRX4_22 (by exact ok.sh rfl) rfl rfl rfl (fun _ _ => rfl) ?_
  refine e_aload_n dX4_label_5 rfl rfl ?_
  refine e_iconst (v := 0) dX4_label_6 (by decide) ?_
  refine e_putI dX4_label_7 fRX4_25 (by exact ok.sh rfl) rfl rfl rfl (fun _ _ => rfl) ?_
  refine e_iconst (v := 0) dX4_label_10 (by decide) ?_
  refine e_istore_n dX4_label_11 rfl (by decide) rfl rfl ?_
  have hlf : Lf M (sI (sI M 19 3 0) 19 4 0) := Lf.rf.e.l
  exact loop g.1 0 _ (by omega) (hlf.1.wide (by decide) (by decide)) (hi.lf hlf) (by rw [rd_ni (by decide), rd_self]; rfl) (by rw [rd_self]; rfl)
noncomputable def lab (g : Nw) (k : Nat) : Nat := if k = 0 then lbE g g.1 else if k = 1 then dif (lbL g g.1) (lbE g g.1) else dif (dif (al g) (lbL g g.1)) (lbE g g.1)
theorem c_bitsOfLabel {B : Bd} {M : Mm} {g : Nw} {k : Nat} (ok : OkM M) (hn : NetRep M 2 g) (wf : Wfn g) (hk : k ≤ 2) (h1 : M.2.1 19 3 = nI (lbE g g.1)) (h2 : M.2.1 19 4 = nI (lbL g g.1)) : Ct B mX4_bitsOfLabel 1 0 0 [.ref 19, .ref 2, .int (nI k)] M (Is (some (.int (nI (lab g k)))) M) := by
  refine Ct.of (by decide) rfl rfl (Nat.le_of_ble_eq_true rfl) ?_
  refine e_iload_n dX4_bitsOfLabel_0 rfl rfl ?_
  refine e_if_ne (tgt := 9) dX4_bitsOfLabel_1 (by decide) (fun hc => ?_) (fun hc => ?_)
  · have hk0 : k ≠ 0 := fun q => hc (by rw [q]; rfl)
    refine e_iload_n dX4_bitsOfLabel_9 rfl rfl ?_
    refine e_iconst (v := 1) dX4_bitsOfLabel_10 (by decide) ?_
    refine e_icmp_ne (tgt := 28) dX4_bitsOfLabel_11 (by decide) (fun hc3 => ?_) (fun hc3 => ?_)
    · have hk1 : k ≠ 1 := fun q => hc3 (by rw [q]; rfl)
      refine e_aload_n dX4_bitsOfLabel_28 rfl rfl ?_
      refine e_callV0i [] dX4_bitsOfLabel_29 mvmX1_all lkRX4_132 (by exact ok.sh rfl) ⟨by decide, rfl⟩ rfl rfl (Nat.le_of_ble_eq_true rfl) (by decide) (c_all hn wf.1.2) ?_
      refine e_aload_n dX4_bitsOfLabel_32 rfl rfl ?_
      refine e_getI dX4_bitsOfLabel_33 fRX4_25 (by exact ok.sh rfl) (fun _ => rfl) ?_
      rw [h2]
      refine e_iconst (v := (-1)) dX4_bitsOfLabel_36 (by decide) ?_
      refine e_ixor dX4_bitsOfLabel_37 ?_
      refine e_iand dX4_bitsOfLabel_38 ?_
      rw [andn_nI]
      refine e_aload_n dX4_bitsOfLabel_39 rfl rfl ?_
      refine e_getI dX4_bitsOfLabel_40 fRX4_22 (by exact ok.sh rfl) (fun _ => rfl) ?_
      rw [h1]
      refine e_iconst (v := (-1)) dX4_bitsOfLabel_43 (by decide) ?_
      refine e_ixor dX4_bitsOfLabel_44 ?_
      refine e_iand dX4_bitsOfLabel_45 ?_
      rw [andn_nI]
      exact e_iret dX4_bitsOfLabel_46 rfl rfl (⟨by unfold lab; rw [if_neg hk0, if_neg hk1]; rfl, rfl⟩)
    · have hk1 : k = 1 := (nI_is (by omega)).mp hc3
      refine e_aload_n dX4_bitsOfLabel_14 rfl rfl ?_
      refine e_getI dX4_bitsOfLabel_15 fRX4_25 (by exact ok.sh rfl) (fun _ => rfl) ?_
      rw [h2]
      refine e_aload_n dX4_bitsOfLabel_18 rfl rfl ?_
      refine e_getI dX4_bitsOfLabel_19 fRX4_22 (by exact ok.sh rfl) (fun _ => rfl) ?_
      rw [h1]
      refine e_iconst (v := (-1)) dX4_bitsOfLabel_22 (by decide) ?_
      refine e_ixor dX4_bitsOfLabel_23 ?_
      refine e_iand dX4_bitsOfLabel_24 ?_
      refine e_goto (tgt := 46) dX4_bitsOfLabel_25 (by decide) ?_
      rw [andn_nI]
      exact e_iret dX4_bitsOfLabel_46 rfl rfl (⟨by unfold lab; rw [if_neg hk0, if_pos hk1], rfl⟩)
  · have hk0 : k = 0 := by
      have := (nI_eq (a := k) (b := 0) (by omega) (by decide)).mp (by rw [hc]; rfl)
      exact this
    refine e_aload_n dX4_bitsOfLabel_4 rfl rfl ?_
    refine e_getI dX4_bitsOfLabel_5 fRX4_22 (by exact ok.sh rfl) (fun _ => rfl) ?_
    rw [h1]
    exact e_iret dX4_bitsOfLabel_8 rfl rfl (⟨by unfold lab; rw [if_pos hk0], rfl⟩)
def bpr (m : Nat → Option Nat) : List Nat → Nat → Option Nat
  | x :: y :: l => bpr (m2 (m2 m x (some y)) y (some x)) l
  | _ => m
theorem c_betterPairs {B : Bd} {M : Mm} {g : Nw} {l : List Nat} (ok : OkM M) (hn : NetRep M 2 g) (hr : RowAt M l) (hl : l.length ≤ 12) (hev : l.length % 2 = 0) (h12 : ∀ x, x ∈ l → x < 12) (hnd : l.Pairwise (fun x y => x ≠ y)) : Ct B mX4_betterPairs 1 0 0 [.ref 19, .ref 2] M (Rt (fun u N => u = none ∧ NetRep N 2 (g.1, g.2.1, bpr g.2.2 l) ∧ Fr 2 5 M N)) := by
  refine Ct.of (by decide) rfl rfl (Nat.le_of_ble_eq_true rfl) ?_
  have loop : ∀ j i N m, i + 2 * j = l.length → Fr 2 5 M N → NetRep N 2 (g.1, g.2.1, m) → bpr m (l.drop i) = bpr g.2.2 l → Ev B mX4_betterPairs 1 0 0 (Rt (fun u N => u = none ∧ NetRep N 2 (g.1, g.2.1, bpr g.2.2 l) ∧ Fr 2 5 M N)) 2 [some (.ref 19), some (.ref 2), some (.int (nI i))] [] N := by
    intro j
    induction j with
    | zero =>
      intro i N m hij hf hN hb
      have okN : OkM N := ok.fr hf
      have e23 := hf.2.2 19 (by omega)
      rw [List.drop_eq_nil_of_le (by omega)] at hb
      have hb' : m = bpr g.2.2 l := hb
      refine e_iload_n dX4_betterPairs_2 rfl rfl ?_
      refine e_iconst (v := 1) dX4_betterPairs_3 (by decide) ?_
      refine e_iadd dX4_betterPairs_4 ?_
      rw [nI_1]
      refine e_aload_n dX4_betterPairs_5 rfl rfl ?_
      refine e_getI dX4_betterPairs_6 fRX4_15 (by exact okN.sh rfl) (fun _ => rfl) ?_
      rw [e23, hr.1]
      refine e_icmp_ge (tgt := 36) dX4_betterPairs_9 (by decide) (fun hc => ?_) (fun hc => ?_)
      · exact e_vret dX4_betterPairs_36 rfl ⟨none, rfl, rfl, by rw [← hb']; exact hN, hf⟩
      · exact absurd (nI_le (by omega) (by omega)) hc
    | succ j ih =>
      intro i N m hij hf hN hb
      have okN : OkM N := ok.fr hf
      have e23 := hf.2.2 19 (by omega)
      have e24 := hf.2.2 20 (by omega)
      have h1 : i < l.length := by omega
      have h2 : i + 1 < l.length := by omega
      have g1 : l[i]? = some l[i] := List.getElem?_eq_getElem h1
      have g2 : l[i + 1]? = some l[i + 1] := List.getElem?_eq_getElem h2
      have x12 := h12 l[i] (List.getElem_mem h1)
      have y12 := h12 l[i + 1] (List.getElem_mem h2)
      have hxy : l[i] ≠ l[i + 1] := List.pairwise_iff_getElem.mp hnd i (i + 1) h1 h2 (by omega)
      rw [List.drop_eq_getElem_cons h1, List.drop_eq_getElem_cons h2] at hb
      refine e_iload_n dX4_betterPairs_2 rfl rfl ?_
      refine e_iconst (v := 1) dX4_betterPairs_3 (by decide) ?_
      refine e_iadd dX4_betterPairs_4 ?_
      rw [nI_1]
      refine e_aload_n dX4_betterPairs_5 rfl rfl ?_
      refine e_getI dX4_betterPairs_6 fRX4_15 (by exact okN.sh rfl) (fun _ => rfl) ?_
      rw [e23, hr.1]
      refine e_icmp_ge (tgt := 36) dX4_betterPairs_9 (by decide) (fun hc => ?_) (fun hc => ?_)
      · exact absurd hc (nI_ge (by omega) (by omega))
      · refine e_aload_n dX4_betterPairs_12 rfl rfl ?_
        refine e_aload_n dX4_betterPairs_13 rfl rfl ?_
        refine e_getR dX4_betterPairs_14 fRX4_9 (by exact okN.sh rfl) (by exact okN.rf rfl) (fun _ => rfl) ?_
        refine e_iload_n dX4_betterPairs_17 rfl rfl ?_
        refine e_iaload dX4_betterPairs_18 (by exact okN.sh rfl) (by first | exact vp_in_nI (show i < 12 by omega) (by decide) | exact vp_in_nI (show i + 1 < 12 by omega) (by decide)) ?_
        rw [nI_clamp (by omega), e24, hr.2 i _ g1]
        refine e_aload_n dX4_betterPairs_19 rfl rfl ?_
        refine e_getR dX4_betterPairs_20 fRX4_9 (by exact okN.sh rfl) (by exact okN.rf rfl) (fun _ => rfl) ?_
        refine e_iload_n dX4_betterPairs_23 rfl rfl ?_
        refine e_iconst (v := 1) dX4_betterPairs_24 (by decide) ?_
        refine e_iadd dX4_betterPairs_25 ?_
        rw [nI_1]
        refine e_iaload dX4_betterPairs_26 (by exact okN.sh rfl) (by first | exact vp_in_nI (show i < 12 by omega) (by decide) | exact vp_in_nI (show i + 1 < 12 by omega) (by decide)) ?_
        rw [nI_clamp (by omega), e24, hr.2 (i + 1) _ g2]
        refine e_callV1 [_, _] dX4_betterPairs_27 mvmX1_putPair lkRX4_105 (by exact okN.sh rfl) ⟨by decide, rfl⟩ rfl rfl (Nat.le_of_ble_eq_true rfl) (by decide) (c_putPair hN x12 y12 hxy) (fun u N2 h3 => ?_)
        obtain ⟨hu, w1, w2⟩ := h3
        subst hu
        refine e_iinc (v := nI (i + 2)) dX4_betterPairs_30 rfl (by rw [show Int32.ofInt 2 = nI 2 by decide, nI_add]) (by decide) rfl rfl ?_
        refine e_goto (tgt := 2) dX4_betterPairs_33 (by decide) ?_
        exact ih (i + 2) N2 _ (by omega) (hf.trans w2) w1 hb
  refine e_iconst (v := 0) dX4_betterPairs_0 (by decide) ?_
  refine e_istore_n dX4_betterPairs_1 rfl (by decide) rfl rfl ?_
  exact loop (l.length / 2) 0 M g.2.2 (by omega) Fr.rf hn rfl

