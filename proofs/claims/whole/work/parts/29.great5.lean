/-- FIRST, node by node: what is left, who is joined -/
def frs (g : Nw) : Nat → Nat × (Nat → Option Nat)
  | 0 => (al g, fun _ => none)
  | a + 1 => if (frs g a).1.testBit a = true then (match fm g a (frs g a).1 with
      | none => (dif (frs g a).1 (2 ^ a), (frs g a).2)
      | some b => (dif (dif (frs g a).1 (2 ^ a)) (2 ^ b), m2 (m2 (frs g a).2 a (some b)) b (some a)))
    else frs g a
def fstm (g : Nw) : Nat → Option Nat := (frs g g.1).2
theorem frs_lt (g : Nw) (a : Nat) : (frs g a).1 < 2 ^ g.1 := by
  induction a with
  | zero => exact al_lt g
  | succ a ih =>
    unfold frs
    split
    · split
      · exact Nat.lt_of_le_of_lt (dif_le _ _) ih
      · exact Nat.lt_of_le_of_lt (dif_le _ _) (Nat.lt_of_le_of_lt (dif_le _ _) ih)
    · exact ih
theorem fnd_spec {p : Nat → Bool} : ∀ {k lo b : Nat}, fnd p k lo = some b → p b = true ∧ lo ≤ b ∧ b < lo + k := by
  intro k
  induction k with
  | zero => intro lo b h; cases h
  | succ k ih =>
    intro lo b h
    have h' : (if p lo = true then some lo else fnd p k (lo + 1)) = some b := h
    by_cases hp : p lo = true
    · rw [if_pos hp] at h'
      cases h'
      exact ⟨hp, by omega, by omega⟩
    · rw [if_neg hp] at h'
      obtain ⟨q1, q2, q3⟩ := ih h'
      exact ⟨q1, by omega, by omega⟩
theorem fm_lt {g : Nw} {a rest b : Nat} (h : fm g a rest = some b) : a < b ∧ b < g.1 := by
  obtain ⟨q1, q2, q3⟩ := fnd_spec h
  omega
def FirstAt (N : Mm) (m : Nat → Option Nat) : Prop := ∀ x, x < 12 → N.2.1 15 x = wI (m x)
theorem c_fillFirst {B : Bd} {M : Mm} {g : Nw} (ok : OkM M) (h : NetRep M 2 g) (wf : Wfn g) (hg : GR M g) : Ct B mX0_fillFirst 29 0 0 [.ref 14] M (Rt (fun v N => v = none ∧ GR N g ∧ N.2.1 14 = M.2.1 14 ∧ Fg M N ∧ FirstAt N (fstm g))) := by
  have hg12 := wf.1.2
  have hp12 := p12 hg12
  refine Ct.of (by decide) rfl rfl (Nat.le_of_ble_eq_true rfl) ?_
  refine e_aload_n dX0_fillFirst_0 rfl rfl ?_
  refine e_getR dX0_fillFirst_1 fRX0_15 (by exact ok.sh rfl) (by exact ok.rf rfl) (fun _ => rfl) ?_
  refine e_iconst (v := (-1)) dX0_fillFirst_4 (by decide) ?_
  refine e_callS0v [_, _] dX0_fillFirst_5 msmJ7_fill_53178 lkRX0_111 rfl rfl (Nat.le_of_ble_eq_true rfl) (by decide) (c_fill (ok.sh (k := 15) rfl) (by decide)) ?_
  have loop : ∀ k a N (t : Option Value), a + k = g.1 → GR N g → N.2.1 14 = M.2.1 14 → Fg M N → FirstAt N (frs g a).2 → Ev B mX0_fillFirst 29 0 0 (Rt (fun v N => v = none ∧ GR N g ∧ N.2.1 14 = M.2.1 14 ∧ Fg M N ∧ FirstAt N (fstm g))) 18 [some (.ref 14), some (.int (nI (frs g a).1)), some (.int (nI a)), t] [] N := by
    intro k
    induction k with
    | zero =>
      intro a N t hak gN e14 fN hF
      have hag : a = g.1 := by omega
      have okN := ok.fg fN
      have hN : NetRep N 2 g := h.fg fN (by omega)
      refine e_iload_n dX0_fillFirst_18 rfl rfl ?_
      refine e_aload_n dX0_fillFirst_19 rfl rfl ?_
      refine e_getR dX0_fillFirst_20 fRX0_23 (by first | exact okN.sh rfl | exact hN.1.1) (by exact okN.rf rfl) (fun _ => rfl) ?_
      refine e_getI dX0_fillFirst_23 fRX0_33 (by first | exact okN.sh rfl | exact hN.1.1) (fun _ => rfl) ?_
      rw [hN.2.1]
      refine e_icmp_ge (tgt := 88) dX0_fillFirst_26 (by decide) (fun hc => ?_) (fun hc => ?_)
      · exact e_vret dX0_fillFirst_88 rfl ⟨none, rfl, rfl, gN, e14, fN, by rw [hag] at hF; exact hF⟩
      · exact absurd (nI_le (by omega : g.1 ≤ a) (by omega)) hc
    | succ k ih =>
      intro a N t hak gN e14 fN hF
      have okN := ok.fg fN
      have hN : NetRep N 2 g := h.fg fN (by omega)
      have hrl := frs_lt g a
      refine e_iload_n dX0_fillFirst_18 rfl rfl ?_
      refine e_aload_n dX0_fillFirst_19 rfl rfl ?_
      refine e_getR dX0_fillFirst_20 fRX0_23 (by first | exact okN.sh rfl | exact hN.1.1) (by exact okN.rf rfl) (fun _ => rfl) ?_
      refine e_getI dX0_fillFirst_23 fRX0_33 (by first | exact okN.sh rfl | exact hN.1.1) (fun _ => rfl) ?_
      rw [hN.2.1]
      refine e_icmp_ge (tgt := 88) dX0_fillFirst_26 (by decide) (fun hc => ?_) (fun hc => ?_)
      · exact absurd hc (nI_ge (by omega) (by omega))
      · have go : ∀ (N' : Mm) (x : Nat) (t : Option Value), GR N' g → N'.2.1 14 = M.2.1 14 → Fg M N' → x = (frs g (a + 1)).1 → FirstAt N' (frs g (a + 1)).2 → Ev B mX0_fillFirst 29 0 0 (Rt (fun v N => v = none ∧ GR N g ∧ N.2.1 14 = M.2.1 14 ∧ Fg M N ∧ FirstAt N (fstm g))) 82 [some (.ref 14), some (.int (nI x)), some (.int (nI a)), t] [] N' := by
          intro N' x t gN' e14' fN' hx hF'
          refine e_iinc (v := nI (a + 1)) dX0_fillFirst_82 rfl (nI_1 a) (by decide) rfl rfl ?_
          refine e_goto (tgt := 18) dX0_fillFirst_85 (by decide) ?_
          rw [hx]
          exact ih (a + 1) N' t (by omega) gN' e14' fN' hF'
        refine e_iload_n dX0_fillFirst_29 rfl rfl ?_
        refine e_iload_n dX0_fillFirst_30 rfl rfl ?_
        refine e_callN0i [_, _] dX0_fillFirst_31 msmX5_hasBit nest_0 rfl rfl (Nat.le_of_ble_eq_true rfl) (by decide) (c_hasBit (by omega) (by omega)) ?_
        by_cases hbt : (frs g a).1.testBit a = true
        · refine e_if_ne (tgt := 40) dX0_fillFirst_34 (by decide) (fun hq => ?_) (fun hq => ?_)
          · refine e_aload_n dX0_fillFirst_40 rfl rfl ?_
            refine e_iload_n dX0_fillFirst_41 rfl rfl ?_
            refine e_iload_n dX0_fillFirst_42 rfl rfl ?_
            refine e_callV1i [_, _] dX0_fillFirst_43 mvmX0_firstMate lkRX0_114 (by first | exact okN.sh rfl | exact hN.1.1) ⟨by decide, rfl⟩ rfl rfl (Nat.le_of_ble_eq_true rfl) (by decide) (c_firstMate okN hN wf gN (by omega) hrl) (fun N1 h1 => ?_)
            obtain ⟨g1, f1⟩ := h1
            have ok1 := okN.fl f1
            have e14b : N1.2.1 14 = M.2.1 14 := by rw [f1.2.1]; exact e14
            have hF1 : FirstAt N1 (frs g a).2 := fun x hx => by rw [f1.2.1]; exact hF x hx
            have fN1 : Fg M N1 := fN.trans f1.g
            cases hfm : fm g a (frs g a).1 with
            | none =>
              have e9 : frs g (a + 1) = (dif (frs g a).1 (2 ^ a), (frs g a).2) := by
                show (if (frs g a).1.testBit a = true then _ else _) = _
                rw [if_pos hbt, hfm]
              refine e_istore_n dX0_fillFirst_46 rfl (by decide) rfl rfl ?_
              refine e_iload_n dX0_fillFirst_47 rfl rfl ?_
              refine e_iconst (v := 1) dX0_fillFirst_48 (by decide) ?_
              refine e_iload_n dX0_fillFirst_49 rfl rfl ?_
              refine e_ishl dX0_fillFirst_50 ?_
              rw [shl_1 (by omega)]
              refine e_iconst (v := (-1)) dX0_fillFirst_51 (by decide) ?_
              refine e_ixor dX0_fillFirst_52 ?_
              refine e_iand dX0_fillFirst_53 ?_
              rw [andn_nI]
              refine e_istore_n dX0_fillFirst_54 rfl (by decide) rfl rfl ?_
              refine e_iload_n dX0_fillFirst_55 rfl rfl ?_
              refine e_iconst (v := (-1)) dX0_fillFirst_56 (by decide) ?_
              refine e_icmp_eq (tgt := 82) dX0_fillFirst_57 (by decide) (fun hq2 => ?_) (fun hq2 => ?_)
              · exact go N1 _ _ g1 e14b fN1 (by rw [e9]) (by rw [e9]; exact hF1)
              · exact absurd rfl hq2
            | some b =>
              obtain ⟨hb1, hb2⟩ := fm_lt hfm
              have e9 : frs g (a + 1) = (dif (dif (frs g a).1 (2 ^ a)) (2 ^ b), m2 (m2 (frs g a).2 a (some b)) b (some a)) := by
                show (if (frs g a).1.testBit a = true then _ else _) = _
                rw [if_pos hbt, hfm]
              show Ev _ _ _ _ _ _ 46 _ [.int (nI b)] _
              refine e_istore_n dX0_fillFirst_46 rfl (by decide) rfl rfl ?_
              refine e_iload_n dX0_fillFirst_47 rfl rfl ?_
              refine e_iconst (v := 1) dX0_fillFirst_48 (by decide) ?_
              refine e_iload_n dX0_fillFirst_49 rfl rfl ?_
              refine e_ishl dX0_fillFirst_50 ?_
              rw [shl_1 (by omega)]
              refine e_iconst (v := (-1)) dX0_fillFirst_51 (by decide) ?_
              refine e_ixor dX0_fillFirst_52 ?_
              refine e_iand dX0_fillFirst_53 ?_
              rw [andn_nI]
              refine e_istore_n dX0_fillFirst_54 rfl (by decide) rfl rfl ?_
              refine e_iload_n dX0_fillFirst_55 rfl rfl ?_
              refine e_iconst (v := (-1)) dX0_fillFirst_56 (by decide) ?_
              refine e_icmp_eq (tgt := 82) dX0_fillFirst_57 (by decide) (fun hq2 => ?_) (fun hq2 => ?_)
              · exact absurd hq2 (by
                  intro q
                  have := (wI_none (o := some b) (fun k hk => by cases hk; omega)).mp q
                  cases this)
              · refine e_aload_n dX0_fillFirst_60 rfl rfl ?_
                refine e_getR dX0_fillFirst_61 fRX0_15 (by exact ok1.sh rfl) (by exact ok1.rf rfl) (fun _ => rfl) ?_
                refine e_iload_n dX0_fillFirst_64 rfl rfl ?_
                refine e_iload_n dX0_fillFirst_65 rfl rfl ?_
                refine e_iastore dX0_fillFirst_66 (by exact ok1.sh rfl) (by first | exact vp_in_nI (show a < 12 by omega) (by decide) | exact vp_in_nI (show b < 12 by omega) (by decide)) ?_
                refine e_aload_n dX0_fillFirst_67 rfl rfl ?_
                refine e_getR dX0_fillFirst_68 fRX0_15 (by exact ok1.sh rfl) (by exact ok1.rf rfl) (fun _ => rfl) ?_
                refine e_iload_n dX0_fillFirst_71 rfl rfl ?_
                refine e_iload_n dX0_fillFirst_72 rfl rfl ?_
                refine e_iastore dX0_fillFirst_73 (by exact ok1.sh rfl) (by first | exact vp_in_nI (show a < 12 by omega) (by decide) | exact vp_in_nI (show b < 12 by omega) (by decide)) ?_
                refine e_iload_n dX0_fillFirst_74 rfl rfl ?_
                refine e_iconst (v := 1) dX0_fillFirst_75 (by decide) ?_
                refine e_iload_n dX0_fillFirst_76 rfl rfl ?_
                refine e_ishl dX0_fillFirst_77 ?_
                rw [shl_1 (by omega), nI_clamp (by omega), nI_clamp (by omega)]
                refine e_iconst (v := (-1)) dX0_fillFirst_78 (by decide) ?_
                refine e_ixor dX0_fillFirst_79 ?_
                refine e_iand dX0_fillFirst_80 ?_
                rw [andn_nI]
                refine e_istore_n dX0_fillFirst_81 rfl (by decide) rfl rfl ?_
                have f15 : Fr 15 15 N1 (sI (sI N1 15 a (nI b)) 15 b (nI a)) := (Fr.rf.sI (by decide) (by decide)).sI (by decide) (by decide)
                refine go (sI (sI N1 15 a (nI b)) 15 b (nI a)) _ _ (g1.fl0 rfl) (by rw [f15.2.2 14 (by omega)]; exact e14b) (fN1.trans (f15.g (by decide) (by decide))) (by rw [e9]) ?_
                rw [e9]
                intro x hx
                rw [rd_sI, rd_sI]
                unfold m2
                by_cases h1 : x = b
                · subst h1; simp [wI]
                · by_cases h2 : x = a
                  · subst h2; simp [h1, wI]
                  · simp [h1, h2]; exact hF1 x hx
          · rw [if_pos hbt] at hq; exact absurd hq (by decide)
        · refine e_if_ne (tgt := 40) dX0_fillFirst_34 (by decide) (fun hq => ?_) (fun hq => ?_)
          · rw [if_neg hbt] at hq; exact absurd rfl hq
          · have e9 : frs g (a + 1) = frs g a := by
              show (if (frs g a).1.testBit a = true then _ else _) = _
              rw [if_neg hbt]
            refine e_goto (tgt := 82) dX0_fillFirst_37 (by decide) ?_
            exact go N _ _ gN e14 fN (by rw [e9]) (by rw [e9]; exact hF)
  have fS := sF_Fr M 15 12 (-1)
  have okS : OkM (sF M 15 12 (-1)) := ok.fr fS
  have hS : NetRep (sF M 15 12 (-1)) 2 g := h.fr fS (by omega)
  refine e_aload_n dX0_fillFirst_8 rfl rfl ?_
  refine e_getR dX0_fillFirst_9 fRX0_23 (by exact okS.sh rfl) (by exact okS.rf rfl) (fun _ => rfl) ?_
  refine e_callV0i [] dX0_fillFirst_12 mvmX1_all lkRX0_88 (by exact okS.sh rfl) ⟨by decide, rfl⟩ rfl rfl (Nat.le_of_ble_eq_true rfl) (by decide) (c_all hS wf.1.2) ?_
  refine e_istore_n dX0_fillFirst_15 rfl (by decide) rfl rfl ?_
  refine e_iconst (v := 0) dX0_fillFirst_16 (by decide) ?_
  refine e_istore_n dX0_fillFirst_17 rfl (by decide) rfl rfl ?_
  refine loop g.1 0 _ none (by omega) (hg.fl0 rfl) (fS.2.2 14 (by omega)) (fS.g (by decide) (by decide)) (fun x hx => ?_)
  rw [rd_sF, if_pos ⟨rfl, hx⟩]; rfl

