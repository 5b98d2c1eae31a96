/-- FIRST, node by node: what is left, who is joined -/
def frs (g : Nw) : Nat → Nat × (Nat → Option Nat)
  | 0 => (al g, fun _ => none)
  | a + 1 => if (frs g a).1.testBit a = true then (match fm g a (frs g a).1 with
      | none => (dif (frs g a).1 (2 ^ a), (frs g a).2)
      | some b => (dif (dif (frs g a).1 (2 ^ a)) (2 ^ b), m2 (m2 (frs g a).2 a (some b)) b (some a)))
    else frs g a
def fstm (g : Nw) : Nat → Option Nat := (frs g g.1).2
theorem frs_lt (g : Nw) (a : Nat) : (frs g a).1 < 2 ^ g.1 := by
  induction a with
  | zero => exact al_lt g
  | succ a ih =>
    unfold frs
    split
    · split
      · exact Nat.lt_of_le_of_lt (dif_le _ _) ih
      · exact Nat.lt_of_le_of_lt (dif_le _ _) (Nat.lt_of_le_of_lt (dif_le _ _) ih)
    · exact ih
theorem fnd_spec {p : Nat → Bool} : ∀ {k lo b : Nat}, fnd p k lo = some b → p b = true ∧ lo ≤ b ∧ b < lo + k := by
  intro k
  induction k with
  | zero => intro lo b h; cases h
  | succ k ih =>
    intro lo b h
    have h' : (if p lo = true then some lo else fnd p k (lo + 1)) = some b := h
    by_cases hp : p lo = true
    · rw [if_pos hp] at h'
      cases h'
      exact ⟨hp, by omega, by omega⟩
    · rw [if_neg hp] at h'
      obtain ⟨q1, q2, q3⟩ := ih h'
      exact ⟨q1, by omega, by omega⟩
theorem fm_lt {g : Nw} {a rest b : Nat} (h : fm g a rest = some b) : a < b ∧ b < g.1 := by
  obtain ⟨q1, q2, q3⟩ := fnd_spec h
  omega
def FirstAt (N : Mm) (m : Nat → Option Nat) : Prop := ∀ x, x < 12 → N.2.1 15 x = wI (m x)
theorem c_fillFirst {B : Bd} {M : Mm} {g : Nw} (ok : OkM M) (h : NetRep M 2 g) (wf : Wfn g) (hi : GInv M g) : Ct B mX0_fillFirst 4 0 0 [.ref 14, .ref 2] M (Rt (fun v N => v = none ∧ GR N g ∧ N.2.1 14 0 = 1 ∧ Z0 N ∧ Fr 14 19 M N ∧ FirstAt N (fstm g))) := by
  have hg12 := wf.1.2
  have hp12 := p12 hg12
  refine Ct.of (by decide) rfl rfl (Nat.le_of_ble_eq_true rfl) ?_
  refine e_aload_n dX0_fillFirst_0 rfl rfl ?_
  refine e_aload_n dX0_fillFirst_1 rfl rfl ?_
  refine e_callV1 [_] dX0_fillFirst_2 mvmX0_learn lkRX0_81 (by exact ok.sh rfl) ⟨by decide, rfl⟩ rfl rfl (Nat.le_of_ble_eq_true rfl) (by decide) (c_learn0 ok h wf hi) (fun v M1 hn => ?_)
  obtain ⟨rfl, g1, k1, z1, f1, -⟩ := hn
  have ok1 : OkM M1 := ok.fr f1
  refine e_aload_n dX0_fillFirst_5 rfl rfl ?_
  refine e_getR dX0_fillFirst_6 fRX0_15 (by exact ok1.sh rfl) (by exact ok1.rf rfl) (fun _ => rfl) ?_
  refine e_iconst (v := (-1)) dX0_fillFirst_9 (by decide) ?_
  refine e_callS0v [_, _] dX0_fillFirst_10 msmJ7_fill_53178 lkRX0_85 rfl rfl (Nat.le_of_ble_eq_true rfl) (by decide) (c_fill (ok1.sh (k := 15) rfl) (by decide)) ?_
  have keep : ∀ N, Fr 15 15 M1 N → GR N g ∧ N.2.1 14 0 = 1 ∧ Z0 N ∧ Fr 14 19 M N := by
    intro N hf
    have e : ∀ x, x ≠ 15 → N.2.1 x = M1.2.1 x := fun x hx => hf.2.2 x (by omega)
    refine ⟨⟨fun S hS => ?_, ?_, ?_⟩, ?_, ⟨?_, ?_, ?_⟩, f1.trans (hf.wide (by decide) (by decide))⟩
    · obtain ⟨a1, a2, a3, a4⟩ := g1.1 S hS
      exact ⟨by rw [e 16 (by decide)]; exact a1, by rw [e 17 (by decide)]; exact a2, by rw [e 18 (by decide)]; exact a3, by rw [e 19 (by decide)]; exact a4⟩
    · rw [e 14 (by decide)]; exact g1.2.1
    · rw [e 14 (by decide)]; exact g1.2.2
    · rw [e 14 (by decide)]; exact k1
    · rw [e 16 (by decide)]; exact z1.1
    · rw [e 18 (by decide)]; exact z1.2.1
    · rw [e 19 (by decide)]; exact z1.2.2
  have loop : ∀ k a N (t : Option Value), a + k = g.1 → Fr 15 15 M1 N → FirstAt N (frs g a).2 → Ev B mX0_fillFirst 4 0 0 (Rt (fun v N => v = none ∧ GR N g ∧ N.2.1 14 0 = 1 ∧ Z0 N ∧ Fr 14 19 M N ∧ FirstAt N (fstm g))) 20 [some (.ref 14), some (.ref 2), some (.int (nI (frs g a).1)), some (.int (nI a)), t] [] N := by
    intro k
    induction k with
    | zero =>
      intro a N t hak hf hF
      have hag : a = g.1 := by omega
      obtain ⟨r1, r2, r3, r4⟩ := keep N hf
      have okN : OkM N := ok.fr r4
      refine e_iload_n dX0_fillFirst_20 rfl rfl ?_
      refine e_aload_n dX0_fillFirst_21 rfl rfl ?_
      refine e_getI dX0_fillFirst_22 fRX0_23 (by exact okN.sh rfl) (fun _ => rfl) ?_
      rw [r1.2.2]
      refine e_icmp_ge (tgt := 93) dX0_fillFirst_25 (by decide) (fun hc => ?_) (fun hc => ?_)
      · exact e_vret dX0_fillFirst_93 rfl ⟨none, rfl, rfl, r1, r2, r3, r4, by rw [hag] at hF; exact hF⟩
      · exact absurd (nI_le (by omega : g.1 ≤ a) (by omega)) hc
    | succ k ih =>
      intro a N t hak hf hF
      obtain ⟨r1, r2, r3, r4⟩ := keep N hf
      have okN : OkM N := ok.fr r4
      have hNN : NetRep N 2 g := h.fr r4 (by omega)
      have hrl := frs_lt g a
      refine e_iload_n dX0_fillFirst_20 rfl rfl ?_
      refine e_aload_n dX0_fillFirst_21 rfl rfl ?_
      refine e_getI dX0_fillFirst_22 fRX0_23 (by exact okN.sh rfl) (fun _ => rfl) ?_
      rw [r1.2.2]
      refine e_icmp_ge (tgt := 93) dX0_fillFirst_25 (by decide) (fun hc => ?_) (fun hc => ?_)
      · exact absurd hc (nI_ge (by omega) (by omega))
      · have go : ∀ (N' : Mm) (x : Nat) (t : Option Value), Fr 15 15 M1 N' → x = (frs g (a + 1)).1 → FirstAt N' (frs g (a + 1)).2 → Ev B mX0_fillFirst 4 0 0 (Rt (fun v N => v = none ∧ GR N g ∧ N.2.1 14 0 = 1 ∧ Z0 N ∧ Fr 14 19 M N ∧ FirstAt N (fstm g))) 87 [some (.ref 14), some (.ref 2), some (.int (nI x)), some (.int (nI a)), t] [] N' := by
          intro N' x t hf' hx hF'
          refine e_iinc (v := nI (a + 1)) dX0_fillFirst_87 rfl (nI_1 a) (by decide) rfl rfl ?_
          refine e_goto (tgt := 20) dX0_fillFirst_90 (by decide) ?_
          rw [hx]
          exact ih (a + 1) N' t (by omega) hf' hF'
        refine e_iload_n dX0_fillFirst_28 rfl rfl ?_
        refine e_iload_n dX0_fillFirst_29 rfl rfl ?_
        refine e_callN0i [_, _] dX0_fillFirst_30 msmX5_hasBit nest_0 rfl rfl (Nat.le_of_ble_eq_true rfl) (by decide) (c_hasBit (by omega) (by omega)) ?_
        by_cases hbt : (frs g a).1.testBit a = true
        · refine e_if_ne (tgt := 39) dX0_fillFirst_33 (by decide) (fun hq => ?_) (fun hq => ?_)
          · refine e_aload_n dX0_fillFirst_39 rfl rfl ?_
            refine e_aload_n dX0_fillFirst_40 rfl rfl ?_
            refine e_iload_n dX0_fillFirst_41 rfl rfl ?_
            refine e_iload_n dX0_fillFirst_42 rfl rfl ?_
            refine e_callV0i [_, _, _] dX0_fillFirst_43 mvmX0_firstMate lkRX0_91 (by exact okN.sh rfl) ⟨by decide, rfl⟩ rfl rfl (Nat.le_of_ble_eq_true rfl) (by decide) (c_firstMate okN hNN wf r1 (by omega) hrl) ?_
            cases hfm : fm g a (frs g a).1 with
            | none =>
              have e9 : frs g (a + 1) = (dif (frs g a).1 (2 ^ a), (frs g a).2) := by
                show (if (frs g a).1.testBit a = true then _ else _) = _
                rw [if_pos hbt, hfm]
              refine e_istore dX0_fillFirst_46 (by decide) rfl rfl ?_
              refine e_iload_n dX0_fillFirst_48 rfl rfl ?_
              refine e_iconst (v := 1) dX0_fillFirst_49 (by decide) ?_
              refine e_iload_n dX0_fillFirst_50 rfl rfl ?_
              refine e_ishl dX0_fillFirst_51 ?_
              rw [shl_1 (by omega)]
              refine e_iconst (v := (-1)) dX0_fillFirst_52 (by decide) ?_
              refine e_ixor dX0_fillFirst_53 ?_
              refine e_iand dX0_fillFirst_54 ?_
              rw [andn_nI]
              refine e_istore_n dX0_fillFirst_55 rfl (by decide) rfl rfl ?_
              refine e_iload dX0_fillFirst_56 rfl ?_
              refine e_iconst (v := (-1)) dX0_fillFirst_58 (by decide) ?_
              refine e_icmp_eq (tgt := 87) dX0_fillFirst_59 (by decide) (fun hq2 => ?_) (fun hq2 => ?_)
              · exact go N _ _ hf (by rw [e9]) (by rw [e9]; exact hF)
              · exact absurd rfl hq2
            | some b =>
              obtain ⟨hb1, hb2⟩ := fm_lt hfm
              have e9 : frs g (a + 1) = (dif (dif (frs g a).1 (2 ^ a)) (2 ^ b), m2 (m2 (frs g a).2 a (some b)) b (some a)) := by
                show (if (frs g a).1.testBit a = true then _ else _) = _
                rw [if_pos hbt, hfm]
              show Ev _ _ _ _ _ _ 46 _ [.int (nI b)] _
              refine e_istore dX0_fillFirst_46 (by decide) rfl rfl ?_
              refine e_iload_n dX0_fillFirst_48 rfl rfl ?_
              refine e_iconst (v := 1) dX0_fillFirst_49 (by decide) ?_
              refine e_iload_n dX0_fillFirst_50 rfl rfl ?_
              refine e_ishl dX0_fillFirst_51 ?_
              rw [shl_1 (by omega)]
              refine e_iconst (v := (-1)) dX0_fillFirst_52 (by decide) ?_
              refine e_ixor dX0_fillFirst_53 ?_
              refine e_iand dX0_fillFirst_54 ?_
              rw [andn_nI]
              refine e_istore_n dX0_fillFirst_55 rfl (by decide) rfl rfl ?_
              refine e_iload dX0_fillFirst_56 rfl ?_
              refine e_iconst (v := (-1)) dX0_fillFirst_58 (by decide) ?_
              refine e_icmp_eq (tgt := 87) dX0_fillFirst_59 (by decide) (fun hq2 => ?_) (fun hq2 => ?_)
              · exact absurd hq2 (by
                  intro q
                  have := (wI_none (o := some b) (fun k hk => by cases hk; omega)).mp q
                  cases this)
              · refine e_aload_n dX0_fillFirst_62 rfl rfl ?_
                refine e_getR dX0_fillFirst_63 fRX0_15 (by exact okN.sh rfl) (by exact okN.rf rfl) (fun _ => rfl) ?_
                refine e_iload_n dX0_fillFirst_66 rfl rfl ?_
                refine e_iload dX0_fillFirst_67 rfl ?_
                refine e_iastore dX0_fillFirst_69 (by exact okN.sh rfl) (by first | exact vp_in_nI (show a < 12 by omega) (by decide) | exact vp_in_nI (show b < 12 by omega) (by decide)) ?_
                refine e_aload_n dX0_fillFirst_70 rfl rfl ?_
                refine e_getR dX0_fillFirst_71 fRX0_15 (by exact okN.sh rfl) (by exact okN.rf rfl) (fun _ => rfl) ?_
                refine e_iload dX0_fillFirst_74 rfl ?_
                refine e_iload_n dX0_fillFirst_76 rfl rfl ?_
                refine e_iastore dX0_fillFirst_77 (by exact okN.sh rfl) (by first | exact vp_in_nI (show a < 12 by omega) (by decide) | exact vp_in_nI (show b < 12 by omega) (by decide)) ?_
                refine e_iload_n dX0_fillFirst_78 rfl rfl ?_
                refine e_iconst (v := 1) dX0_fillFirst_79 (by decide) ?_
                refine e_iload dX0_fillFirst_80 rfl ?_
                refine e_ishl dX0_fillFirst_82 ?_
                rw [shl_1 (by omega), nI_clamp (by omega), nI_clamp (by omega)]
                refine e_iconst (v := (-1)) dX0_fillFirst_83 (by decide) ?_
                refine e_ixor dX0_fillFirst_84 ?_
                refine e_iand dX0_fillFirst_85 ?_
                rw [andn_nI]
                refine e_istore_n dX0_fillFirst_86 rfl (by decide) rfl rfl ?_
                refine go (sI (sI N 15 a (nI b)) 15 b (nI a)) _ _ ((hf.sI (by decide) (by decide)).sI (by decide) (by decide)) (by rw [e9]) ?_
                rw [e9]
                intro x hx
                rw [rd_sI, rd_sI]
                unfold m2
                by_cases h1 : x = b
                · subst h1; simp [wI]
                · by_cases h2 : x = a
                  · subst h2; simp [h1, wI]
                  · simp [h1, h2]; exact hF x hx
          · rw [if_pos hbt] at hq; exact absurd hq (by decide)
        · refine e_if_ne (tgt := 39) dX0_fillFirst_33 (by decide) (fun hq => ?_) (fun hq => ?_)
          · rw [if_neg hbt] at hq; exact absurd rfl hq
          · have e9 : frs g (a + 1) = frs g a := by
              show (if (frs g a).1.testBit a = true then _ else _) = _
              rw [if_neg hbt]
            refine e_goto (tgt := 87) dX0_fillFirst_36 (by decide) ?_
            exact go N _ _ hf (by rw [e9]) (by rw [e9]; exact hF)
  have okS : OkM (sF M1 15 12 (-1)) := ok1.fr (sF_Fr _ _ _ _)
  refine e_aload_n dX0_fillFirst_13 rfl rfl ?_
  refine e_getI dX0_fillFirst_14 fRX0_19 (by exact okS.sh rfl) (fun _ => rfl) ?_
  rw [rd_sF, if_neg (by decide), g1.2.1]
  refine e_istore_n dX0_fillFirst_17 rfl (by decide) rfl rfl ?_
  refine e_iconst (v := 0) dX0_fillFirst_18 (by decide) ?_
  refine e_istore_n dX0_fillFirst_19 rfl (by decide) rfl rfl ?_
  refine loop g.1 0 _ none (by omega) (sF_Fr _ _ _ _) (fun x hx => ?_)
  rw [rd_sF, if_pos ⟨rfl, hx⟩]; rfl

