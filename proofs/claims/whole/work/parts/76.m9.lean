/-! the Model: what the tables say -/
theorem c_mmissing {B : Bd} {M : Mm} {g : Nw} (ok : OkM M) (h : NowR M 63 g) (wf : Wfn g) (hl : MLd M g) : Ct B mX6_missing 2 0 0 [.ref 60] M (Is (some (.int (msI g))) M) := by
  have hcl := cl_al wf
  have hal := al_lt g
  refine Ct.of (by decide) rfl rfl (Nat.le_of_ble_eq_true rfl) ?_
  refine e_aload_n dX6_missing_0 rfl rfl ?_
  refine e_callV0i [] dX6_missing_1 mvmX6_nodes lkRX6_181 (by exact ok.sh rfl) ⟨by decide, rfl⟩ rfl rfl (Nat.le_of_ble_eq_true rfl) (by decide) (c_nodes ok h) ?_
  refine e_iconst (v := 2) dX6_missing_4 (by decide) ?_
  refine e_aload_n dX6_missing_5 rfl rfl ?_
  refine e_getR dX6_missing_6 fRX6_34 (by exact ok.sh rfl) (by exact ok.rf rfl) (fun _ => rfl) ?_
  refine e_aload_n dX6_missing_9 rfl rfl ?_
  refine e_callV0i [] dX6_missing_10 mvmX6_all lkRX6_194 (by exact ok.sh rfl) ⟨by decide, rfl⟩ rfl rfl (Nat.le_of_ble_eq_true rfl) (by decide) (c_mall ok h wf.1.2) ?_
  refine e_iaload dX6_missing_13 (by exact ok.sh rfl) (by exact vp_in_nI (show al g < 4096 from hcl.2) (by decide)) ?_
  rw [hcl.1, (hl _ hal).1]
  refine e_imul dX6_missing_14 ?_
  refine e_isub dX6_missing_15 ?_
  exact e_iret dX6_missing_16 rfl rfl ⟨rfl, rfl⟩
theorem fnd_none {p : Nat → Bool} : ∀ {k lo : Nat}, fnd p k lo = none → ∀ b, lo ≤ b → b < lo + k → p b = false := by
  intro k
  induction k with
  | zero => intro lo _ b h1 h2; omega
  | succ k ih =>
    intro lo h b h1 h2
    have h' : (if p lo = true then some lo else fnd p k (lo + 1)) = none := h
    by_cases hp : p lo = true
    · rw [if_pos hp] at h'; cases h'
    · rw [if_neg hp] at h'
      by_cases hb : b = lo
      · rw [hb]; simpa using hp
      · exact ih h' b (by omega) (by omega)
theorem dif_two (S a b : Nat) : dif S (2 ^ a ||| 2 ^ b) = ex (ex S a) b := by
  apply Nat.eq_of_testBit_eq
  intro i
  rw [dif_bit, ex_bit, ex_bit, Nat.testBit_or, Nat.testBit_two_pow, Nat.testBit_two_pow]
  cases S.testBit i <;> by_cases h1 : a = i <;> by_cases h2 : b = i <;> simp [h1, h2]
theorem c_laysFirst {B : Bd} {M : Mm} {s : Sx} (h : MI M s) : Ct B mX6_laysFirst 3 0 0 [.ref 60] M (Rt (fun u N => u = none ∧ MI N s ∧ N.2.1 60 0 = M.2.1 60 0 ∧ FM M N ∧ ∀ x, x < (sgg s).1 → N.2.1 79 x = wI (fstm (sgg s) x))) := by
  refine Ct.of (by decide) rfl rfl (Nat.le_of_ble_eq_true rfl) ?_
  refine e_aload_n dX6_laysFirst_0 rfl rfl ?_
  refine e_callV1 [] dX6_laysFirst_1 mvmX6_lays lkRX6_209 (by exact h.1.sh rfl) ⟨by decide, rfl⟩ rfl rfl (Nat.le_of_ble_eq_true rfl) (by decide) (c_lays h) (fun u K0 h0 => ?_)
  obtain ⟨hu, i0, l0, f0⟩ := h0
  subst hu
  have ok := i0.1
  have wf := i0.wf
  have hg12 := i0.g12
  have hp12 := p12 hg12.2
  have hnow := i0.now
  have hcl := cl_al wf
  have hal := al_lt (sgg s)
  generalize hg : sgg s = g at *
  generalize hΦ : (Rt (fun u N => u = none ∧ MI N s ∧ N.2.1 60 0 = M.2.1 60 0 ∧ FM M N ∧ ∀ x, x < g.1 → N.2.1 79 x = wI (fstm g x))) = Φ
  refine e_aload_n dX6_laysFirst_4 rfl rfl ?_
  refine e_callV0i [] dX6_laysFirst_5 mvmX6_all lkRX6_194 (by exact ok.sh rfl) ⟨by decide, rfl⟩ rfl rfl (Nat.le_of_ble_eq_true rfl) (by decide) (c_mall ok hnow hg12.2) ?_
  refine e_istore_n dX6_laysFirst_8 rfl (by decide) rfl rfl ?_
  refine e_aload_n dX6_laysFirst_9 rfl rfl ?_
  refine e_getR dX6_laysFirst_10 fRX6_34 (by exact ok.sh rfl) (by exact ok.rf rfl) (fun _ => rfl) ?_
  refine e_aload_n dX6_laysFirst_13 rfl rfl ?_
  refine e_callV0i [] dX6_laysFirst_14 mvmX6_all lkRX6_194 (by exact ok.sh rfl) ⟨by decide, rfl⟩ rfl rfl (Nat.le_of_ble_eq_true rfl) (by decide) (c_mall ok hnow hg12.2) ?_
  refine e_iaload dX6_laysFirst_17 (by exact ok.sh rfl) (by exact vp_in_nI (show al g < 4096 from hcl.2) (by decide)) ?_
  rw [hcl.1, (l0 _ hal).1]
  show Ev _ _ _ _ _ _ 18 _ [.int (nI (mst g (al g)))] _
  refine e_istore_n dX6_laysFirst_18 rfl (by decide) rfl rfl ?_
  refine e_iconst (v := 0) dX6_laysFirst_19 (by decide) ?_
  refine e_istore_n dX6_laysFirst_20 rfl (by decide) rfl rfl ?_
  have outer : ∀ j a N (t4 : Option Value), a + j = g.1 → Fr 79 79 K0 N → (∀ x, x < a → (frs g a).1.testBit x = false) → (∀ x, x < g.1 → (frs g a).1.testBit x = false → N.2.1 79 x = wI ((frs g a).2 x)) → Ev B mX6_laysFirst 3 0 0 Φ 21 [some (.ref 60), some (.int (nI (frs g a).1)), some (.int (nI (mst g (frs g a).1))), some (.int (nI a)), t4] [] N := by
    intro j
    induction j with
    | zero =>
      intro a N t4 haj fN hlo hrow
      have hag : a = g.1 := by omega
      subst hag
      have okN : OkM N := ok.fr fN
      have nowN : NowR N 63 g := hnow.fr fN (by omega)
      refine e_iload_n dX6_laysFirst_21 rfl rfl ?_
      refine e_aload_n dX6_laysFirst_22 rfl rfl ?_
      refine e_callV0i [] dX6_laysFirst_23 mvmX6_nodes lkRX6_181 (by exact okN.sh rfl) ⟨by decide, rfl⟩ rfl rfl (Nat.le_of_ble_eq_true rfl) (by decide) (c_nodes okN nowN) ?_
      refine e_icmp_ge (tgt := 161) dX6_laysFirst_26 (by decide) (fun _ => ?_) (fun hz => absurd (nI_le (by omega) (by omega)) hz)
      refine e_vret dX6_laysFirst_161 rfl ?_
      rw [← hΦ]
      refine ⟨none, rfl, rfl, i0.z (fN.Z (by decide)), ?_, f0.FM.trans (fN.FM (by decide)), fun x hx => hrow x hx (hlo x hx)⟩
      rw [fN.2.2 60 (by omega), f0.2.2.2.1 0 (by decide)]
    | succ j ih =>
      intro a N t4 haj fN hlo hrow
      have okN : OkM N := ok.fr fN
      have nowN : NowR N 63 g := hnow.fr fN (by omega)
      have hR := frs_lt g a
      have hst : frs g (a + 1) = if (frs g a).1.testBit a = true then (match fm g a (frs g a).1 with
        | none => (dif (frs g a).1 (2 ^ a), (frs g a).2)
        | some b => (dif (dif (frs g a).1 (2 ^ a)) (2 ^ b), m2 (m2 (frs g a).2 a (some b)) b (some a))) else frs g a := rfl
      generalize hRq : (frs g a).1 = R at *
      generalize hmq : (frs g a).2 = m at *
      refine e_iload_n dX6_laysFirst_21 rfl rfl ?_
      refine e_aload_n dX6_laysFirst_22 rfl rfl ?_
      refine e_callV0i [] dX6_laysFirst_23 mvmX6_nodes lkRX6_181 (by exact okN.sh rfl) ⟨by decide, rfl⟩ rfl rfl (Nat.le_of_ble_eq_true rfl) (by decide) (c_nodes okN nowN) ?_
      refine e_icmp_ge (tgt := 161) dX6_laysFirst_26 (by decide) (fun hz => absurd hz (nI_ge (by omega) (by omega))) (fun _ => ?_)
      refine e_iload_n dX6_laysFirst_29 rfl rfl ?_
      refine e_iload_n dX6_laysFirst_30 rfl rfl ?_
      refine e_callS0i [_, _] dX6_laysFirst_31 msmX6_has lkRX6_183 rfl rfl (Nat.le_of_ble_eq_true rfl) (by decide) (c_has (by omega) (by omega)) ?_
      by_cases hbit : R.testBit a = true
      · rw [if_pos hbit] at hst ⊢
        refine e_if_ne (tgt := 40) dX6_laysFirst_34 (by decide) (fun _ => ?_) (fun hz => absurd hz (by decide))
        refine e_iload_n dX6_laysFirst_40 rfl rfl ?_
        refine e_iconst (v := 1) dX6_laysFirst_41 (by decide) ?_
        refine e_iload_n dX6_laysFirst_42 rfl rfl ?_
        refine e_ishl dX6_laysFirst_43 ?_
        rw [shl_1 (by omega)]
        refine e_iconst (v := (-1)) dX6_laysFirst_44 (by decide) ?_
        refine e_ixor dX6_laysFirst_45 ?_
        refine e_iand dX6_laysFirst_46 ?_
        rw [andn_nI]
        show Ev _ _ _ _ _ _ 47 _ [.int (nI (ex R a))] _
        refine e_istore_n dX6_laysFirst_47 rfl (by decide) rfl rfl ?_
        refine e_aload_n dX6_laysFirst_48 rfl rfl ?_
        refine e_getR dX6_laysFirst_49 fRX6_47 (by exact okN.sh rfl) (by exact okN.rf rfl) (fun _ => rfl) ?_
        refine e_iload_n dX6_laysFirst_52 rfl rfl ?_
        refine e_iconst (v := (-1)) dX6_laysFirst_53 (by decide) ?_
        refine e_iastore dX6_laysFirst_54 (by exact okN.sh rfl) (by exact vp_in_nI (show a < 12 by omega) (by decide)) ?_
        rw [nI_clamp (by omega)]
        refine e_iload_n dX6_laysFirst_55 rfl rfl ?_
        refine e_iconst (v := 1) dX6_laysFirst_56 (by decide) ?_
        refine e_iadd dX6_laysFirst_57 ?_
        rw [nI_1]
        refine e_istore dX6_laysFirst_58 (by decide) rfl rfl ?_
        have hRa : ex R a < 2 ^ g.1 := Nat.lt_of_le_of_lt (dif_le _ _) hR
        have hxR : ∀ x, x < a + 1 → (ex R a).testBit x = false := fun x hx => by
          rw [ex_bit]
          by_cases hxa : a = x
          · simp [hxa]
          · rw [hlo x (by omega)]; rfl
        -- none is found
        have inner : ∀ j2 b, b + j2 = g.1 → a < b → fnd (pfm g a R) (g.1 - b) b = fm g a R → Ev B mX6_laysFirst 3 0 0 Φ 60 [some (.ref 60), some (.int (nI (ex R a))), some (.int (nI (mst g R))), some (.int (nI a)), some (.int (nI b))] [] (sI N 79 a (-1)) := by
          have fN1 : Fr 79 79 K0 (sI N 79 a (-1)) := fN.sI (by decide) (by decide)
          have ok1 : OkM (sI N 79 a (-1)) := ok.fr fN1
          have now1 : NowR (sI N 79 a (-1)) 63 g := hnow.fr fN1 (by omega)
          have r81 : (sI N 79 a (-1)).2.1 79 a = -1 := by rw [rd_self]
          intro j2
          induction j2 with
          | zero =>
            intro b hb hab hf
            have hbg : b = g.1 := by omega
            subst hbg
            rw [Nat.sub_self] at hf
            have hfm : fm g a R = none := hf.symm
            rw [hfm] at hst
            have e1 : (frs g (a + 1)).1 = ex R a := by rw [hst]; rfl
            have e2 : (frs g (a + 1)).2 = m := by rw [hst]
            have hdue : mst g R = mst g (ex R a) := by
              rcases f1_or wf.2.1 (show R < 4096 by omega) hbit with q | ⟨b, b1, b2, b3, b4⟩
              · exact q
              · have hbg : b < g.1 := by
                  rcases Nat.lt_or_ge b g.1 with q | q
                  · exact q
                  · rw [bit_hi hR q] at b1; cases b1
                have hba : a < b := by
                  rcases Nat.lt_trichotomy b a with q | q | q
                  · rw [hlo b q] at b1; cases b1
                  · exact absurd q b2
                  · exact q
                have := fnd_none hfm b (by omega) (by omega)
                unfold pfm at this
                rw [b1, b3, dif_two] at this
                have e9 : mst g (ex (ex R a) b) + 1 = mst g R := b4.symm
                rw [decide_eq_true e9] at this
                cases this
            refine e_iload dX6_laysFirst_60 rfl ?_
            refine e_aload_n dX6_laysFirst_62 rfl rfl ?_
            refine e_callV0i [] dX6_laysFirst_63 mvmX6_nodes lkRX6_181 (by exact ok1.sh rfl) ⟨by decide, rfl⟩ rfl rfl (Nat.le_of_ble_eq_true rfl) (by decide) (c_nodes ok1 now1) ?_
            refine e_icmp_ge (tgt := 155) dX6_laysFirst_66 (by decide) (fun _ => ?_) (fun hz => absurd (nI_le (by omega) (by omega)) hz)
            refine e_iinc (v := nI (a + 1)) dX6_laysFirst_155 rfl (nI_1 a) (by decide) rfl rfl ?_
            refine e_goto (tgt := 21) dX6_laysFirst_158 (by decide) ?_
            have go := ih (a + 1) (sI N 79 a (-1)) (some (.int (nI g.1))) (by omega) fN1 (by rw [e1]; exact hxR) (fun x hx hb => ?_)
            · rw [e1, ← hdue] at go
              exact go
            · rw [e1] at hb
              rw [e2]
              rw [ex_bit] at hb
              by_cases hxa : x = a
              · rw [hxa, rd_self]
                have : m a = none := by rw [← hmq]; exact (frs_ok wf a).2 a (by rw [hRq]; exact hbit)
                rw [this]; rfl
              · rw [rd_ni hxa]
                refine hrow x hx ?_
                have h9 : ¬ a = x := fun q => hxa q.symm
                simpa [h9] using hb
          | succ j2 ih2 =>
            intro b hb hab hf
            have hgb : g.1 - b = (g.1 - (b + 1)) + 1 := by omega
            rw [hgb] at hf
            have hf' : (if pfm g a R b = true then some b else fnd (pfm g a R) (g.1 - (b + 1)) (b + 1)) = fm g a R := hf
            -- not this one
            have skip : ¬ pfm g a R b = true → Ev B mX6_laysFirst 3 0 0 Φ 149 [some (.ref 60), some (.int (nI (ex R a))), some (.int (nI (mst g R))), some (.int (nI a)), some (.int (nI b))] [] (sI N 79 a (-1)) := by
              intro hno
              rw [if_neg hno] at hf'
              refine e_iinc (v := nI (b + 1)) dX6_laysFirst_149 rfl (nI_1 b) (by decide) rfl rfl ?_
              refine e_goto (tgt := 60) dX6_laysFirst_152 (by decide) ?_
              exact ih2 (b + 1) (by omega) (by omega) hf'
            have hRb : (ex R a).testBit b = R.testBit b := by
              rw [ex_bit]
              have : ¬ a = b := by omega
              simp [this]
            refine e_iload dX6_laysFirst_60 rfl ?_
            refine e_aload_n dX6_laysFirst_62 rfl rfl ?_
            refine e_callV0i [] dX6_laysFirst_63 mvmX6_nodes lkRX6_181 (by exact ok1.sh rfl) ⟨by decide, rfl⟩ rfl rfl (Nat.le_of_ble_eq_true rfl) (by decide) (c_nodes ok1 now1) ?_
            refine e_icmp_ge (tgt := 155) dX6_laysFirst_66 (by decide) (fun hz => absurd hz (nI_ge (by omega) (by omega))) (fun _ => ?_)
            refine e_aload_n dX6_laysFirst_69 rfl rfl ?_
            refine e_getR dX6_laysFirst_70 fRX6_47 (by exact ok1.sh rfl) (by exact ok1.rf rfl) (fun _ => rfl) ?_
            refine e_iload_n dX6_laysFirst_73 rfl rfl ?_
            refine e_iaload dX6_laysFirst_74 (by exact ok1.sh rfl) (by exact vp_in_nI (show a < 12 by omega) (by decide)) ?_
            refine e_iconst (v := (-1)) dX6_laysFirst_75 (by decide) ?_
            rw [nI_clamp (by omega), r81]
            refine e_icmp_ne (tgt := 155) dX6_laysFirst_76 (by decide) (fun hz => absurd rfl hz) (fun _ => ?_)
            refine e_iload_n dX6_laysFirst_79 rfl rfl ?_
            refine e_iload dX6_laysFirst_80 rfl ?_
            refine e_callS0i [_, _] dX6_laysFirst_82 msmX6_has lkRX6_183 rfl rfl (Nat.le_of_ble_eq_true rfl) (by decide) (c_has (by omega) (by omega)) ?_
            by_cases hb1 : (ex R a).testBit b = true
            · rw [if_pos hb1]
              refine e_if_eq (tgt := 149) dX6_laysFirst_85 (by decide) (fun hz => absurd hz (by decide)) (fun _ => ?_)
              refine e_aload_n dX6_laysFirst_88 rfl rfl ?_
              refine e_iload_n dX6_laysFirst_89 rfl rfl ?_
              refine e_iload dX6_laysFirst_90 rfl ?_
              refine e_callV0i [_, _] dX6_laysFirst_92 mvmX6_weight lkRX6_203 (by exact ok1.sh rfl) ⟨by decide, rfl⟩ rfl rfl (Nat.le_of_ble_eq_true rfl) (by decide) (c_weight ok1 now1 (by omega) (by omega)) ?_
              refine e_iconst (v := (-1)) dX6_laysFirst_95 (by decide) ?_
              have hn := wI_none (wf.wb a b)
              refine e_icmp_eq (tgt := 149) dX6_laysFirst_96 (by decide) (fun hz => skip (fun q => ?_)) (fun hz => ?_)
              · unfold pfm at q
                rw [hn.mp hz] at q
                simp at q
              · have hsm : (g.2.1 a b).isSome = true := by
                  cases hw : g.2.1 a b with
                  | none => exact absurd (hn.mpr hw) hz
                  | some k => rfl
                have hT : ex (ex R a) b < 2 ^ g.1 := Nat.lt_of_le_of_lt (dif_le _ _) hRa
                have e77 : (sI N 79 a (-1)).2.1 75 (ex (ex R a) b) = nI (mst g (ex (ex R a) b)) := by
                  rw [rd_na (by decide), fN.2.2 75 (by omega)]
                  exact (l0 _ hT).1
                have hl1 := mst_lt wf (ex (ex R a) b)
                have hl2 := mst_lt wf R
                refine e_aload_n dX6_laysFirst_99 rfl rfl ?_
                refine e_getR dX6_laysFirst_100 fRX6_34 (by exact ok1.sh rfl) (by exact ok1.rf rfl) (fun _ => rfl) ?_
                refine e_iload_n dX6_laysFirst_103 rfl rfl ?_
                refine e_iconst (v := 1) dX6_laysFirst_104 (by decide) ?_
                refine e_iload dX6_laysFirst_105 rfl ?_
                refine e_ishl dX6_laysFirst_107 ?_
                rw [shl_1 (by omega)]
                refine e_iconst (v := (-1)) dX6_laysFirst_108 (by decide) ?_
                refine e_ixor dX6_laysFirst_109 ?_
                refine e_iand dX6_laysFirst_110 ?_
                rw [andn_nI]
                show Ev _ _ _ _ _ _ 111 _ [.int (nI (ex (ex R a) b)), _] _
                refine e_iaload (n := 4096) dX6_laysFirst_111 (ok1.sh rfl) (vp_in_nI (show ex (ex R a) b < 4096 by omega) (by decide)) ?_
                rw [nI_clamp (by omega), e77]
                refine e_iconst (v := 1) dX6_laysFirst_112 (by decide) ?_
                refine e_iadd dX6_laysFirst_113 ?_
                rw [nI_1]
                refine e_iload_n dX6_laysFirst_114 rfl rfl ?_
                refine e_icmp_eq (tgt := 121) dX6_laysFirst_115 (by decide) (fun hz2 => ?_) (fun hz2 => ?_)
                · have hdue : mst g (ex (ex R a) b) + 1 = mst g R := (nI_eq (by omega) (by omega)).mp hz2
                  have hpf : pfm g a R b = true := by
                    unfold pfm
                    rw [← hRb, hb1, hsm, dif_two, decide_eq_true hdue]; rfl
                  rw [if_pos hpf] at hf'
                  rw [← hf'] at hst
                  have e1 : (frs g (a + 1)).1 = ex (ex R a) b := by rw [hst]; rfl
                  have e2 : (frs g (a + 1)).2 = m2 (m2 m a (some b)) b (some a) := by rw [hst]
                  refine e_aload_n dX6_laysFirst_121 rfl rfl ?_
                  refine e_getR dX6_laysFirst_122 fRX6_47 (by exact ok1.sh rfl) (by exact ok1.rf rfl) (fun _ => rfl) ?_
                  refine e_iload_n dX6_laysFirst_125 rfl rfl ?_
                  refine e_iload dX6_laysFirst_126 rfl ?_
                  refine e_iastore dX6_laysFirst_128 (by exact ok1.sh rfl) (by first | exact vp_in_nI (show a < 12 by omega) (by decide) | exact vp_in_nI (show b < 12 by omega) (by decide)) ?_
                  rw [nI_clamp (by omega)]
                  refine e_aload_n dX6_laysFirst_129 rfl rfl ?_
                  refine e_getR dX6_laysFirst_130 fRX6_47 (by exact ok1.sh rfl) (by exact ok1.rf rfl) (fun _ => rfl) ?_
                  refine e_iload dX6_laysFirst_133 rfl ?_
                  refine e_iload_n dX6_laysFirst_135 rfl rfl ?_
                  refine e_iastore dX6_laysFirst_136 (by exact ok1.sh rfl) (by first | exact vp_in_nI (show a < 12 by omega) (by decide) | exact vp_in_nI (show b < 12 by omega) (by decide)) ?_
                  rw [nI_clamp (by omega)]
                  refine e_iload_n dX6_laysFirst_137 rfl rfl ?_
                  refine e_iconst (v := 1) dX6_laysFirst_138 (by decide) ?_
                  refine e_iload dX6_laysFirst_139 rfl ?_
                  refine e_ishl dX6_laysFirst_141 ?_
                  rw [shl_1 (by omega)]
                  refine e_iconst (v := (-1)) dX6_laysFirst_142 (by decide) ?_
                  refine e_ixor dX6_laysFirst_143 ?_
                  refine e_iand dX6_laysFirst_144 ?_
                  rw [andn_nI]
                  show Ev _ _ _ _ _ _ 145 _ [.int (nI (ex (ex R a) b))] _
                  refine e_istore_n dX6_laysFirst_145 rfl (by decide) rfl rfl ?_
                  rw [← hdue]
                  refine e_iinc (v := nI (mst g (ex (ex R a) b))) dX6_laysFirst_146 rfl (pk_m1 _) (by decide) rfl rfl ?_
                  refine e_iinc (v := nI (b + 1)) dX6_laysFirst_149 rfl (nI_1 b) (by decide) rfl rfl ?_
                  refine e_goto (tgt := 60) dX6_laysFirst_152 (by decide) ?_
                  generalize hK : sI (sI (sI N 79 a (-1)) 79 a (nI b)) 79 b (nI a) = K
                  have fK : Fr 79 79 K0 K := by rw [← hK]; exact (fN1.sI (by decide) (by decide)).sI (by decide) (by decide)
                  have okK : OkM K := ok.fr fK
                  have nowK : NowR K 63 g := hnow.fr fK (by omega)
                  have ka : K.2.1 79 a = nI b := by rw [← hK, rd_ni (by omega), rd_self]
                  -- behind the loop
                  have fin : ∀ (t4 : Option Value), Ev B mX6_laysFirst 3 0 0 Φ 155 [some (.ref 60), some (.int (nI (ex (ex R a) b))), some (.int (nI (mst g (ex (ex R a) b)))), some (.int (nI a)), t4] [] K := by
                    intro t4
                    refine e_iinc (v := nI (a + 1)) dX6_laysFirst_155 rfl (nI_1 a) (by decide) rfl rfl ?_
                    refine e_goto (tgt := 21) dX6_laysFirst_158 (by decide) ?_
                    have go := ih (a + 1) K t4 (by omega) fK (fun x hx => by rw [e1, ex_bit, hxR x hx]; rfl) (fun x hx hb => ?_)
                    · rw [e1] at go
                      exact go
                    · rw [e1] at hb
                      rw [e2, ← hK]
                      unfold m2
                      by_cases hxb : x = b
                      · rw [if_pos hxb, hxb, rd_self]; rfl
                      · rw [if_neg hxb, rd_ni hxb]
                        by_cases hxa : x = a
                        · rw [if_pos hxa, hxa, rd_self]; rfl
                        · rw [if_neg hxa, rd_ni hxa, rd_ni hxa]
                          refine hrow x hx ?_
                          rw [ex_bit, ex_bit] at hb
                          have h8 : ¬ a = x := fun q => hxa q.symm
                          have h9 : ¬ b = x := fun q => hxb q.symm
                          simpa [h8, h9] using hb
                  refine e_iload dX6_laysFirst_60 rfl ?_
                  refine e_aload_n dX6_laysFirst_62 rfl rfl ?_
                  refine e_callV0i [] dX6_laysFirst_63 mvmX6_nodes lkRX6_181 (by exact okK.sh rfl) ⟨by decide, rfl⟩ rfl rfl (Nat.le_of_ble_eq_true rfl) (by decide) (c_nodes okK nowK) ?_
                  refine e_icmp_ge (tgt := 155) dX6_laysFirst_66 (by decide) (fun _ => fin _) (fun _ => ?_)
                  refine e_aload_n dX6_laysFirst_69 rfl rfl ?_
                  refine e_getR dX6_laysFirst_70 fRX6_47 (by exact okK.sh rfl) (by exact okK.rf rfl) (fun _ => rfl) ?_
                  refine e_iload_n dX6_laysFirst_73 rfl rfl ?_
                  refine e_iaload dX6_laysFirst_74 (by exact okK.sh rfl) (by exact vp_in_nI (show a < 12 by omega) (by decide)) ?_
                  refine e_iconst (v := (-1)) dX6_laysFirst_75 (by decide) ?_
                  rw [nI_clamp (by omega), ka]
                  refine e_icmp_ne (tgt := 155) dX6_laysFirst_76 (by decide) (fun _ => fin _) (fun hz => ?_)
                  have h8 : (nI b).toInt = (-1 : Int32).toInt := by rw [hz]
                  rw [nI_toInt (by omega)] at h8
                  have h9 : (-1 : Int32).toInt = -1 := by decide
                  omega
                · refine e_goto (tgt := 149) dX6_laysFirst_118 (by decide) ?_
                  refine skip (fun q => hz2 ?_)
                  unfold pfm at q
                  rw [dif_two] at q
                  simp only [Bool.and_eq_true, decide_eq_true_eq] at q
                  rw [q.2.2]
            · rw [if_neg hb1]
              refine e_if_eq (tgt := 149) dX6_laysFirst_85 (by decide) (fun _ => skip (fun q => ?_)) (fun hz => absurd rfl hz)
              unfold pfm at q
              rw [← hRb] at q
              simp only [Bool.and_eq_true] at q
              exact hb1 q.1
        exact inner (g.1 - (a + 1)) (a + 1) (by omega) (by omega) rfl
      · rw [if_neg hbit] at hst ⊢
        have e1 : (frs g (a + 1)).1 = R := by rw [hst, hRq]
        have e2 : (frs g (a + 1)).2 = m := by rw [hst, hmq]
        refine e_if_ne (tgt := 40) dX6_laysFirst_34 (by decide) (fun hz => absurd rfl hz) (fun _ => ?_)
        refine e_goto (tgt := 155) dX6_laysFirst_37 (by decide) ?_
        refine e_iinc (v := nI (a + 1)) dX6_laysFirst_155 rfl (nI_1 a) (by decide) rfl rfl ?_
        refine e_goto (tgt := 21) dX6_laysFirst_158 (by decide) ?_
        have go := ih (a + 1) N t4 (by omega) fN (fun x hx => by
          rw [e1]
          by_cases hxa : x = a
          · rw [hxa]; simpa using hbit
          · exact hlo x (by omega)) (fun x hx hb => by rw [e2]; rw [e1] at hb; exact hrow x hx hb)
        rw [e1] at go
        exact go
  refine outer g.1 0 K0 none (by omega) Fr.rf (fun x hx => by omega) (fun x hx hb => ?_)
  have : (al g).testBit x = false := hb
  rw [al_bit] at this
  simp at this
  omega
theorem c_missed {B : Bd} {M : Mm} {s : Sx} (h : MI M s) : Ct B mX6_missed 3 0 0 [.ref 60] M (Rt (fun u N => u = some (.int (nI (msd (sgg s)))) ∧ MI N s ∧ FL M N)) := by
  refine Ct.of (by decide) rfl rfl (Nat.le_of_ble_eq_true rfl) ?_
  refine e_aload_n dX6_missed_0 rfl rfl ?_
  refine e_callV1 [] dX6_missed_1 mvmX6_lays lkRX6_209 (by exact h.1.sh rfl) ⟨by decide, rfl⟩ rfl rfl (Nat.le_of_ble_eq_true rfl) (by decide) (c_lays h) (fun u N h0 => ?_)
  obtain ⟨hu, i0, l0, f0⟩ := h0
  subst hu
  have ok := i0.1
  have wf := i0.wf
  have hg12 := i0.g12
  have hp12 := p12 hg12.2
  have hnow := i0.now
  have hcl := cl_al wf
  have hal := al_lt (sgg s)
  generalize hg : sgg s = g at *
  have loop : ∀ j a, a + j = g.1 → Ev B mX6_missed 3 0 0 (Rt (fun u N => u = some (.int (nI (msd g))) ∧ MI N s ∧ FL M N)) 8 [some (.ref 60), some (.int (nI (mask (pms g) a))), some (.int (nI a))] [] N := by
    intro j
    induction j with
    | zero =>
      intro a haj
      have hag : a = g.1 := by omega
      subst hag
      refine e_iload_n dX6_missed_8 rfl rfl ?_
      refine e_aload_n dX6_missed_9 rfl rfl ?_
      refine e_callV0i [] dX6_missed_10 mvmX6_nodes lkRX6_181 (by exact ok.sh rfl) ⟨by decide, rfl⟩ rfl rfl (Nat.le_of_ble_eq_true rfl) (by decide) (c_nodes ok hnow) ?_
      refine e_icmp_ge (tgt := 59) dX6_missed_13 (by decide) (fun _ => ?_) (fun hz => absurd (nI_le (by omega) (by omega)) hz)
      refine e_iload_n dX6_missed_59 rfl rfl ?_
      exact e_iret dX6_missed_60 rfl rfl ⟨_, rfl, rfl, i0, f0⟩
    | succ j ih =>
      intro a haj
      have hT : dif (al g) (2 ^ a) < 2 ^ g.1 := Nat.lt_of_le_of_lt (dif_le _ _) hal
      have l1 := mst_lt wf (dif (al g) (2 ^ a))
      have l2 := mst_lt wf (al g)
      have go := ih (a + 1) (by omega)
      refine e_iload_n dX6_missed_8 rfl rfl ?_
      refine e_aload_n dX6_missed_9 rfl rfl ?_
      refine e_callV0i [] dX6_missed_10 mvmX6_nodes lkRX6_181 (by exact ok.sh rfl) ⟨by decide, rfl⟩ rfl rfl (Nat.le_of_ble_eq_true rfl) (by decide) (c_nodes ok hnow) ?_
      refine e_icmp_ge (tgt := 59) dX6_missed_13 (by decide) (fun hz => absurd hz (nI_ge (by omega) (by omega))) (fun _ => ?_)
      refine e_iload_n dX6_missed_16 rfl rfl ?_
      refine e_aload_n dX6_missed_17 rfl rfl ?_
      refine e_getR dX6_missed_18 fRX6_34 (by exact ok.sh rfl) (by exact ok.rf rfl) (fun _ => rfl) ?_
      refine e_aload_n dX6_missed_21 rfl rfl ?_
      refine e_callV0i [] dX6_missed_22 mvmX6_all lkRX6_194 (by exact ok.sh rfl) ⟨by decide, rfl⟩ rfl rfl (Nat.le_of_ble_eq_true rfl) (by decide) (c_mall ok hnow hg12.2) ?_
      refine e_iconst (v := 1) dX6_missed_25 (by decide) ?_
      refine e_iload_n dX6_missed_26 rfl rfl ?_
      refine e_ishl dX6_missed_27 ?_
      rw [shl_1 (by omega)]
      refine e_iconst (v := (-1)) dX6_missed_28 (by decide) ?_
      refine e_ixor dX6_missed_29 ?_
      refine e_iand dX6_missed_30 ?_
      rw [andn_nI]
      refine e_iaload dX6_missed_31 (by exact ok.sh rfl) (by exact vp_in_nI (show dif (al g) (2 ^ a) < 4096 by omega) (by decide)) ?_
      refine e_aload_n dX6_missed_32 rfl rfl ?_
      refine e_getR dX6_missed_33 fRX6_34 (by exact ok.sh rfl) (by exact ok.rf rfl) (fun _ => rfl) ?_
      refine e_aload_n dX6_missed_36 rfl rfl ?_
      rw [nI_clamp (by omega), (l0 _ hT).1]
      refine e_callV0i [] dX6_missed_37 mvmX6_all lkRX6_194 (by exact ok.sh rfl) ⟨by decide, rfl⟩ rfl rfl (Nat.le_of_ble_eq_true rfl) (by decide) (c_mall ok hnow hg12.2) ?_
      refine e_iaload dX6_missed_40 (by exact ok.sh rfl) (by exact vp_in_nI (show al g < 4096 from hcl.2) (by decide)) ?_
      rw [hcl.1, (l0 _ hal).1]
      by_cases hp : pms g a = true
      · have e := mask_t hp
        rw [e] at go
        unfold pms at hp
        have hp' := of_decide_eq_true hp
        refine e_icmp_ne (tgt := 50) dX6_missed_41 (by decide) (fun hz => absurd (by show nI (mst g (dif (al g) (2 ^ a))) = nI (mst g (al g)); rw [hp']) hz) (fun _ => ?_)
        refine e_iconst (v := 1) dX6_missed_44 (by decide) ?_
        refine e_iload_n dX6_missed_45 rfl rfl ?_
        refine e_ishl dX6_missed_46 ?_
        rw [shl_1 (by omega)]
        refine e_goto (tgt := 51) dX6_missed_47 (by decide) ?_
        refine e_ior dX6_missed_51 ?_
        rw [fa_or]
        refine e_istore_n dX6_missed_52 rfl (by decide) rfl rfl ?_
        refine e_iinc (v := nI (a + 1)) dX6_missed_53 rfl (nI_1 a) (by decide) rfl rfl ?_
        refine e_goto (tgt := 8) dX6_missed_56 (by decide) ?_
        exact go
      · have e := mask_f hp
        rw [e] at go
        refine e_icmp_ne (tgt := 50) dX6_missed_41 (by decide) (fun _ => ?_) (fun hz => ?_)
        · refine e_iconst (v := 0) dX6_missed_50 (by decide) ?_
          refine e_ior dX6_missed_51 ?_
          rw [show nI (mask (pms g) a) ||| 0 = nI (mask (pms g) a) from by rw [show (0 : Int32) = nI 0 from rfl, fa_or, Nat.or_zero]]
          refine e_istore_n dX6_missed_52 rfl (by decide) rfl rfl ?_
          refine e_iinc (v := nI (a + 1)) dX6_missed_53 rfl (nI_1 a) (by decide) rfl rfl ?_
          refine e_goto (tgt := 8) dX6_missed_56 (by decide) ?_
          exact go
        · have hz' : nI (mst g (dif (al g) (2 ^ a))) = nI (mst g (al g)) := hz
          refine absurd ?_ hp
          unfold pms
          exact decide_eq_true ((nI_eq (by omega) (by omega)).mp hz')
  refine e_iconst (v := 0) dX6_missed_4 (by decide) ?_
  refine e_istore_n dX6_missed_5 rfl (by decide) rfl rfl ?_
  refine e_iconst (v := 0) dX6_missed_6 (by decide) ?_
  refine e_istore_n dX6_missed_7 rfl (by decide) rfl rfl ?_
  exact loop g.1 0 (by omega)
def exb (p : Nat → Bool) : Nat → Bool
  | 0 => false
  | b + 1 => exb p b || p b
theorem exb_iff {p : Nat → Bool} : ∀ {n : Nat}, exb p n = true ↔ ∃ c, c < n ∧ p c = true := by
  intro n
  induction n with
  | zero => exact ⟨fun h => (by cases h), fun ⟨c, h, _⟩ => by omega⟩
  | succ n ih =>
    show (exb p n || p n) = true ↔ _
    rw [Bool.or_eq_true, ih]
    constructor
    · rintro (⟨c, h1, h2⟩ | h)
      · exact ⟨c, by omega, h2⟩
      · exact ⟨n, by omega, h⟩
    · rintro ⟨c, h1, h2⟩
      by_cases hc : c = n
      · exact Or.inr (by rw [← hc]; exact h2)
      · exact Or.inl ⟨c, by omega, h2⟩
theorem pbs_exb {g : Nw} (wf : Wfn g) (a : Nat) : exb (fun c => !(msd g).testBit a && ((msd g).testBit c && (g.2.1 a c).isSome)) g.1 = pbs g a := by
  have key : (∃ c, c < g.1 ∧ (!(msd g).testBit a && ((msd g).testBit c && (g.2.1 a c).isSome)) = true) ↔ pbs g a = true := by
    unfold pbs
    simp only [Bool.and_eq_true, Bool.not_eq_true', decide_eq_false_iff_not]
    constructor
    · rintro ⟨c, h1, h2, h3, h4⟩
      refine ⟨h2, fun q => ?_⟩
      have : (nbr g.2.1 a &&& msd g).testBit c = true := by
        rw [Nat.testBit_and, nbr_bit, h3, h4]
        have := wf.1.2
        simp; omega
      rw [q] at this
      simp at this
    · rintro ⟨h1, h2⟩
      obtain ⟨c, hc⟩ := ex_some h2
      rw [Nat.testBit_and, nbr_bit] at hc
      simp only [Bool.and_eq_true, decide_eq_true_eq] at hc
      obtain ⟨⟨q1, q2⟩, q3⟩ := hc
      refine ⟨c, ?_, h1, q3, q2⟩
      obtain ⟨k, hk⟩ := Option.isSome_iff_exists.mp q2
      exact (wf.2.2.2.1 a c k hk).2.1
  rw [← exb_iff] at key
  cases h1 : exb (fun c => !(msd g).testBit a && ((msd g).testBit c && (g.2.1 a c).isSome)) g.1 <;> cases h2 : pbs g a
  · rfl
  · rw [h1, h2] at key; simp at key
  · rw [h1, h2] at key; simp at key
  · rfl
theorem c_beside {B : Bd} {M : Mm} {g : Nw} (ok : OkM M) (hnow : NowR M 63 g) (wf : Wfn g) : Ct B mX6_beside 1 0 0 [.ref 60, .int (nI (msd g))] M (Is (some (.int (nI (bsd g)))) M) := by
  have hg12 := wf.1
  have hp12 := p12 hg12.2
  have hm12 : msd g < 4096 := mask_12 _ hg12.2
  refine Ct.of (by decide) rfl rfl (Nat.le_of_ble_eq_true rfl) ?_
  have outer : ∀ j a (t : Option Value), a + j = g.1 → Ev B mX6_beside 1 0 0 (Is (some (.int (nI (bsd g)))) M) 4 [some (.ref 60), some (.int (nI (msd g))), some (.int (nI (mask (pbs g) a))), some (.int (nI a)), t] [] M := by
    intro j
    induction j with
    | zero =>
      intro a t haj
      have hag : a = g.1 := by omega
      subst hag
      refine e_iload_n dX6_beside_4 rfl rfl ?_
      refine e_aload_n dX6_beside_5 rfl rfl ?_
      refine e_callV0i [] dX6_beside_6 mvmX6_nodes lkRX6_181 (by exact ok.sh rfl) ⟨by decide, rfl⟩ rfl rfl (Nat.le_of_ble_eq_true rfl) (by decide) (c_nodes ok hnow) ?_
      refine e_icmp_ge (tgt := 70) dX6_beside_9 (by decide) (fun _ => ?_) (fun hz => absurd (nI_le (by omega) (by omega)) hz)
      refine e_iload_n dX6_beside_70 rfl rfl ?_
      exact e_iret dX6_beside_71 rfl rfl ⟨rfl, rfl⟩
    | succ j ih =>
      intro a t haj
      generalize hP : (fun c => !(msd g).testBit a && ((msd g).testBit c && (g.2.1 a c).isSome)) = P
      have hpb := pbs_exb wf a
      rw [hP] at hpb
      refine e_iload_n dX6_beside_4 rfl rfl ?_
      refine e_aload_n dX6_beside_5 rfl rfl ?_
      refine e_callV0i [] dX6_beside_6 mvmX6_nodes lkRX6_181 (by exact ok.sh rfl) ⟨by decide, rfl⟩ rfl rfl (Nat.le_of_ble_eq_true rfl) (by decide) (c_nodes ok hnow) ?_
      refine e_icmp_ge (tgt := 70) dX6_beside_9 (by decide) (fun hz => absurd hz (nI_ge (by omega) (by omega))) (fun _ => ?_)
      refine e_iconst (v := 0) dX6_beside_12 (by decide) ?_
      refine e_istore dX6_beside_13 (by decide) rfl rfl ?_
      have inner : ∀ j2 b, b + j2 = g.1 → Ev B mX6_beside 1 0 0 (Is (some (.int (nI (bsd g)))) M) 15 [some (.ref 60), some (.int (nI (msd g))), some (.int (nI (mask (pbs g) a ||| (if exb P b = true then 2 ^ a else 0)))), some (.int (nI a)), some (.int (nI b))] [] M := by
        intro j2
        induction j2 with
        | zero =>
          intro b hb
          have hbg : b = g.1 := by omega
          subst hbg
          rw [hpb, ← mask_s]
          refine e_iload dX6_beside_15 rfl ?_
          refine e_aload_n dX6_beside_17 rfl rfl ?_
          refine e_callV0i [] dX6_beside_18 mvmX6_nodes lkRX6_181 (by exact ok.sh rfl) ⟨by decide, rfl⟩ rfl rfl (Nat.le_of_ble_eq_true rfl) (by decide) (c_nodes ok hnow) ?_
          refine e_icmp_ge (tgt := 64) dX6_beside_21 (by decide) (fun _ => ?_) (fun hz => absurd (nI_le (by omega) (by omega)) hz)
          refine e_iinc (v := nI (a + 1)) dX6_beside_64 rfl (nI_1 a) (by decide) rfl rfl ?_
          refine e_goto (tgt := 4) dX6_beside_67 (by decide) ?_
          exact ih (a + 1) _ (by omega)
        | succ j2 ih2 =>
          intro b hb
          have hes : exb P (b + 1) = (exb P b || P b) := rfl
          have go := ih2 (b + 1) (by omega)
          rw [hes] at go
          have hPb : P b = (!(msd g).testBit a && ((msd g).testBit b && (g.2.1 a b).isSome)) := by rw [← hP]
          -- nothing new
          have skip : P b = false → Ev B mX6_beside 1 0 0 (Is (some (.int (nI (bsd g)))) M) 58 [some (.ref 60), some (.int (nI (msd g))), some (.int (nI (mask (pbs g) a ||| (if exb P b = true then 2 ^ a else 0)))), some (.int (nI a)), some (.int (nI b))] [] M := by
            intro hno
            rw [hno, Bool.or_false] at go
            refine e_iinc (v := nI (b + 1)) dX6_beside_58 rfl (nI_1 b) (by decide) rfl rfl ?_
            refine e_goto (tgt := 15) dX6_beside_61 (by decide) ?_
            exact go
          refine e_iload dX6_beside_15 rfl ?_
          refine e_aload_n dX6_beside_17 rfl rfl ?_
          refine e_callV0i [] dX6_beside_18 mvmX6_nodes lkRX6_181 (by exact ok.sh rfl) ⟨by decide, rfl⟩ rfl rfl (Nat.le_of_ble_eq_true rfl) (by decide) (c_nodes ok hnow) ?_
          refine e_icmp_ge (tgt := 64) dX6_beside_21 (by decide) (fun hz => absurd hz (nI_ge (by omega) (by omega))) (fun _ => ?_)
          refine e_iload_n dX6_beside_24 rfl rfl ?_
          refine e_iload_n dX6_beside_25 rfl rfl ?_
          refine e_callS0i [_, _] dX6_beside_26 msmX6_has lkRX6_183 rfl rfl (Nat.le_of_ble_eq_true rfl) (by decide) (c_has (by omega) (by omega)) ?_
          by_cases h1 : (msd g).testBit a = true
          · rw [if_pos h1]
            refine e_if_ne (tgt := 58) dX6_beside_29 (by decide) (fun _ => skip (by rw [hPb, h1]; rfl)) (fun hz => absurd hz (by decide))
          · rw [if_neg h1]
            have h1' : (msd g).testBit a = false := by simpa using h1
            refine e_if_ne (tgt := 58) dX6_beside_29 (by decide) (fun hz => absurd rfl hz) (fun _ => ?_)
            refine e_iload_n dX6_beside_32 rfl rfl ?_
            refine e_iload dX6_beside_33 rfl ?_
            refine e_callS0i [_, _] dX6_beside_35 msmX6_has lkRX6_183 rfl rfl (Nat.le_of_ble_eq_true rfl) (by decide) (c_has (by omega) (by omega)) ?_
            by_cases h2 : (msd g).testBit b = true
            · rw [if_pos h2]
              refine e_if_eq (tgt := 58) dX6_beside_38 (by decide) (fun hz => absurd hz (by decide)) (fun _ => ?_)
              refine e_aload_n dX6_beside_41 rfl rfl ?_
              refine e_iload_n dX6_beside_42 rfl rfl ?_
              refine e_iload dX6_beside_43 rfl ?_
              refine e_callV0i [_, _] dX6_beside_45 mvmX6_weight lkRX6_203 (by exact ok.sh rfl) ⟨by decide, rfl⟩ rfl rfl (Nat.le_of_ble_eq_true rfl) (by decide) (c_weight ok hnow (by omega) (by omega)) ?_
              refine e_iconst (v := (-1)) dX6_beside_48 (by decide) ?_
              have hn := wI_none (wf.wb a b)
              cases hw : g.2.1 a b with
              | none =>
                refine e_icmp_eq (tgt := 58) dX6_beside_49 (by decide) (fun _ => skip (by rw [hPb, hw]; simp)) (fun hz => absurd rfl hz)
              | some k =>
                rw [hw] at hn
                refine e_icmp_eq (tgt := 58) dX6_beside_49 (by decide) (fun hz => by cases hn.mp hz) (fun _ => ?_)
                have hyes : P b = true := by rw [hPb, h1', h2, hw]; rfl
                rw [hyes, Bool.or_true, if_pos rfl] at go
                refine e_iload_n dX6_beside_52 rfl rfl ?_
                refine e_iconst (v := 1) dX6_beside_53 (by decide) ?_
                refine e_iload_n dX6_beside_54 rfl rfl ?_
                refine e_ishl dX6_beside_55 ?_
                rw [shl_1 (by omega)]
                refine e_ior dX6_beside_56 ?_
                rw [fa_or]
                have e7 : (mask (pbs g) a ||| (if exb P b = true then 2 ^ a else 0)) ||| 2 ^ a = mask (pbs g) a ||| 2 ^ a := by
                  by_cases he : exb P b = true
                  · rw [if_pos he, Nat.or_assoc, Nat.or_self]
                  · rw [if_neg he, Nat.or_zero]
                rw [e7]
                refine e_istore_n dX6_beside_57 rfl (by decide) rfl rfl ?_
                refine e_iinc (v := nI (b + 1)) dX6_beside_58 rfl (nI_1 b) (by decide) rfl rfl ?_
                refine e_goto (tgt := 15) dX6_beside_61 (by decide) ?_
                exact go
            · rw [if_neg h2]
              have h2' : (msd g).testBit b = false := by simpa using h2
              refine e_if_eq (tgt := 58) dX6_beside_38 (by decide) (fun _ => skip (by rw [hPb, h2']; simp)) (fun hz => absurd rfl hz)
      have go := inner g.1 0 (by omega)
      have e0 : mask (pbs g) a ||| (if exb P 0 = true then 2 ^ a else 0) = mask (pbs g) a := by
        show mask (pbs g) a ||| (if false = true then 2 ^ a else 0) = _
        rw [if_neg (by decide), Nat.or_zero]
      rw [e0] at go
      exact go
  refine e_iconst (v := 0) dX6_beside_0 (by decide) ?_
  refine e_istore_n dX6_beside_1 rfl (by decide) rfl rfl ?_
  refine e_iconst (v := 0) dX6_beside_2 (by decide) ?_
  refine e_istore_n dX6_beside_3 rfl (by decide) rfl rfl ?_
  exact outer g.1 0 none (by omega)
theorem c_msetOf {B : Bd} {M : Mm} {s : Sx} {k : Nat} (h : MI M s) (hk : k ≤ 2) : Ct B mX6_setOf 4 0 0 [.ref 60, .int (nI k)] M (Rt (fun u N => u = some (.int (nI (setz (sgg s) k))) ∧ MI N s ∧ FL M N)) := by
  refine Ct.of (by decide) rfl rfl (Nat.le_of_ble_eq_true rfl) ?_
  refine e_aload_n dX6_setOf_0 rfl rfl ?_
  refine e_callV1 [] dX6_setOf_1 mvmX6_missed lkRX6_212 (by exact h.1.sh rfl) ⟨by decide, rfl⟩ rfl rfl (Nat.le_of_ble_eq_true rfl) (by decide) (c_missed h) (fun u N h0 => ?_)
  obtain ⟨hu, i0, f0⟩ := h0
  subst hu
  show Ev _ _ _ _ _ _ 4 _ [.int (nI (msd (sgg s)))] _
  refine e_istore_n dX6_setOf_4 rfl (by decide) rfl rfl ?_
  refine e_aload_n dX6_setOf_5 rfl rfl ?_
  refine e_iload_n dX6_setOf_6 rfl rfl ?_
  refine e_callV0i [_] dX6_setOf_7 mvmX6_beside lkRX6_215 (by exact i0.1.sh rfl) ⟨by decide, rfl⟩ rfl rfl (Nat.le_of_ble_eq_true rfl) (by decide) (c_beside i0.1 i0.now i0.wf) ?_
  refine e_istore_n dX6_setOf_10 rfl (by decide) rfl rfl ?_
  refine e_iload_n dX6_setOf_11 rfl rfl ?_
  match k, hk with
  | 0, _ =>
    refine e_if_ne (tgt := 19) dX6_setOf_12 (by decide) (fun hz => absurd rfl hz) (fun _ => ?_)
    refine e_iload_n dX6_setOf_15 rfl rfl ?_
    refine e_goto (tgt := 40) dX6_setOf_16 (by decide) ?_
    exact e_iret dX6_setOf_40 rfl rfl ⟨_, rfl, rfl, i0, f0⟩
  | 1, _ =>
    refine e_if_ne (tgt := 19) dX6_setOf_12 (by decide) (fun _ => ?_) (fun hz => absurd hz (by decide))
    refine e_iload_n dX6_setOf_19 rfl rfl ?_
    refine e_iconst (v := 1) dX6_setOf_20 (by decide) ?_
    refine e_icmp_ne (tgt := 28) dX6_setOf_21 (by decide) (fun hz => absurd rfl hz) (fun _ => ?_)
    refine e_iload_n dX6_setOf_24 rfl rfl ?_
    refine e_goto (tgt := 40) dX6_setOf_25 (by decide) ?_
    exact e_iret dX6_setOf_40 rfl rfl ⟨_, rfl, rfl, i0, f0⟩
  | 2, _ =>
    refine e_if_ne (tgt := 19) dX6_setOf_12 (by decide) (fun _ => ?_) (fun hz => absurd hz (by decide))
    refine e_iload_n dX6_setOf_19 rfl rfl ?_
    refine e_iconst (v := 1) dX6_setOf_20 (by decide) ?_
    refine e_icmp_ne (tgt := 28) dX6_setOf_21 (by decide) (fun _ => ?_) (fun hz => absurd hz (by decide))
    refine e_aload_n dX6_setOf_28 rfl rfl ?_
    refine e_callV0i [] dX6_setOf_29 mvmX6_all lkRX6_194 (by exact i0.1.sh rfl) ⟨by decide, rfl⟩ rfl rfl (Nat.le_of_ble_eq_true rfl) (by decide) (c_mall i0.1 i0.now i0.g12.2) ?_
    refine e_iload_n dX6_setOf_32 rfl rfl ?_
    refine e_iconst (v := (-1)) dX6_setOf_33 (by decide) ?_
    refine e_ixor dX6_setOf_34 ?_
    refine e_iand dX6_setOf_35 ?_
    rw [andn_nI]
    refine e_iload_n dX6_setOf_36 rfl rfl ?_
    refine e_iconst (v := (-1)) dX6_setOf_37 (by decide) ?_
    refine e_ixor dX6_setOf_38 ?_
    refine e_iand dX6_setOf_39 ?_
    rw [andn_nI]
    exact e_iret dX6_setOf_40 rfl rfl ⟨_, rfl, rfl, i0, f0⟩

