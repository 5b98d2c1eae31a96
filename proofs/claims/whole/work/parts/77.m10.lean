/-! the Model: parts, barriers -/
theorem clo_of {g : Nw} (wf : Wfn g) {S P : Nat} (h : cst g.2.1 S P = P) : clo g.2.1 S P := by
  intro x y hx hy hw
  obtain ⟨k, hk⟩ := Option.isSome_iff_exists.mp hw
  have h1 := wf.2.2.2.1 x y k hk
  have h2 := wf.1.2
  rw [← h]
  exact cst_bit.mpr (Or.inr ⟨hy, x, by omega, hx, by omega, hw⟩)
theorem c_mpartOf {B : Bd} {M : Mm} {g : Nw} {a S : Nat} (ok : OkM M) (hnow : NowR M 63 g) (wf : Wfn g) (hS : S < 2 ^ g.1) (ha : S.testBit a = true) : Ct B mX6_partOf 1 0 0 [.ref 60, .int (nI a), .int (nI S)] M (Is (some (.int (nI (cmp g.2.1 S a)))) M) := by
  have hg12 := wf.1
  have hp12 := p12 hg12.2
  have hS4 : S < 4096 := by omega
  have ha12 := in12 hS4 ha
  refine Ct.of (by decide) rfl rfl (Nat.le_of_ble_eq_true rfl) ?_
  -- it stands still
  have exit : ∀ P (t5 t6 : Option Value), cst g.2.1 S P = P → P.testBit a = true → (∀ i, P.testBit i = true → (cmp g.2.1 S a).testBit i = true) → Ev B mX6_partOf 1 0 0 (Is (some (.int (nI (cmp g.2.1 S a)))) M) 7 [some (.ref 60), some (.int (nI a)), some (.int (nI S)), some (.int (nI P)), some (.int (nI P)), t5, t6] [] M := by
    intro P t5 t6 hc hPa hsub
    have e : P = cmp g.2.1 S a := by
      apply Nat.eq_of_testBit_eq
      intro i
      have h1 := hsub i
      have h2 := cmp_min hS4 (clo_of wf hc) hPa i
      cases q1 : P.testBit i <;> cases q2 : (cmp g.2.1 S a).testBit i
      · rfl
      · rw [h2 q2] at q1; cases q1
      · rw [h1 q1] at q2; cases q2
      · rfl
    refine e_iload_n dX6_partOf_7 rfl rfl ?_
    refine e_iload dX6_partOf_8 rfl ?_
    refine e_icmp_eq (tgt := 93) dX6_partOf_10 (by decide) (fun _ => ?_) (fun hz => absurd rfl hz)
    refine e_iload_n dX6_partOf_93 rfl rfl ?_
    rw [← e]
    exact e_iret dX6_partOf_94 rfl rfl ⟨rfl, rfl⟩
  have round : ∀ P (t5 t6 : Option Value) (Q : Nat), P ≠ Q → P < 4096 → Q < 4096 → (∀ i, P.testBit i = true → S.testBit i = true) → (∀ t5 t6, Ev B mX6_partOf 1 0 0 (Is (some (.int (nI (cmp g.2.1 S a)))) M) 7 [some (.ref 60), some (.int (nI a)), some (.int (nI S)), some (.int (nI (cst g.2.1 S P))), some (.int (nI P)), t5, t6] [] M) → Ev B mX6_partOf 1 0 0 (Is (some (.int (nI (cmp g.2.1 S a)))) M) 7 [some (.ref 60), some (.int (nI a)), some (.int (nI S)), some (.int (nI P)), some (.int (nI Q)), t5, t6] [] M := by
    intro P t5 t6 Q hPQ hP hQ hPS kk
    -- what is in after the rows below x, and of row x the places below y
    have key : ∀ C x y, (∀ i, C.testBit i = true ↔ (P.testBit i = true ∨ (S.testBit i = true ∧ ∃ u, (u < x ∨ (u = x ∧ i < y)) ∧ P.testBit u = true ∧ (g.2.1 u i).isSome = true))) → C < 4096 := fun C x y hC => lt_of_bits (n := 12) (fun i hi => by
      cases q : C.testBit i with
      | false => rfl
      | true =>
        rcases (hC i).mp q with z | z
        · have := in12 hP z; omega
        · have := in12 hS4 z.1; omega)
    have rows : ∀ j x C (t6 : Option Value), x + j = g.1 → (∀ i, C.testBit i = true ↔ (P.testBit i = true ∨ (S.testBit i = true ∧ ∃ u, (u < x ∨ (u = x ∧ i < 0)) ∧ P.testBit u = true ∧ (g.2.1 u i).isSome = true))) → Ev B mX6_partOf 1 0 0 (Is (some (.int (nI (cmp g.2.1 S a)))) M) 19 [some (.ref 60), some (.int (nI a)), some (.int (nI S)), some (.int (nI C)), some (.int (nI P)), some (.int (nI x)), t6] [] M := by
      intro j
      induction j with
      | zero =>
        intro x C t6 hx hC
        have hxg : x = g.1 := by omega
        subst hxg
        have e : C = cst g.2.1 S P := by
          apply Nat.eq_of_testBit_eq
          intro i
          have h1 := hC i
          have h2 := cst_bit (w := g.2.1) (S := S) (P := P) (j := i)
          have h3 : C.testBit i = true ↔ (cst g.2.1 S P).testBit i = true := by
            rw [h1, h2]
            constructor
            · rintro (q | ⟨q1, u, q2, q3, q4⟩)
              · exact Or.inl q
              · have := in12 hS4 q1
                have := in12 hP q3
                exact Or.inr ⟨q1, u, by omega, q3, by omega, q4⟩
            · rintro (q | ⟨q1, u, q2, q3, q4, q5⟩)
              · exact Or.inl q
              · obtain ⟨k, hk⟩ := Option.isSome_iff_exists.mp q5
                have := (wf.2.2.2.1 u i k hk).1
                exact Or.inr ⟨q1, u, Or.inl this, q3, q5⟩
          cases q1 : C.testBit i <;> cases q2 : (cst g.2.1 S P).testBit i
          · rfl
          · rw [h3.mpr q2] at q1; cases q1
          · rw [h3.mp q1] at q2; cases q2
          · rfl
        refine e_iload dX6_partOf_19 rfl ?_
        refine e_aload_n dX6_partOf_21 rfl rfl ?_
        refine e_callV0i [] dX6_partOf_22 mvmX6_nodes lkRX6_181 (by exact ok.sh rfl) ⟨by decide, rfl⟩ rfl rfl (Nat.le_of_ble_eq_true rfl) (by decide) (c_nodes ok hnow) ?_
        refine e_icmp_ge (tgt := 90) dX6_partOf_25 (by decide) (fun _ => ?_) (fun hz => absurd (nI_le (by omega) (by omega)) hz)
        refine e_goto (tgt := 7) dX6_partOf_90 (by decide) ?_
        rw [e]
        exact kk _ _
      | succ j ih =>
        intro x C t6 hx hC
        refine e_iload dX6_partOf_19 rfl ?_
        refine e_aload_n dX6_partOf_21 rfl rfl ?_
        refine e_callV0i [] dX6_partOf_22 mvmX6_nodes lkRX6_181 (by exact ok.sh rfl) ⟨by decide, rfl⟩ rfl rfl (Nat.le_of_ble_eq_true rfl) (by decide) (c_nodes ok hnow) ?_
        refine e_icmp_ge (tgt := 90) dX6_partOf_25 (by decide) (fun hz => absurd hz (nI_ge (by omega) (by omega))) (fun _ => ?_)
        refine e_iconst (v := 0) dX6_partOf_28 (by decide) ?_
        refine e_istore dX6_partOf_29 (by decide) rfl rfl ?_
        have places : ∀ j2 y C, y + j2 = g.1 → (y = 0 ∨ P.testBit x = true) → (∀ i, C.testBit i = true ↔ (P.testBit i = true ∨ (S.testBit i = true ∧ ∃ u, (u < x ∨ (u = x ∧ i < y)) ∧ P.testBit u = true ∧ (g.2.1 u i).isSome = true))) → Ev B mX6_partOf 1 0 0 (Is (some (.int (nI (cmp g.2.1 S a)))) M) 31 [some (.ref 60), some (.int (nI a)), some (.int (nI S)), some (.int (nI C)), some (.int (nI P)), some (.int (nI x)), some (.int (nI y))] [] M := by
          -- the row is through
          have next : ∀ y C (t6 : Option Value), (P.testBit x = false ∨ y = g.1) → (∀ i, C.testBit i = true ↔ (P.testBit i = true ∨ (S.testBit i = true ∧ ∃ u, (u < x ∨ (u = x ∧ i < y)) ∧ P.testBit u = true ∧ (g.2.1 u i).isSome = true))) → Ev B mX6_partOf 1 0 0 (Is (some (.int (nI (cmp g.2.1 S a)))) M) 84 [some (.ref 60), some (.int (nI a)), some (.int (nI S)), some (.int (nI C)), some (.int (nI P)), some (.int (nI x)), t6] [] M := by
            intro y C t6 hy hC
            refine e_iinc (v := nI (x + 1)) dX6_partOf_84 rfl (nI_1 x) (by decide) rfl rfl ?_
            refine e_goto (tgt := 19) dX6_partOf_87 (by decide) ?_
            refine ih (x + 1) C t6 (by omega) (fun i => ?_)
            rw [hC i]
            constructor
            · rintro (q | ⟨q1, u, q2, q3, q4⟩)
              · exact Or.inl q
              · exact Or.inr ⟨q1, u, Or.inl (by omega), q3, q4⟩
            · rintro (q | ⟨q1, u, q2, q3, q4⟩)
              · exact Or.inl q
              · refine Or.inr ⟨q1, u, ?_, q3, q4⟩
                rcases Nat.lt_or_ge u x with z | z
                · exact Or.inl z
                · have hux : u = x := by omega
                  subst hux
                  rcases hy with hy | hy
                  · rw [hy] at q3; cases q3
                  · obtain ⟨k, hk⟩ := Option.isSome_iff_exists.mp q4
                    have := (wf.2.2.2.1 u i k hk).2.1
                    exact Or.inr ⟨rfl, by omega⟩
          intro j2
          induction j2 with
          | zero =>
            intro y C hy _ hC
            have hyg : y = g.1 := by omega
            refine e_iload dX6_partOf_31 rfl ?_
            refine e_aload_n dX6_partOf_33 rfl rfl ?_
            refine e_callV0i [] dX6_partOf_34 mvmX6_nodes lkRX6_181 (by exact ok.sh rfl) ⟨by decide, rfl⟩ rfl rfl (Nat.le_of_ble_eq_true rfl) (by decide) (c_nodes ok hnow) ?_
            refine e_icmp_ge (tgt := 84) dX6_partOf_37 (by decide) (fun _ => ?_) (fun hz => absurd (nI_le (by omega) (by omega)) hz)
            exact next y C _ (Or.inr hyg) hC
          | succ j2 ih2 =>
            intro y C hy hyx hC
            have hC4 := key C x y hC
            refine e_iload dX6_partOf_31 rfl ?_
            refine e_aload_n dX6_partOf_33 rfl rfl ?_
            refine e_callV0i [] dX6_partOf_34 mvmX6_nodes lkRX6_181 (by exact ok.sh rfl) ⟨by decide, rfl⟩ rfl rfl (Nat.le_of_ble_eq_true rfl) (by decide) (c_nodes ok hnow) ?_
            refine e_icmp_ge (tgt := 84) dX6_partOf_37 (by decide) (fun hz => absurd hz (nI_ge (by omega) (by omega))) (fun _ => ?_)
            refine e_iload dX6_partOf_40 rfl ?_
            refine e_iload dX6_partOf_42 rfl ?_
            refine e_callS0i [_, _] dX6_partOf_44 msmX6_has lkRX6_183 rfl rfl (Nat.le_of_ble_eq_true rfl) (by decide) (c_has (by omega) (by omega)) ?_
            by_cases hpx : P.testBit x = true
            · rw [if_pos hpx]
              refine e_if_eq (tgt := 84) dX6_partOf_47 (by decide) (fun hz => absurd hz (by decide)) (fun _ => ?_)
              -- as it was
              have skip : ¬ (S.testBit y = true ∧ (g.2.1 x y).isSome = true) → Ev B mX6_partOf 1 0 0 (Is (some (.int (nI (cmp g.2.1 S a)))) M) 78 [some (.ref 60), some (.int (nI a)), some (.int (nI S)), some (.int (nI C)), some (.int (nI P)), some (.int (nI x)), some (.int (nI y))] [] M := by
                intro hno
                refine e_iinc (v := nI (y + 1)) dX6_partOf_78 rfl (nI_1 y) (by decide) rfl rfl ?_
                refine e_goto (tgt := 31) dX6_partOf_81 (by decide) ?_
                refine ih2 (y + 1) C (by omega) (Or.inr hpx) (fun i => ?_)
                rw [hC i]
                constructor
                · rintro (q | ⟨q1, u, q2, q3, q4⟩)
                  · exact Or.inl q
                  · exact Or.inr ⟨q1, u, by omega, q3, q4⟩
                · rintro (q | ⟨q1, u, q2, q3, q4⟩)
                  · exact Or.inl q
                  · refine Or.inr ⟨q1, u, ?_, q3, q4⟩
                    rcases q2 with z | ⟨z1, z2⟩
                    · exact Or.inl z
                    · by_cases hiy : i = y
                      · subst hiy z1
                        exact absurd ⟨q1, q4⟩ hno
                      · exact Or.inr ⟨z1, by omega⟩
              refine e_iload_n dX6_partOf_50 rfl rfl ?_
              refine e_iload dX6_partOf_51 rfl ?_
              refine e_callS0i [_, _] dX6_partOf_53 msmX6_has lkRX6_183 rfl rfl (Nat.le_of_ble_eq_true rfl) (by decide) (c_has (by omega) (by omega)) ?_
              by_cases hsy : S.testBit y = true
              · rw [if_pos hsy]
                refine e_if_eq (tgt := 78) dX6_partOf_56 (by decide) (fun hz => absurd hz (by decide)) (fun _ => ?_)
                refine e_aload_n dX6_partOf_59 rfl rfl ?_
                refine e_iload dX6_partOf_60 rfl ?_
                refine e_iload dX6_partOf_62 rfl ?_
                refine e_callV0i [_, _] dX6_partOf_64 mvmX6_weight lkRX6_203 (by exact ok.sh rfl) ⟨by decide, rfl⟩ rfl rfl (Nat.le_of_ble_eq_true rfl) (by decide) (c_weight ok hnow (by omega) (by omega)) ?_
                refine e_iconst (v := (-1)) dX6_partOf_67 (by decide) ?_
                have hn := wI_none (wf.wb x y)
                refine e_icmp_eq (tgt := 78) dX6_partOf_68 (by decide) (fun hz => skip (fun q => ?_)) (fun hz => ?_)
                · rw [hn.mp hz] at q; cases q.2
                · have hsm : (g.2.1 x y).isSome = true := by
                    cases hw : g.2.1 x y with
                    | none => exact absurd (hn.mpr hw) hz
                    | some k => rfl
                  refine e_iload_n dX6_partOf_71 rfl rfl ?_
                  refine e_iconst (v := 1) dX6_partOf_72 (by decide) ?_
                  refine e_iload dX6_partOf_73 rfl ?_
                  refine e_ishl dX6_partOf_75 ?_
                  rw [shl_1 (by omega)]
                  refine e_ior dX6_partOf_76 ?_
                  rw [fa_or]
                  refine e_istore_n dX6_partOf_77 rfl (by decide) rfl rfl ?_
                  refine e_iinc (v := nI (y + 1)) dX6_partOf_78 rfl (nI_1 y) (by decide) rfl rfl ?_
                  refine e_goto (tgt := 31) dX6_partOf_81 (by decide) ?_
                  refine ih2 (y + 1) (C ||| 2 ^ y) (by omega) (Or.inr hpx) (fun i => ?_)
                  rw [Nat.testBit_or, Bool.or_eq_true, hC i, Nat.testBit_two_pow, decide_eq_true_eq]
                  constructor
                  · rintro ((q | ⟨q1, u, q2, q3, q4⟩) | q)
                    · exact Or.inl q
                    · exact Or.inr ⟨q1, u, by omega, q3, q4⟩
                    · subst q
                      exact Or.inr ⟨hsy, x, Or.inr ⟨rfl, by omega⟩, hpx, hsm⟩
                  · rintro (q | ⟨q1, u, q2, q3, q4⟩)
                    · exact Or.inl (Or.inl q)
                    · by_cases hiy : y = i
                      · exact Or.inr hiy
                      · exact Or.inl (Or.inr ⟨q1, u, by omega, q3, q4⟩)
              · rw [if_neg hsy]
                refine e_if_eq (tgt := 78) dX6_partOf_56 (by decide) (fun _ => skip (fun q => hsy q.1)) (fun hz => absurd rfl hz)
            · rw [if_neg hpx]
              refine e_if_eq (tgt := 84) dX6_partOf_47 (by decide) (fun _ => ?_) (fun hz => absurd rfl hz)
              exact next y C _ (Or.inl (by simpa using hpx)) hC
        exact places g.1 0 C (by omega) (Or.inl rfl) hC
    refine e_iload_n dX6_partOf_7 rfl rfl ?_
    refine e_iload dX6_partOf_8 rfl ?_
    refine e_icmp_eq (tgt := 93) dX6_partOf_10 (by decide) (fun hz => absurd ((nI_eq (by omega) (by omega)).mp hz) hPQ) (fun _ => ?_)
    refine e_iload_n dX6_partOf_13 rfl rfl ?_
    refine e_istore dX6_partOf_14 (by decide) rfl rfl ?_
    refine e_iconst (v := 0) dX6_partOf_16 (by decide) ?_
    refine e_istore dX6_partOf_17 (by decide) rfl rfl ?_
    refine rows g.1 0 P _ (by omega) (fun i => ⟨Or.inl, ?_⟩)
    rintro (q | ⟨q1, u, q2, q3, q4⟩)
    · exact q
    · omega
  have loop : ∀ f P (t5 t6 : Option Value) (Q : Nat), 13 ≤ f + pop P → P ≠ Q → P < 4096 → Q < 4096 → (∀ i, P.testBit i = true → S.testBit i = true) → P.testBit a = true → (∀ i, P.testBit i = true → (cmp g.2.1 S a).testBit i = true) → Ev B mX6_partOf 1 0 0 (Is (some (.int (nI (cmp g.2.1 S a)))) M) 7 [some (.ref 60), some (.int (nI a)), some (.int (nI S)), some (.int (nI P)), some (.int (nI Q)), t5, t6] [] M := by
    intro f
    induction f with
    | zero =>
      intro P t5 t6 Q hf
      have := pop_le P
      omega
    | succ f ih =>
      intro P t5 t6 Q hf hPQ hP hQ hPS hPa hsub
      refine round P t5 t6 Q hPQ hP hQ hPS (fun t5 t6 => ?_)
      by_cases hc : cst g.2.1 S P = P
      · rw [hc]
        exact exit P t5 t6 hc hPa hsub
      · have hin : ∀ i, P.testBit i = true → (cst g.2.1 S P).testBit i = true := fun i hi => cst_bit.mpr (Or.inl hi)
        have hc4 := cst_lt (w := g.2.1) hS4 hP
        have hpl := pop_lt hin (fun q => hc q.symm) hc4
        refine ih (cst g.2.1 S P) t5 t6 P (by omega) hc hc4 hP (fun i hi => ?_) (hin a hPa) (cst_in hS4 (cmp_clo hS4 ha12) hsub)
        rcases cst_bit.mp hi with q | q
        · exact hPS i q
        · exact q.1
  refine e_iconst (v := 1) dX6_partOf_0 (by decide) ?_
  refine e_iload_n dX6_partOf_1 rfl rfl ?_
  refine e_ishl dX6_partOf_2 ?_
  rw [shl_1 (by omega)]
  refine e_istore_n dX6_partOf_3 rfl (by decide) rfl rfl ?_
  refine e_iconst (v := 0) dX6_partOf_4 (by decide) ?_
  refine e_istore dX6_partOf_5 (by decide) rfl rfl ?_
  refine loop 13 (2 ^ a) _ _ 0 (by omega) ?_ (two_lt ha12) (by decide) (fun i hi => ?_) ?_ (fun i hi => ?_)
  · have := Nat.two_pow_pos a; omega
  · rw [Nat.testBit_two_pow] at hi
    rw [← of_decide_eq_true hi]; exact ha
  · rw [Nat.testBit_two_pow]; simp
  · rw [Nat.testBit_two_pow] at hi
    rw [← of_decide_eq_true hi]; exact cmp_self _ _ _
theorem c_oddOf {B : Bd} {M : Mm} {g : Nw} {X : Nat} (ok : OkM M) (hnow : NowR M 63 g) (wf : Wfn g) : Ct B mX6_oddOf 2 0 0 [.ref 60, .int (nI X)] M (Is (some (.int (nI (od g.2.1 (dif (al g) X))))) M) := by
  have hg12 := wf.1
  have hp12 := p12 hg12.2
  have hal := al_lt g
  refine Ct.of (by decide) rfl rfl (Nat.le_of_ble_eq_true rfl) ?_
  have loop : ∀ L n (t4 : Option Value), L < 2 ^ g.1 → n + od g.2.1 L = od g.2.1 (dif (al g) X) → Ev B mX6_oddOf 2 0 0 (Is (some (.int (nI (od g.2.1 (dif (al g) X))))) M) 11 [some (.ref 60), some (.int (nI X)), some (.int (nI L)), some (.int (nI n)), t4] [] M := by
    intro L
    induction L using Nat.strongRecOn with
    | ind L ih =>
      intro n t4 hL hn
      refine e_iload_n dX6_oddOf_11 rfl rfl ?_
      by_cases h0 : L = 0
      · subst h0
        rw [od_0] at hn
        refine e_if_eq (tgt := 46) dX6_oddOf_12 (by decide) (fun _ => ?_) (fun hz => absurd rfl hz)
        refine e_iload_n dX6_oddOf_46 rfl rfl ?_
        rw [← hn]
        exact e_iret dX6_oddOf_47 rfl rfl ⟨rfl, rfl⟩
      · refine e_if_eq (tgt := 46) dX6_oddOf_12 (by decide) (fun hz => absurd hz (nI_ne0 (by omega) (by omega))) (fun _ => ?_)
        refine e_aload_n dX6_oddOf_15 rfl rfl ?_
        refine e_iload_n dX6_oddOf_16 rfl rfl ?_
        refine e_callS1 [_] dX6_oddOf_17 msmX6_first lkRX6_196 rfl rfl (Nat.le_of_ble_eq_true rfl) (by decide) (c_first (show L < 4096 by omega) h0) (fun u N hf => ?_)
        obtain ⟨hN, a, hu, ha12, hab, halo⟩ := hf
        subst hu hN
        show Ev _ _ _ _ _ _ 20 _ [.int (nI a), .ref 60] _
        refine e_iload_n dX6_oddOf_20 rfl rfl ?_
        refine e_callV0i [_, _] dX6_oddOf_21 mvmX6_partOf lkRX6_218 (by exact ok.sh rfl) ⟨by decide, rfl⟩ rfl rfl (Nat.le_of_ble_eq_true rfl) (by decide) (c_mpartOf ok hnow wf hL hab) ?_
        have hc4 := cmp_lt (w := g.2.1) (show L < 4096 by omega) hab
        have hst := od_step wf.2.1 (show L < 4096 by omega) hab
        refine e_istore dX6_oddOf_24 (by decide) rfl rfl ?_
        refine e_iload_n dX6_oddOf_26 rfl rfl ?_
        refine e_iload dX6_oddOf_27 rfl ?_
        refine e_callS0i [_] dX6_oddOf_29 msmX6_bits lkRX6_221 rfl rfl (Nat.le_of_ble_eq_true rfl) (by decide) (c_bits hc4) ?_
        refine e_iconst (v := 2) dX6_oddOf_32 (by decide) ?_
        refine e_irem dX6_oddOf_33 (by decide) ?_
        have er : nI (pop (cmp g.2.1 L a)) - nI (pop (cmp g.2.1 L a)) / 2 * 2 = nI (pop (cmp g.2.1 L a) % 2) := fa_rem (k := 1) (by have := pop_le (cmp g.2.1 L a); omega) (by decide)
        rw [er]
        refine e_iadd dX6_oddOf_34 ?_
        rw [nI_add]
        refine e_istore_n dX6_oddOf_35 rfl (by decide) rfl rfl ?_
        refine e_iload_n dX6_oddOf_36 rfl rfl ?_
        refine e_iload dX6_oddOf_37 rfl ?_
        refine e_iconst (v := (-1)) dX6_oddOf_39 (by decide) ?_
        refine e_ixor dX6_oddOf_40 ?_
        refine e_iand dX6_oddOf_41 ?_
        rw [andn_nI]
        refine e_istore_n dX6_oddOf_42 rfl (by decide) rfl rfl ?_
        refine e_goto (tgt := 11) dX6_oddOf_43 (by decide) ?_
        have hlt : dif L (cmp g.2.1 L a) < L := by
          rcases Nat.lt_or_ge (dif L (cmp g.2.1 L a)) L with q | q
          · exact q
          · have e := Nat.le_antisymm (dif_le L (cmp g.2.1 L a)) q
            have h9 : (dif L (cmp g.2.1 L a)).testBit a = true := by rw [e]; exact hab
            rw [dif_bit, cmp_self] at h9
            simp at h9
        exact ih _ hlt _ _ (by omega) (by omega)
  refine e_aload_n dX6_oddOf_0 rfl rfl ?_
  refine e_callV0i [] dX6_oddOf_1 mvmX6_all lkRX6_194 (by exact ok.sh rfl) ⟨by decide, rfl⟩ rfl rfl (Nat.le_of_ble_eq_true rfl) (by decide) (c_mall ok hnow hg12.2) ?_
  refine e_iload_n dX6_oddOf_4 rfl rfl ?_
  refine e_iconst (v := (-1)) dX6_oddOf_5 (by decide) ?_
  refine e_ixor dX6_oddOf_6 ?_
  refine e_iand dX6_oddOf_7 ?_
  rw [andn_nI]
  refine e_istore_n dX6_oddOf_8 rfl (by decide) rfl rfl ?_
  refine e_iconst (v := 0) dX6_oddOf_9 (by decide) ?_
  refine e_istore_n dX6_oddOf_10 rfl (by decide) rfl rfl ?_
  exact loop _ 0 _ (Nat.lt_of_le_of_lt (dif_le _ _) hal) (by omega)
/-- the answers of told and line -/
def ansT (s : Sx) (n : Nat) : Int32 := match n with
  | 0 => nI (sgg s).1
  | 1 => nI (lnc (sgg s).2.1)
  | 2 => nI (cpr (sgg s))
  | 3 => nI (mst (sgg s) (al (sgg s)))
  | 4 => msI (sgg s)
  | 5 => nI (wpr (sgg s))
  | 6 => nI (sll s)
  | _ => nI (shh s).length
theorem sTold_in {s : Sx} {x : Int32} (h : 0 ≤ x.toInt ∧ x.toInt ≤ 7) : sTold s x = okR (ansT s x.toInt.toNat) s := by
  unfold sTold
  rw [if_pos h]
  rfl
def ansL (s : Sx) (a b n : Nat) : Int32 := match n with
  | 0 => b01 (((sgg s).2.1 a b).isSome = true)
  | 1 => wI ((sgg s).2.1 a b)
  | 2 => b01 ((sgg s).2.2 a = some b)
  | 3 => b01 (((sgg s).2.1 a b).isSome = true ∧ mst (sgg s) (wo (sgg s) a b) + 1 = mst (sgg s) (al (sgg s)))
  | _ => b01 ((((sgg s).2.1 a b).isSome = true ∧ mst (sgg s) (wo (sgg s) a b) + 1 = mst (sgg s) (al (sgg s))) ∧ cnq (sgg s) (wo (sgg s) a b) = cnq (sgg s) (al (sgg s)))
theorem sLine_in {s : Sx} {x y z : Int32} {a b : Nat} (hx : nod (sgg s) x = some a) (hy : nod (sgg s) y = some b) : sLine s x y z = if a ≠ b ∧ 0 ≤ z.toInt ∧ z.toInt ≤ 4 then okR (ansL s a b z.toInt.toNat) s else rej 2 1 s := by
  unfold sLine
  rw [hx, hy]
  rfl
theorem c_modd {B : Bd} {M : Mm} {s : Sx} {x : Int32} (h : MI M s) : Ct B mX6_odd 3 0 0 [.ref 60, .int x] M (MPo M (sOdd s x)) := by
  refine Ct.of (by decide) rfl rfl (Nat.le_of_ble_eq_true rfl) ?_
  refine e_aload_n dX6_odd_0 rfl rfl ?_
  refine e_iconst (v := 0) dX6_odd_1 (by decide) ?_
  refine e_putI dX6_odd_2 fRX6_72 (by exact h.1.sh rfl) rfl rfl rfl (fun _ _ => rfl) ?_
  generalize hM1 : sI M 60 0 0 = M1
  have h1 : MI M1 s := by rw [← hM1]; exact h.t
  have z1 : M1.2.1 60 0 = 0 := by rw [← hM1, rd_self]
  have f1 : FM M M1 := by rw [← hM1]; exact FM.rf.sI (by decide)
  have hg12 := h1.g12
  have wf := h1.wf
  have hcl := cl_al wf
  have hal := al_lt (sgg s)
  refine e_aload_n dX6_odd_5 rfl rfl ?_
  refine e_iload_n dX6_odd_6 rfl rfl ?_
  refine e_iconst (v := 0) dX6_odd_7 (by decide) ?_
  refine e_aload_n dX6_odd_8 rfl rfl ?_
  refine e_callV0i [] dX6_odd_9 mvmX6_all lkRX6_194 (by exact h1.1.sh rfl) ⟨by decide, rfl⟩ rfl rfl (Nat.le_of_ble_eq_true rfl) (by decide) (c_mall h1.1 h1.now hg12.2) ?_
  refine e_callS0i [_, _, _] dX6_odd_12 msmX6_in lkRX6_111 rfl rfl (Nat.le_of_ble_eq_true rfl) (by decide) (c_in (x := x) (lo := 0) (hi := nI (al (sgg s)))) ?_
  have e5 : (0 : Int32).toInt = 0 := rfl
  rw [e5, nI_toInt (by omega)]
  by_cases hin : 0 ≤ x.toInt ∧ x.toInt ≤ al (sgg s)
  · rw [if_pos hin]
    have e9 : sOdd s x = okR (nI (od (sgg s).2.1 (dif (al (sgg s)) x.toInt.toNat))) s := by unfold sOdd; rw [if_pos hin]
    rw [e9]
    have ex : x = nI x.toInt.toNat := by rw [fa_eq, nI_toInt (by omega)]; omega
    generalize x.toInt.toNat = n at ex
    subst ex
    refine e_if_ne (tgt := 22) dX6_odd_15 (by decide) (fun _ => ?_) (fun hz => absurd hz (by decide))
    refine e_iconst (v := 0) dX6_odd_22 (by decide) ?_
    refine e_iconst (v := 1) dX6_odd_23 (by decide) ?_
    refine e_iconst (v := 1) dX6_odd_24 (by decide) ?_
    refine e_callV0i [_, _, _] dX6_odd_25 mvmX6_bad lkRX6_159 (by exact h1.1.sh rfl) ⟨by decide, rfl⟩ rfl rfl (Nat.le_of_ble_eq_true rfl) (by decide) (c_bad0 h1.1 z1) ?_
    refine e_if_eq (tgt := 35) dX6_odd_28 (by decide) (fun _ => ?_) (fun hz => absurd rfl hz)
    refine e_aload_n dX6_odd_35 rfl rfl ?_
    refine e_iload_n dX6_odd_36 rfl rfl ?_
    refine e_callV0i [_] dX6_odd_37 mvmX6_oddOf lkRX6_275 (by exact h1.1.sh rfl) ⟨by decide, rfl⟩ rfl rfl (Nat.le_of_ble_eq_true rfl) (by decide) (c_oddOf h1.1 h1.now wf) ?_
    exact e_iret dX6_odd_40 rfl rfl (mpo_ok h1 z1 f1)
  · rw [if_neg hin]
    have e9 : sOdd s x = rej 1 1 s := by unfold sOdd; rw [if_neg hin]
    rw [e9]
    refine e_if_ne (tgt := 22) dX6_odd_15 (by decide) (fun hz => absurd rfl hz) (fun _ => ?_)
    refine e_iconst (v := 1) dX6_odd_18 (by decide) ?_
    refine e_goto (tgt := 23) dX6_odd_19 (by decide) ?_
    refine e_iconst (v := 1) dX6_odd_23 (by decide) ?_
    refine e_iconst (v := 1) dX6_odd_24 (by decide) ?_
    refine e_callV0i [_, _, _] dX6_odd_25 mvmX6_bad lkRX6_159 (by exact h1.1.sh rfl) ⟨by decide, rfl⟩ rfl rfl (Nat.le_of_ble_eq_true rfl) (by decide) (c_bad1 (c := 0) (k := 1) h1.1 z1 (by decide) (by decide)) ?_
    refine e_if_eq (tgt := 35) dX6_odd_28 (by decide) (fun hz => absurd hz (by decide)) (fun _ => ?_)
    refine e_iconst (v := 0) dX6_odd_31 (by decide) ?_
    refine e_goto (tgt := 40) dX6_odd_32 (by decide) ?_
    exact e_iret dX6_odd_40 rfl rfl (mpo_rej h1 (by decide) f1)
theorem c_mways {B : Bd} {M : Mm} {s : Sx} (h : MI M s) : Ct B mX6_ways 3 0 0 [.ref 60] M (MPo M (sWays s)) := by
  refine Ct.of (by decide) rfl rfl (Nat.le_of_ble_eq_true rfl) ?_
  refine e_aload_n dX6_ways_0 rfl rfl ?_
  refine e_iconst (v := 0) dX6_ways_1 (by decide) ?_
  refine e_putI dX6_ways_2 fRX6_72 (by exact h.1.sh rfl) rfl rfl rfl (fun _ _ => rfl) ?_
  generalize hM1 : sI M 60 0 0 = M1
  have h1 : MI M1 s := by rw [← hM1]; exact h.t
  have z1 : M1.2.1 60 0 = 0 := by rw [← hM1, rd_self]
  have f1 : FM M M1 := by rw [← hM1]; exact FM.rf.sI (by decide)
  have hg12 := h1.g12
  have wf := h1.wf
  refine e_aload_n dX6_ways_5 rfl rfl ?_
  refine e_callV1 [] dX6_ways_6 mvmX6_lays lkRX6_209 (by exact h1.1.sh rfl) ⟨by decide, rfl⟩ rfl rfl (Nat.le_of_ble_eq_true rfl) (by decide) (c_lays h1) (fun u N2 h2 => ?_)
  obtain ⟨hu, i2, l2, f2⟩ := h2
  subst hu
  have ok2 := i2.1
  have z2 : N2.2.1 60 0 = 0 := by rw [f2.2.2.2.1 0 (by decide)]; exact z1
  have F2 := f1.trans f2.FM
  have hcl := cl_al wf
  have hal := al_lt (sgg s)

  refine e_aload_n dX6_ways_9 rfl rfl ?_
  refine e_getR dX6_ways_10 fRX6_43 (by exact ok2.sh rfl) (by exact ok2.rf rfl) (fun _ => rfl) ?_
  refine e_aload_n dX6_ways_13 rfl rfl ?_
  refine e_callV0i [] dX6_ways_14 mvmX6_all lkRX6_194 (by exact ok2.sh rfl) ⟨by decide, rfl⟩ rfl rfl (Nat.le_of_ble_eq_true rfl) (by decide) (c_mall ok2 i2.now hg12.2) ?_
  refine e_laload dX6_ways_17 (by exact ok2.sh rfl) (by exact vp_in_nI (show al (sgg s) < 4096 from hcl.2) (by decide)) ?_
  rw [hcl.1, (l2 _ hal).2.2.2]
  refine e_l2i dX6_ways_18 ?_
  rw [lN_i]
  exact e_iret dX6_ways_19 rfl rfl (mpo_ok i2 z2 F2)
theorem c_mheavy {B : Bd} {M : Mm} {s : Sx} {x : Int32} (h : MI M s) : Ct B mX6_heavy 3 0 0 [.ref 60, .int x] M (MPo M (sHeavy s x)) := by
  refine Ct.of (by decide) rfl rfl (Nat.le_of_ble_eq_true rfl) ?_
  refine e_aload_n dX6_heavy_0 rfl rfl ?_
  refine e_iconst (v := 0) dX6_heavy_1 (by decide) ?_
  refine e_putI dX6_heavy_2 fRX6_72 (by exact h.1.sh rfl) rfl rfl rfl (fun _ _ => rfl) ?_
  generalize hM1 : sI M 60 0 0 = M1
  have h1 : MI M1 s := by rw [← hM1]; exact h.t
  have z1 : M1.2.1 60 0 = 0 := by rw [← hM1, rd_self]
  have f1 : FM M M1 := by rw [← hM1]; exact FM.rf.sI (by decide)
  have hg12 := h1.g12
  have wf := h1.wf
  refine e_aload_n dX6_heavy_5 rfl rfl ?_
  refine e_iload_n dX6_heavy_6 rfl rfl ?_
  refine e_iconst (v := 0) dX6_heavy_7 (by decide) ?_
  refine e_iconst (v := 1) dX6_heavy_8 (by decide) ?_
  refine e_callS0i [_, _, _] dX6_heavy_9 msmX6_in lkRX6_111 rfl rfl (Nat.le_of_ble_eq_true rfl) (by decide) (c_in (x := x) (lo := 0) (hi := 1)) ?_
  have e5 : (0 : Int32).toInt = 0 := rfl
  have e6 : (1 : Int32).toInt = 1 := rfl
  rw [e5, e6]
  by_cases hin : 0 ≤ x.toInt ∧ x.toInt ≤ 1
  · rw [if_pos hin]
    refine e_if_ne (tgt := 19) dX6_heavy_12 (by decide) (fun _ => ?_) (fun hz => absurd hz (by decide))
    refine e_iconst (v := 0) dX6_heavy_19 (by decide) ?_
    refine e_iconst (v := 1) dX6_heavy_20 (by decide) ?_
    refine e_iconst (v := 1) dX6_heavy_21 (by decide) ?_
    refine e_callV0i [_, _, _] dX6_heavy_22 mvmX6_bad lkRX6_159 (by exact h1.1.sh rfl) ⟨by decide, rfl⟩ rfl rfl (Nat.le_of_ble_eq_true rfl) (by decide) (c_bad0 h1.1 z1) ?_
    refine e_if_eq (tgt := 30) dX6_heavy_25 (by decide) (fun _ => ?_) (fun hz => absurd rfl hz)
    obtain ⟨x1, x2⟩ := toN hin.1 (k := 1) hin.2 (by decide)
    generalize x.toInt.toNat = n at x1 x2
    subst x1
    refine e_aload_n dX6_heavy_30 rfl rfl ?_
    refine e_callV1 [] dX6_heavy_31 mvmX6_lays lkRX6_209 (by exact h1.1.sh rfl) ⟨by decide, rfl⟩ rfl rfl (Nat.le_of_ble_eq_true rfl) (by decide) (c_lays h1) (fun u N2 h2 => ?_)
    obtain ⟨hu, i2, l2, f2⟩ := h2
    subst hu
    have ok2 := i2.1
    have z2 : N2.2.1 60 0 = 0 := by rw [f2.2.2.2.1 0 (by decide)]; exact z1
    have F2 := f1.trans f2.FM
    have hcl := cl_al wf
    have hal := al_lt (sgg s)

    refine e_iload_n dX6_heavy_34 rfl rfl ?_
    match n, x2 with
    | 0, _ =>
      have e9 : sHeavy s (nI 0) = okR (nI (Tq (sgg s).2.1 (al (sgg s))).2.2.1) s := by unfold sHeavy; rw [if_pos (by decide)]
      rw [e9]
      refine e_if_ne (tgt := 50) dX6_heavy_35 (by decide) (fun hz => absurd rfl hz) (fun _ => ?_)
      refine e_aload_n dX6_heavy_38 rfl rfl ?_
      refine e_getR dX6_heavy_39 fRX6_37 (by exact ok2.sh rfl) (by exact ok2.rf rfl) (fun _ => rfl) ?_
      refine e_aload_n dX6_heavy_42 rfl rfl ?_
      refine e_callV0i [] dX6_heavy_43 mvmX6_all lkRX6_194 (by exact ok2.sh rfl) ⟨by decide, rfl⟩ rfl rfl (Nat.le_of_ble_eq_true rfl) (by decide) (c_mall ok2 i2.now hg12.2) ?_
      refine e_iaload dX6_heavy_46 (by exact ok2.sh rfl) (by exact vp_in_nI (show al (sgg s) < 4096 from hcl.2) (by decide)) ?_
      refine e_goto (tgt := 59) dX6_heavy_47 (by decide) ?_
      rw [hcl.1, (l2 _ hal).2.1]
      exact e_iret dX6_heavy_59 rfl rfl (mpo_ok i2 z2 F2)
    | 1, _ =>
      have e9 : sHeavy s (nI 1) = okR (nI (Tq (sgg s).2.1 (al (sgg s))).2.2.2) s := by unfold sHeavy; rw [if_neg (by decide), if_pos (by decide)]
      rw [e9]
      refine e_if_ne (tgt := 50) dX6_heavy_35 (by decide) (fun _ => ?_) (fun hz => absurd hz (by decide))
      refine e_aload_n dX6_heavy_50 rfl rfl ?_
      refine e_getR dX6_heavy_51 fRX6_40 (by exact ok2.sh rfl) (by exact ok2.rf rfl) (fun _ => rfl) ?_
      refine e_aload_n dX6_heavy_54 rfl rfl ?_
      refine e_callV0i [] dX6_heavy_55 mvmX6_all lkRX6_194 (by exact ok2.sh rfl) ⟨by decide, rfl⟩ rfl rfl (Nat.le_of_ble_eq_true rfl) (by decide) (c_mall ok2 i2.now hg12.2) ?_
      refine e_iaload dX6_heavy_58 (by exact ok2.sh rfl) (by exact vp_in_nI (show al (sgg s) < 4096 from hcl.2) (by decide)) ?_
      rw [hcl.1, (l2 _ hal).2.2.1]
      exact e_iret dX6_heavy_59 rfl rfl (mpo_ok i2 z2 F2)
  · rw [if_neg hin]
    have e9 : sHeavy s x = rej 1 1 s := by unfold sHeavy; rw [if_neg (fun q => hin (by rw [q]; decide)), if_neg (fun q => hin (by rw [q]; decide))]
    rw [e9]
    refine e_if_ne (tgt := 19) dX6_heavy_12 (by decide) (fun hz => absurd rfl hz) (fun _ => ?_)
    refine e_iconst (v := 1) dX6_heavy_15 (by decide) ?_
    refine e_goto (tgt := 20) dX6_heavy_16 (by decide) ?_
    refine e_iconst (v := 1) dX6_heavy_20 (by decide) ?_
    refine e_iconst (v := 1) dX6_heavy_21 (by decide) ?_
    refine e_callV0i [_, _, _] dX6_heavy_22 mvmX6_bad lkRX6_159 (by exact h1.1.sh rfl) ⟨by decide, rfl⟩ rfl rfl (Nat.le_of_ble_eq_true rfl) (by decide) (c_bad1 (c := 0) (k := 1) h1.1 z1 (by decide) (by decide)) ?_
    refine e_if_eq (tgt := 30) dX6_heavy_25 (by decide) (fun hz => absurd hz (by decide)) (fun _ => ?_)
    refine e_iconst (v := 0) dX6_heavy_28 (by decide) ?_
    exact e_iret dX6_heavy_29 rfl rfl (mpo_rej h1 (by decide) f1)
theorem c_mtold {B : Bd} {M : Mm} {s : Sx} {x : Int32} (h : MI M s) : Ct B mX6_told 3 0 0 [.ref 60, .int x] M (MPo M (sTold s x)) := by
  refine Ct.of (by decide) rfl rfl (Nat.le_of_ble_eq_true rfl) ?_
  refine e_aload_n dX6_told_0 rfl rfl ?_
  refine e_iconst (v := 0) dX6_told_1 (by decide) ?_
  refine e_putI dX6_told_2 fRX6_72 (by exact h.1.sh rfl) rfl rfl rfl (fun _ _ => rfl) ?_
  generalize hM1 : sI M 60 0 0 = M1
  have h1 : MI M1 s := by rw [← hM1]; exact h.t
  have z1 : M1.2.1 60 0 = 0 := by rw [← hM1, rd_self]
  have f1 : FM M M1 := by rw [← hM1]; exact FM.rf.sI (by decide)
  have hg12 := h1.g12
  have wf := h1.wf
  refine e_aload_n dX6_told_5 rfl rfl ?_
  refine e_iload_n dX6_told_6 rfl rfl ?_
  refine e_iconst (v := 0) dX6_told_7 (by decide) ?_
  refine e_bipush (v := 7) dX6_told_8 (by decide) ?_
  refine e_callS0i [_, _, _] dX6_told_10 msmX6_in lkRX6_111 rfl rfl (Nat.le_of_ble_eq_true rfl) (by decide) (c_in (x := x) (lo := 0) (hi := 7)) ?_
  have e5 : (0 : Int32).toInt = 0 := rfl
  have e6 : (7 : Int32).toInt = 7 := rfl
  rw [e5, e6]
  by_cases hin : 0 ≤ x.toInt ∧ x.toInt ≤ 7
  · rw [if_pos hin]
    refine e_if_ne (tgt := 20) dX6_told_13 (by decide) (fun _ => ?_) (fun hz => absurd hz (by decide))
    refine e_iconst (v := 0) dX6_told_20 (by decide) ?_
    refine e_iconst (v := 1) dX6_told_21 (by decide) ?_
    refine e_iconst (v := 1) dX6_told_22 (by decide) ?_
    refine e_callV0i [_, _, _] dX6_told_23 mvmX6_bad lkRX6_159 (by exact h1.1.sh rfl) ⟨by decide, rfl⟩ rfl rfl (Nat.le_of_ble_eq_true rfl) (by decide) (c_bad0 h1.1 z1) ?_
    refine e_if_eq (tgt := 31) dX6_told_26 (by decide) (fun _ => ?_) (fun hz => absurd rfl hz)
    obtain ⟨x1, x2⟩ := toN hin.1 (k := 7) hin.2 (by decide)
    rw [sTold_in hin]
    generalize x.toInt.toNat = n at x1 x2
    subst x1
    refine e_aload_n dX6_told_31 rfl rfl ?_
    refine e_callV1 [] dX6_told_32 mvmX6_lays lkRX6_209 (by exact h1.1.sh rfl) ⟨by decide, rfl⟩ rfl rfl (Nat.le_of_ble_eq_true rfl) (by decide) (c_lays h1) (fun u N2 h2 => ?_)
    obtain ⟨hu, i2, l2, f2⟩ := h2
    subst hu
    have ok2 := i2.1
    have z2 : N2.2.1 60 0 = 0 := by rw [f2.2.2.2.1 0 (by decide)]; exact z1
    have F2 := f1.trans f2.FM
    have hcl := cl_al wf
    have hal := al_lt (sgg s)

    have gd := h1.2.2.2.1.2
    generalize hΦ : MPo M (okR (ansT s n) s) = Φ
    have fin : Ev B mX6_told 3 0 0 Φ 79 [some (.ref 60), some (.int (nI n)), some (.int (nI (wpr (sgg s)))), some (.int (nI (sgg s).1))] [] N2 := by
      rw [← hΦ]
      refine e_iload_n dX6_told_79 rfl rfl ?_
      match n, x2 with
      | 0, _ =>
        refine e_swIn (tgt := 124) dX6_told_80 (by decide) (by decide) rfl (by decide) ?_
        refine e_aload_n dX6_told_124 rfl rfl ?_
        refine e_callV0i [] dX6_told_125 mvmX6_nodes lkRX6_181 (by exact ok2.sh rfl) ⟨by decide, rfl⟩ rfl rfl (Nat.le_of_ble_eq_true rfl) (by decide) (c_nodes ok2 i2.now) ?_
        exact e_iret dX6_told_128 rfl rfl (mpo_ok i2 z2 F2)
      | 1, _ =>
        refine e_swIn (tgt := 129) dX6_told_80 (by decide) (by decide) rfl (by decide) ?_
        refine e_aload_n dX6_told_129 rfl rfl ?_
        refine e_callV0i [] dX6_told_130 mvmX6_lines lkRX6_178 (by exact ok2.sh rfl) ⟨by decide, rfl⟩ rfl rfl (Nat.le_of_ble_eq_true rfl) (by decide) (c_lines ok2 i2.now wf) ?_
        exact e_iret dX6_told_133 rfl rfl (mpo_ok i2 z2 F2)
      | 2, _ =>
        refine e_swIn (tgt := 134) dX6_told_80 (by decide) (by decide) rfl (by decide) ?_
        refine e_aload_n dX6_told_134 rfl rfl ?_
        refine e_callV0i [] dX6_told_135 mvmX6_pairsNow lkRX6_254 (by exact ok2.sh rfl) ⟨by decide, rfl⟩ rfl rfl (Nat.le_of_ble_eq_true rfl) (by decide) (c_pairsNow ok2 i2.now wf) ?_
        exact e_iret dX6_told_138 rfl rfl (mpo_ok i2 z2 F2)
      | 3, _ =>
        refine e_swIn (tgt := 139) dX6_told_80 (by decide) (by decide) rfl (by decide) ?_
        refine e_aload_n dX6_told_139 rfl rfl ?_
        refine e_getR dX6_told_140 fRX6_34 (by exact ok2.sh rfl) (by exact ok2.rf rfl) (fun _ => rfl) ?_
        refine e_aload_n dX6_told_143 rfl rfl ?_
        refine e_callV0i [] dX6_told_144 mvmX6_all lkRX6_194 (by exact ok2.sh rfl) ⟨by decide, rfl⟩ rfl rfl (Nat.le_of_ble_eq_true rfl) (by decide) (c_mall ok2 i2.now hg12.2) ?_
        refine e_iaload dX6_told_147 (by exact ok2.sh rfl) (by exact vp_in_nI (show al (sgg s) < 4096 from hcl.2) (by decide)) ?_
        rw [hcl.1, (l2 _ hal).1]
        exact e_iret dX6_told_148 rfl rfl (mpo_ok i2 z2 F2)
      | 4, _ =>
        refine e_swIn (tgt := 149) dX6_told_80 (by decide) (by decide) rfl (by decide) ?_
        refine e_aload_n dX6_told_149 rfl rfl ?_
        refine e_callV0i [] dX6_told_150 mvmX6_missing lkRX6_266 (by exact ok2.sh rfl) ⟨by decide, rfl⟩ rfl rfl (Nat.le_of_ble_eq_true rfl) (by decide) (c_mmissing ok2 i2.now wf l2) ?_
        exact e_iret dX6_told_153 rfl rfl (mpo_ok i2 z2 F2)
      | 5, _ =>
        refine e_swIn (tgt := 154) dX6_told_80 (by decide) (by decide) rfl (by decide) ?_
        refine e_iload_n dX6_told_154 rfl rfl ?_
        exact e_iret dX6_told_155 rfl rfl (mpo_ok i2 z2 F2)
      | 6, _ =>
        refine e_swIn (tgt := 156) dX6_told_80 (by decide) (by decide) rfl (by decide) ?_
        refine e_aload_n dX6_told_156 rfl rfl ?_
        refine e_getI dX6_told_157 fRX6_75 (by exact ok2.sh rfl) (fun _ => rfl) ?_
        rw [i2.2.1.1]
        exact e_iret dX6_told_160 rfl rfl (mpo_ok i2 z2 F2)
      | 7, _ =>
        refine e_swOut (tgt := 161) dX6_told_80 (Or.inr (by decide)) (by decide) ?_
        refine e_aload_n dX6_told_161 rfl rfl ?_
        refine e_getI dX6_told_162 fRX6_242 (by exact ok2.sh rfl) (fun _ => rfl) ?_
        rw [i2.2.1.2.2.2.1]
        exact e_iret dX6_told_165 rfl rfl (mpo_ok i2 z2 F2)
    have hnow := i2.now
    generalize hg : sgg s = g at *
    have loop : ∀ j a, a + j = g.1 → Ev B mX6_told 3 0 0 Φ 39 [some (.ref 60), some (.int (nI n)), some (.int (nI (sm (fun a => if upp g a = true then wof g a else 0) a))), some (.int (nI a))] [] N2 := by
      intro j
      induction j with
      | zero =>
        intro a ha
        have hag : a = g.1 := by omega
        subst hag
        refine e_iload_n dX6_told_39 rfl rfl ?_
        refine e_aload_n dX6_told_40 rfl rfl ?_
        refine e_callV0i [] dX6_told_41 mvmX6_nodes lkRX6_181 (by exact ok2.sh rfl) ⟨by decide, rfl⟩ rfl rfl (Nat.le_of_ble_eq_true rfl) (by decide) (c_nodes ok2 hnow) ?_
        refine e_icmp_ge (tgt := 79) dX6_told_44 (by decide) (fun _ => ?_) (fun hz => absurd (nI_le (by omega) (by omega)) hz)
        exact fin
      | succ j ih =>
        intro a ha
        have go := ih (a + 1) (by omega)
        rw [sm_s] at go
        have hu := upp_iff (g := g) (a := a) (wf.m a) (by omega)
        refine e_iload_n dX6_told_39 rfl rfl ?_
        refine e_aload_n dX6_told_40 rfl rfl ?_
        refine e_callV0i [] dX6_told_41 mvmX6_nodes lkRX6_181 (by exact ok2.sh rfl) ⟨by decide, rfl⟩ rfl rfl (Nat.le_of_ble_eq_true rfl) (by decide) (c_nodes ok2 hnow) ?_
        refine e_icmp_ge (tgt := 79) dX6_told_44 (by decide) (fun hz => absurd hz (nI_ge (by omega) (by omega))) (fun _ => ?_)
        refine e_iload_n dX6_told_47 rfl rfl ?_
        refine e_aload_n dX6_told_48 rfl rfl ?_
        refine e_iload_n dX6_told_49 rfl rfl ?_
        refine e_callV0i [_] dX6_told_50 mvmX6_mate lkRX6_206 (by exact ok2.sh rfl) ⟨by decide, rfl⟩ rfl rfl (Nat.le_of_ble_eq_true rfl) (by decide) (c_mate ok2 hnow (by omega)) ?_
        refine e_iload_n dX6_told_53 rfl rfl ?_
        by_cases hp : upp g a = true
        · refine e_icmp_le (tgt := 70) dX6_told_54 (by decide) (fun hz => absurd hp (hu.mp hz)) (fun _ => ?_)
          rw [if_pos hp] at go
          cases hm : g.2.2 a with
          | none => unfold upp at hp; rw [hm] at hp; cases hp
          | some b =>
            have hb := wf.m a b hm
            obtain ⟨w, hw⟩ := Option.isSome_iff_exists.mp (gd.2 a b hm)
            refine e_aload_n dX6_told_57 rfl rfl ?_
            refine e_iload_n dX6_told_58 rfl rfl ?_
            refine e_aload_n dX6_told_59 rfl rfl ?_
            refine e_iload_n dX6_told_60 rfl rfl ?_
            refine e_callV0i [_] dX6_told_61 mvmX6_mate lkRX6_206 (by exact ok2.sh rfl) ⟨by decide, rfl⟩ rfl rfl (Nat.le_of_ble_eq_true rfl) (by decide) (c_mate ok2 hnow (by omega)) ?_
            rw [hm]
            show Ev _ _ _ _ _ _ 64 _ [.int (nI b), .int (nI a), .ref 60, _] _
            refine e_callV0i [_, _] dX6_told_64 mvmX6_weight lkRX6_203 (by exact ok2.sh rfl) ⟨by decide, rfl⟩ rfl rfl (Nat.le_of_ble_eq_true rfl) (by decide) (c_weight ok2 hnow (by omega) hb) ?_
            rw [hw]
            show Ev _ _ _ _ _ _ 67 _ [.int (nI w), _] _
            refine e_goto (tgt := 71) dX6_told_67 (by decide) ?_
            refine e_iadd dX6_told_71 ?_
            rw [nI_add]
            refine e_istore_n dX6_told_72 rfl (by decide) rfl rfl ?_
            refine e_iinc (v := nI (a + 1)) dX6_told_73 rfl (nI_1 a) (by decide) rfl rfl ?_
            refine e_goto (tgt := 39) dX6_told_76 (by decide) ?_
            have e : wof g a = w := by unfold wof; rw [hm]; show (g.2.1 a b).getD 0 = w; rw [hw]; rfl
            rw [e] at go
            exact go
        · refine e_icmp_le (tgt := 70) dX6_told_54 (by decide) (fun _ => ?_) (fun hz => absurd (hu.mpr hp) hz)
          rw [if_neg hp] at go
          refine e_iconst (v := 0) dX6_told_70 (by decide) ?_
          refine e_iadd dX6_told_71 ?_
          rw [show ∀ k, nI k + 0 = nI (k + 0) from fun k => nI_add k 0]
          refine e_istore_n dX6_told_72 rfl (by decide) rfl rfl ?_
          refine e_iinc (v := nI (a + 1)) dX6_told_73 rfl (nI_1 a) (by decide) rfl rfl ?_
          refine e_goto (tgt := 39) dX6_told_76 (by decide) ?_
          exact go
    refine e_iconst (v := 0) dX6_told_35 (by decide) ?_
    refine e_istore_n dX6_told_36 rfl (by decide) rfl rfl ?_
    refine e_iconst (v := 0) dX6_told_37 (by decide) ?_
    refine e_istore_n dX6_told_38 rfl (by decide) rfl rfl ?_
    exact loop g.1 0 (by omega)
  · rw [if_neg hin]
    have e9 : sTold s x = rej 1 1 s := by unfold sTold; rw [if_neg hin]
    rw [e9]
    refine e_if_ne (tgt := 20) dX6_told_13 (by decide) (fun hz => absurd rfl hz) (fun _ => ?_)
    refine e_iconst (v := 1) dX6_told_16 (by decide) ?_
    refine e_goto (tgt := 21) dX6_told_17 (by decide) ?_
    refine e_iconst (v := 1) dX6_told_21 (by decide) ?_
    refine e_iconst (v := 1) dX6_told_22 (by decide) ?_
    refine e_callV0i [_, _, _] dX6_told_23 mvmX6_bad lkRX6_159 (by exact h1.1.sh rfl) ⟨by decide, rfl⟩ rfl rfl (Nat.le_of_ble_eq_true rfl) (by decide) (c_bad1 (c := 0) (k := 1) h1.1 z1 (by decide) (by decide)) ?_
    refine e_if_eq (tgt := 31) dX6_told_26 (by decide) (fun hz => absurd hz (by decide)) (fun _ => ?_)
    refine e_iconst (v := 0) dX6_told_29 (by decide) ?_
    exact e_iret dX6_told_30 rfl rfl (mpo_rej h1 (by decide) f1)
theorem c_mline {B : Bd} {M : Mm} {s : Sx} {x y z : Int32} (h : MI M s) : Ct B mX6_line 3 0 0 [.ref 60, .int x, .int y, .int z] M (MPo M (sLine s x y z)) := by
  refine Ct.of (by decide) rfl rfl (Nat.le_of_ble_eq_true rfl) ?_
  refine e_aload_n dX6_line_0 rfl rfl ?_
  refine e_iconst (v := 0) dX6_line_1 (by decide) ?_
  refine e_putI dX6_line_2 fRX6_72 (by exact h.1.sh rfl) rfl rfl rfl (fun _ _ => rfl) ?_
  generalize hM1 : sI M 60 0 0 = M1
  have h1 : MI M1 s := by rw [← hM1]; exact h.t
  have z1 : M1.2.1 60 0 = 0 := by rw [← hM1, rd_self]
  have f1 : FM M M1 := by rw [← hM1]; exact FM.rf.sI (by decide)
  have hg12 := h1.g12
  have wf := h1.wf
  refine e_aload_n dX6_line_5 rfl rfl ?_
  refine e_aload_n dX6_line_6 rfl rfl ?_
  refine e_iload_n dX6_line_7 rfl rfl ?_
  refine e_callV0i [_] dX6_line_8 mvmX6_isNode lkRX6_245 (by exact h1.1.sh rfl) ⟨by decide, rfl⟩ rfl rfl (Nat.le_of_ble_eq_true rfl) (by decide) (c_isNode h1.1 h1.now hg12) ?_
  cases hx : nod (sgg s) x with
  | none =>
    rw [if_neg (by simp)]
    refine e_if_eq (tgt := 22) dX6_line_11 (by decide) (fun _ => ?_) (fun hz => absurd rfl hz)
    refine e_iconst (v := 1) dX6_line_22 (by decide) ?_
    refine e_goto (tgt := 27) dX6_line_23 (by decide) ?_
    refine e_iconst (v := 1) dX6_line_27 (by decide) ?_
    refine e_iconst (v := 0) dX6_line_28 (by decide) ?_
    refine e_callV0i [_, _, _] dX6_line_29 mvmX6_bad lkRX6_159 (by exact h1.1.sh rfl) ⟨by decide, rfl⟩ rfl rfl (Nat.le_of_ble_eq_true rfl) (by decide) (c_bad1 (c := 0) (k := 0) h1.1 z1 (by decide) (by decide)) ?_
    refine e_if_ne (tgt := 63) dX6_line_32 (by decide) (fun _ => ?_) (fun hz => absurd hz (by decide))
    refine e_iconst (v := 0) dX6_line_63 (by decide) ?_
    refine e_iret dX6_line_64 rfl rfl ?_
    show MPo M (sLine s x y z) _ _
    unfold sLine
    rw [hx]
    cases nod (sgg s) y <;> exact mpo_rej h1 (by decide) f1
  | some a =>
    rw [if_pos (by rfl)]
    refine e_if_eq (tgt := 22) dX6_line_11 (by decide) (fun hz => absurd hz (by decide)) (fun _ => ?_)
    refine e_aload_n dX6_line_14 rfl rfl ?_
    refine e_iload_n dX6_line_15 rfl rfl ?_
    refine e_callV0i [_] dX6_line_16 mvmX6_isNode lkRX6_245 (by exact h1.1.sh rfl) ⟨by decide, rfl⟩ rfl rfl (Nat.le_of_ble_eq_true rfl) (by decide) (c_isNode h1.1 h1.now hg12) ?_
    cases hy : nod (sgg s) y with
    | none =>
      rw [if_neg (by simp)]
      refine e_if_ne (tgt := 26) dX6_line_19 (by decide) (fun hz => absurd rfl hz) (fun _ => ?_)
      refine e_iconst (v := 1) dX6_line_22 (by decide) ?_
      refine e_goto (tgt := 27) dX6_line_23 (by decide) ?_
      refine e_iconst (v := 1) dX6_line_27 (by decide) ?_
      refine e_iconst (v := 0) dX6_line_28 (by decide) ?_
      refine e_callV0i [_, _, _] dX6_line_29 mvmX6_bad lkRX6_159 (by exact h1.1.sh rfl) ⟨by decide, rfl⟩ rfl rfl (Nat.le_of_ble_eq_true rfl) (by decide) (c_bad1 (c := 0) (k := 0) h1.1 z1 (by decide) (by decide)) ?_
      refine e_if_ne (tgt := 63) dX6_line_32 (by decide) (fun _ => ?_) (fun hz => absurd hz (by decide))
      refine e_iconst (v := 0) dX6_line_63 (by decide) ?_
      refine e_iret dX6_line_64 rfl rfl ?_
      show MPo M (sLine s x y z) _ _
      unfold sLine
      rw [hx, hy]
      exact mpo_rej h1 (by decide) f1
    | some b =>
      obtain ⟨ha, hxa⟩ := (nod_some hg12.2).mp hx
      obtain ⟨hb, hyb⟩ := (nod_some hg12.2).mp hy
      rw [if_pos (by rfl)]
      refine e_if_ne (tgt := 26) dX6_line_19 (by decide) (fun _ => ?_) (fun hz => absurd hz (by decide))
      refine e_iconst (v := 0) dX6_line_26 (by decide) ?_
      refine e_iconst (v := 1) dX6_line_27 (by decide) ?_
      refine e_iconst (v := 0) dX6_line_28 (by decide) ?_
      refine e_callV0i [_, _, _] dX6_line_29 mvmX6_bad lkRX6_159 (by exact h1.1.sh rfl) ⟨by decide, rfl⟩ rfl rfl (Nat.le_of_ble_eq_true rfl) (by decide) (c_bad0 h1.1 z1) ?_
      refine e_if_ne (tgt := 63) dX6_line_32 (by decide) (fun hz => absurd rfl hz) (fun _ => ?_)
      have e9 := sLine_in (z := z) hx hy
      subst hxa hyb
      have no : ¬ (a ≠ b ∧ 0 ≤ z.toInt ∧ z.toInt ≤ 4) → Ev B mX6_line 3 0 0 (MPo M (sLine s (nI a) (nI b) z)) 50 [some (.ref 60), some (.int (nI a)), some (.int (nI b)), some (.int z), none, none, none] [.ref 60] M1 := by
        intro hno
        rw [e9, if_neg hno]
        refine e_iconst (v := 1) dX6_line_50 (by decide) ?_
        refine e_goto (tgt := 55) dX6_line_51 (by decide) ?_
        refine e_iconst (v := 2) dX6_line_55 (by decide) ?_
        refine e_iconst (v := 1) dX6_line_56 (by decide) ?_
        refine e_callV0i [_, _, _] dX6_line_57 mvmX6_bad lkRX6_159 (by exact h1.1.sh rfl) ⟨by decide, rfl⟩ rfl rfl (Nat.le_of_ble_eq_true rfl) (by decide) (c_bad1 (c := 1) (k := 1) h1.1 z1 (by decide) (by decide)) ?_
        refine e_if_eq (tgt := 65) dX6_line_60 (by decide) (fun hz => absurd hz (by decide)) (fun _ => ?_)
        refine e_iconst (v := 0) dX6_line_63 (by decide) ?_
        exact e_iret dX6_line_64 rfl rfl (mpo_rej h1 (by decide) f1)
      refine e_aload_n dX6_line_35 rfl rfl ?_
      refine e_iload_n dX6_line_36 rfl rfl ?_
      refine e_iload_n dX6_line_37 rfl rfl ?_
      refine e_icmp_eq (tgt := 50) dX6_line_38 (by decide) (fun hz => ?_) (fun hz => ?_)
      · have hab := (nI_eq (by omega) (by omega)).mp hz
        exact no (fun q => q.1 hab)
      · have hab : a ≠ b := fun q => hz (by rw [q])
        refine e_iload_n dX6_line_41 rfl rfl ?_
        refine e_iconst (v := 0) dX6_line_42 (by decide) ?_
        refine e_iconst (v := 4) dX6_line_43 (by decide) ?_
        refine e_callS0i [_, _, _] dX6_line_44 msmX6_in lkRX6_111 rfl rfl (Nat.le_of_ble_eq_true rfl) (by decide) (c_in (x := z) (lo := 0) (hi := 4)) ?_
        have e5 : (0 : Int32).toInt = 0 := rfl
        have e6 : (4 : Int32).toInt = 4 := rfl
        rw [e5, e6]
        by_cases hw : 0 ≤ z.toInt ∧ z.toInt ≤ 4
        · rw [if_pos hw]
          refine e_if_ne (tgt := 54) dX6_line_47 (by decide) (fun _ => ?_) (fun hz => absurd hz (by decide))
          refine e_iconst (v := 0) dX6_line_54 (by decide) ?_
          refine e_iconst (v := 2) dX6_line_55 (by decide) ?_
          refine e_iconst (v := 1) dX6_line_56 (by decide) ?_
          refine e_callV0i [_, _, _] dX6_line_57 mvmX6_bad lkRX6_159 (by exact h1.1.sh rfl) ⟨by decide, rfl⟩ rfl rfl (Nat.le_of_ble_eq_true rfl) (by decide) (c_bad0 h1.1 z1) ?_
          refine e_if_eq (tgt := 65) dX6_line_60 (by decide) (fun _ => ?_) (fun hz => absurd rfl hz)
          rw [e9, if_pos ⟨hab, hw⟩]
          obtain ⟨x1, x2⟩ := toN hw.1 (k := 4) hw.2 (by decide)
          generalize z.toInt.toNat = n at x1 x2
          subst x1
          refine e_aload_n dX6_line_65 rfl rfl ?_
          refine e_callV1 [] dX6_line_66 mvmX6_lays lkRX6_209 (by exact h1.1.sh rfl) ⟨by decide, rfl⟩ rfl rfl (Nat.le_of_ble_eq_true rfl) (by decide) (c_lays h1) (fun u N2 h2 => ?_)
          obtain ⟨hu, i2, l2, f2⟩ := h2
          subst hu
          have ok2 := i2.1
          have z2 : N2.2.1 60 0 = 0 := by rw [f2.2.2.2.1 0 (by decide)]; exact z1
          have F2 := f1.trans f2.FM
          have hcl := cl_al wf
          have hal := al_lt (sgg s)

          refine e_aload_n dX6_line_69 rfl rfl ?_
          refine e_iload_n dX6_line_70 rfl rfl ?_
          refine e_iload_n dX6_line_71 rfl rfl ?_
          refine e_callV0i [_, _] dX6_line_72 mvmX6_weight lkRX6_203 (by exact ok2.sh rfl) ⟨by decide, rfl⟩ rfl rfl (Nat.le_of_ble_eq_true rfl) (by decide) (c_weight ok2 i2.now (by omega) (by omega)) ?_
          refine e_iconst (v := (-1)) dX6_line_75 (by decide) ?_
          have hn := wI_none (wf.wb a b)
          have hwo := wo_lt wf a b
          have l1 := mst_lt wf (wo (sgg s) a b)
          have l3 := mst_lt wf (al (sgg s))
          have c1' := cnq_lt wf (wo (sgg s) a b)
          have c3' := cnq_lt wf (al (sgg s))
          -- all three are known
          have fin : ∀ (is some_ : Int32), (is = 1 ↔ ((sgg s).2.1 a b).isSome = true) → (is = 0 ∨ is = 1) → (some_ = 1 ↔ (((sgg s).2.1 a b).isSome = true ∧ mst (sgg s) (wo (sgg s) a b) + 1 = mst (sgg s) (al (sgg s)))) → (some_ = 0 ∨ some_ = 1) → Ev B mX6_line 3 0 0 (MPo M (okR (ansL s a b n) s)) 137 [some (.ref 60), some (.int (nI a)), some (.int (nI b)), some (.int (nI n)), some (.int is), some (.int (nI (wo (sgg s) a b))), some (.int some_)] [] N2 := by
            intro is sm' his his2 hsm hsm2
            refine e_iload_n dX6_line_137 rfl rfl ?_
            match n, x2 with
            | 0, _ =>
              refine e_swIn (tgt := 168) dX6_line_138 (by decide) (by decide) rfl (by decide) ?_
              refine e_iload dX6_line_168 rfl ?_
              by_cases hp : ((sgg s).2.1 a b).isSome = true
              · rw [his.mpr hp]
                refine e_if_eq (tgt := 177) dX6_line_170 (by decide) (fun hz => absurd hz (by decide)) (fun _ => ?_)
                refine e_iconst (v := 1) dX6_line_173 (by decide) ?_
                refine e_goto (tgt := 178) dX6_line_174 (by decide) ?_
                have e : (1 : Int32) = b01 (((sgg s).2.1 a b).isSome = true) := by unfold b01; rw [if_pos hp]
                rw [e]
                exact e_iret dX6_line_178 rfl rfl (mpo_ok i2 z2 F2)
              · have h0 : is = 0 := his2.resolve_right (fun q => hp (his.mp q))
                rw [h0]
                refine e_if_eq (tgt := 177) dX6_line_170 (by decide) (fun _ => ?_) (fun hz => absurd rfl hz)
                refine e_iconst (v := 0) dX6_line_177 (by decide) ?_
                have e : (0 : Int32) = b01 (((sgg s).2.1 a b).isSome = true) := by unfold b01; rw [if_neg hp]
                rw [e]
                exact e_iret dX6_line_178 rfl rfl (mpo_ok i2 z2 F2)
            | 1, _ =>
              refine e_swIn (tgt := 179) dX6_line_138 (by decide) (by decide) rfl (by decide) ?_
              refine e_aload_n dX6_line_179 rfl rfl ?_
              refine e_iload_n dX6_line_180 rfl rfl ?_
              refine e_iload_n dX6_line_181 rfl rfl ?_
              refine e_callV0i [_, _] dX6_line_182 mvmX6_weight lkRX6_203 (by exact ok2.sh rfl) ⟨by decide, rfl⟩ rfl rfl (Nat.le_of_ble_eq_true rfl) (by decide) (c_weight ok2 i2.now (by omega) (by omega)) ?_
              exact e_iret dX6_line_185 rfl rfl (mpo_ok i2 z2 F2)
            | 2, _ =>
              refine e_swIn (tgt := 186) dX6_line_138 (by decide) (by decide) rfl (by decide) ?_
              refine e_aload_n dX6_line_186 rfl rfl ?_
              refine e_iload_n dX6_line_187 rfl rfl ?_
              refine e_callV0i [_] dX6_line_188 mvmX6_mate lkRX6_206 (by exact ok2.sh rfl) ⟨by decide, rfl⟩ rfl rfl (Nat.le_of_ble_eq_true rfl) (by decide) (c_mate ok2 i2.now (by omega)) ?_
              refine e_iload_n dX6_line_191 rfl rfl ?_
              have hwm := wI_some (b := b) (wf.mb a) (by omega)
              refine e_icmp_ne (tgt := 199) dX6_line_192 (by decide) (fun hz => ?_) (fun hz => ?_)
              · refine e_iconst (v := 0) dX6_line_199 (by decide) ?_
                have e : (0 : Int32) = b01 ((sgg s).2.2 a = some b) := by unfold b01; rw [if_neg (fun q => hz (hwm.mpr q))]
                rw [e]
                exact e_iret dX6_line_200 rfl rfl (mpo_ok i2 z2 F2)
              · refine e_iconst (v := 1) dX6_line_195 (by decide) ?_
                refine e_goto (tgt := 200) dX6_line_196 (by decide) ?_
                have e : (1 : Int32) = b01 ((sgg s).2.2 a = some b) := by unfold b01; rw [if_pos (hwm.mp hz)]
                rw [e]
                exact e_iret dX6_line_200 rfl rfl (mpo_ok i2 z2 F2)
            | 3, _ =>
              refine e_swIn (tgt := 201) dX6_line_138 (by decide) (by decide) rfl (by decide) ?_
              refine e_iload dX6_line_201 rfl ?_
              by_cases hp : ((sgg s).2.1 a b).isSome = true ∧ mst (sgg s) (wo (sgg s) a b) + 1 = mst (sgg s) (al (sgg s))
              · rw [hsm.mpr hp]
                refine e_if_eq (tgt := 210) dX6_line_203 (by decide) (fun hz => absurd hz (by decide)) (fun _ => ?_)
                refine e_iconst (v := 1) dX6_line_206 (by decide) ?_
                refine e_goto (tgt := 211) dX6_line_207 (by decide) ?_
                have e : (1 : Int32) = b01 (((sgg s).2.1 a b).isSome = true ∧ mst (sgg s) (wo (sgg s) a b) + 1 = mst (sgg s) (al (sgg s))) := by unfold b01; rw [if_pos hp]
                rw [e]
                exact e_iret dX6_line_211 rfl rfl (mpo_ok i2 z2 F2)
              · have h0 : sm' = 0 := hsm2.resolve_right (fun q => hp (hsm.mp q))
                rw [h0]
                refine e_if_eq (tgt := 210) dX6_line_203 (by decide) (fun _ => ?_) (fun hz => absurd rfl hz)
                refine e_iconst (v := 0) dX6_line_210 (by decide) ?_
                have e : (0 : Int32) = b01 (((sgg s).2.1 a b).isSome = true ∧ mst (sgg s) (wo (sgg s) a b) + 1 = mst (sgg s) (al (sgg s))) := by unfold b01; rw [if_neg hp]
                rw [e]
                exact e_iret dX6_line_211 rfl rfl (mpo_ok i2 z2 F2)
            | 4, _ =>
              refine e_swOut (tgt := 212) dX6_line_138 (Or.inr (by decide)) (by decide) ?_
              refine e_iload dX6_line_212 rfl ?_
              by_cases hp : ((sgg s).2.1 a b).isSome = true ∧ mst (sgg s) (wo (sgg s) a b) + 1 = mst (sgg s) (al (sgg s))
              · rw [hsm.mpr hp]
                refine e_if_eq (tgt := 241) dX6_line_214 (by decide) (fun hz => absurd hz (by decide)) (fun _ => ?_)
                refine e_aload_n dX6_line_217 rfl rfl ?_
                refine e_getR dX6_line_218 fRX6_43 (by exact ok2.sh rfl) (by exact ok2.rf rfl) (fun _ => rfl) ?_
                refine e_iload dX6_line_221 rfl ?_
                refine e_laload dX6_line_223 (by exact ok2.sh rfl) (by first | exact vp_in_nI (show wo (sgg s) a b < 4096 from hwo.2) (by decide) | exact vp_in_nI (show al (sgg s) < 4096 from hcl.2) (by decide)) ?_
                rw [nI_clamp (by omega), (l2 _ hwo.1).2.2.2]
                refine e_aload_n dX6_line_224 rfl rfl ?_
                refine e_getR dX6_line_225 fRX6_43 (by exact ok2.sh rfl) (by exact ok2.rf rfl) (fun _ => rfl) ?_
                refine e_aload_n dX6_line_228 rfl rfl ?_
                refine e_callV0i [] dX6_line_229 mvmX6_all lkRX6_194 (by exact ok2.sh rfl) ⟨by decide, rfl⟩ rfl rfl (Nat.le_of_ble_eq_true rfl) (by decide) (c_mall ok2 i2.now hg12.2) ?_
                refine e_laload dX6_line_232 (by exact ok2.sh rfl) (by first | exact vp_in_nI (show wo (sgg s) a b < 4096 from hwo.2) (by decide) | exact vp_in_nI (show al (sgg s) < 4096 from hcl.2) (by decide)) ?_
                rw [hcl.1, (l2 _ hal).2.2.2]
                refine e_lcmp dX6_line_233 ?_
                have hlc := (lg_cmp_eq (lN (Tq (sgg s).2.1 (wo (sgg s) a b)).2.1) (lN (Tq (sgg s).2.1 (al (sgg s))).2.1)).trans (lN_eq (show (Tq (sgg s).2.1 (wo (sgg s) a b)).2.1 < 2 ^ 31 by have : cnq (sgg s) (wo (sgg s) a b) < 2 ^ 29 := c1'; unfold cnq at this; omega) (show (Tq (sgg s).2.1 (al (sgg s))).2.1 < 2 ^ 31 by have : cnq (sgg s) (al (sgg s)) < 2 ^ 29 := c3'; unfold cnq at this; omega))
                refine e_if_ne (tgt := 241) dX6_line_234 (by decide) (fun hz => ?_) (fun hz => ?_)
                · refine e_iconst (v := 0) dX6_line_241 (by decide) ?_
                  have e : (0 : Int32) = b01 ((((sgg s).2.1 a b).isSome = true ∧ mst (sgg s) (wo (sgg s) a b) + 1 = mst (sgg s) (al (sgg s))) ∧ cnq (sgg s) (wo (sgg s) a b) = cnq (sgg s) (al (sgg s))) := by unfold b01; rw [if_neg (fun q => hz (hlc.mpr q.2))]
                  rw [e]
                  exact e_iret dX6_line_242 rfl rfl (mpo_ok i2 z2 F2)
                · refine e_iconst (v := 1) dX6_line_237 (by decide) ?_
                  refine e_goto (tgt := 242) dX6_line_238 (by decide) ?_
                  have e : (1 : Int32) = b01 ((((sgg s).2.1 a b).isSome = true ∧ mst (sgg s) (wo (sgg s) a b) + 1 = mst (sgg s) (al (sgg s))) ∧ cnq (sgg s) (wo (sgg s) a b) = cnq (sgg s) (al (sgg s))) := by unfold b01; rw [if_pos ⟨hp, hlc.mp hz⟩]
                  rw [e]
                  exact e_iret dX6_line_242 rfl rfl (mpo_ok i2 z2 F2)
              · have h0 : sm' = 0 := hsm2.resolve_right (fun q => hp (hsm.mp q))
                rw [h0]
                refine e_if_eq (tgt := 241) dX6_line_214 (by decide) (fun _ => ?_) (fun hz => absurd rfl hz)
                refine e_iconst (v := 0) dX6_line_241 (by decide) ?_
                have e : (0 : Int32) = b01 ((((sgg s).2.1 a b).isSome = true ∧ mst (sgg s) (wo (sgg s) a b) + 1 = mst (sgg s) (al (sgg s))) ∧ cnq (sgg s) (wo (sgg s) a b) = cnq (sgg s) (al (sgg s))) := by unfold b01; rw [if_neg (fun q => hp q.1)]
                rw [e]
                exact e_iret dX6_line_242 rfl rfl (mpo_ok i2 z2 F2)
          -- from 84 on
          have mid : ∀ is : Int32, (is = 1 ↔ ((sgg s).2.1 a b).isSome = true) → (is = 0 ∨ is = 1) → Ev B mX6_line 3 0 0 (MPo M (okR (ansL s a b n) s)) 84 [some (.ref 60), some (.int (nI a)), some (.int (nI b)), some (.int (nI n)), none, none, none] [.int is] N2 := by
            intro is his his2
            refine e_istore dX6_line_84 (by decide) rfl rfl ?_
            refine e_aload_n dX6_line_86 rfl rfl ?_
            refine e_callV0i [] dX6_line_87 mvmX6_all lkRX6_194 (by exact ok2.sh rfl) ⟨by decide, rfl⟩ rfl rfl (Nat.le_of_ble_eq_true rfl) (by decide) (c_mall ok2 i2.now hg12.2) ?_
            refine e_iconst (v := 1) dX6_line_90 (by decide) ?_
            refine e_iload_n dX6_line_91 rfl rfl ?_
            refine e_ishl dX6_line_92 ?_
            rw [shl_1 (by omega)]
            refine e_iconst (v := (-1)) dX6_line_93 (by decide) ?_
            refine e_ixor dX6_line_94 ?_
            refine e_iand dX6_line_95 ?_
            rw [andn_nI]
            refine e_iconst (v := 1) dX6_line_96 (by decide) ?_
            refine e_iload_n dX6_line_97 rfl rfl ?_
            refine e_ishl dX6_line_98 ?_
            rw [shl_1 (by omega)]
            refine e_iconst (v := (-1)) dX6_line_99 (by decide) ?_
            refine e_ixor dX6_line_100 ?_
            refine e_iand dX6_line_101 ?_
            rw [andn_nI]
            have ewo : dif (dif (al (sgg s)) (2 ^ a)) (2 ^ b) = wo (sgg s) a b := (dif_two (al (sgg s)) a b).symm
            rw [ewo]
            refine e_istore dX6_line_102 (by decide) rfl rfl ?_
            refine e_iload dX6_line_104 rfl ?_
            rcases his2 with h0 | h0
            · subst h0
              refine e_if_eq (tgt := 134) dX6_line_106 (by decide) (fun _ => ?_) (fun hz => absurd rfl hz)
              refine e_iconst (v := 0) dX6_line_134 (by decide) ?_
              refine e_istore dX6_line_135 (by decide) rfl rfl ?_
              exact fin 0 0 his (Or.inl rfl) ⟨fun q => absurd q (by decide), fun q => absurd (his.mpr q.1) (by decide)⟩ (Or.inl rfl)
            · subst h0
              have hsm := his.mp rfl
              refine e_if_eq (tgt := 134) dX6_line_106 (by decide) (fun hz => absurd hz (by decide)) (fun _ => ?_)
              refine e_aload_n dX6_line_109 rfl rfl ?_
              refine e_getR dX6_line_110 fRX6_34 (by exact ok2.sh rfl) (by exact ok2.rf rfl) (fun _ => rfl) ?_
              refine e_iload dX6_line_113 rfl ?_
              refine e_iaload dX6_line_115 (by exact ok2.sh rfl) (by first | exact vp_in_nI (show wo (sgg s) a b < 4096 from hwo.2) (by decide) | exact vp_in_nI (show al (sgg s) < 4096 from hcl.2) (by decide)) ?_
              rw [nI_clamp (by omega), (l2 _ hwo.1).1]
              refine e_iconst (v := 1) dX6_line_116 (by decide) ?_
              refine e_iadd dX6_line_117 ?_
              rw [nI_1]
              refine e_aload_n dX6_line_118 rfl rfl ?_
              refine e_getR dX6_line_119 fRX6_34 (by exact ok2.sh rfl) (by exact ok2.rf rfl) (fun _ => rfl) ?_
              refine e_aload_n dX6_line_122 rfl rfl ?_
              refine e_callV0i [] dX6_line_123 mvmX6_all lkRX6_194 (by exact ok2.sh rfl) ⟨by decide, rfl⟩ rfl rfl (Nat.le_of_ble_eq_true rfl) (by decide) (c_mall ok2 i2.now hg12.2) ?_
              refine e_iaload dX6_line_126 (by exact ok2.sh rfl) (by first | exact vp_in_nI (show wo (sgg s) a b < 4096 from hwo.2) (by decide) | exact vp_in_nI (show al (sgg s) < 4096 from hcl.2) (by decide)) ?_
              rw [hcl.1, (l2 _ hal).1]
              have l1' : (Tq (sgg s).2.1 (wo (sgg s) a b)).1 < 2 ^ 29 := l1
              have l3' : (Tq (sgg s).2.1 (al (sgg s))).1 < 2 ^ 29 := l3
              refine e_icmp_ne (tgt := 134) dX6_line_127 (by decide) (fun hz => ?_) (fun hz => ?_)
              · refine e_iconst (v := 0) dX6_line_134 (by decide) ?_
                refine e_istore dX6_line_135 (by decide) rfl rfl ?_
                exact fin 1 0 his (Or.inr rfl) ⟨fun q => absurd q (by decide), fun q => absurd (by rw [show (Tq (sgg s).2.1 (wo (sgg s) a b)).1 + 1 = (Tq (sgg s).2.1 (al (sgg s))).1 from q.2]) hz⟩ (Or.inl rfl)
              · refine e_iconst (v := 1) dX6_line_130 (by decide) ?_
                refine e_goto (tgt := 135) dX6_line_131 (by decide) ?_
                refine e_istore dX6_line_135 (by decide) rfl rfl ?_
                exact fin 1 1 his (Or.inr rfl) ⟨fun _ => ⟨hsm, (nI_eq (by omega) (by omega)).mp hz⟩, fun _ => rfl⟩ (Or.inr rfl)
          refine e_icmp_eq (tgt := 83) dX6_line_76 (by decide) (fun hz => ?_) (fun hz => ?_)
          · refine e_iconst (v := 0) dX6_line_83 (by decide) ?_
            exact mid 0 ⟨fun q => absurd q (by decide), fun q => by rw [hn.mp hz] at q; cases q⟩ (Or.inl rfl)
          · refine e_iconst (v := 1) dX6_line_79 (by decide) ?_
            refine e_goto (tgt := 84) dX6_line_80 (by decide) ?_
            exact mid 1 ⟨fun _ => by
              cases hw : (sgg s).2.1 a b with
              | none => exact absurd (hn.mpr hw) hz
              | some k => rfl, fun _ => rfl⟩ (Or.inr rfl)
        · rw [if_neg hw]
          refine e_if_ne (tgt := 54) dX6_line_47 (by decide) (fun hz => absurd rfl hz) (fun _ => ?_)
          exact no (fun q => hw q.2)
theorem c_mbarrier {B : Bd} {M : Mm} {s : Sx} {x : Int32} (h : MI M s) : Ct B mX6_barrier 3 0 0 [.ref 60, .int x] M (MPo M (sBarrier s x)) := by
  refine Ct.of (by decide) rfl rfl (Nat.le_of_ble_eq_true rfl) ?_
  refine e_aload_n dX6_barrier_0 rfl rfl ?_
  refine e_iconst (v := 0) dX6_barrier_1 (by decide) ?_
  refine e_putI dX6_barrier_2 fRX6_72 (by exact h.1.sh rfl) rfl rfl rfl (fun _ _ => rfl) ?_
  generalize hM1 : sI M 60 0 0 = M1
  have h1 : MI M1 s := by rw [← hM1]; exact h.t
  have z1 : M1.2.1 60 0 = 0 := by rw [← hM1, rd_self]
  have f1 : FM M M1 := by rw [← hM1]; exact FM.rf.sI (by decide)
  have hg12 := h1.g12
  have wf := h1.wf
  refine e_aload_n dX6_barrier_5 rfl rfl ?_
  refine e_iload_n dX6_barrier_6 rfl rfl ?_
  refine e_iconst (v := 0) dX6_barrier_7 (by decide) ?_
  refine e_iconst (v := 1) dX6_barrier_8 (by decide) ?_
  refine e_callS0i [_, _, _] dX6_barrier_9 msmX6_in lkRX6_111 rfl rfl (Nat.le_of_ble_eq_true rfl) (by decide) (c_in (x := x) (lo := 0) (hi := 1)) ?_
  have e5 : (0 : Int32).toInt = 0 := rfl
  have e6 : (1 : Int32).toInt = 1 := rfl
  rw [e5, e6]
  by_cases hin : 0 ≤ x.toInt ∧ x.toInt ≤ 1
  · rw [if_pos hin]
    refine e_if_ne (tgt := 19) dX6_barrier_12 (by decide) (fun _ => ?_) (fun hz => absurd hz (by decide))
    refine e_iconst (v := 0) dX6_barrier_19 (by decide) ?_
    refine e_iconst (v := 1) dX6_barrier_20 (by decide) ?_
    refine e_iconst (v := 1) dX6_barrier_21 (by decide) ?_
    refine e_callV0i [_, _, _] dX6_barrier_22 mvmX6_bad lkRX6_159 (by exact h1.1.sh rfl) ⟨by decide, rfl⟩ rfl rfl (Nat.le_of_ble_eq_true rfl) (by decide) (c_bad0 h1.1 z1) ?_
    refine e_if_eq (tgt := 30) dX6_barrier_25 (by decide) (fun _ => ?_) (fun hz => absurd rfl hz)
    obtain ⟨x1, x2⟩ := toN hin.1 (k := 1) hin.2 (by decide)
    generalize x.toInt.toNat = n at x1 x2
    subst x1
    refine e_aload_n dX6_barrier_30 rfl rfl ?_
    refine e_callV1 [] dX6_barrier_31 mvmX6_lays lkRX6_209 (by exact h1.1.sh rfl) ⟨by decide, rfl⟩ rfl rfl (Nat.le_of_ble_eq_true rfl) (by decide) (c_lays h1) (fun u N2 h2 => ?_)
    obtain ⟨hu, i2, l2, f2⟩ := h2
    subst hu
    have ok2 := i2.1
    have z2 : N2.2.1 60 0 = 0 := by rw [f2.2.2.2.1 0 (by decide)]; exact z1
    have F2 := f1.trans f2.FM
    have hcl := cl_al wf
    have hal := al_lt (sgg s)

    have hp12 := p12 hg12.2
    generalize hlt : (if n = 0 then ltS else ltG) = lt
    have e9 : sBarrier s (nI n) = okR (nI (bv (brk (okB (sgg s) (msI (sgg s))) lt (2 ^ (sgg s).1)))) s := by
      match n, x2 with
      | 0, _ => unfold sBarrier; rw [if_pos (by decide), ← hlt, if_pos rfl]
      | 1, _ => unfold sBarrier; rw [if_neg (by decide), if_pos (by decide), ← hlt, if_neg (by decide)]
    rw [e9]
    have hbi := barrier_is wf lt
    have hnow := i2.now
    generalize hg : sgg s = g at *
    have loop : ∀ j S, S + j = 2 ^ g.1 → (∀ b, brk (okB g (msI g)) lt S = some b → b < S) → Ev B mX6_barrier 3 0 0 (MPo M (okR (nI (bv (brk (okB g (msI g)) lt (2 ^ g.1)))) s)) 38 [some (.ref 60), some (.int (nI n)), some (.int (wI (brk (okB g (msI g)) lt S))), some (.int (nI S))] [] N2 := by
      intro j
      induction j with
      | zero =>
        intro S hS hb
        have hSg : S = 2 ^ g.1 := by omega
        subst hSg
        refine e_iload_n dX6_barrier_38 rfl rfl ?_
        refine e_aload_n dX6_barrier_39 rfl rfl ?_
        refine e_callV0i [] dX6_barrier_40 mvmX6_all lkRX6_194 (by exact ok2.sh rfl) ⟨by decide, rfl⟩ rfl rfl (Nat.le_of_ble_eq_true rfl) (by decide) (c_mall ok2 hnow hg12.2) ?_
        refine e_icmp_gt (tgt := 108) dX6_barrier_43 (by decide) (fun _ => ?_) (fun hz => absurd (nI_lt (by unfold al; omega) (by omega)) hz)
        refine e_iload_n dX6_barrier_108 rfl rfl ?_
        obtain ⟨b, hb1, hb2⟩ := hbi
        rw [hb2]
        exact e_iret dX6_barrier_109 rfl rfl (mpo_ok i2 z2 F2)
      | succ j ih =>
        intro S hS hb
        have hS4 : S < 4096 := by omega
        have hst : brk (okB g (msI g)) lt (S + 1) = brs (okB g (msI g)) lt S (brk (okB g (msI g)) lt S) := rfl
        generalize hbq : brk (okB g (msI g)) lt S = o at *
        -- on to the next
        have next : ∀ o', brk (okB g (msI g)) lt (S + 1) = o' → (∀ b, o' = some b → b < S + 1) → Ev B mX6_barrier 3 0 0 (MPo M (okR (nI (bv (brk (okB g (msI g)) lt (2 ^ g.1)))) s)) 102 [some (.ref 60), some (.int (nI n)), some (.int (wI o')), some (.int (nI S))] [] N2 := by
          intro o' he hb'
          refine e_iinc (v := nI (S + 1)) dX6_barrier_102 rfl (nI_1 S) (by decide) rfl rfl ?_
          refine e_goto (tgt := 38) dX6_barrier_105 (by decide) ?_
          have go := ih (S + 1) (by omega) (by rw [he]; exact hb')
          rw [he] at go
          exact go
        -- it may be
        have may : (∀ b, o = some b → lt (pop S) (pop b) = true) → Ev B mX6_barrier 3 0 0 (MPo M (okR (nI (bv (brk (okB g (msI g)) lt (2 ^ g.1)))) s)) 83 [some (.ref 60), some (.int (nI n)), some (.int (wI o)), some (.int (nI S))] [] N2 := by
          intro hlt2
          refine e_aload_n dX6_barrier_83 rfl rfl ?_
          refine e_iload_n dX6_barrier_84 rfl rfl ?_
          refine e_callV0i [_] dX6_barrier_85 mvmX6_oddOf lkRX6_275 (by exact ok2.sh rfl) ⟨by decide, rfl⟩ rfl rfl (Nat.le_of_ble_eq_true rfl) (by decide) (c_oddOf ok2 hnow wf) ?_
          refine e_iload_n dX6_barrier_88 rfl rfl ?_
          refine e_callS0i [_] dX6_barrier_89 msmX6_bits lkRX6_221 rfl rfl (Nat.le_of_ble_eq_true rfl) (by decide) (c_bits hS4) ?_
          refine e_isub dX6_barrier_92 ?_
          refine e_aload_n dX6_barrier_93 rfl rfl ?_
          refine e_callV0i [] dX6_barrier_94 mvmX6_missing lkRX6_266 (by exact ok2.sh rfl) ⟨by decide, rfl⟩ rfl rfl (Nat.le_of_ble_eq_true rfl) (by decide) (c_mmissing ok2 hnow wf l2) ?_
          refine e_icmp_ne (tgt := 102) dX6_barrier_97 (by decide) (fun hz => ?_) (fun hz => ?_)
          · have hok : ¬ okB g (msI g) S = true := fun q => hz (of_decide_eq_true q)
            refine next o ?_ (fun b q => by have := hb b q; omega)
            rw [hst]
            cases o with
            | none => show (if okB g (msI g) S = true then some S else none) = none; rw [if_neg hok]
            | some b => show (if lt (pop S) (pop b) = true ∧ okB g (msI g) S = true then some S else some b) = some b; rw [if_neg (fun q => hok q.2)]
          · have hok : okB g (msI g) S = true := decide_eq_true hz
            refine e_iload_n dX6_barrier_100 rfl rfl ?_
            refine e_istore_n dX6_barrier_101 rfl (by decide) rfl rfl ?_
            refine next (some S) ?_ (fun b q => by have := Option.some.inj q; omega)
            rw [hst]
            cases o with
            | none => show (if okB g (msI g) S = true then some S else none) = some S; rw [if_pos hok]
            | some b => show (if lt (pop S) (pop b) = true ∧ okB g (msI g) S = true then some S else some b) = some S; rw [if_pos ⟨hlt2 b rfl, hok⟩]
        refine e_iload_n dX6_barrier_38 rfl rfl ?_
        refine e_aload_n dX6_barrier_39 rfl rfl ?_
        refine e_callV0i [] dX6_barrier_40 mvmX6_all lkRX6_194 (by exact ok2.sh rfl) ⟨by decide, rfl⟩ rfl rfl (Nat.le_of_ble_eq_true rfl) (by decide) (c_mall ok2 hnow hg12.2) ?_
        refine e_icmp_gt (tgt := 108) dX6_barrier_43 (by decide) (fun hz => absurd hz (nI_nlt (by unfold al; omega) (by unfold al; omega))) (fun _ => ?_)
        refine e_iload_n dX6_barrier_46 rfl rfl ?_
        refine e_iconst (v := (-1)) dX6_barrier_47 (by decide) ?_
        cases ho : o with
        | none =>
          refine e_icmp_eq (tgt := 83) dX6_barrier_48 (by decide) (fun _ => ?_) (fun hz => absurd rfl hz)
          rw [ho] at may
          exact may (fun b q => by cases q)
        | some b =>
          rw [ho] at may hst hb
          have hbS := hb b rfl
          have hne : ¬ wI (some b) = -1 := fun q => by
            have h8 : (nI b).toInt = (-1 : Int32).toInt := by rw [← q]; rfl
            rw [nI_toInt (by omega)] at h8
            have h9 : (-1 : Int32).toInt = -1 := by decide
            omega
          have pS := pop_le S
          have pb := pop_le b
          have keep : ¬ lt (pop S) (pop b) = true → brk (okB g (msI g)) lt (S + 1) = some b := fun q => by
            rw [hst]
            show (if lt (pop S) (pop b) = true ∧ okB g (msI g) S = true then some S else some b) = some b
            rw [if_neg (fun z => q z.1)]
          refine e_icmp_eq (tgt := 83) dX6_barrier_48 (by decide) (fun hz => absurd hz hne) (fun _ => ?_)
          refine e_iload_n dX6_barrier_51 rfl rfl ?_
          match n, x2 with
          | 0, _ =>
            have elt : lt = ltS := by rw [← hlt, if_pos rfl]
            refine e_if_ne (tgt := 69) dX6_barrier_52 (by decide) (fun hz => absurd rfl hz) (fun _ => ?_)
            refine e_iload_n dX6_barrier_55 rfl rfl ?_
            refine e_callS0i [_] dX6_barrier_56 msmX6_bits lkRX6_221 rfl rfl (Nat.le_of_ble_eq_true rfl) (by decide) (c_bits hS4) ?_
            refine e_iload_n dX6_barrier_59 rfl rfl ?_
            show Ev _ _ _ _ _ _ 60 _ [.int (nI b), _] _
            refine e_callS0i [_] dX6_barrier_60 msmX6_bits lkRX6_221 rfl rfl (Nat.le_of_ble_eq_true rfl) (by decide) (c_bits (show b < 4096 by omega)) ?_
            refine e_icmp_lt (tgt := 83) dX6_barrier_63 (by decide) (fun hz => ?_) (fun hz => ?_)
            · exact may (fun b' q => by cases q; rw [elt]; exact decide_eq_true ((nI_ltI (by omega) (by omega)).mp hz))
            · refine e_goto (tgt := 102) dX6_barrier_66 (by decide) ?_
              refine next (some b) (keep (fun q => hz ?_)) (fun b' q => by have := Option.some.inj q; omega)
              rw [elt] at q
              exact (nI_ltI (by omega) (by omega)).mpr (of_decide_eq_true q)
          | 1, _ =>
            have elt : lt = ltG := by rw [← hlt, if_neg (by decide)]
            refine e_if_ne (tgt := 69) dX6_barrier_52 (by decide) (fun _ => ?_) (fun hz => absurd hz (by decide))
            refine e_iload_n dX6_barrier_69 rfl rfl ?_
            refine e_callS0i [_] dX6_barrier_70 msmX6_bits lkRX6_221 rfl rfl (Nat.le_of_ble_eq_true rfl) (by decide) (c_bits hS4) ?_
            refine e_iload_n dX6_barrier_73 rfl rfl ?_
            show Ev _ _ _ _ _ _ 74 _ [.int (nI b), _] _
            refine e_callS0i [_] dX6_barrier_74 msmX6_bits lkRX6_221 rfl rfl (Nat.le_of_ble_eq_true rfl) (by decide) (c_bits (show b < 4096 by omega)) ?_
            refine e_icmp_gt (tgt := 83) dX6_barrier_77 (by decide) (fun hz => ?_) (fun hz => ?_)
            · exact may (fun b' q => by cases q; rw [elt]; exact decide_eq_true ((nI_ltI (by omega) (by omega)).mp hz))
            · refine e_goto (tgt := 102) dX6_barrier_80 (by decide) ?_
              refine next (some b) (keep (fun q => hz ?_)) (fun b' q => by have := Option.some.inj q; omega)
              rw [elt] at q
              exact (nI_ltI (by omega) (by omega)).mpr (of_decide_eq_true q)
    refine e_iconst (v := (-1)) dX6_barrier_34 (by decide) ?_
    refine e_istore_n dX6_barrier_35 rfl (by decide) rfl rfl ?_
    refine e_iconst (v := 0) dX6_barrier_36 (by decide) ?_
    refine e_istore_n dX6_barrier_37 rfl (by decide) rfl rfl ?_
    exact loop (2 ^ g.1) 0 (by omega) (fun b q => by cases q)
  · rw [if_neg hin]
    have e9 : sBarrier s x = rej 1 1 s := by unfold sBarrier; rw [if_neg (fun q => hin (by rw [q]; decide)), if_neg (fun q => hin (by rw [q]; decide))]
    rw [e9]
    refine e_if_ne (tgt := 19) dX6_barrier_12 (by decide) (fun hz => absurd rfl hz) (fun _ => ?_)
    refine e_iconst (v := 1) dX6_barrier_15 (by decide) ?_
    refine e_goto (tgt := 20) dX6_barrier_16 (by decide) ?_
    refine e_iconst (v := 1) dX6_barrier_20 (by decide) ?_
    refine e_iconst (v := 1) dX6_barrier_21 (by decide) ?_
    refine e_callV0i [_, _, _] dX6_barrier_22 mvmX6_bad lkRX6_159 (by exact h1.1.sh rfl) ⟨by decide, rfl⟩ rfl rfl (Nat.le_of_ble_eq_true rfl) (by decide) (c_bad1 (c := 0) (k := 1) h1.1 z1 (by decide) (by decide)) ?_
    refine e_if_eq (tgt := 30) dX6_barrier_25 (by decide) (fun hz => absurd hz (by decide)) (fun _ => ?_)
    refine e_iconst (v := 0) dX6_barrier_28 (by decide) ?_
    exact e_iret dX6_barrier_29 rfl rfl (mpo_rej h1 (by decide) f1)

