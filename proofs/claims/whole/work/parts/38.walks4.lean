/-- whence a walk came -/
def PA (g : Nw) (a : Nat) (M : Mm) (Q : List Rw) (i : Nat) (r : Rw) : Prop := (i = 0 ∧ r = [a]) ∨ ∃ j b c q, j < i ∧ Q[j]? = some q ∧ M.2.1 23 i = nI j ∧ r = c :: b :: q ∧ g.2.2 c = some b
def WA (g : Nw) (a : Nat) (M : Mm) (Q : List Rw) : Prop := WQ0 g a M Q ∧ Nd Q ∧ (∀ r, r ∈ Q → ∃ k, Vr g a k r) ∧ (∀ i r, Q[i]? = some r → PA g a M Q i r)
theorem get_pre {Q K : List Rw} {i : Nat} {r : Rw} (h : Q[i]? = some r) : (Q ++ K)[i]? = some r := by
  have hi : i < Q.length := by
    rcases Nat.lt_or_ge i Q.length with h1 | h1
    · exact h1
    · rw [List.getElem?_eq_none h1] at h; cases h
  rw [List.getElem?_append_left hi]; exact h
theorem get_lt {Q : List Rw} {i : Nat} {r : Rw} (h : Q[i]? = some r) : i < Q.length := by
  rcases Nat.lt_or_ge i Q.length with h1 | h1
  · exact h1
  · rw [List.getElem?_eq_none h1] at h; cases h
theorem get_mem {Q : List Rw} {i : Nat} {r : Rw} (h : Q[i]? = some r) : r ∈ Q := List.mem_of_getElem? h
theorem WA_ad {g : Nw} {a : Nat} {M N : Mm} {Q : List Rw} {r q : Rw} {j b c k : Nat} (wf : Wfn g) (h : WA g a M Q) (h0 : WQ0 g a N (ad1 Q r)) (hr : r = c :: b :: q) (hj : Q[j]? = some q) (hm : g.2.2 c = some b) (hv : Vr g a k r) (h1 : ∀ i, i ≠ Q.length → N.2.1 23 i = M.2.1 23 i) (h2 : (¬ ∃ p, p ∈ Q ∧ ky p = ky r) → N.2.1 23 Q.length = nI j) : WA g a N (ad1 Q r) := by
  have hjl := get_lt hj
  refine ⟨h0, ad1_nd h.2.1, fun p hp => ?_, fun i p hi => ?_⟩
  · by_cases hs : ∃ q, q ∈ Q ∧ ky q = ky r
    · rw [ad1_t hs] at hp; exact h.2.2.1 p hp
    · rw [ad1_f hs, List.mem_append, List.mem_singleton] at hp
      rcases hp with hp | hp
      · exact h.2.2.1 p hp
      · rw [hp]; exact ⟨k, hv⟩
  · by_cases hs : ∃ q, q ∈ Q ∧ ky q = ky r
    · rw [ad1_t hs] at hi ⊢
      have hil := get_lt hi
      rcases h.2.2.2 i p hi with h3 | ⟨j', b', c', q', e1, e2, e3, e4, e5⟩
      · exact Or.inl h3
      · exact Or.inr ⟨j', b', c', q', e1, e2, by rw [h1 i (by omega)]; exact e3, e4, e5⟩
    · rw [ad1_f hs] at hi ⊢
      rcases Nat.lt_trichotomy i Q.length with h3 | h3 | h3
      · rw [List.getElem?_append_left h3] at hi
        rcases h.2.2.2 i p hi with h4 | ⟨j', b', c', q', e1, e2, e3, e4, e5⟩
        · exact Or.inl h4
        · exact Or.inr ⟨j', b', c', q', e1, get_pre e2, by rw [h1 i (by omega)]; exact e3, e4, e5⟩
      · subst h3
        rw [List.getElem?_append_right (Nat.le_refl _), Nat.sub_self] at hi
        have hp : p = r := (Option.some.inj hi).symm
        exact Or.inr ⟨j, b, c, q, hjl, get_pre hj, h2 hs, by rw [hp]; exact hr, hm⟩
      · rw [List.getElem?_eq_none (by simp; omega)] at hi; cases hi
theorem rg_s (g : Nw) (Q : List Rw) (r : Rw) (b : Nat) : adds Q ((List.range (b + 1)).filterMap (cand g r)) = match cand g r b with
    | none => adds Q ((List.range b).filterMap (cand g r))
    | some d => ad1 (adds Q ((List.range b).filterMap (cand g r))) d := by
  rw [List.range_succ, List.filterMap_append, adds_ap]
  cases h : cand g r b with
  | none => rw [List.filterMap_cons_none h]; rfl
  | some d => rw [List.filterMap_cons_some h]; rfl
theorem c_goOn {B : Bd} {M : Mm} {g : Nw} {a i : Nat} {Q : List Rw} {r : Rw} (ok : OkM M) (hn : NetRep M 2 g) (wf : Wfn g) (ha : a < g.1) (h : WA g a M Q) (hi : Q[i]? = some r) : Ct B mX4_goOn 2 0 0 [.ref 19, .ref 2, .int (nI i)] M (Rt (fun u N => u = none ∧ WA g a N (adds Q (extw g r)) ∧ Wf M N)) := by
  have hg12 := wf.1.2
  have hlen := len_161 wf ha h.2.1 h.2.2.1
  have hil := get_lt hi
  obtain ⟨k, hk⟩ := h.2.2.1 r (get_mem hi)
  obtain ⟨s4, x12⟩ := h.1.2.2.2 r (get_mem hi)
  obtain ⟨f25, f26⟩ := h.1.2.1 i r hi
  have hN := hn.1
  have hnl := nbr_lt g.2.1 (hd r)
  refine Ct.of (by decide) rfl rfl (Nat.le_of_ble_eq_true rfl) ?_
  refine e_aload_n dX4_goOn_0 rfl rfl ?_
  refine e_getR dX4_goOn_1 fRX4_71 (by exact ok.sh rfl) (by exact ok.rf rfl) (fun _ => rfl) ?_
  refine e_aload_n dX4_goOn_4 rfl rfl ?_
  refine e_getR dX4_goOn_5 fRX4_31 (by exact ok.sh rfl) (by exact ok.rf rfl) (fun _ => rfl) ?_
  refine e_iload_n dX4_goOn_8 rfl rfl ?_
  refine e_iaload dX4_goOn_9 (by exact ok.sh rfl) (by first | exact vp_in_nI (show i < 161 by omega) (by decide) | exact vp_in_nI x12 (by decide)) ?_
  rw [nI_clamp (by omega), f26]
  refine e_iaload dX4_goOn_10 (by exact ok.sh rfl) (by first | exact vp_in_nI (show i < 161 by omega) (by decide) | exact vp_in_nI x12 (by decide)) ?_
  rw [nI_clamp (by omega), hn.2.2.2.2.1 (hd r) x12]
  refine e_aload_n dX4_goOn_11 rfl rfl ?_
  refine e_getR dX4_goOn_12 fRX4_28 (by exact ok.sh rfl) (by exact ok.rf rfl) (fun _ => rfl) ?_
  refine e_iload_n dX4_goOn_15 rfl rfl ?_
  refine e_iaload dX4_goOn_16 (by exact ok.sh rfl) (by first | exact vp_in_nI (show i < 161 by omega) (by decide) | exact vp_in_nI x12 (by decide)) ?_
  rw [nI_clamp (by omega), f25]
  refine e_iconst (v := (-1)) dX4_goOn_17 (by decide) ?_
  refine e_ixor dX4_goOn_18 ?_
  refine e_iand dX4_goOn_19 ?_
  rw [andn_nI]
  refine e_istore_n dX4_goOn_20 rfl (by decide) rfl rfl ?_
  refine e_iconst (v := 0) dX4_goOn_21 (by decide) ?_
  refine e_istore dX4_goOn_22 (by decide) rfl rfl ?_
  have hop : ∀ b, b < 12 → ((dif (nbr g.2.1 (hd r)) (so r)).testBit b = true ↔ ((so r).testBit b = false ∧ (g.2.1 (hd r) b).isSome = true)) := by
    intro b hb
    rw [dif_bit, nbr_bit]
    simp only [hb, decide_true, Bool.true_and, Bool.and_eq_true, Bool.not_eq_true']
    exact ⟨fun q => ⟨q.2, q.1⟩, fun q => ⟨q.2, q.1⟩⟩
  have hol : dif (nbr g.2.1 (hd r)) (so r) < 4096 := Nat.lt_of_le_of_lt (dif_le _ _) hnl
  have loop : ∀ j b N (t : Option Value), b + j = g.1 → WA g a N (adds Q ((List.range b).filterMap (cand g r))) → Wf M N → Ev B mX4_goOn 2 0 0 (Rt (fun u N => u = none ∧ WA g a N (adds Q (extw g r)) ∧ Wf M N)) 24 [some (.ref 19), some (.ref 2), some (.int (nI i)), some (.int (nI (dif (nbr g.2.1 (hd r)) (so r)))), some (.int (nI b)), t] [] N := by
    intro j
    induction j with
    | zero =>
      intro b N t hb hw hf
      have hbg : b = g.1 := by omega
      have okN : OkM N := ok.fr hf.1
      have hnN : NetRep N 2 g := hn.fr hf.1 (by omega)
      refine e_iload dX4_goOn_24 rfl ?_
      refine e_aload_n dX4_goOn_26 rfl rfl ?_
      refine e_getI dX4_goOn_27 fRX4_63 (by exact okN.sh rfl) (fun _ => rfl) ?_
      rw [hnN.2.1]
      refine e_icmp_ge (tgt := 117) dX4_goOn_30 (by decide) (fun hc => ?_) (fun hc => ?_)
      · exact e_vret dX4_goOn_117 rfl ⟨none, rfl, rfl, by rw [hbg] at hw; exact hw, hf⟩
      · exact absurd (nI_le (by omega : g.1 ≤ b) (by omega)) hc
    | succ j ih =>
      intro b N t hb hw hf
      have okN : OkM N := ok.fr hf.1
      have hnN : NetRep N 2 g := hn.fr hf.1 (by omega)
      have hb12 : b < 12 := by omega
      refine e_iload dX4_goOn_24 rfl ?_
      refine e_aload_n dX4_goOn_26 rfl rfl ?_
      refine e_getI dX4_goOn_27 fRX4_63 (by exact okN.sh rfl) (fun _ => rfl) ?_
      rw [hnN.2.1]
      have next : ∀ K (t : Option Value), WA g a K (adds Q ((List.range (b + 1)).filterMap (cand g r))) → Wf M K → Ev B mX4_goOn 2 0 0 (Rt (fun u N => u = none ∧ WA g a N (adds Q (extw g r)) ∧ Wf M N)) 111 [some (.ref 19), some (.ref 2), some (.int (nI i)), some (.int (nI (dif (nbr g.2.1 (hd r)) (so r)))), some (.int (nI b)), t] [] K := by
        intro K t hwK hfK
        refine e_iinc (v := nI (b + 1)) dX4_goOn_111 rfl (nI_1 b) (by decide) rfl rfl ?_
        refine e_goto (tgt := 24) dX4_goOn_114 (by decide) ?_
        exact ih (b + 1) K t (by omega) hwK hfK
      have hrs := rg_s g Q r b
      refine e_icmp_ge (tgt := 117) dX4_goOn_30 (by decide) (fun hc => ?_) (fun hc => ?_)
      · exact absurd hc (nI_ge (by omega) (by omega))
      · refine e_iload_n dX4_goOn_33 rfl rfl ?_
        refine e_iload dX4_goOn_34 rfl ?_
        refine e_callN0i [_, _] dX4_goOn_36 msmX5_hasBit nest_4 rfl rfl (Nat.le_of_ble_eq_true rfl) (by decide) (c_hasBit (k := dif (nbr g.2.1 (hd r)) (so r)) (j := b) (by omega) (by omega)) ?_
        have hob := hop b hb12
        by_cases ho : (dif (nbr g.2.1 (hd r)) (so r)).testBit b = true
        · rw [if_pos ho]
          have ho' := hob.mp ho
          refine e_if_eq (tgt := 111) dX4_goOn_39 (by decide) (fun hz => ?_) (fun hz => ?_)
          · exact absurd hz (by decide)
          · refine e_aload_n dX4_goOn_42 rfl rfl ?_
            refine e_iload dX4_goOn_43 rfl ?_
            refine e_callV0i [_] dX4_goOn_45 mvmX1_isFree lkRX4_78 (by exact okN.sh rfl) ⟨by decide, rfl⟩ rfl rfl (Nat.le_of_ble_eq_true rfl) (by decide) (c_isFree hnN hb12 (fun k hk => wf.m b k hk)) ?_
            cases hmb : g.2.2 b with
            | none =>
              have hcd : cand g r b = none := by
                unfold cand
                rw [if_pos ho', hmb]
              rw [hcd] at hrs
              rw [if_pos rfl]
              refine e_if_ne (tgt := 111) dX4_goOn_48 (by decide) (fun hz2 => ?_) (fun hz2 => ?_)
              · exact next N _ (by rw [hrs]; exact hw) hf
              · exact absurd hz2 (by decide)
            | some c =>
              have hcm := wf.2.2.2.2 b c hmb
              have hc12 : c < 12 := by omega
              rw [if_neg (by intro q; cases q)]
              refine e_if_ne (tgt := 111) dX4_goOn_48 (by decide) (fun hz2 => ?_) (fun hz2 => ?_)
              · exact absurd rfl hz2
              · obtain ⟨K0, hK0⟩ := adds_pre ((List.range b).filterMap (cand g r)) Q
                have hiN : (adds Q ((List.range b).filterMap (cand g r)))[i]? = some r := by rw [hK0]; exact get_pre hi
                obtain ⟨g25, -⟩ := hw.1.2.1 i r hiN
                refine e_aload_n dX4_goOn_51 rfl rfl ?_
                refine e_getR dX4_goOn_52 fRX4_68 (by exact okN.sh rfl) (by exact okN.rf rfl) (fun _ => rfl) ?_
                refine e_iload dX4_goOn_55 rfl ?_
                refine e_iaload dX4_goOn_57 (by exact okN.sh rfl) (by first | exact vp_in_nI (show i < 161 by omega) (by decide) | exact vp_in_nI hb12 (by decide)) ?_
                rw [nI_clamp (by omega), hnN.2.2.2.2.2 b hb12, hmb]
                show Ev _ _ _ _ _ _ 58 _ [.int (nI c)] _
                refine e_istore dX4_goOn_58 (by decide) rfl rfl ?_
                refine e_aload_n dX4_goOn_60 rfl rfl ?_
                refine e_getR dX4_goOn_61 fRX4_28 (by exact okN.sh rfl) (by exact okN.rf rfl) (fun _ => rfl) ?_
                refine e_iload_n dX4_goOn_64 rfl rfl ?_
                refine e_iaload dX4_goOn_65 (by exact okN.sh rfl) (by first | exact vp_in_nI (show i < 161 by omega) (by decide) | exact vp_in_nI hb12 (by decide)) ?_
                rw [nI_clamp (by omega), g25]
                refine e_iload dX4_goOn_66 rfl ?_
                refine e_callN0i [_, _] dX4_goOn_68 msmX5_hasBit nest_4 rfl rfl (Nat.le_of_ble_eq_true rfl) (by decide) (c_hasBit (k := so r) (j := c) (by omega) (by omega)) ?_
                by_cases hin : (so r).testBit c = true
                · have hcd : cand g r b = none := by
                    unfold cand
                    rw [if_pos ho', hmb]
                    show (if (so r).testBit c = true then none else some (c :: b :: r)) = none
                    rw [if_pos hin]
                  rw [hcd] at hrs
                  rw [if_pos hin]
                  refine e_if_ne (tgt := 111) dX4_goOn_71 (by decide) (fun hz3 => ?_) (fun hz3 => ?_)
                  · exact next N _ (by rw [hrs]; exact hw) hf
                  · exact absurd hz3 (by decide)
                · have hin' : (so r).testBit c = false := by
                    cases hh : (so r).testBit c with
                    | false => rfl
                    | true => exact absurd hh hin
                  have hcd : cand g r b = some (c :: b :: r) := cand_some.mpr ⟨c, rfl, ho'.1, ho'.2, hmb, hin'⟩
                  have hvd : Vr g a (k + 1) (c :: b :: r) := ⟨b, c, r, hk, rfl, ho'.1, ho'.2, hmb, hin'⟩
                  have hvl := Vr_lt wf ha hvd
                  rw [hcd] at hrs
                  rw [if_neg hin]
                  refine e_if_ne (tgt := 111) dX4_goOn_71 (by decide) (fun hz3 => ?_) (fun hz3 => ?_)
                  · exact absurd rfl hz3
                  · refine e_aload_n dX4_goOn_74 rfl rfl ?_
                    refine e_aload_n dX4_goOn_75 rfl rfl ?_
                    refine e_getR dX4_goOn_76 fRX4_28 (by exact okN.sh rfl) (by exact okN.rf rfl) (fun _ => rfl) ?_
                    refine e_iload_n dX4_goOn_79 rfl rfl ?_
                    refine e_iaload dX4_goOn_80 (by exact okN.sh rfl) (by first | exact vp_in_nI (show i < 161 by omega) (by decide) | exact vp_in_nI hb12 (by decide)) ?_
                    rw [nI_clamp (by omega), g25]
                    refine e_iconst (v := 1) dX4_goOn_81 (by decide) ?_
                    refine e_iload dX4_goOn_82 rfl ?_
                    refine e_ishl dX4_goOn_84 ?_
                    rw [shl_1 (by omega)]
                    refine e_ior dX4_goOn_85 ?_
                    rw [fa_or]
                    refine e_iconst (v := 1) dX4_goOn_86 (by decide) ?_
                    refine e_iload dX4_goOn_87 rfl ?_
                    refine e_ishl dX4_goOn_89 ?_
                    rw [shl_1 (by omega)]
                    refine e_ior dX4_goOn_90 ?_
                    rw [fa_or]
                    refine e_aload_n dX4_goOn_91 rfl rfl ?_
                    refine e_getR dX4_goOn_92 fRX4_40 (by exact okN.sh rfl) (by exact okN.rf rfl) (fun _ => rfl) ?_
                    refine e_iload_n dX4_goOn_95 rfl rfl ?_
                    refine e_iaload dX4_goOn_96 (by exact okN.sh rfl) (by first | exact vp_in_nI (show i < 161 by omega) (by decide) | exact vp_in_nI hb12 (by decide)) ?_
                    rw [nI_clamp (by omega), hw.1.2.2.1.2.1 i r hiN]
                    have haq := (so_bit r a).mpr (Vr_a hk)
                    have hba : b ≠ a := fun e => by rw [← e, ho'.1] at haq; cases haq
                    have hca : c ≠ a := fun e => by rw [← e, hin'] at haq; cases haq
                    refine e_aload_n dX4_goOn_97 rfl rfl ?_
                    refine e_getR dX4_goOn_98 fRX4_37 (by exact okN.sh rfl) (by exact okN.rf rfl) (fun _ => rfl) ?_
                    refine e_iload dX4_goOn_101 rfl ?_
                    refine e_iaload dX4_goOn_103 (by exact okN.sh rfl) (by first | exact vp_in_nI (show i < 161 by omega) (by decide) | exact vp_in_nI hb12 (by decide)) ?_
                    rw [nI_clamp (by omega), hw.1.2.2.1.2.2 b c hmb hba hca]
                    refine e_ior dX4_goOn_104 ?_
                    rw [fa_or]
                    refine e_iload dX4_goOn_105 rfl ?_
                    refine e_iload_n dX4_goOn_107 rfl rfl ?_
                    have hlN := len_161 wf ha hw.2.1 hw.2.2.1
                    have hl2 : (¬ ∃ q, q ∈ adds Q ((List.range b).filterMap (cand g r)) ∧ ky q = ky (c :: b :: r)) → (adds Q ((List.range b).filterMap (cand g r))).length < 161 := by
                      intro hs
                      have h3 := len_161 wf ha (ad1_nd (r := c :: b :: r) hw.2.1) (fun p hp => by
                        rw [ad1_f hs, List.mem_append, List.mem_singleton] at hp
                        rcases hp with hp | hp
                        · exact hw.2.2.1 p hp
                        · rw [hp]; exact ⟨k + 1, hvd⟩)
                      rw [ad1_f hs, List.length_append] at h3
                      have : [c :: b :: r].length = 1 := rfl
                      omega
                    refine e_callV1 [_, _, _, _] dX4_goOn_108 mvmX4_add lkRX4_56 (by exact okN.sh rfl) ⟨by decide, rfl⟩ rfl rfl (Nat.le_of_ble_eq_true rfl) (by decide) (c_wadd (r := c :: b :: r) (v := nI i) wf ha okN hw.1 hw.2.2.1 hvd rfl rfl rfl hvl hc12 hlN hl2) (fun u N2 h2 => ?_)
                    obtain ⟨hu, w1, w2, w3, w4⟩ := h2
                    subst hu
                    refine next N2 _ ?_ (hf.trans w2)
                    rw [hrs]
                    exact WA_ad wf hw w1 rfl hiN hcm.1 hvd w3 w4
        · rw [if_neg ho]
          have hcd : cand g r b = none := by
            unfold cand
            rw [if_neg (fun q => ho (hob.mpr q))]
          rw [hcd] at hrs
          refine e_if_eq (tgt := 111) dX4_goOn_39 (by decide) (fun hz => ?_) (fun hz => ?_)
          · exact next N _ (by rw [hrs]; exact hw) hf
          · exact absurd rfl hz
  exact loop g.1 0 M none (by omega) h Wf.rf

/-- between two questions: nothing need stand -/
def WInv (_ : Mm) : Prop := True
theorem WA.inv {g : Nw} {a : Nat} {M : Mm} {Q : List Rw} (_ : Wfn g) (_ : a < g.1) (_ : WA g a M Q) : WInv M := trivial
noncomputable def wlk (g : Nw) (a : Nat) : List Rw := run g 161 [[a]] 0
theorem dl_v {g : Nw} {a k : Nat} {r : Rw} (h : r ∈ dl g a k) : ∃ j, Vr g a j r := by
  rcases adds_mem h with h | h
  · cases h
  · obtain ⟨j, -, h2⟩ := lev_mem.mp h
    exact ⟨j, rws_Vr h2⟩
theorem wlk_eq {g : Nw} (wf : Wfn g) {a : Nat} (ha : a < g.1) : wlk g a = dl g a 5 := run_end (rws_6 wf ha (by have := wf.1.2; omega)) (len_161 wf ha (adds_nd List.Pairwise.nil) (fun _ h => dl_v h))
theorem so_1 (a : Nat) : so [a] = 2 ^ a := Nat.zero_or _
theorem c_spread {B : Bd} {M : Mm} {g : Nw} {a : Nat} (ok : OkM M) (hn : NetRep M 2 g) (wf : Wfn g) (ha : a < g.1) (_ : WInv M) : Ct B mX4_spread 3 0 0 [.ref 19, .ref 2, .int (nI a)] M (Rt (fun u N => u = none ∧ WA g a N (wlk g a) ∧ Wf M N)) := by
  have hg12 := wf.1.2
  refine Ct.of (by decide) rfl rfl (Nat.le_of_ble_eq_true rfl) ?_
  have loop2 : ∀ f i N Q, f + i = 161 → WA g a N Q → Wf M N → run g f Q i = wlk g a → Ev B mX4_spread 3 0 0 (Rt (fun u N => u = none ∧ WA g a N (wlk g a) ∧ Wf M N)) 31 [some (.ref 19), some (.ref 2), some (.int (nI a)), some (.int (nI i))] [] N := by
    intro f
    induction f with
    | zero =>
      intro i N Q hfi hw hf hr
      have okN : OkM N := ok.fr hf.1
      have hlen := len_161 wf ha hw.2.1 hw.2.2.1
      have hr' : Q = wlk g a := hr
      rw [hr'] at hw hlen
      refine e_iload_n dX4_spread_31 rfl rfl ?_
      refine e_aload_n dX4_spread_32 rfl rfl ?_
      refine e_getI dX4_spread_33 fRX4_19 (by exact okN.sh rfl) (fun _ => rfl) ?_
      rw [hw.1.1]
      refine e_icmp_ge (tgt := 58) dX4_spread_36 (by decide) (fun hc => ?_) (fun hc => ?_)
      · exact e_vret dX4_spread_58 rfl ⟨none, rfl, rfl, hw, hf⟩
      · exact absurd (nI_le (by omega) (by omega)) hc
    | succ f ih =>
      intro i N Q hfi hw hf hr
      have okN : OkM N := ok.fr hf.1
      have hnN : NetRep N 2 g := hn.fr hf.1 (by omega)
      have hlen := len_161 wf ha hw.2.1 hw.2.2.1
      refine e_iload_n dX4_spread_31 rfl rfl ?_
      refine e_aload_n dX4_spread_32 rfl rfl ?_
      refine e_getI dX4_spread_33 fRX4_19 (by exact okN.sh rfl) (fun _ => rfl) ?_
      rw [hw.1.1]
      have hr2 : (match Q[i]? with
        | none => Q
        | some r => run g f (adds Q (extw g r)) (i + 1)) = wlk g a := hr
      rcases Nat.lt_or_ge i Q.length with hil | hil
      · have hq : Q[i]? = some Q[i] := List.getElem?_eq_getElem hil
        rw [hq] at hr2
        refine e_icmp_ge (tgt := 58) dX4_spread_36 (by decide) (fun hc => ?_) (fun hc => ?_)
        · exact absurd hc (nI_ge hil (by omega))
        · refine e_iload_n dX4_spread_39 rfl rfl ?_
          refine e_sipush (v := 161) dX4_spread_40 (by decide) ?_
          refine e_icmp_ge (tgt := 58) dX4_spread_43 (by decide) (fun hc2 => ?_) (fun hc2 => ?_)
          · rw [show (161 : Int32) = nI 161 from fa_lit 161] at hc2
            exact absurd hc2 (nI_ge (by omega) (by decide))
          · refine e_aload_n dX4_spread_46 rfl rfl ?_
            refine e_aload_n dX4_spread_47 rfl rfl ?_
            refine e_iload_n dX4_spread_48 rfl rfl ?_
            refine e_callV1 [_, _] dX4_spread_49 mvmX4_goOn lkRX4_60 (by exact okN.sh rfl) ⟨by decide, rfl⟩ rfl rfl (Nat.le_of_ble_eq_true rfl) (by decide) (c_goOn okN hnN wf ha hw hq) (fun u N2 h2 => ?_)
            obtain ⟨hu, w1, w2⟩ := h2
            subst hu
            refine e_iinc (v := nI (i + 1)) dX4_spread_52 rfl (nI_1 i) (by decide) rfl rfl ?_
            refine e_goto (tgt := 31) dX4_spread_55 (by decide) ?_
            exact ih (i + 1) N2 _ (by omega) w1 (hf.trans w2) hr2
      · rw [List.getElem?_eq_none hil] at hr2
        have hr3 : Q = wlk g a := hr2
        refine e_icmp_ge (tgt := 58) dX4_spread_36 (by decide) (fun hc => ?_) (fun hc => ?_)
        · exact e_vret dX4_spread_58 rfl ⟨none, rfl, rfl, by rw [← hr3]; exact hw, hf⟩
        · exact absurd (nI_le hil (by omega)) hc
  refine e_aload_n dX4_spread_0 rfl rfl ?_
  refine e_aload_n dX4_spread_1 rfl rfl ?_
  refine e_iload_n dX4_spread_2 rfl rfl ?_
  refine e_callV1 [_, _] dX4_spread_3 mvmX4_numberPairs lkRX4_46 (by exact ok.sh rfl) ⟨by decide, rfl⟩ rfl rfl (Nat.le_of_ble_eq_true rfl) (by decide) (c_numberPairs ok hn wf ha) (fun u N1 h1 => ?_)
  obtain ⟨hu, b1, f1⟩ := h1
  subst hu
  have ok1 : OkM N1 := ok.fr f1
  refine e_aload_n dX4_spread_6 rfl rfl ?_
  refine e_getR dX4_spread_7 fRX4_43 (by exact ok1.sh rfl) (by exact ok1.rf rfl) (fun _ => rfl) ?_
  refine e_iconst (v := 0) dX4_spread_10 (by decide) ?_
  refine e_callS0v [_, _] dX4_spread_11 msmJ7_fill_53178 lkRX4_50 rfl rfl (Nat.le_of_ble_eq_true rfl) (by decide) (c_fill (ok1.sh (k := 26) rfl) (by decide)) ?_
  have fS := sF_Fr N1 26 32 0
  have okS : OkM (sF N1 26 32 0) := ok1.fr fS
  generalize hN : sF N1 26 32 0 = N at fS okS
  have z26 : ∀ P, P < 32 → N.2.1 26 P = 0 := fun P hP => by rw [← hN, rd_sF, if_pos ⟨rfl, hP⟩]
  have b2 : WB g a N := fun x y q1 q2 q3 => by rw [fS.2.2 24 (by omega)]; exact b1 x y q1 q2 q3
  have wN : Wf M N := (f1.wf (by decide) (by decide)).trans (fS.wf (by decide) (by decide))
  refine e_aload_n dX4_spread_14 rfl rfl ?_
  refine e_iconst (v := 0) dX4_spread_15 (by decide) ?_
  refine e_putI dX4_spread_16 fRX4_19 (by exact okS.sh rfl) rfl rfl rfl (fun _ _ => rfl) ?_
  refine e_aload_n dX4_spread_19 rfl rfl ?_
  refine e_iconst (v := 1) dX4_spread_20 (by decide) ?_
  refine e_iload_n dX4_spread_21 rfl rfl ?_
  refine e_ishl dX4_spread_22 ?_
  rw [shl_1 (by omega)]
  refine e_iconst (v := 0) dX4_spread_23 (by decide) ?_
  refine e_iload_n dX4_spread_24 rfl rfl ?_
  refine e_iconst (v := (-1)) dX4_spread_25 (by decide) ?_
  have hz : WQ0 g a (sI N 19 2 0) [] := ⟨by rw [rd_self]; rfl, fun i r hi => by simp at hi, ⟨fun P hP => by
    rw [rd_na (by decide), z26 P hP]; rfl, fun i r hi => by simp at hi, fun x y q1 q2 q3 => by rw [rd_na (by decide)]; exact b2 x y q1 q2 q3⟩, fun r hr => by cases hr⟩
  have hso := so_1 a
  refine e_callV1 [_, _, _, _] dX4_spread_26 mvmX4_add lkRX4_56 (by exact okS.sh rfl) ⟨by decide, rfl⟩ rfl rfl (Nat.le_of_ble_eq_true rfl) (by decide) (c_wadd (M := sI N 19 2 0) (k := 0) (r := [a]) (v := -1) (P := 0) wf ha okS hz (fun _ h => by cases h) rfl hso rfl rfl (two_lt (by omega)) (by omega) (by decide) (fun _ => by decide)) (fun u N2 h2 => ?_)
  obtain ⟨hu, w1, w2, w3, w4⟩ := h2
  subst hu
  have e1 : ad1 [] [a] = [[a]] := by rw [ad1_f (by rintro ⟨q, h, -⟩; cases h)]; rfl
  rw [e1] at w1
  refine e_iconst (v := 0) dX4_spread_29 (by decide) ?_
  refine e_istore_n dX4_spread_30 rfl (by decide) rfl rfl ?_
  refine loop2 161 0 N2 [[a]] rfl ⟨w1, List.pairwise_singleton _ _, fun r hr => ⟨0, List.mem_singleton.mp hr⟩, fun i r hi => ?_⟩ (wN.c.trans w2) rfl
  have hi0 := get_lt hi
  have : i = 0 := by
    have : ([[a]] : List Rw).length = 1 := rfl
    omega
  subst this
  exact Or.inl ⟨rfl, (Option.some.inj hi).symm⟩

