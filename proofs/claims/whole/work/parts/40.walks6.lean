theorem c_addToRow {B : Bd} {M : Mm} {l : List Nat} {x : Nat} (ok : OkM M) (h : RowAt M l) (hl : l.length < 12) : Ct B mX4_addToRow 0 0 0 [.ref 19, .int (nI x)] M (Rt (fun u N => u = none ∧ RowAt N (l ++ [x]) ∧ Rf M N)) := by
  refine Ct.of (by decide) rfl rfl (Nat.le_of_ble_eq_true rfl) ?_
  refine e_aload_n dX4_addToRow_0 rfl rfl ?_
  refine e_getI dX4_addToRow_1 fRX4_15 (by exact ok.sh rfl) (fun _ => rfl) ?_
  rw [h.1]
  refine e_bipush (v := 12) dX4_addToRow_4 (by decide) ?_
  refine e_icmp_ge (tgt := 29) dX4_addToRow_6 (by decide) (fun hc => ?_) (fun hc => ?_)
  · exact absurd hc (nI_ge (b := 12) hl (by decide))
  · refine e_aload_n dX4_addToRow_9 rfl rfl ?_
    refine e_getR dX4_addToRow_10 fRX4_9 (by exact ok.sh rfl) (by exact ok.rf rfl) (fun _ => rfl) ?_
    refine e_aload_n dX4_addToRow_13 rfl rfl ?_
    refine e_getI dX4_addToRow_14 fRX4_15 (by exact ok.sh rfl) (fun _ => rfl) ?_
    rw [h.1]
    refine e_iload_n dX4_addToRow_17 rfl rfl ?_
    refine e_iastore dX4_addToRow_18 (by exact ok.sh rfl) (by exact vp_in_nI hl (by decide)) ?_
    rw [nI_clamp (by omega)]
    have c1 : (sI M 20 l.length (nI x)).2.1 19 1 = nI l.length := by rw [rd_na (by decide)]; exact h.1
    refine e_aload_n dX4_addToRow_19 rfl rfl ?_
    refine e_dup dX4_addToRow_20 rfl ?_
    refine e_getI dX4_addToRow_21 fRX4_15 (by exact ok.sh rfl) (fun _ => rfl) ?_
    rw [c1]
    refine e_iconst (v := 1) dX4_addToRow_24 (by decide) ?_
    refine e_iadd dX4_addToRow_25 ?_
    rw [nI_1]
    refine e_putI dX4_addToRow_26 fRX4_15 (by exact ok.sh rfl) rfl rfl rfl (fun _ _ => rfl) ?_
    refine e_vret dX4_addToRow_29 rfl ⟨none, rfl, rfl, ⟨by rw [rd_self, List.length_append]; rfl, fun i y hi => ?_⟩, Rf.rf.s.l⟩
    rw [rd_na (by decide)]
    rcases Nat.lt_trichotomy i l.length with h1 | h1 | h1
    · rw [List.getElem?_append_left h1] at hi
      rw [rd_ni (by omega)]; exact h.2 i y hi
    · subst h1
      rw [List.getElem?_append_right (Nat.le_refl _), Nat.sub_self] at hi
      have : y = x := (Option.some.inj hi).symm
      rw [this, rd_self]
    · rw [List.getElem?_eq_none (by simp; omega)] at hi; cases hi
def fbs (g : Nw) (a : Nat) (r : Rw) : Option Nat := fnd (pfr g a (hd r)) g.1 0
/-- the row of the shortest path that betters, from a on -/
noncomputable def pth (g : Nw) (a : Nat) : Option (List Nat) := if (g.2.2 a).isSome = true then none else match (wlk g a).find? (fun r => (fbs g a r).isSome) with
  | none => none
  | some r => (fbs g a r).map (fun e => r.reverse ++ [e])
noncomputable def flw (g : Nw) (a : Nat) : Option (List Nat) := ((wlk g a).find? (fun r => (g.2.1 (hd r) a).isSome)).map List.reverse
theorem fbs_spec {g : Nw} {a e : Nat} {r : Rw} (h : fbs g a r = some e) : e ≠ a ∧ (g.2.1 (hd r) e).isSome = true ∧ g.2.2 e = none ∧ e < g.1 := by
  obtain ⟨h1, -, h3⟩ := fnd_spec h
  unfold pfr at h1
  rw [Bool.and_eq_true, Bool.and_eq_true, decide_eq_true_eq] at h1
  exact ⟨h1.1, h1.2.1, Option.isNone_iff_eq_none.mp h1.2.2, by omega⟩
/-- the end of such a path is new to it -/
theorem fbs_new {g : Nw} (wf : Wfn g) {a e k : Nat} {r : Rw} (hk : Vr g a k r) (h : fbs g a r = some e) : e ∉ r := by
  intro hin
  obtain ⟨h1, h2, h3, h4⟩ := fbs_spec h
  obtain ⟨y, y1, -⟩ := Vr_mate wf hk e hin h1
  rw [h3] at y1; cases y1
theorem fbs_len {g : Nw} (wf : Wfn g) {a e k : Nat} {r : Rw} (ha : a < g.1) (hk : Vr g a k r) (h : fbs g a r = some e) : r.length < g.1 := by
  obtain ⟨h1, h2, h3, h4⟩ := fbs_spec h
  have hne := fbs_new wf hk h
  have hs := Vr_lt wf ha hk
  have hg := wf.1.2
  have hb : (so r).testBit e = false := by
    cases hh : (so r).testBit e with
    | false => rfl
    | true => exact absurd ((so_bit r e).mp hh) hne
  have p1 := pop_or1 hs (by omega : e < 12) hb
  have p2 := pop_so wf ha hk
  have p3 : pop (so r ||| 2 ^ e) ≤ pop (al g) := by
    rw [pop_bt, pop_bt]
    refine sm_mono (fun i _ => ?_)
    unfold btS
    by_cases hc : (so r ||| 2 ^ e).testBit i = true
    · rw [if_pos hc, if_pos]
      · exact Nat.le_refl _
      · rw [al_bit, decide_eq_true_eq]
        rw [Nat.testBit_or, Bool.or_eq_true, Nat.testBit_two_pow, decide_eq_true_eq] at hc
        rcases hc with hc | hc
        · exact Vr_in wf ha hk i ((so_bit r i).mp hc)
        · omega
    · rw [if_neg hc]; exact Nat.zero_le _
  rw [pop_al hg] at p3
  have := Vr_len hk
  omega
theorem c_findBetterPath {B : Bd} {M : Mm} {g : Nw} {a : Nat} (ok : OkM M) (hn : NetRep M 2 g) (wf : Wfn g) (ha : a < g.1) (hi : WInv M) : Ct B mX4_findBetterPath 4 0 0 [.ref 19, .ref 2, .int (nI a)] M (Rt (fun u N => u = some (.int (if (pth g a).isSome = true then 1 else 0)) ∧ (∀ l, pth g a = some l → RowAt N l) ∧ WInv N ∧ Fr 19 26 M N)) := by
  have hg12 := wf.1.2
  refine Ct.of (by decide) rfl rfl (Nat.le_of_ble_eq_true rfl) ?_
  refine e_aload_n dX4_findBetterPath_0 rfl rfl ?_
  refine e_iload_n dX4_findBetterPath_1 rfl rfl ?_
  refine e_callV0i [_] dX4_findBetterPath_2 mvmX1_isFree lkRX4_78 (by exact ok.sh rfl) ⟨by decide, rfl⟩ rfl rfl (Nat.le_of_ble_eq_true rfl) (by decide) (c_isFree hn (by omega) (fun k hk => wf.m a k hk)) ?_
  by_cases hm : g.2.2 a = none
  · rw [if_pos hm]
    refine e_if_ne (tgt := 10) dX4_findBetterPath_5 (by decide) (fun hz => ?_) (fun hz => ?_)
    · refine e_aload_n dX4_findBetterPath_10 rfl rfl ?_
      refine e_aload_n dX4_findBetterPath_11 rfl rfl ?_
      refine e_iload_n dX4_findBetterPath_12 rfl rfl ?_
      refine e_callV1 [_, _] dX4_findBetterPath_13 mvmX4_spread lkRX4_82 (by exact ok.sh rfl) ⟨by decide, rfl⟩ rfl rfl (Nat.le_of_ble_eq_true rfl) (by decide) (c_spread ok hn wf ha hi) (fun u N h1 => ?_)
      obtain ⟨hu, hw, hf⟩ := h1
      subst hu
      have okN : OkM N := ok.fr hf.1
      have hnN : NetRep N 2 g := hn.fr hf.1 (by omega)
      have hlen := len_161 wf ha hw.2.1 hw.2.2.1
      have hpt : pth g a = match (wlk g a).find? (fun r => (fbs g a r).isSome) with
        | none => none
        | some r => (fbs g a r).map (fun e => r.reverse ++ [e]) := by
        unfold pth; rw [hm]; rfl
      generalize hQ : wlk g a = Q at hw hlen hpt
      refine e_iconst (v := 0) dX4_findBetterPath_16 (by decide) ?_
      refine e_istore_n dX4_findBetterPath_17 rfl (by decide) rfl rfl ?_
      have loop : ∀ j i (t : Option Value), i + j = Q.length → (Q.drop i).find? (fun r => (fbs g a r).isSome) = Q.find? (fun r => (fbs g a r).isSome) → Ev B mX4_findBetterPath 4 0 0 (Rt (fun u N => u = some (.int (if (pth g a).isSome = true then 1 else 0)) ∧ (∀ l, pth g a = some l → RowAt N l) ∧ WInv N ∧ Fr 19 26 M N)) 18 [some (.ref 19), some (.ref 2), some (.int (nI a)), some (.int (nI i)), t] [] N := by
        intro j
        induction j with
        | zero =>
          intro i t hij hdr
          rw [List.drop_eq_nil_of_le (by omega)] at hdr
          rw [← hdr] at hpt
          have hpt' : pth g a = none := hpt
          refine e_iload_n dX4_findBetterPath_18 rfl rfl ?_
          refine e_aload_n dX4_findBetterPath_19 rfl rfl ?_
          refine e_getI dX4_findBetterPath_20 fRX4_19 (by exact okN.sh rfl) (fun _ => rfl) ?_
          rw [hw.1.1]
          refine e_icmp_ge (tgt := 66) dX4_findBetterPath_23 (by decide) (fun hc => ?_) (fun hc => ?_)
          · refine e_iconst (v := 0) dX4_findBetterPath_66 (by decide) ?_
            rw [hpt']
            exact e_iret dX4_findBetterPath_67 rfl rfl ⟨_, rfl, rfl, fun l hl => (by cases hl), hw.inv wf ha, hf.1⟩
          · exact absurd (nI_le (by omega) (by omega)) hc
        | succ j ih =>
          intro i t hij hdr
          have hil : i < Q.length := by omega
          have hq : Q[i]? = some Q[i] := List.getElem?_eq_getElem hil
          obtain ⟨s4, x12⟩ := hw.1.2.2.2 Q[i] (get_mem hq)
          obtain ⟨k, hk⟩ := hw.2.2.1 Q[i] (get_mem hq)
          obtain ⟨f25, f26⟩ := hw.1.2.1 i Q[i] hq
          rw [List.drop_eq_getElem_cons hil] at hdr
          refine e_iload_n dX4_findBetterPath_18 rfl rfl ?_
          refine e_aload_n dX4_findBetterPath_19 rfl rfl ?_
          refine e_getI dX4_findBetterPath_20 fRX4_19 (by exact okN.sh rfl) (fun _ => rfl) ?_
          rw [hw.1.1]
          refine e_icmp_ge (tgt := 66) dX4_findBetterPath_23 (by decide) (fun hc => ?_) (fun hc => ?_)
          · exact absurd hc (nI_ge hil (by omega))
          · refine e_aload_n dX4_findBetterPath_26 rfl rfl ?_
            refine e_aload_n dX4_findBetterPath_27 rfl rfl ?_
            refine e_aload_n dX4_findBetterPath_28 rfl rfl ?_
            refine e_getR dX4_findBetterPath_29 fRX4_31 (by exact okN.sh rfl) (by exact okN.rf rfl) (fun _ => rfl) ?_
            refine e_iload_n dX4_findBetterPath_32 rfl rfl ?_
            refine e_iaload dX4_findBetterPath_33 (by exact okN.sh rfl) (by exact vp_in_nI (show i < 161 by omega) (by decide)) ?_
            rw [nI_clamp (by omega), f26]
            refine e_iload_n dX4_findBetterPath_34 rfl rfl ?_
            refine e_callV0i [_, _, _] dX4_findBetterPath_35 mvmX4_freeBeside lkRX4_85 (by exact okN.sh rfl) ⟨by decide, rfl⟩ rfl rfl (Nat.le_of_ble_eq_true rfl) (by decide) (c_freeBeside okN hnN wf (by omega) x12) ?_
            have e0 : fnd (pfr g a (hd Q[i])) g.1 0 = fbs g a Q[i] := rfl
            rw [e0]
            refine e_istore dX4_findBetterPath_38 (by decide) rfl rfl ?_
            refine e_iload dX4_findBetterPath_40 rfl ?_
            refine e_iconst (v := (-1)) dX4_findBetterPath_42 (by decide) ?_
            cases hfb : fbs g a Q[i] with
            | none =>
              refine e_icmp_eq (tgt := 60) dX4_findBetterPath_43 (by decide) (fun hc2 => ?_) (fun hc2 => ?_)
              · rw [List.find?_cons_of_neg (by rw [hfb]; decide)] at hdr
                refine e_iinc (v := nI (i + 1)) dX4_findBetterPath_60 rfl (nI_1 i) (by decide) rfl rfl ?_
                refine e_goto (tgt := 18) dX4_findBetterPath_63 (by decide) ?_
                exact ih (i + 1) _ (by omega) hdr
              · exact absurd rfl hc2
            | some e =>
              have hsp := fbs_spec hfb
              rw [List.find?_cons_of_pos (by rw [hfb]; rfl)] at hdr
              rw [← hdr] at hpt
              have hpt' : pth g a = some (Q[i].reverse ++ [e]) := by
                rw [hpt]
                show (fbs g a Q[i]).map _ = _
                rw [hfb]; rfl
              have hll := fbs_len wf ha hk hfb
              refine e_icmp_eq (tgt := 60) dX4_findBetterPath_43 (by decide) (fun hc2 => ?_) (fun hc2 => ?_)
              · have : wI (some e) = -1 ↔ (some e : Option Nat) = none := wI_none (fun k hk => by
                  have := Option.some.inj hk; omega)
                exact absurd (this.mp hc2) (by intro q; cases q)
              · refine e_aload_n dX4_findBetterPath_46 rfl rfl ?_
                refine e_aload_n dX4_findBetterPath_47 rfl rfl ?_
                refine e_iload_n dX4_findBetterPath_48 rfl rfl ?_
                refine e_callV1 [_, _] dX4_findBetterPath_49 mvmX4_fillRow lkRX4_89 (by exact okN.sh rfl) ⟨by decide, rfl⟩ rfl rfl (Nat.le_of_ble_eq_true rfl) (by decide) (c_fillRow okN hnN wf ha hw hq) (fun u2 N2 h2 => ?_)
                obtain ⟨hu2, r1, r2⟩ := h2
                subst hu2
                have okN2 : OkM N2 := okN.fr r2.1
                refine e_aload_n dX4_findBetterPath_52 rfl rfl ?_
                refine e_iload dX4_findBetterPath_53 rfl ?_
                refine e_callV1 [_] dX4_findBetterPath_55 mvmX4_addToRow lkRX4_92 (by exact okN2.sh rfl) ⟨by decide, rfl⟩ rfl rfl (Nat.le_of_ble_eq_true rfl) (by decide) (c_addToRow (x := e) okN2 r1 (by rw [List.length_reverse]; omega)) (fun u3 N3 h3 => ?_)
                obtain ⟨hu3, r3, r4⟩ := h3
                subst hu3
                refine e_iconst (v := 1) dX4_findBetterPath_58 (by decide) ?_
                rw [hpt']
                refine e_iret dX4_findBetterPath_59 rfl rfl ⟨_, rfl, rfl, fun l hl => ?_, ((hw.rf r2).rf r4).inv wf ha, (hf.1.trans (r2.1.wide (by decide) (by decide))).trans (r4.1.wide (by decide) (by decide))⟩
                rw [← Option.some.inj hl]; exact r3
      exact loop Q.length 0 none (by omega) rfl
    · exact absurd hz (by decide)
  · rw [if_neg hm]
    have hpt : pth g a = none := by
      unfold pth
      cases h : g.2.2 a with
      | none => exact absurd h hm
      | some b => rfl
    refine e_if_ne (tgt := 10) dX4_findBetterPath_5 (by decide) (fun hz => ?_) (fun hz => ?_)
    · exact absurd rfl hz
    · refine e_iconst (v := 0) dX4_findBetterPath_8 (by decide) ?_
      rw [hpt]
      exact e_iret dX4_findBetterPath_9 rfl rfl ⟨_, rfl, rfl, fun l hl => (by cases hl), hi, Fr.rf⟩
theorem c_findFlower {B : Bd} {M : Mm} {g : Nw} {a : Nat} (ok : OkM M) (hn : NetRep M 2 g) (wf : Wfn g) (ha : a < g.1) (hi : WInv M) : Ct B mX4_findFlower 4 0 0 [.ref 19, .ref 2, .int (nI a)] M (Rt (fun u N => u = some (.int (if (flw g a).isSome = true then 1 else 0)) ∧ (∀ l, flw g a = some l → RowAt N l) ∧ WInv N ∧ Fr 19 26 M N)) := by
  have hg12 := wf.1.2
  refine Ct.of (by decide) rfl rfl (Nat.le_of_ble_eq_true rfl) ?_
  refine e_aload_n dX4_findFlower_0 rfl rfl ?_
  refine e_aload_n dX4_findFlower_1 rfl rfl ?_
  refine e_iload_n dX4_findFlower_2 rfl rfl ?_
  refine e_callV1 [_, _] dX4_findFlower_3 mvmX4_spread lkRX4_82 (by exact ok.sh rfl) ⟨by decide, rfl⟩ rfl rfl (Nat.le_of_ble_eq_true rfl) (by decide) (c_spread ok hn wf ha hi) (fun u N h1 => ?_)
  obtain ⟨hu, hw, hf⟩ := h1
  subst hu
  have okN : OkM N := ok.fr hf.1
  have hnN : NetRep N 2 g := hn.fr hf.1 (by omega)
  have hlen := len_161 wf ha hw.2.1 hw.2.2.1
  have hpt : flw g a = ((wlk g a).find? (fun r => (g.2.1 (hd r) a).isSome)).map List.reverse := rfl
  have hpos : ∃ L, wlk g a = [a] :: L := by
    unfold wlk
    show ∃ L, run g 161 [[a]] 0 = [a] :: L
    have : ∀ f Q i, ∃ K, run g f Q i = Q ++ K := by
      intro f
      induction f with
      | zero => intro Q i; exact ⟨[], by rw [List.append_nil]; rfl⟩
      | succ f ih =>
        intro Q i
        show ∃ K, (match Q[i]? with | none => Q | some r => run g f (adds Q (extw g r)) (i + 1)) = Q ++ K
        cases hq : Q[i]? with
        | none => exact ⟨[], by rw [List.append_nil]⟩
        | some r =>
          obtain ⟨K1, h1⟩ := adds_pre (extw g r) Q
          obtain ⟨K2, h2⟩ := ih (adds Q (extw g r)) (i + 1)
          exact ⟨K1 ++ K2, by rw [← List.append_assoc, ← h1]; exact h2⟩
    obtain ⟨K, hK⟩ := this 161 [[a]] 0
    exact ⟨K, hK⟩
  obtain ⟨L0, hL0⟩ := hpos
  generalize hQ : wlk g a = Q at hw hlen hpt hL0
  refine e_iconst (v := 1) dX4_findFlower_6 (by decide) ?_
  refine e_istore_n dX4_findFlower_7 rfl (by decide) rfl rfl ?_
  have loop : ∀ j i, i + j = Q.length → (Q.drop i).find? (fun r => (g.2.1 (hd r) a).isSome) = Q.find? (fun r => (g.2.1 (hd r) a).isSome) → Ev B mX4_findFlower 4 0 0 (Rt (fun u N => u = some (.int (if (flw g a).isSome = true then 1 else 0)) ∧ (∀ l, flw g a = some l → RowAt N l) ∧ WInv N ∧ Fr 19 26 M N)) 8 [some (.ref 19), some (.ref 2), some (.int (nI a)), some (.int (nI i))] [] N := by
    intro j
    induction j with
    | zero =>
      intro i hij hdr
      rw [List.drop_eq_nil_of_le (by omega)] at hdr
      rw [← hdr] at hpt
      have hpt' : flw g a = none := hpt
      refine e_iload_n dX4_findFlower_8 rfl rfl ?_
      refine e_aload_n dX4_findFlower_9 rfl rfl ?_
      refine e_getI dX4_findFlower_10 fRX4_19 (by exact okN.sh rfl) (fun _ => rfl) ?_
      rw [hw.1.1]
      refine e_icmp_ge (tgt := 44) dX4_findFlower_13 (by decide) (fun hc => ?_) (fun hc => ?_)
      · refine e_iconst (v := 0) dX4_findFlower_44 (by decide) ?_
        rw [hpt']
        exact e_iret dX4_findFlower_45 rfl rfl ⟨_, rfl, rfl, fun l hl => (by cases hl), hw.inv wf ha, hf.1⟩
      · exact absurd (nI_le (by omega) (by omega)) hc
    | succ j ih =>
      intro i hij hdr
      have hil : i < Q.length := by omega
      have hq : Q[i]? = some Q[i] := List.getElem?_eq_getElem hil
      obtain ⟨s4, x12⟩ := hw.1.2.2.2 Q[i] (get_mem hq)
      obtain ⟨k, hk⟩ := hw.2.2.1 Q[i] (get_mem hq)
      obtain ⟨f25, f26⟩ := hw.1.2.1 i Q[i] hq
      rw [List.drop_eq_getElem_cons hil] at hdr
      refine e_iload_n dX4_findFlower_8 rfl rfl ?_
      refine e_aload_n dX4_findFlower_9 rfl rfl ?_
      refine e_getI dX4_findFlower_10 fRX4_19 (by exact okN.sh rfl) (fun _ => rfl) ?_
      rw [hw.1.1]
      refine e_icmp_ge (tgt := 44) dX4_findFlower_13 (by decide) (fun hc => ?_) (fun hc => ?_)
      · exact absurd hc (nI_ge hil (by omega))
      · refine e_aload_n dX4_findFlower_16 rfl rfl ?_
        refine e_aload_n dX4_findFlower_17 rfl rfl ?_
        refine e_getR dX4_findFlower_18 fRX4_31 (by exact okN.sh rfl) (by exact okN.rf rfl) (fun _ => rfl) ?_
        refine e_iload_n dX4_findFlower_21 rfl rfl ?_
        refine e_iaload dX4_findFlower_22 (by exact okN.sh rfl) (by exact vp_in_nI (show i < 161 by omega) (by decide)) ?_
        rw [nI_clamp (by omega), f26]
        refine e_iload_n dX4_findFlower_23 rfl rfl ?_
        refine e_callV0i [_, _] dX4_findFlower_24 mvmX1_isLine lkRX4_96 (by exact okN.sh rfl) ⟨by decide, rfl⟩ rfl rfl (Nat.le_of_ble_eq_true rfl) (by decide) (c_isLine hnN x12 (by omega)) ?_
        by_cases hl : (g.2.1 (hd Q[i]) a).isSome = true
        · rw [if_pos hl]
          refine e_if_eq (tgt := 38) dX4_findFlower_27 (by decide) (fun hz => ?_) (fun hz => ?_)
          · exact absurd hz (by decide)
          · rw [List.find?_cons_of_pos (by exact hl)] at hdr
            rw [← hdr] at hpt
            have hpt' : flw g a = some (Q[i].reverse) := hpt
            refine e_aload_n dX4_findFlower_30 rfl rfl ?_
            refine e_aload_n dX4_findFlower_31 rfl rfl ?_
            refine e_iload_n dX4_findFlower_32 rfl rfl ?_
            refine e_callV1 [_, _] dX4_findFlower_33 mvmX4_fillRow lkRX4_89 (by exact okN.sh rfl) ⟨by decide, rfl⟩ rfl rfl (Nat.le_of_ble_eq_true rfl) (by decide) (c_fillRow okN hnN wf ha hw hq) (fun u2 N2 h2 => ?_)
            obtain ⟨hu2, r1, r2⟩ := h2
            subst hu2
            refine e_iconst (v := 1) dX4_findFlower_36 (by decide) ?_
            rw [hpt']
            refine e_iret dX4_findFlower_37 rfl rfl ⟨_, rfl, rfl, fun l hl => ?_, (hw.rf r2).inv wf ha, hf.1.trans (r2.1.wide (by decide) (by decide))⟩
            rw [← Option.some.inj hl]; exact r1
        · rw [if_neg hl]
          refine e_if_eq (tgt := 38) dX4_findFlower_27 (by decide) (fun hz => ?_) (fun hz => ?_)
          · rw [List.find?_cons_of_neg (by exact hl)] at hdr
            refine e_iinc (v := nI (i + 1)) dX4_findFlower_38 rfl (nI_1 i) (by decide) rfl rfl ?_
            refine e_goto (tgt := 8) dX4_findFlower_41 (by decide) ?_
            exact ih (i + 1) (by omega) hdr
          · exact absurd rfl hz
  refine loop (Q.length - 1) 1 (by rw [hL0]; simp; omega) ?_
  rw [hL0]
  have : (g.2.1 (hd [a]) a).isSome = false := by
    show (g.2.1 a a).isSome = false
    rw [wf.2.2.1]; rfl
  rw [List.find?_cons_of_neg (by rw [this]; decide)]; rfl

