/-! Walks: the questions -/
def pfr (g : Nw) (a x b : Nat) : Bool := decide (b ≠ a) && ((g.2.1 x b).isSome && (g.2.2 b).isNone)
theorem c_freeBeside {B : Bd} {M : Mm} {g : Nw} {a x : Nat} (ok : OkM M) (h : NetRep M 2 g) (wf : Wfn g) (ha : a < 12) (hx : x < 12) : Ct B mX4_freeBeside 2 0 0 [.ref 19, .ref 2, .int (nI x), .int (nI a)] M (Is (some (.int (wI (fnd (pfr g a x) g.1 0)))) M) := by
  have hg12 := wf.1.2
  refine Ct.of (by decide) rfl rfl (Nat.le_of_ble_eq_true rfl) ?_
  have loop : ∀ k b, b + k = g.1 → Ev B mX4_freeBeside 2 0 0 (Is (some (.int (wI (fnd (pfr g a x) k b)))) M) 3 [some (.ref 19), some (.ref 2), some (.int (nI x)), some (.int (nI a)), some (.int (nI b))] [] M := by
    intro k
    induction k with
    | zero =>
      intro b hb
      refine e_iload dX4_freeBeside_3 rfl ?_
      refine e_aload_n dX4_freeBeside_5 rfl rfl ?_
      refine e_getI dX4_freeBeside_6 fRX4_63 (by exact ok.sh rfl) (fun _ => rfl) ?_
      rw [h.2.1]
      refine e_icmp_ge (tgt := 46) dX4_freeBeside_9 (by decide) (fun hc => ?_) (fun hc => ?_)
      · refine e_iconst (v := (-1)) dX4_freeBeside_46 (by decide) ?_
        exact e_iret dX4_freeBeside_47 rfl rfl (⟨rfl, rfl⟩)
      · exact absurd (nI_le (by omega : g.1 ≤ b) (by omega)) hc
    | succ k ih =>
      intro b hb
      refine e_iload dX4_freeBeside_3 rfl ?_
      refine e_aload_n dX4_freeBeside_5 rfl rfl ?_
      refine e_getI dX4_freeBeside_6 fRX4_63 (by exact ok.sh rfl) (fun _ => rfl) ?_
      rw [h.2.1]
      refine e_icmp_ge (tgt := 46) dX4_freeBeside_9 (by decide) (fun hc => ?_) (fun hc => ?_)
      · exact absurd hc (nI_ge (by omega) (by omega))
      · have go : ¬ pfr g a x b = true → Ev B mX4_freeBeside 2 0 0 (Is (some (.int (wI (fnd (pfr g a x) (k + 1) b)))) M) 40 [some (.ref 19), some (.ref 2), some (.int (nI x)), some (.int (nI a)), some (.int (nI b))] [] M := by
          intro hp
          have e9 : fnd (pfr g a x) (k + 1) b = fnd (pfr g a x) k (b + 1) := by
            show (if pfr g a x b = true then _ else _) = _
            rw [if_neg hp]
          rw [e9]
          refine e_iinc (v := nI (b + 1)) dX4_freeBeside_40 rfl (nI_1 b) (by decide) rfl rfl ?_
          refine e_goto (tgt := 3) dX4_freeBeside_43 (by decide) ?_
          exact ih (b + 1) (by omega)
        refine e_iload dX4_freeBeside_12 rfl ?_
        refine e_iload_n dX4_freeBeside_14 rfl rfl ?_
        refine e_icmp_eq (tgt := 40) dX4_freeBeside_15 (by decide) (fun hab => ?_) (fun hab => ?_)
        · rw [nI_eq (by omega) (by omega)] at hab
          exact go (by unfold pfr; simp [hab])
        · have hab' : b ≠ a := fun q => hab (by rw [q])
          refine e_aload_n dX4_freeBeside_18 rfl rfl ?_
          refine e_iload_n dX4_freeBeside_19 rfl rfl ?_
          refine e_iload dX4_freeBeside_20 rfl ?_
          refine e_callV0i [_, _] dX4_freeBeside_22 mvmX1_isLine lkRX4_96 (by exact ok.sh rfl) ⟨by decide, rfl⟩ rfl rfl (Nat.le_of_ble_eq_true rfl) (by decide) (c_isLine h hx (by omega)) ?_
          by_cases hw : (g.2.1 x b).isSome = true
          · rw [if_pos hw]
            refine e_if_eq (tgt := 40) dX4_freeBeside_25 (by decide) (fun hz => ?_) (fun hz => ?_)
            · exact absurd hz (by decide)
            · refine e_aload_n dX4_freeBeside_28 rfl rfl ?_
              refine e_iload dX4_freeBeside_29 rfl ?_
              refine e_callV0i [_] dX4_freeBeside_31 mvmX1_isFree lkRX4_78 (by exact ok.sh rfl) ⟨by decide, rfl⟩ rfl rfl (Nat.le_of_ble_eq_true rfl) (by decide) (c_isFree h (by omega) (fun k hk => wf.m b k hk)) ?_
              by_cases hm : g.2.2 b = none
              · rw [if_pos hm]
                refine e_if_eq (tgt := 40) dX4_freeBeside_34 (by decide) (fun hz2 => ?_) (fun hz2 => ?_)
                · exact absurd hz2 (by decide)
                · have hp : pfr g a x b = true := by unfold pfr; simp [hab', hw, hm]
                  have e9 : fnd (pfr g a x) (k + 1) b = some b := by
                    show (if pfr g a x b = true then _ else _) = _
                    rw [if_pos hp]
                  rw [e9]
                  refine e_iload dX4_freeBeside_37 rfl ?_
                  exact e_iret dX4_freeBeside_39 rfl rfl (⟨rfl, rfl⟩)
              · rw [if_neg hm]
                refine e_if_eq (tgt := 40) dX4_freeBeside_34 (by decide) (fun hz2 => ?_) (fun hz2 => ?_)
                · exact go (by unfold pfr; simp [hm])
                · exact absurd rfl hz2
          · rw [if_neg hw]
            refine e_if_eq (tgt := 40) dX4_freeBeside_25 (by decide) (fun hz => ?_) (fun hz => ?_)
            · exact go (by unfold pfr; simp [hw])
            · exact absurd rfl hz
  refine e_iconst (v := 0) dX4_freeBeside_0 (by decide) ?_
  refine e_istore dX4_freeBeside_1 (by decide) rfl rfl ?_
  exact loop g.1 0 (by omega)
/-- the row in hand -/
def RowAt (M : Mm) (l : List Nat) : Prop := M.2.1 19 1 = nI l.length ∧ ∀ i x, l[i]? = some x → M.2.1 20 i = nI x
/-- only the row has changed -/
def Rf (M N : Mm) : Prop := Fr 19 20 M N ∧ ∀ j, j ≠ 1 → N.2.1 19 j = M.2.1 19 j
theorem Rf.rf {M : Mm} : Rf M M := ⟨Fr.rf, fun _ _ => rfl⟩
theorem Rf.trans {M N K : Mm} (h1 : Rf M N) (h2 : Rf N K) : Rf M K := ⟨h1.1.trans h2.1, fun j hj => (h2.2 j hj).trans (h1.2 j hj)⟩
theorem Rf.s {M N : Mm} (h : Rf M N) {i : Nat} {v : Int32} : Rf M (sI N 20 i v) := ⟨h.1.sI (by decide) (by decide), fun j hj => by rw [rd_na (by decide)]; exact h.2 j hj⟩
theorem Rf.l {M N : Mm} (h : Rf M N) {v : Int32} : Rf M (sI N 19 1 v) := ⟨h.1.sI (by decide) (by decide), fun j hj => by rw [rd_ni hj]; exact h.2 j hj⟩
theorem Rf.at {M N : Mm} (h : Rf M N) {c : Nat} (hc : 21 ≤ c) : N.2.1 c = M.2.1 c := h.1.2.2 c (by omega)
theorem WA.rf {g : Nw} {a : Nat} {M N : Mm} {Q : List Rw} (h : WA g a M Q) (hf : Rf M N) : WA g a N Q := by
  have e25 := hf.at (c := 21) (by decide)
  have e26 := hf.at (c := 22) (by decide)
  have e27 := hf.at (c := 23) (by decide)
  have e28 := hf.at (c := 26) (by decide)
  refine ⟨⟨by rw [hf.2 2 (by decide)]; exact h.1.1, fun i r hi => by rw [e25, e26]; exact h.1.2.1 i r hi, ⟨fun P hP => by rw [e28]; exact h.1.2.2.1.1 P hP, fun i r hi => by rw [hf.at (c := 25) (by decide)]; exact h.1.2.2.1.2.1 i r hi, fun x y q1 q2 q3 => by rw [hf.at (c := 24) (by decide)]; exact h.1.2.2.1.2.2 x y q1 q2 q3⟩, h.1.2.2.2⟩, h.2.1, h.2.2.1, fun i r hi => ?_⟩
  rcases h.2.2.2 i r hi with h1 | ⟨j, b, c, q, h1, h2, h3, h4⟩
  · exact Or.inl h1
  · exact Or.inr ⟨j, b, c, q, h1, h2, by rw [e27]; exact h3, h4⟩
theorem nI_le0 {x : Nat} (h : x < 2 ^ 31) : nI x ≤ 0 ↔ x = 0 := by
  rw [fa_le, nI_toInt h, show (0 : Int32).toInt = 0 by decide]
  omega
theorem c_fillRow {B : Bd} {M : Mm} {g : Nw} {a i : Nat} {Q : List Rw} {r : Rw} (ok : OkM M) (hn : NetRep M 2 g) (wf : Wfn g) (ha : a < g.1) (h : WA g a M Q) (hi : Q[i]? = some r) : Ct B mX4_fillRow 1 0 0 [.ref 19, .ref 2, .int (nI i)] M (Rt (fun u N => u = none ∧ RowAt N r.reverse ∧ Rf M N)) := by
  have hg12 := wf.1.2
  have hlen := len_161 wf ha h.2.1 h.2.2.1
  have hil := get_lt hi
  obtain ⟨k, hk⟩ := h.2.2.1 r (get_mem hi)
  obtain ⟨s4, x12⟩ := h.1.2.2.2 r (get_mem hi)
  obtain ⟨f25, f26⟩ := h.1.2.1 i r hi
  have hpop : pop (so r) = r.length := by rw [pop_so wf ha hk, Vr_len hk]
  have hrl := Vr_len hk
  have hkk := Vr_k wf ha hk
  -- the first walk
  have hQ0 : ∃ r0, Q[0]? = some r0 ∧ r0 = [a] := by
    have h0 : 0 < Q.length := by omega
    refine ⟨Q[0], List.getElem?_eq_getElem h0, ?_⟩
    rcases h.2.2.2 0 Q[0] (List.getElem?_eq_getElem h0) with h1 | ⟨j, b, c, q, h1, -⟩
    · exact h1.2
    · omega
  obtain ⟨r0, hQ0, hr0⟩ := hQ0
  subst hr0
  have f0 := (h.1.2.1 0 [a] hQ0).2
  refine Ct.of (by decide) rfl rfl (Nat.le_of_ble_eq_true rfl) ?_
  refine e_aload_n dX4_fillRow_0 rfl rfl ?_
  refine e_aload_n dX4_fillRow_1 rfl rfl ?_
  refine e_getR dX4_fillRow_2 fRX4_28 (by exact ok.sh rfl) (by exact ok.rf rfl) (fun _ => rfl) ?_
  refine e_iload_n dX4_fillRow_5 rfl rfl ?_
  refine e_iaload dX4_fillRow_6 (by exact ok.sh rfl) (by exact vp_in_nI (show i < 161 by omega) (by decide)) ?_
  rw [nI_clamp (by omega), f25]
  refine e_callS0i [_] dX4_fillRow_7 msmJ6_bitCount_0f7a4 lkRX4_99 rfl rfl (Nat.le_of_ble_eq_true rfl) (by decide) (c_bitCount s4) ?_
  rw [hpop]
  refine e_putI dX4_fillRow_10 fRX4_15 (by exact ok.sh rfl) rfl rfl rfl (fun _ _ => rfl) ?_
  refine e_iload_n dX4_fillRow_13 rfl rfl ?_
  refine e_istore_n dX4_fillRow_14 rfl (by decide) rfl rfl ?_
  refine e_aload_n dX4_fillRow_15 rfl rfl ?_
  refine e_getI dX4_fillRow_16 fRX4_15 (by exact ok.sh rfl) (fun _ => rfl) ?_
  rw [rd_self]
  generalize hM1 : sI M 19 1 (nI r.length) = M1
  have hf1 : Rf M M1 := by rw [← hM1]; exact Rf.rf.l
  have hl1 : M1.2.1 19 1 = nI r.length := by rw [← hM1, rd_self]
  refine e_iconst (v := 1) dX4_fillRow_19 (by decide) ?_
  refine e_isub dX4_fillRow_20 ?_
  have e1 : nI r.length - 1 = nI (r.length - 1) := by
    have : nI (r.length - 1) + 1 = nI r.length := by rw [nI_1]; congr 1; omega
    rw [← this, Int32.add_sub_cancel]
  rw [e1]
  refine e_istore dX4_fillRow_21 (by decide) rfl rfl ?_
  have loop : ∀ i' q rest N, Q[i']? = some q → r.reverse = q.reverse ++ rest → Rf M N → N.2.1 19 1 = nI r.length → (∀ t x, rest[t]? = some x → N.2.1 20 (q.length + t) = nI x) → Ev B mX4_fillRow 1 0 0 (Rt (fun u N => u = none ∧ RowAt N r.reverse ∧ Rf M N)) 23 [some (.ref 19), some (.ref 2), some (.int (nI i)), some (.int (nI i')), some (.int (nI (q.length - 1)))] [] N := by
    intro i'
    induction i' using Nat.strongRecOn with
    | ind i' ih =>
      intro q rest N hq hrev hf hl hrest
      have okN : OkM N := ok.fr hf.1
      have hnN : NetRep N 2 g := hn.fr hf.1 (by omega)
      have hil' := get_lt hq
      have hql : q.length ≤ r.length := by
        have := congrArg List.length hrev
        rw [List.length_reverse, List.length_append, List.length_reverse] at this
        omega
      have e26 := hf.at (c := 22) (by decide)
      have e27 := hf.at (c := 23) (by decide)
      have q26 := (h.1.2.1 i' q hq).2
      rcases h.2.2.2 i' q hq with ⟨h1, h2⟩ | ⟨j, b, c, q', h1, h2, h3, h4, h5⟩
      · subst h2
        refine e_iload dX4_fillRow_23 rfl ?_
        refine e_if_le (tgt := 78) dX4_fillRow_25 (by decide) (fun hz => ?_) (fun hz => ?_)
        · refine e_aload_n dX4_fillRow_78 rfl rfl ?_
          refine e_getR dX4_fillRow_79 fRX4_9 (by exact okN.sh rfl) (by exact okN.rf rfl) (fun _ => rfl) ?_
          refine e_iconst (v := 0) dX4_fillRow_82 (by decide) ?_
          refine e_aload_n dX4_fillRow_83 rfl rfl ?_
          refine e_getR dX4_fillRow_84 fRX4_31 (by exact okN.sh rfl) (by exact okN.rf rfl) (fun _ => rfl) ?_
          refine e_iconst (v := 0) dX4_fillRow_87 (by decide) ?_
          refine e_iaload dX4_fillRow_88 (by exact okN.sh rfl) (by first | exact vp_in_nI (n := 0) (N := 161) (by decide) (by decide) | exact vp_in_nI (n := 0) (N := 12) (by decide) (by decide)) ?_
          rw [show (0 : Int32).toNatClampNeg = 0 by decide, e26, f0]
          refine e_iastore dX4_fillRow_89 (by exact okN.sh rfl) (by first | exact vp_in_nI (n := 0) (N := 161) (by decide) (by decide) | exact vp_in_nI (n := 0) (N := 12) (by decide) (by decide)) ?_
          refine e_vret dX4_fillRow_90 rfl ⟨none, rfl, rfl, ⟨?_, fun t x ht => ?_⟩, hf.s⟩
          · rw [rd_na (by decide), List.length_reverse]; exact hl
          · rw [hrev] at ht
            show (sI N 20 0 _).2.1 20 t = _
            cases t with
            | zero =>
              rw [rd_self]
              have : x = a := (Option.some.inj ht).symm
              rw [this]; rfl
            | succ t =>
              rw [rd_ni (by omega)]
              have := hrest t x ht
              rw [← this]
              show _ = N.2.1 20 (1 + t)
              rw [Nat.add_comm]
        · exact absurd ((nI_le0 (x := 0) (by decide)).mpr rfl) hz
      · have hcb := wf.2.2.2.2 c b h5
        have hl2 : q.length = q'.length + 2 := by rw [h4]; rfl
        have hdc : hd q = c := by rw [h4]; rfl
        rw [hdc] at q26
        refine e_iload dX4_fillRow_23 rfl ?_
        refine e_if_le (tgt := 78) dX4_fillRow_25 (by decide) (fun hz => ?_) (fun hz => ?_)
        · have := (nI_le0 (by omega)).mp hz
          omega
        · refine e_iload_n dX4_fillRow_28 rfl rfl ?_
          refine e_if_le (tgt := 78) dX4_fillRow_29 (by decide) (fun hz2 => ?_) (fun hz2 => ?_)
          · have := (nI_le0 (by omega)).mp hz2
            omega
          · refine e_aload_n dX4_fillRow_32 rfl rfl ?_
            refine e_getR dX4_fillRow_33 fRX4_9 (by exact okN.sh rfl) (by exact okN.rf rfl) (fun _ => rfl) ?_
            refine e_iload dX4_fillRow_36 rfl ?_
            refine e_aload_n dX4_fillRow_38 rfl rfl ?_
            refine e_getR dX4_fillRow_39 fRX4_31 (by exact okN.sh rfl) (by exact okN.rf rfl) (fun _ => rfl) ?_
            refine e_iload_n dX4_fillRow_42 rfl rfl ?_
            refine e_iaload dX4_fillRow_43 (by exact okN.sh rfl) (by first | exact vp_in_nI (show i' < 161 by omega) (by decide) | exact vp_in_nI (show q.length - 1 < 12 by omega) (by decide) | exact vp_in_nI (show q.length - 2 < 12 by omega) (by decide) | exact vp_in_nI (show c < 12 by omega) (by decide)) ?_
            rw [nI_clamp (by omega), e26, q26]
            refine e_iastore dX4_fillRow_44 (by exact okN.sh rfl) (by first | exact vp_in_nI (show i' < 161 by omega) (by decide) | exact vp_in_nI (show q.length - 1 < 12 by omega) (by decide) | exact vp_in_nI (show q.length - 2 < 12 by omega) (by decide) | exact vp_in_nI (show c < 12 by omega) (by decide)) ?_
            rw [nI_clamp (by omega)]
            generalize hN1 : sI N 20 (q.length - 1) (nI c) = N1
            have hf2 : Rf M N1 := by rw [← hN1]; exact hf.s
            have okN1 : OkM N1 := ok.fr hf2.1
            have hnN1 : NetRep N1 2 g := hn.fr hf2.1 (by omega)
            have e26' := hf2.at (c := 22) (by decide)
            refine e_aload_n dX4_fillRow_45 rfl rfl ?_
            refine e_getR dX4_fillRow_46 fRX4_9 (by exact okN1.sh rfl) (by exact okN1.rf rfl) (fun _ => rfl) ?_
            refine e_iload dX4_fillRow_49 rfl ?_
            refine e_iconst (v := 1) dX4_fillRow_51 (by decide) ?_
            refine e_isub dX4_fillRow_52 ?_
            have e2 : nI (q.length - 1) - 1 = nI (q.length - 2) := by
              have : nI (q.length - 2) + 1 = nI (q.length - 1) := by rw [nI_1]; congr 1; omega
              rw [← this, Int32.add_sub_cancel]
            rw [e2]
            refine e_aload_n dX4_fillRow_53 rfl rfl ?_
            refine e_getR dX4_fillRow_54 fRX4_68 (by exact okN1.sh rfl) (by exact okN1.rf rfl) (fun _ => rfl) ?_
            refine e_aload_n dX4_fillRow_57 rfl rfl ?_
            refine e_getR dX4_fillRow_58 fRX4_31 (by exact okN1.sh rfl) (by exact okN1.rf rfl) (fun _ => rfl) ?_
            refine e_iload_n dX4_fillRow_61 rfl rfl ?_
            refine e_iaload dX4_fillRow_62 (by exact okN1.sh rfl) (by first | exact vp_in_nI (show i' < 161 by omega) (by decide) | exact vp_in_nI (show q.length - 1 < 12 by omega) (by decide) | exact vp_in_nI (show q.length - 2 < 12 by omega) (by decide) | exact vp_in_nI (show c < 12 by omega) (by decide)) ?_
            rw [nI_clamp (by omega), e26', q26]
            refine e_iaload dX4_fillRow_63 (by exact okN1.sh rfl) (by first | exact vp_in_nI (show i' < 161 by omega) (by decide) | exact vp_in_nI (show q.length - 1 < 12 by omega) (by decide) | exact vp_in_nI (show q.length - 2 < 12 by omega) (by decide) | exact vp_in_nI (show c < 12 by omega) (by decide)) ?_
            rw [nI_clamp (by omega), hnN1.2.2.2.2.2 c (by omega), h5]
            refine e_iastore dX4_fillRow_64 (by exact okN1.sh rfl) (by first | exact vp_in_nI (show i' < 161 by omega) (by decide) | exact vp_in_nI (show q.length - 1 < 12 by omega) (by decide) | exact vp_in_nI (show q.length - 2 < 12 by omega) (by decide) | exact vp_in_nI (show c < 12 by omega) (by decide)) ?_
            rw [nI_clamp (by omega)]
            generalize hN2 : sI N1 20 (q.length - 2) (wI (some b)) = N2
            have hf3 : Rf M N2 := by rw [← hN2]; exact hf2.s
            have okN2 : OkM N2 := ok.fr hf3.1
            have e27' := hf3.at (c := 23) (by decide)
            refine e_aload_n dX4_fillRow_65 rfl rfl ?_
            refine e_getR dX4_fillRow_66 fRX4_34 (by exact okN2.sh rfl) (by exact okN2.rf rfl) (fun _ => rfl) ?_
            refine e_iload_n dX4_fillRow_69 rfl rfl ?_
            refine e_iaload dX4_fillRow_70 (by exact okN2.sh rfl) (by first | exact vp_in_nI (show i' < 161 by omega) (by decide) | exact vp_in_nI (show q.length - 1 < 12 by omega) (by decide) | exact vp_in_nI (show q.length - 2 < 12 by omega) (by decide) | exact vp_in_nI (show c < 12 by omega) (by decide)) ?_
            rw [nI_clamp (by omega), e27', h3]
            refine e_istore_n dX4_fillRow_71 rfl (by decide) rfl rfl ?_
            refine e_iinc (v := nI (q'.length - 1)) dX4_fillRow_72 rfl ?_ (by decide) rfl rfl ?_
            · have : nI (q'.length - 1) + 2 = nI (q.length - 1) := by
                rw [show (2 : Int32) = nI 2 from rfl, nI_add]; congr 1
                have : 0 < q'.length := by
                  obtain ⟨k', hk'⟩ := h.2.2.1 q' (get_mem h2)
                  rw [Vr_len hk']; omega
                omega
              rw [← this]
              rw [show Int32.ofInt (-2) = -2 by decide, Int32.add_assoc, show (2 : Int32) + -2 = 0 by decide, Int32.add_zero]
            refine e_goto (tgt := 23) dX4_fillRow_75 (by decide) ?_
            refine ih j h1 q' (b :: c :: rest) N2 h2 (by rw [hrev, h4]; simp) hf3 ?_ (fun t x ht => ?_)
            · rw [← hN2, rd_na (by decide), ← hN1, rd_na (by decide)]; exact hl
            · cases t with
              | zero =>
                have : x = b := (Option.some.inj ht).symm
                rw [this, ← hN2, show q'.length + 0 = q.length - 2 by omega, rd_self]; rfl
              | succ t =>
                cases t with
                | zero =>
                  have : x = c := (Option.some.inj ht).symm
                  rw [this, ← hN2, show q'.length + (0 + 1) = q.length - 1 by omega, rd_ni (by omega), ← hN1, rd_self]
                | succ t =>
                  rw [← hN2, rd_ni (by omega), ← hN1, rd_ni (by omega), show q'.length + (t + 1 + 1) = q.length + t by omega]
                  exact hrest t x ht
  exact loop i r [] M1 hi (by rw [List.append_nil]) hf1 hl1 (fun t x ht => by simp at ht)

