/-! OddPairs: what its methods share -/
def NdP (p : Prop) (E : String) (k : Nat) (M : Mm) : Ot → Mm → Prop := fun o N => (p ∧ o = .inl none ∧ N = M) ∨ (¬ p ∧ o = .inr E ∧ N = sI M 27 k (M.2.1 27 k + 1))
theorem c_needNode {B : Bd} {M : Mm} {g : Nw} {x : Int32} (ok : OkM M) (h : NetRep M 2 g) (hg : g.1 ≤ 12) : Ct B mX5_needNode 6 1 6 [.ref 0, .int x] M (NdP ((nod g x).isSome = true) xNS 0 M) := by
  have hne := nod_ex hg (x := x)
  refine Ct.of (by decide) rfl rfl (Nat.le_of_ble_eq_true rfl) ?_
  refine e_aload_n dX5_needNode_0 rfl rfl ?_
  refine e_getR dX5_needNode_1 fRX5_23 (by exact ok.sh rfl) (by exact ok.rf rfl) (fun _ => rfl) ?_
  refine e_iload_n dX5_needNode_4 rfl rfl ?_
  refine e_callV0i [_] dX5_needNode_5 mvmX1_holds lkRX5_259 (by exact ok.sh rfl) ⟨by decide, rfl⟩ rfl rfl (Nat.le_of_ble_eq_true rfl) (by decide) (c_holds h hg) ?_
  by_cases hq : ∃ a, a < g.1 ∧ x = nI a
  · rw [if_pos hq]
    refine e_if_ne (tgt := 32) dX5_needNode_8 (by decide) (fun hz => ?_) (fun hz => ?_)
    · exact e_vret dX5_needNode_32 rfl (Or.inl ⟨hne.mp hq, rfl, rfl⟩)
    · exact absurd hz (by decide)
  · rw [if_neg hq]
    refine e_if_ne (tgt := 32) dX5_needNode_8 (by decide) (fun hz => ?_) (fun hz => ?_)
    · exact absurd rfl hz
    · refine e_aload_n dX5_needNode_11 rfl rfl ?_
      refine e_getR dX5_needNode_12 fRX5_67 (by exact ok.sh rfl) (by exact ok.rf rfl) (fun _ => rfl) ?_
      refine e_iconst (v := 0) dX5_needNode_15 (by decide) ?_
      refine e_dup2 dX5_needNode_16 rfl rfl ?_
      refine e_iaload dX5_needNode_17 (by exact ok.sh rfl) (by exact vp_in_nI (n := 0) (N := 3) (by decide) (by decide)) ?_
      refine e_iconst (v := 1) dX5_needNode_18 (by decide) ?_
      refine e_iadd dX5_needNode_19 ?_
      refine e_iastore dX5_needNode_20 (by exact ok.sh rfl) (by exact vp_in_nI (n := 0) (N := 3) (by decide) (by decide)) ?_
      refine e_throwW th_node dX5_needNode_21 dX5_needNode_24 dX5_needNode_25 dX5_needNode_28 dX5_needNode_31 rfl (by decide) (by decide) (by decide) (Nat.le_of_ble_eq_true rfl) ?_
      have okN : OkM (sI M 27 (0 : Int32).toNatClampNeg (M.2.1 27 (0 : Int32).toNatClampNeg + 1)) := ok
      rw [loose_ok okN]
      exact Or.inr ⟨fun q => hq (hne.mpr q), rfl, rfl⟩
theorem c_needArgument {B : Bd} {M : Mm} {z : Int32} (ok : OkM M) : Ct B mX5_needArgument 6 1 6 [.ref 0, .int z] M (NdP (¬ z = 0) xIA 1 M) := by
  refine Ct.of (by decide) rfl rfl (Nat.le_of_ble_eq_true rfl) ?_
  refine e_iload_n dX5_needArgument_0 rfl rfl ?_
  refine e_if_ne (tgt := 25) dX5_needArgument_1 (by decide) (fun hz => ?_) (fun hz => ?_)
  · exact e_vret dX5_needArgument_25 rfl (Or.inl ⟨hz, rfl, rfl⟩)
  · refine e_aload_n dX5_needArgument_4 rfl rfl ?_
    refine e_getR dX5_needArgument_5 fRX5_67 (by exact ok.sh rfl) (by exact ok.rf rfl) (fun _ => rfl) ?_
    refine e_iconst (v := 1) dX5_needArgument_8 (by decide) ?_
    refine e_dup2 dX5_needArgument_9 rfl rfl ?_
    refine e_iaload dX5_needArgument_10 (by exact ok.sh rfl) (by exact vp_in_nI (n := 1) (N := 3) (by decide) (by decide)) ?_
    refine e_iconst (v := 1) dX5_needArgument_11 (by decide) ?_
    refine e_iadd dX5_needArgument_12 ?_
    refine e_iastore dX5_needArgument_13 (by exact ok.sh rfl) (by exact vp_in_nI (n := 1) (N := 3) (by decide) (by decide)) ?_
    refine e_throwW th_arg dX5_needArgument_14 dX5_needArgument_17 dX5_needArgument_18 dX5_needArgument_21 dX5_needArgument_24 rfl (by decide) (by decide) (by decide) (Nat.le_of_ble_eq_true rfl) ?_
    have okN : OkM (sI M 27 (1 : Int32).toNatClampNeg (M.2.1 27 (1 : Int32).toNatClampNeg + 1)) := ok
    rw [loose_ok okN]
    exact Or.inr ⟨fun q => q hz, rfl, rfl⟩
theorem c_needState {B : Bd} {M : Mm} {z : Int32} (ok : OkM M) : Ct B mX5_needState 6 1 6 [.ref 0, .int z] M (NdP (¬ z = 0) xIS 2 M) := by
  refine Ct.of (by decide) rfl rfl (Nat.le_of_ble_eq_true rfl) ?_
  refine e_iload_n dX5_needState_0 rfl rfl ?_
  refine e_if_ne (tgt := 25) dX5_needState_1 (by decide) (fun hz => ?_) (fun hz => ?_)
  · exact e_vret dX5_needState_25 rfl (Or.inl ⟨hz, rfl, rfl⟩)
  · refine e_aload_n dX5_needState_4 rfl rfl ?_
    refine e_getR dX5_needState_5 fRX5_67 (by exact ok.sh rfl) (by exact ok.rf rfl) (fun _ => rfl) ?_
    refine e_iconst (v := 2) dX5_needState_8 (by decide) ?_
    refine e_dup2 dX5_needState_9 rfl rfl ?_
    refine e_iaload dX5_needState_10 (by exact ok.sh rfl) (by exact vp_in_nI (n := 2) (N := 3) (by decide) (by decide)) ?_
    refine e_iconst (v := 1) dX5_needState_11 (by decide) ?_
    refine e_iadd dX5_needState_12 ?_
    refine e_iastore dX5_needState_13 (by exact ok.sh rfl) (by exact vp_in_nI (n := 2) (N := 3) (by decide) (by decide)) ?_
    refine e_throwW th_state dX5_needState_14 dX5_needState_17 dX5_needState_18 dX5_needState_21 dX5_needState_24 rfl (by decide) (by decide) (by decide) (Nat.le_of_ble_eq_true rfl) ?_
    have okN : OkM (sI M 27 (2 : Int32).toNatClampNeg (M.2.1 27 (2 : Int32).toNatClampNeg + 1)) := ok
    rw [loose_ok okN]
    exact Or.inr ⟨fun q => q hz, rfl, rfl⟩
/-- two nodes that aren't one -/
def TwP (g : Nw) (x y : Int32) (M : Mm) : Ot → Mm → Prop := fun o N => (((nod g x).isSome = true ∧ (nod g y).isSome = true) ∧ x ≠ y ∧ o = .inl none ∧ N = M) ∨ (¬ ((nod g x).isSome = true ∧ (nod g y).isSome = true) ∧ o = .inr xNS ∧ N = sI M 27 0 (M.2.1 27 0 + 1)) ∨ (((nod g x).isSome = true ∧ (nod g y).isSome = true) ∧ x = y ∧ o = .inr xIA ∧ N = sI M 27 1 (M.2.1 27 1 + 1))
theorem c_needTwoNodes {B : Bd} {M : Mm} {g : Nw} {x y : Int32} (ok : OkM M) (h : NetRep M 2 g) (hg : g.1 ≤ 12) : Ct B mX5_needTwoNodes 7 3 18 [.ref 0, .int x, .int y] M (TwP g x y M) := by
  refine Ct.of (by decide) rfl rfl (Nat.le_of_ble_eq_true rfl) ?_
  refine e_aload_n dX5_needTwoNodes_0 rfl rfl ?_
  refine e_iload_n dX5_needTwoNodes_1 rfl rfl ?_
  refine e_callV (rc1 := 1) (rs1 := 6) (rc2 := 2) (rs2 := 12) [_] dX5_needTwoNodes_2 mvmX5_needNode lkRX5_102 (by exact ok.sh rfl) ⟨by decide, rfl⟩ rfl rfl (Nat.le_of_ble_eq_true rfl) (by decide) (by decide) (by decide) (c_needNode (x := x) ok h hg) (fun v N h1 => ?_) (fun v N h1 => ?_)
  · rcases h1 with ⟨p1, e1, e2⟩ | ⟨p1, e1, e2⟩
    · cases e1
      subst e2
      refine e_aload_n dX5_needTwoNodes_5 rfl rfl ?_
      refine e_iload_n dX5_needTwoNodes_6 rfl rfl ?_
      refine e_callV (rc1 := 1) (rs1 := 6) (rc2 := 1) (rs2 := 6) [_] dX5_needTwoNodes_7 mvmX5_needNode lkRX5_102 (by exact ok.sh rfl) ⟨by decide, rfl⟩ rfl rfl (Nat.le_of_ble_eq_true rfl) (by decide) (by decide) (by decide) (c_needNode (x := y) ok h hg) (fun v N h1 => ?_) (fun v N h1 => ?_)
      · rcases h1 with ⟨p2, e1, e2⟩ | ⟨p2, e1, e2⟩
        · cases e1
          subst e2
          refine e_aload_n dX5_needTwoNodes_10 rfl rfl ?_
          refine e_iload_n dX5_needTwoNodes_11 rfl rfl ?_
          refine e_iload_n dX5_needTwoNodes_12 rfl rfl ?_
          refine e_icmp_eq (tgt := 20) dX5_needTwoNodes_13 (by decide) (fun hq => ?_) (fun hq => ?_)
          · refine e_iconst (v := 0) dX5_needTwoNodes_20 (by decide) ?_
            refine e_callV (rc1 := 1) (rs1 := 6) (rc2 := 0) (rs2 := 0) [_] dX5_needTwoNodes_21 mvmX5_needArgument lkRX5_82 (by exact ok.sh rfl) ⟨by decide, rfl⟩ rfl rfl (Nat.le_of_ble_eq_true rfl) (by decide) (by decide) (by decide) (c_needArgument ok) (fun v N h1 => ?_) (fun v N h1 => ?_)
            · rcases h1 with ⟨p3, e1, e2⟩ | ⟨p3, e1, e2⟩
              · exact absurd rfl p3
              · cases e1
            · rcases h1 with ⟨p3, e1, e2⟩ | ⟨p3, e1, e2⟩
              · cases e1
              · cases e1
                exact e_out rfl (Or.inr (Or.inr ⟨⟨p1, p2⟩, hq, rfl, e2⟩))
          · refine e_iconst (v := 1) dX5_needTwoNodes_16 (by decide) ?_
            refine e_goto (tgt := 21) dX5_needTwoNodes_17 (by decide) ?_
            refine e_callV (rc1 := 1) (rs1 := 6) (rc2 := 0) (rs2 := 0) [_] dX5_needTwoNodes_21 mvmX5_needArgument lkRX5_82 (by exact ok.sh rfl) ⟨by decide, rfl⟩ rfl rfl (Nat.le_of_ble_eq_true rfl) (by decide) (by decide) (by decide) (c_needArgument ok) (fun v N h1 => ?_) (fun v N h1 => ?_)
            · rcases h1 with ⟨p3, e1, e2⟩ | ⟨p3, e1, e2⟩
              · cases e1
                exact e_vret dX5_needTwoNodes_24 rfl (Or.inl ⟨⟨p1, p2⟩, hq, rfl, e2⟩)
              · cases e1
            · rcases h1 with ⟨p3, e1, e2⟩ | ⟨p3, e1, e2⟩
              · cases e1
              · exact absurd (by decide) p3
        · cases e1
      · rcases h1 with ⟨p2, e1, e2⟩ | ⟨p2, e1, e2⟩
        · cases e1
        · cases e1
          exact e_out rfl (Or.inr (Or.inl ⟨fun q => p2 q.2, rfl, e2⟩))
    · cases e1
  · rcases h1 with ⟨p1, e1, e2⟩ | ⟨p1, e1, e2⟩
    · cases e1
    · cases e1
      exact e_out rfl (Or.inr (Or.inl ⟨fun q => p1 q.1, rfl, e2⟩))
/-- only the past's rows have moved -/
def Fp (M N : Mm) : Prop := N.1 = M.1 ∧ N.2.1 = M.2.1 ∧ N.2.2.1 = M.2.2.1 ∧ ∀ a, a ≠ 10 → N.2.2.2 a = M.2.2.2 a
theorem Fp.rf {M : Mm} : Fp M M := ⟨rfl, rfl, rfl, fun _ _ => rfl⟩
theorem Fp.s {M N : Mm} (h : Fp M N) {i : Nat} {b : Option Nat} : Fp M (sR N 10 i b) := ⟨h.1, h.2.1, h.2.2.1, fun a ha => by
  show u2 N.2.2.2 10 i b a = _
  rw [u2_ne _ _ _ ha]; exact h.2.2.2 a ha⟩
theorem fin10 : ∀ e, e ∈ finL → e.1 ≠ 10 := by decide
theorem OkM.p {M N : Mm} (ok : OkM M) (h : Fp M N) : OkM N := by
  refine ⟨h.1.trans ok.1, fun a k b hf => ?_⟩
  have ha : a ≠ 10 := by
    intro e
    subst e
    unfold finz at hf
    cases hq : finL.find? (fun e => e.1 == 10 && e.2.1 == k) with
    | none => rw [hq] at hf; cases hf
    | some e =>
      have h1 := List.mem_of_find?_eq_some hq
      have h2 := List.find?_some hq
      rw [Bool.and_eq_true, beq_iff_eq] at h2
      exact fin10 e h1 h2.1
  rw [h.2.2.2 a ha]; exact ok.2 a k b hf
theorem NetRep.p {M N : Mm} {n : Nat} {g : Nw} (hr : NetRep M n g) (h : Fp M N) (hn : n ≠ 10) : NetRep N n g := by
  obtain ⟨h1, h2, h3, h4, h5, h6⟩ := hr
  refine ⟨?_, by rw [h.2.1]; exact h2, by rw [h.2.1]; exact h3, by rw [h.2.1]; exact h4, by rw [h.2.1]; exact h5, by rw [h.2.1]; exact h6⟩
  unfold NetAt at h1 ⊢
  rw [h.1, h.2.2.2 n hn]; exact h1
theorem Fp.FC {M N : Mm} (h : Fp M N) : FC M N := ⟨h.1, fun _ _ => by rw [h.2.2.1], fun a ha => ⟨by rw [h.2.1], h.2.2.2 a (by omega)⟩⟩
theorem rdR (M : Mm) (a i : Nat) (v : Option Nat) (b j : Nat) : (sR M a i v).2.2.2 b j = if b = a ∧ j = i then v else M.2.2.2 b j := by
  show u2 M.2.2.2 a i v b j = _
  unfold u2
  by_cases h1 : b = a
  · subst h1
    by_cases h2 : j = i
    · simp [h2]
    · simp [h2]
  · simp [h1]
/-- the past without its oldest -/
def rotp (π : Nat → Nat) (i : Nat) : Nat := if i < 7 then π (i + 1) else π 0
theorem c_dropOldest {B : Bd} {M : Mm} {π : Nat → Nat} {h : List Nw} (ok : OkM M) (hp : PR0 M π h) (hl : h.length = 8) : Ct B mX5_dropOldest 0 0 0 [.ref 0] M (Rt (fun u N => u = none ∧ ∃ K, Fp M K ∧ N = sI K 0 6 7 ∧ PR0 K (rotp π) (h.drop 1))) := by
  refine Ct.of (by decide) rfl rfl (Nat.le_of_ble_eq_true rfl) ?_
  refine e_aload_n dX5_dropOldest_0 rfl rfl ?_
  refine e_getR dX5_dropOldest_1 fRX5_30 (by exact ok.sh rfl) (by first | exact ok.rf rfl | exact hp.2.2.1 0 (by decide)) (fun _ => rfl) ?_
  refine e_iconst (v := 0) dX5_dropOldest_4 (by decide) ?_
  refine e_aaloadN dX5_dropOldest_5 (by exact ok.sh rfl) (by exact vp_in_nI (n := 0) (N := 8) (by decide) (by decide)) (by first | exact ok.rf rfl | exact hp.2.2.1 0 (by decide)) ?_
  refine e_astore_n dX5_dropOldest_6 rfl (by decide) rfl rfl ?_
  refine e_iconst (v := 1) dX5_dropOldest_7 (by decide) ?_
  refine e_istore_n dX5_dropOldest_8 rfl (by decide) rfl rfl ?_
  have loop : ∀ j i K, i + j = 8 → 1 ≤ i → Fp M K → (∀ q, q < 8 → K.2.2.2 10 q = some (28 + 4 * π (if q + 1 < i then q + 1 else q))) → Ev B mX5_dropOldest 0 0 0 (Rt (fun u N => u = none ∧ ∃ K, Fp M K ∧ N = sI K 0 6 7 ∧ PR0 K (rotp π) (h.drop 1))) 9 [some (.ref 0), some (.ref (28 + 4 * π 0)), some (.int (nI i))] [] K := by
    intro j
    induction j with
    | zero =>
      intro i K hij h1 hf hK
      have hi8 : i = 8 := by omega
      subst hi8
      have okK : OkM K := ok.p hf
      have hat := netP okK (π 0) (hp.1 0 (by decide))
      refine e_iload_n dX5_dropOldest_9 rfl rfl ?_
      refine e_bipush (v := 8) dX5_dropOldest_10 (by decide) ?_
      refine e_icmp_ge (tgt := 35) dX5_dropOldest_12 (by decide) (fun hz => ?_) (fun hz => ?_)
      · refine e_aload_n dX5_dropOldest_35 rfl rfl ?_
        refine e_getR dX5_dropOldest_36 fRX5_30 (by first | exact okK.sh rfl | exact hat.1) (by exact okK.rf rfl) (fun _ => rfl) ?_
        refine e_bipush (v := 7) dX5_dropOldest_39 (by decide) ?_
        refine e_aload_n dX5_dropOldest_41 rfl rfl ?_
        refine e_aastoreN dX5_dropOldest_42 (by exact okK.lo) (by first | exact okK.sh rfl | exact hat.1) (by first | exact okK.sh rfl | exact hat.1) (by exact vp_in_nI (n := 7) (N := 8) (by decide) (by decide)) ?_
        refine e_aload_n dX5_dropOldest_43 rfl rfl ?_
        refine e_bipush (v := 7) dX5_dropOldest_44 (by decide) ?_
        refine e_putI dX5_dropOldest_46 fRX5_34 (by first | exact okK.sh rfl | exact hat.1) rfl rfl rfl (fun _ _ => rfl) ?_
        refine e_vret dX5_dropOldest_49 rfl ⟨none, rfl, rfl, _, hf.s, rfl, ?_⟩
        have e7 : (7 : Int32).toNatClampNeg = 7 := by decide
        rw [e7]
        refine ⟨fun q hq => ?_, fun q r hq hr he => ?_, fun q hq => ?_, fun q g hg => ?_⟩
        · unfold rotp
          split
          · exact hp.1 _ (by omega)
          · exact hp.1 0 (by decide)
        · unfold rotp at he
          split at he
          · split at he
            · have := hp.2.1 _ _ (by omega) (by omega) he; omega
            · have := hp.2.1 _ _ (by omega) (by omega) he; omega
          · split at he
            · have := hp.2.1 _ _ (by omega) (by omega) he; omega
            · omega
        · rw [rdR]
          unfold rotp
          by_cases h7 : q = 7
          · rw [if_pos ⟨rfl, h7⟩, if_neg (by omega)]
          · rw [if_neg (fun z => h7 z.2), if_pos (by omega), hK q hq, if_pos (by omega)]
        · rw [List.getElem?_drop] at hg
          have hlt : 1 + q < 8 := by
            rcases Nat.lt_or_ge (1 + q) h.length with z | z
            · omega
            · rw [List.getElem?_eq_none z] at hg; cases hg
          have e1 : rotp π q = π (1 + q) := by unfold rotp; rw [if_pos (by omega), Nat.add_comm]
          rw [e1]
          obtain ⟨g1, g2⟩ := hp.2.2.2 (1 + q) g hg
          exact ⟨g1.p hf.s (by omega), g2⟩
      · exact absurd (by decide) hz
    | succ j ih =>
      intro i K hij h1 hf hK
      have okK : OkM K := ok.p hf
      have hi8 : i < 8 := by omega
      have hat := netP okK (π i) (hp.1 i hi8)
      have hKi : K.2.2.2 10 i = some (28 + 4 * π i) := by rw [hK i hi8, if_neg (by omega)]
      refine e_iload_n dX5_dropOldest_9 rfl rfl ?_
      refine e_bipush (v := 8) dX5_dropOldest_10 (by decide) ?_
      refine e_icmp_ge (tgt := 35) dX5_dropOldest_12 (by decide) (fun hz => ?_) (fun hz => ?_)
      · exact absurd hz (nI_ge (b := 8) (by omega) (by decide))
      · refine e_aload_n dX5_dropOldest_15 rfl rfl ?_
        refine e_getR dX5_dropOldest_16 fRX5_30 (by first | exact okK.sh rfl | exact hat.1) (by first | exact okK.rf rfl | (rw [nI_clamp (by omega)]; exact hKi)) (fun _ => rfl) ?_
        refine e_iload_n dX5_dropOldest_19 rfl rfl ?_
        refine e_iconst (v := 1) dX5_dropOldest_20 (by decide) ?_
        refine e_isub dX5_dropOldest_21 ?_
        rw [nI_m1 h1]
        refine e_aload_n dX5_dropOldest_22 rfl rfl ?_
        refine e_getR dX5_dropOldest_23 fRX5_30 (by first | exact okK.sh rfl | exact hat.1) (by first | exact okK.rf rfl | (rw [nI_clamp (by omega)]; exact hKi)) (fun _ => rfl) ?_
        refine e_iload_n dX5_dropOldest_26 rfl rfl ?_
        refine e_aaloadN dX5_dropOldest_27 (by first | exact okK.sh rfl | exact hat.1) (by first | exact vp_in_nI hi8 (by decide) | exact vp_in_nI (show i - 1 < 8 by omega) (by decide)) (by first | exact okK.rf rfl | (rw [nI_clamp (by omega)]; exact hKi)) ?_
        refine e_aastoreN dX5_dropOldest_28 (by exact okK.lo) (by first | exact okK.sh rfl | exact hat.1) (by first | exact okK.sh rfl | exact hat.1) (by first | exact vp_in_nI hi8 (by decide) | exact vp_in_nI (show i - 1 < 8 by omega) (by decide)) ?_
        rw [nI_clamp (by omega)]
        refine e_iinc (v := nI (i + 1)) dX5_dropOldest_29 rfl (nI_1 i) (by decide) rfl rfl ?_
        refine e_goto (tgt := 9) dX5_dropOldest_32 (by decide) ?_
        refine ih (i + 1) _ (by omega) (by omega) hf.s (fun q hq => ?_)
        rw [rdR]
        by_cases hqi : q = i - 1
        · rw [if_pos ⟨rfl, hqi⟩, if_pos (by omega), show q + 1 = i by omega]
        · rw [if_neg (fun z => hqi z.2), hK q hq]
          by_cases hlt : q + 1 < i
          · rw [if_pos hlt, if_pos (by omega)]
          · rw [if_neg hlt, if_neg (by omega)]
  refine loop 7 1 M (by decide) (by decide) Fp.rf (fun q hq => ?_)
  rw [if_neg (by omega)]; exact hp.2.2.1 q hq

