/-! Walks: cells 23 to 28 -/
def lsf (S : Nat) (m : Nat) (r : Rw) : Nat := if so r = S then m ||| 2 ^ hd r else m
def ls (Q : List Rw) (S : Nat) : Nat := Q.foldl (lsf S) 0
theorem ls_ap (Q : List Rw) (r : Rw) (S : Nat) : ls (Q ++ [r]) S = if so r = S then ls Q S ||| 2 ^ hd r else ls Q S := by
  unfold ls
  rw [List.foldl_append]; rfl
theorem lsf_bit (S x : Nat) : ∀ (Q : List Rw) (m : Nat), (Q.foldl (lsf S) m).testBit x = true ↔ m.testBit x = true ∨ ∃ r, r ∈ Q ∧ so r = S ∧ hd r = x := by
  intro Q
  induction Q with
  | nil => intro m; simp
  | cons r Q ih =>
    intro m
    rw [List.foldl_cons, ih]
    unfold lsf
    by_cases h : so r = S
    · rw [if_pos h, Nat.testBit_or, Bool.or_eq_true, Nat.testBit_two_pow, decide_eq_true_eq]
      constructor
      · rintro ((h1 | h1) | ⟨q, h1, h2⟩)
        · exact Or.inl h1
        · exact Or.inr ⟨r, List.mem_cons_self .., h, h1⟩
        · exact Or.inr ⟨q, List.mem_cons_of_mem _ h1, h2⟩
      · rintro (h1 | ⟨q, h1, h2, h3⟩)
        · exact Or.inl (Or.inl h1)
        · rcases List.mem_cons.mp h1 with h1 | h1
          · subst h1; exact Or.inl (Or.inr h3)
          · exact Or.inr ⟨q, h1, h2, h3⟩
    · rw [if_neg h]
      constructor
      · rintro (h1 | ⟨q, h1, h2⟩)
        · exact Or.inl h1
        · exact Or.inr ⟨q, List.mem_cons_of_mem _ h1, h2⟩
      · rintro (h1 | ⟨q, h1, h2, h3⟩)
        · exact Or.inl h1
        · rcases List.mem_cons.mp h1 with h1 | h1
          · subst h1; exact absurd h2 h
          · exact Or.inr ⟨q, h1, h2, h3⟩
theorem ls_bit (Q : List Rw) (S x : Nat) : (ls Q S).testBit x = true ↔ ∃ r, r ∈ Q ∧ so r = S ∧ hd r = x := by
  unfold ls
  rw [lsf_bit]
  simp
theorem ls_seen (Q : List Rw) (r : Rw) : (ls Q (so r)).testBit (hd r) = true ↔ ∃ q, q ∈ Q ∧ ky q = ky r := by
  rw [ls_bit]
  constructor
  · rintro ⟨q, h1, h2, h3⟩; exact ⟨q, h1, by unfold ky; rw [h2, h3]⟩
  · rintro ⟨q, h1, h2⟩; exact ⟨q, h1, congrArg Prod.fst h2, congrArg Prod.snd h2⟩
theorem ls_lt {Q : List Rw} (h : ∀ r, r ∈ Q → hd r < 12) (S : Nat) : ls Q S < 4096 := lt_of_bits (n := 12) (fun i hi => by
  cases hc : (ls Q S).testBit i with
  | false => rfl
  | true =>
    obtain ⟨r, h1, -, h3⟩ := (ls_bit Q S i).mp hc
    have := h r h1
    omega)
/-- the queue of walks, but whence each came -/
def WQ0 (M : Mm) (Q : List Rw) : Prop := M.2.1 23 2 = nI Q.length ∧ (∀ i r, Q[i]? = some r → M.2.1 25 i = nI (so r) ∧ M.2.1 26 i = nI (hd r)) ∧ (∀ S, S < 4096 → M.2.1 28 S = nI (ls Q S)) ∧ (∀ r, r ∈ Q → so r < 4096 ∧ hd r < 12)
/-- only the queue has changed -/
def Wf (M N : Mm) : Prop := Fr 23 28 M N ∧ N.2.1 24 = M.2.1 24 ∧ ∀ j, j ≠ 2 → N.2.1 23 j = M.2.1 23 j
theorem Wf.rf {M : Mm} : Wf M M := ⟨Fr.rf, rfl, fun _ _ => rfl⟩
theorem Wf.trans {M N K : Mm} (h1 : Wf M N) (h2 : Wf N K) : Wf M K := ⟨h1.1.trans h2.1, h2.2.1.trans h1.2.1, fun j hj => (h2.2.2 j hj).trans (h1.2.2 j hj)⟩
theorem Wf.s {M N : Mm} (h : Wf M N) {a i : Nat} {v : Int32} (h1 : 25 ≤ a) (h2 : a ≤ 28) : Wf M (sI N a i v) := ⟨h.1.sI (by omega) (by omega), by
  rw [← h.2.1]; funext j; exact rd_na (by omega), fun j hj => by rw [rd_na (by omega)]; exact h.2.2 j hj⟩
theorem Wf.c {M N : Mm} (h : Wf M N) {v : Int32} : Wf M (sI N 23 2 v) := ⟨h.1.sI (by decide) (by decide), by
  rw [← h.2.1]; funext j; exact rd_na (by decide), fun j hj => by rw [rd_ni hj]; exact h.2.2 j hj⟩
theorem c_wadd {B : Bd} {M : Mm} {Q : List Rw} {r : Rw} {v : Int32} {S x : Nat} (ok : OkM M) (h : WQ0 M Q) (hS : so r = S) (hx : hd r = x) (hS4 : S < 4096) (hx12 : x < 12) (hl : Q.length ≤ 161) (hl2 : (¬ ∃ q, q ∈ Q ∧ ky q = ky r) → Q.length < 161) : Ct B mX4_add 1 0 0 [.ref 23, .int (nI S), .int (nI x), .int v] M (Rt (fun u N => u = none ∧ WQ0 N (ad1 Q r) ∧ Wf M N ∧ (∀ i, i ≠ Q.length → N.2.1 27 i = M.2.1 27 i) ∧ ((¬ ∃ q, q ∈ Q ∧ ky q = ky r) → N.2.1 27 Q.length = v))) := by
  subst hS hx
  have hls := ls_lt (Q := Q) (fun q hq => (h.2.2.2 q hq).2) (so r)
  refine Ct.of (by decide) rfl rfl (Nat.le_of_ble_eq_true rfl) ?_
  refine e_aload_n dX4_add_0 rfl rfl ?_
  refine e_getI dX4_add_1 fRX4_19 (by exact ok.sh rfl) (fun _ => rfl) ?_
  rw [h.1]
  refine e_sipush (v := 161) dX4_add_4 (by decide) ?_
  by_cases hs : ∃ q, q ∈ Q ∧ ky q = ky r
  · have hbit := (ls_seen Q r).mpr hs
    have hres : Ev B mX4_add 1 0 0 (Rt (fun u N => u = none ∧ WQ0 N (ad1 Q r) ∧ Wf M N ∧ (∀ i, i ≠ Q.length → N.2.1 27 i = M.2.1 27 i) ∧ ((¬ ∃ q, q ∈ Q ∧ ky q = ky r) → N.2.1 27 Q.length = v))) 23 [some (.ref 23), some (.int (nI (so r))), some (.int (nI (hd r))), some (.int v)] [] M := by
      refine e_vret dX4_add_23 rfl ⟨none, rfl, rfl, ?_, Wf.rf, fun _ _ => rfl, fun q => absurd hs q⟩
      rw [ad1_t hs]; exact h
    refine e_icmp_ge (tgt := 23) dX4_add_7 (by decide) (fun hq => ?_) (fun hq => ?_)
    · exact hres
    · refine e_aload_n dX4_add_10 rfl rfl ?_
      refine e_getR dX4_add_11 fRX4_37 (by exact ok.sh rfl) (by exact ok.rf rfl) (fun _ => rfl) ?_
      refine e_iload_n dX4_add_14 rfl rfl ?_
      refine e_iaload dX4_add_15 (by exact ok.sh rfl) (by exact vp_in_nI hS4 (by decide)) ?_
      rw [nI_clamp (by omega), h.2.2.1 _ hS4]
      refine e_iload_n dX4_add_16 rfl rfl ?_
      refine e_callN0i [_, _] dX4_add_17 msmX5_hasBit nest_4 rfl rfl (Nat.le_of_ble_eq_true rfl) (by decide) (c_hasBit (by omega) (by omega)) ?_
      rw [if_pos hbit]
      refine e_if_eq (tgt := 24) dX4_add_20 (by decide) (fun hz => ?_) (fun hz => ?_)
      · exact absurd hz (by decide)
      · exact hres
  · have hbit : ¬ (ls Q (so r)).testBit (hd r) = true := fun q => hs ((ls_seen Q r).mp q)
    have hlt := hl2 hs
    refine e_icmp_ge (tgt := 23) dX4_add_7 (by decide) (fun hq => ?_) (fun hq => ?_)
    · rw [show (161 : Int32) = nI 161 from fa_lit 161] at hq
      exact absurd hq (nI_ge hlt (by decide))
    · refine e_aload_n dX4_add_10 rfl rfl ?_
      refine e_getR dX4_add_11 fRX4_37 (by exact ok.sh rfl) (by exact ok.rf rfl) (fun _ => rfl) ?_
      refine e_iload_n dX4_add_14 rfl rfl ?_
      refine e_iaload dX4_add_15 (by exact ok.sh rfl) (by first | exact vp_in_nI hS4 (by decide) | exact vp_in_nI hlt (by decide)) ?_
      rw [nI_clamp (by omega), h.2.2.1 _ hS4]
      refine e_iload_n dX4_add_16 rfl rfl ?_
      refine e_callN0i [_, _] dX4_add_17 msmX5_hasBit nest_4 rfl rfl (Nat.le_of_ble_eq_true rfl) (by decide) (c_hasBit (by omega) (by omega)) ?_
      rw [if_neg hbit]
      refine e_if_eq (tgt := 24) dX4_add_20 (by decide) (fun hz => ?_) (fun hz => ?_)
      · refine e_aload_n dX4_add_24 rfl rfl ?_
        refine e_getR dX4_add_25 fRX4_37 (by exact ok.sh rfl) (by exact ok.rf rfl) (fun _ => rfl) ?_
        refine e_iload_n dX4_add_28 rfl rfl ?_
        refine e_dup2 dX4_add_29 rfl rfl ?_
        refine e_iaload dX4_add_30 (by exact ok.sh rfl) (by first | exact vp_in_nI hS4 (by decide) | exact vp_in_nI hlt (by decide)) ?_
        rw [nI_clamp (by omega), h.2.2.1 _ hS4]
        refine e_iconst (v := 1) dX4_add_31 (by decide) ?_
        refine e_iload_n dX4_add_32 rfl rfl ?_
        refine e_ishl dX4_add_33 ?_
        rw [shl_1 (by omega)]
        refine e_ior dX4_add_34 ?_
        rw [fa_or]
        refine e_iastore dX4_add_35 (by exact ok.sh rfl) (by first | exact vp_in_nI hS4 (by decide) | exact vp_in_nI hlt (by decide)) ?_
        rw [nI_clamp (by omega)]
        have c1 : (sI M 28 (so r) (nI (ls Q (so r) ||| 2 ^ hd r))).2.1 23 2 = nI Q.length := by rw [rd_na (by decide)]; exact h.1
        generalize hM1 : sI M 28 (so r) (nI (ls Q (so r) ||| 2 ^ hd r)) = M1 at c1
        have ok1 : OkM M1 := by rw [← hM1]; exact ok
        refine e_aload_n dX4_add_36 rfl rfl ?_
        refine e_getR dX4_add_37 fRX4_28 (by exact ok1.sh rfl) (by exact ok1.rf rfl) (fun _ => rfl) ?_
        refine e_aload_n dX4_add_40 rfl rfl ?_
        refine e_getI dX4_add_41 fRX4_19 (by exact ok1.sh rfl) (fun _ => rfl) ?_
        rw [c1]
        refine e_iload_n dX4_add_44 rfl rfl ?_
        refine e_iastore dX4_add_45 (by exact ok1.sh rfl) (by first | exact vp_in_nI hS4 (by decide) | exact vp_in_nI hlt (by decide)) ?_
        rw [nI_clamp (by omega)]
        have c2 : (sI M1 25 Q.length (nI (so r))).2.1 23 2 = nI Q.length := by rw [rd_na (by decide)]; exact c1
        generalize hM2 : sI M1 25 Q.length (nI (so r)) = M2 at c2
        have ok2 : OkM M2 := by rw [← hM2]; exact ok1
        refine e_aload_n dX4_add_46 rfl rfl ?_
        refine e_getR dX4_add_47 fRX4_31 (by exact ok2.sh rfl) (by exact ok2.rf rfl) (fun _ => rfl) ?_
        refine e_aload_n dX4_add_50 rfl rfl ?_
        refine e_getI dX4_add_51 fRX4_19 (by exact ok2.sh rfl) (fun _ => rfl) ?_
        rw [c2]
        refine e_iload_n dX4_add_54 rfl rfl ?_
        refine e_iastore dX4_add_55 (by exact ok2.sh rfl) (by first | exact vp_in_nI hS4 (by decide) | exact vp_in_nI hlt (by decide)) ?_
        rw [nI_clamp (by omega)]
        have c3 : (sI M2 26 Q.length (nI (hd r))).2.1 23 2 = nI Q.length := by rw [rd_na (by decide)]; exact c2
        generalize hM3 : sI M2 26 Q.length (nI (hd r)) = M3 at c3
        have ok3 : OkM M3 := by rw [← hM3]; exact ok2
        refine e_aload_n dX4_add_56 rfl rfl ?_
        refine e_getR dX4_add_57 fRX4_34 (by exact ok3.sh rfl) (by exact ok3.rf rfl) (fun _ => rfl) ?_
        refine e_aload_n dX4_add_60 rfl rfl ?_
        refine e_getI dX4_add_61 fRX4_19 (by exact ok3.sh rfl) (fun _ => rfl) ?_
        rw [c3]
        refine e_iload_n dX4_add_64 rfl rfl ?_
        refine e_iastore dX4_add_65 (by exact ok3.sh rfl) (by first | exact vp_in_nI hS4 (by decide) | exact vp_in_nI hlt (by decide)) ?_
        rw [nI_clamp (by omega)]
        have c4 : (sI M3 27 Q.length v).2.1 23 2 = nI Q.length := by rw [rd_na (by decide)]; exact c3
        generalize hM4 : sI M3 27 Q.length v = M4 at c4
        have ok4 : OkM M4 := by rw [← hM4]; exact ok3
        refine e_aload_n dX4_add_66 rfl rfl ?_
        refine e_dup dX4_add_67 rfl ?_
        refine e_getI dX4_add_68 fRX4_19 (by exact ok4.sh rfl) (fun _ => rfl) ?_
        rw [c4]
        refine e_iconst (v := 1) dX4_add_71 (by decide) ?_
        refine e_iadd dX4_add_72 ?_
        rw [nI_1]
        refine e_putI dX4_add_73 fRX4_19 (by exact ok4.sh rfl) rfl rfl rfl (fun _ _ => rfl) ?_
        have r28 : ∀ T, T < 4096 → M4.2.1 28 T = nI (ls (Q ++ [r]) T) := by
          intro T hT
          rw [← hM4, rd_na (by decide), ← hM3, rd_na (by decide), ← hM2, rd_na (by decide), ← hM1, ls_ap]
          by_cases hTS : so r = T
          · rw [if_pos hTS, ← hTS, rd_self]
          · rw [if_neg hTS, rd_ni (fun e => hTS e.symm)]; exact h.2.2.1 T hT
        have hidx : ∀ i q, (Q ++ [r])[i]? = some q → (i < Q.length ∧ Q[i]? = some q) ∨ (i = Q.length ∧ q = r) := by
          intro i q hi
          rcases Nat.lt_trichotomy i Q.length with h1 | h1 | h1
          · rw [List.getElem?_append_left h1] at hi; exact Or.inl ⟨h1, hi⟩
          · subst h1
            rw [List.getElem?_append_right (Nat.le_refl _), Nat.sub_self] at hi
            exact Or.inr ⟨rfl, (Option.some.inj hi).symm⟩
          · rw [List.getElem?_eq_none (by simp; omega)] at hi; cases hi
        have r25 : ∀ i q, (Q ++ [r])[i]? = some q → M4.2.1 25 i = nI (so q) := by
          intro i q hi
          rw [← hM4, rd_na (by decide), ← hM3, rd_na (by decide), ← hM2]
          rcases hidx i q hi with ⟨h1, h2⟩ | ⟨h1, h2⟩
          · rw [rd_ni (by omega), ← hM1, rd_na (by decide)]; exact (h.2.1 i q h2).1
          · rw [h1, h2, rd_self]
        have r26 : ∀ i q, (Q ++ [r])[i]? = some q → M4.2.1 26 i = nI (hd q) := by
          intro i q hi
          rw [← hM4, rd_na (by decide), ← hM3]
          rcases hidx i q hi with ⟨h1, h2⟩ | ⟨h1, h2⟩
          · rw [rd_ni (by omega), ← hM2, rd_na (by decide), ← hM1, rd_na (by decide)]; exact (h.2.1 i q h2).2
          · rw [h1, h2, rd_self]
        have r27 : ∀ i, i ≠ Q.length → M4.2.1 27 i = M.2.1 27 i := by
          intro i hi
          rw [← hM4, rd_ni hi, ← hM3, rd_na (by decide), ← hM2, rd_na (by decide), ← hM1, rd_na (by decide)]
        have r27' : M4.2.1 27 Q.length = v := by rw [← hM4, rd_self]
        have hw : Wf M M4 := by
          rw [← hM4, ← hM3, ← hM2, ← hM1]
          exact (((Wf.rf.s (by decide) (by decide)).s (by decide) (by decide)).s (by decide) (by decide)).s (by decide) (by decide)
        refine e_vret dX4_add_76 rfl ⟨none, rfl, rfl, ?_, hw.c, fun i hi => by rw [rd_na (by decide)]; exact r27 i hi, fun _ => by rw [rd_na (by decide)]; exact r27'⟩
        rw [ad1_f hs]
        refine ⟨by rw [rd_self, List.length_append]; rfl, fun i q hi => ⟨by rw [rd_na (by decide)]; exact r25 i q hi, by rw [rd_na (by decide)]; exact r26 i q hi⟩, fun T hT => by rw [rd_na (by decide)]; exact r28 T hT, fun q hq => ?_⟩
        rw [List.mem_append, List.mem_singleton] at hq
        rcases hq with hq | hq
        · exact h.2.2.2 q hq
        · rw [hq]; exact ⟨hS4, hx12⟩
      · exact absurd rfl hz

