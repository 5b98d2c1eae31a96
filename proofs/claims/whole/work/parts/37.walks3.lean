/-! Walks: cells 19 to 26 -/
/-- bits of pairs -/
def WB (g : Nw) (a : Nat) (M : Mm) : Prop := ∀ x y, g.2.2 x = some y → x ≠ a → y ≠ a → M.2.1 24 x = nI (2 ^ pbt g a x)
/-- the queue of walks, but whence each came -/
def WQ0 (g : Nw) (a : Nat) (M : Mm) (Q : List Rw) : Prop := M.2.1 19 2 = nI Q.length ∧ (∀ i r, Q[i]? = some r → M.2.1 21 i = nI (so r) ∧ M.2.1 22 i = nI (hd r)) ∧ ((∀ P, P < 32 → M.2.1 26 P = nI (lp g a Q P)) ∧ (∀ i r, Q[i]? = some r → M.2.1 25 i = nI (pq g a r)) ∧ WB g a M) ∧ (∀ r, r ∈ Q → so r < 4096 ∧ hd r < 12)
/-- only the queue has changed -/
def Wf (M N : Mm) : Prop := Fr 19 26 M N ∧ N.2.1 20 = M.2.1 20 ∧ ∀ j, j ≠ 2 → N.2.1 19 j = M.2.1 19 j
theorem Wf.rf {M : Mm} : Wf M M := ⟨Fr.rf, rfl, fun _ _ => rfl⟩
theorem Wf.trans {M N K : Mm} (h1 : Wf M N) (h2 : Wf N K) : Wf M K := ⟨h1.1.trans h2.1, h2.2.1.trans h1.2.1, fun j hj => (h2.2.2 j hj).trans (h1.2.2 j hj)⟩
theorem Wf.s {M N : Mm} (h : Wf M N) {a i : Nat} {v : Int32} (h1 : 21 ≤ a) (h2 : a ≤ 26) : Wf M (sI N a i v) := ⟨h.1.sI (by omega) (by omega), by
  rw [← h.2.1]; funext j; exact rd_na (by omega), fun j hj => by rw [rd_na (by omega)]; exact h.2.2 j hj⟩
theorem Wf.c {M N : Mm} (h : Wf M N) {v : Int32} : Wf M (sI N 19 2 v) := ⟨h.1.sI (by decide) (by decide), by
  rw [← h.2.1]; funext j; exact rd_na (by decide), fun j hj => by rw [rd_ni hj]; exact h.2.2 j hj⟩
theorem Fr.wf {M N : Mm} {lo hi : Nat} (h : Fr lo hi M N) (h1 : 21 ≤ lo) (h2 : hi ≤ 26) : Wf M N := ⟨h.wide (by omega) h2, h.2.2 20 (by omega), fun j _ => by rw [h.2.2 19 (by omega)]⟩
theorem c_wadd {B : Bd} {M : Mm} {g : Nw} {a k : Nat} {Q : List Rw} {r : Rw} {v : Int32} {S P x : Nat} (wf : Wfn g) (ha : a < g.1) (ok : OkM M) (h : WQ0 g a M Q) (hQ : ∀ q, q ∈ Q → ∃ k, Vr g a k q) (hr : Vr g a k r) (hS : so r = S) (hP : pq g a r = P) (hx : hd r = x) (hS4 : S < 4096) (hx12 : x < 12) (hl : Q.length ≤ 161) (hl2 : (¬ ∃ q, q ∈ Q ∧ ky q = ky r) → Q.length < 161) : Ct B mX4_add 1 0 0 [.ref 19, .int (nI S), .int (nI P), .int (nI x), .int v] M (Rt (fun u N => u = none ∧ WQ0 g a N (ad1 Q r) ∧ Wf M N ∧ (∀ i, i ≠ Q.length → N.2.1 23 i = M.2.1 23 i) ∧ ((¬ ∃ q, q ∈ Q ∧ ky q = ky r) → N.2.1 23 Q.length = v))) := by
  have hP32 := pq_lt wf ha hr
  have hseen := lp_seen wf hQ hr
  subst hS hP hx
  have hls := lp_lt (g := g) (a := a) (Q := Q) (fun q hq => (h.2.2.2 q hq).2) (pq g a r)
  refine Ct.of (by decide) rfl rfl (Nat.le_of_ble_eq_true rfl) ?_
  refine e_aload_n dX4_add_0 rfl rfl ?_
  refine e_getI dX4_add_1 fRX4_19 (by exact ok.sh rfl) (fun _ => rfl) ?_
  rw [h.1]
  refine e_sipush (v := 161) dX4_add_4 (by decide) ?_
  by_cases hs : ∃ q, q ∈ Q ∧ ky q = ky r
  · have hbit := hseen.mpr hs
    have hres : Ev B mX4_add 1 0 0 (Rt (fun u N => u = none ∧ WQ0 g a N (ad1 Q r) ∧ Wf M N ∧ (∀ i, i ≠ Q.length → N.2.1 23 i = M.2.1 23 i) ∧ ((¬ ∃ q, q ∈ Q ∧ ky q = ky r) → N.2.1 23 Q.length = v))) 32 [some (.ref 19), some (.int (nI (so r))), some (.int (nI (pq g a r))), some (.int (nI (hd r))), some (.int v)] [] M := by
      refine e_vret dX4_add_32 rfl ⟨none, rfl, rfl, ?_, Wf.rf, fun _ _ => rfl, fun q => absurd hs q⟩
      rw [ad1_t hs]; exact h
    refine e_icmp_ge (tgt := 32) dX4_add_7 (by decide) (fun hq => ?_) (fun hq => ?_)
    · exact hres
    · refine e_iload_n dX4_add_10 rfl rfl ?_
      refine e_aload_n dX4_add_11 rfl rfl ?_
      refine e_getR dX4_add_12 fRX4_43 (by exact ok.sh rfl) (by exact ok.rf rfl) (fun _ => rfl) ?_
      refine e_alen (t0 := 0) dX4_add_15 (by exact ok.sh rfl) (fun _ => rfl) ?_
      refine e_icmp_ge (tgt := 32) dX4_add_16 (by decide) (fun hq2 => ?_) (fun hq2 => ?_)
      · exact hres
      · refine e_aload_n dX4_add_19 rfl rfl ?_
        refine e_getR dX4_add_20 fRX4_43 (by exact ok.sh rfl) (by exact ok.rf rfl) (fun _ => rfl) ?_
        refine e_iload_n dX4_add_23 rfl rfl ?_
        refine e_iaload dX4_add_24 (by exact ok.sh rfl) (by exact vp_in_nI hP32 (by decide)) ?_
        rw [nI_clamp (by omega), h.2.2.1.1 _ hP32]
        refine e_iload_n dX4_add_25 rfl rfl ?_
        refine e_callN0i [_, _] dX4_add_26 msmX5_hasBit nest_4 rfl rfl (Nat.le_of_ble_eq_true rfl) (by decide) (c_hasBit (by omega) (by omega)) ?_
        rw [if_pos hbit]
        refine e_if_eq (tgt := 33) dX4_add_29 (by decide) (fun hz => ?_) (fun hz => ?_)
        · exact absurd hz (by decide)
        · exact hres
  · have hbit : ¬ (lp g a Q (pq g a r)).testBit (hd r) = true := fun q => hs (hseen.mp q)
    have hlt := hl2 hs
    refine e_icmp_ge (tgt := 32) dX4_add_7 (by decide) (fun hq => ?_) (fun hq => ?_)
    · rw [show (161 : Int32) = nI 161 from fa_lit 161] at hq
      exact absurd hq (nI_ge hlt (by decide))
    · refine e_iload_n dX4_add_10 rfl rfl ?_
      refine e_aload_n dX4_add_11 rfl rfl ?_
      refine e_getR dX4_add_12 fRX4_43 (by exact ok.sh rfl) (by exact ok.rf rfl) (fun _ => rfl) ?_
      refine e_alen (t0 := 0) dX4_add_15 (by exact ok.sh rfl) (fun _ => rfl) ?_
      refine e_icmp_ge (tgt := 32) dX4_add_16 (by decide) (fun hq2 => ?_) (fun hq2 => ?_)
      · exact absurd hq2 (nI_ge hP32 (by decide))
      · refine e_aload_n dX4_add_19 rfl rfl ?_
        refine e_getR dX4_add_20 fRX4_43 (by exact ok.sh rfl) (by exact ok.rf rfl) (fun _ => rfl) ?_
        refine e_iload_n dX4_add_23 rfl rfl ?_
        refine e_iaload dX4_add_24 (by exact ok.sh rfl) (by first | exact vp_in_nI hP32 (by decide) | exact vp_in_nI hlt (by decide)) ?_
        rw [nI_clamp (by omega), h.2.2.1.1 _ hP32]
        refine e_iload_n dX4_add_25 rfl rfl ?_
        refine e_callN0i [_, _] dX4_add_26 msmX5_hasBit nest_4 rfl rfl (Nat.le_of_ble_eq_true rfl) (by decide) (c_hasBit (by omega) (by omega)) ?_
        rw [if_neg hbit]
        refine e_if_eq (tgt := 33) dX4_add_29 (by decide) (fun hz => ?_) (fun hz => ?_)
        · refine e_aload_n dX4_add_33 rfl rfl ?_
          refine e_getR dX4_add_34 fRX4_43 (by exact ok.sh rfl) (by exact ok.rf rfl) (fun _ => rfl) ?_
          refine e_iload_n dX4_add_37 rfl rfl ?_
          refine e_dup2 dX4_add_38 rfl rfl ?_
          refine e_iaload dX4_add_39 (by exact ok.sh rfl) (by first | exact vp_in_nI hP32 (by decide) | exact vp_in_nI hlt (by decide)) ?_
          rw [nI_clamp (by omega), h.2.2.1.1 _ hP32]
          refine e_iconst (v := 1) dX4_add_40 (by decide) ?_
          refine e_iload_n dX4_add_41 rfl rfl ?_
          refine e_ishl dX4_add_42 ?_
          rw [shl_1 (by omega)]
          refine e_ior dX4_add_43 ?_
          rw [fa_or]
          refine e_iastore dX4_add_44 (by exact ok.sh rfl) (by first | exact vp_in_nI hP32 (by decide) | exact vp_in_nI hlt (by decide)) ?_
          rw [nI_clamp (by omega)]
          have c1 : (sI M 26 (pq g a r) (nI (lp g a Q (pq g a r) ||| 2 ^ hd r))).2.1 19 2 = nI Q.length := by rw [rd_na (by decide)]; exact h.1
          generalize hM1 : sI M 26 (pq g a r) (nI (lp g a Q (pq g a r) ||| 2 ^ hd r)) = M1 at c1
          have ok1 : OkM M1 := by rw [← hM1]; exact ok
          refine e_aload_n dX4_add_45 rfl rfl ?_
          refine e_getR dX4_add_46 fRX4_28 (by exact ok1.sh rfl) (by exact ok1.rf rfl) (fun _ => rfl) ?_
          refine e_aload_n dX4_add_49 rfl rfl ?_
          refine e_getI dX4_add_50 fRX4_19 (by exact ok1.sh rfl) (fun _ => rfl) ?_
          rw [c1]
          refine e_iload_n dX4_add_53 rfl rfl ?_
          refine e_iastore dX4_add_54 (by exact ok1.sh rfl) (by first | exact vp_in_nI hP32 (by decide) | exact vp_in_nI hlt (by decide)) ?_
          rw [nI_clamp (by omega)]
          have c2 : (sI M1 21 Q.length (nI (so r))).2.1 19 2 = nI Q.length := by rw [rd_na (by decide)]; exact c1
          generalize hM2 : sI M1 21 Q.length (nI (so r)) = M2 at c2
          have ok2 : OkM M2 := by rw [← hM2]; exact ok1
          refine e_aload_n dX4_add_55 rfl rfl ?_
          refine e_getR dX4_add_56 fRX4_40 (by exact ok2.sh rfl) (by exact ok2.rf rfl) (fun _ => rfl) ?_
          refine e_aload_n dX4_add_59 rfl rfl ?_
          refine e_getI dX4_add_60 fRX4_19 (by exact ok2.sh rfl) (fun _ => rfl) ?_
          rw [c2]
          refine e_iload_n dX4_add_63 rfl rfl ?_
          refine e_iastore dX4_add_64 (by exact ok2.sh rfl) (by first | exact vp_in_nI hP32 (by decide) | exact vp_in_nI hlt (by decide)) ?_
          rw [nI_clamp (by omega)]
          have c2b : (sI M2 25 Q.length (nI (pq g a r))).2.1 19 2 = nI Q.length := by rw [rd_na (by decide)]; exact c2
          generalize hM2b : sI M2 25 Q.length (nI (pq g a r)) = M2b at c2b
          have ok2b : OkM M2b := by rw [← hM2b]; exact ok2
          refine e_aload_n dX4_add_65 rfl rfl ?_
          refine e_getR dX4_add_66 fRX4_31 (by exact ok2b.sh rfl) (by exact ok2b.rf rfl) (fun _ => rfl) ?_
          refine e_aload_n dX4_add_69 rfl rfl ?_
          refine e_getI dX4_add_70 fRX4_19 (by exact ok2b.sh rfl) (fun _ => rfl) ?_
          rw [c2b]
          refine e_iload_n dX4_add_73 rfl rfl ?_
          refine e_iastore dX4_add_74 (by exact ok2b.sh rfl) (by first | exact vp_in_nI hP32 (by decide) | exact vp_in_nI hlt (by decide)) ?_
          rw [nI_clamp (by omega)]
          have c3 : (sI M2b 22 Q.length (nI (hd r))).2.1 19 2 = nI Q.length := by rw [rd_na (by decide)]; exact c2b
          generalize hM3 : sI M2b 22 Q.length (nI (hd r)) = M3 at c3
          have ok3 : OkM M3 := by rw [← hM3]; exact ok2b
          refine e_aload_n dX4_add_75 rfl rfl ?_
          refine e_getR dX4_add_76 fRX4_34 (by exact ok3.sh rfl) (by exact ok3.rf rfl) (fun _ => rfl) ?_
          refine e_aload_n dX4_add_79 rfl rfl ?_
          refine e_getI dX4_add_80 fRX4_19 (by exact ok3.sh rfl) (fun _ => rfl) ?_
          rw [c3]
          refine e_iload dX4_add_83 rfl ?_
          refine e_iastore dX4_add_85 (by exact ok3.sh rfl) (by first | exact vp_in_nI hP32 (by decide) | exact vp_in_nI hlt (by decide)) ?_
          rw [nI_clamp (by omega)]
          have c4 : (sI M3 23 Q.length v).2.1 19 2 = nI Q.length := by rw [rd_na (by decide)]; exact c3
          generalize hM4 : sI M3 23 Q.length v = M4 at c4
          have ok4 : OkM M4 := by rw [← hM4]; exact ok3
          refine e_aload_n dX4_add_86 rfl rfl ?_
          refine e_dup dX4_add_87 rfl ?_
          refine e_getI dX4_add_88 fRX4_19 (by exact ok4.sh rfl) (fun _ => rfl) ?_
          rw [c4]
          refine e_iconst (v := 1) dX4_add_91 (by decide) ?_
          refine e_iadd dX4_add_92 ?_
          rw [nI_1]
          refine e_putI dX4_add_93 fRX4_19 (by exact ok4.sh rfl) rfl rfl rfl (fun _ _ => rfl) ?_
          have r26 : ∀ T, T < 32 → M4.2.1 26 T = nI (lp g a (Q ++ [r]) T) := by
            intro T hT
            rw [← hM4, rd_na (by decide), ← hM3, rd_na (by decide), ← hM2b, rd_na (by decide), ← hM2, rd_na (by decide), ← hM1, lp_ap]
            by_cases hTS : pq g a r = T
            · rw [if_pos hTS, ← hTS, rd_self]
            · rw [if_neg hTS, rd_ni (fun e => hTS e.symm)]; exact h.2.2.1.1 T hT
          have hidx : ∀ i q, (Q ++ [r])[i]? = some q → (i < Q.length ∧ Q[i]? = some q) ∨ (i = Q.length ∧ q = r) := by
            intro i q hi
            rcases Nat.lt_trichotomy i Q.length with h1 | h1 | h1
            · rw [List.getElem?_append_left h1] at hi; exact Or.inl ⟨h1, hi⟩
            · subst h1
              rw [List.getElem?_append_right (Nat.le_refl _), Nat.sub_self] at hi
              exact Or.inr ⟨rfl, (Option.some.inj hi).symm⟩
            · rw [List.getElem?_eq_none (by simp; omega)] at hi; cases hi
          have r21 : ∀ i q, (Q ++ [r])[i]? = some q → M4.2.1 21 i = nI (so q) := by
            intro i q hi
            rw [← hM4, rd_na (by decide), ← hM3, rd_na (by decide), ← hM2b, rd_na (by decide), ← hM2]
            rcases hidx i q hi with ⟨h1, h2⟩ | ⟨h1, h2⟩
            · rw [rd_ni (by omega), ← hM1, rd_na (by decide)]; exact (h.2.1 i q h2).1
            · rw [h1, h2, rd_self]
          have r25 : ∀ i q, (Q ++ [r])[i]? = some q → M4.2.1 25 i = nI (pq g a q) := by
            intro i q hi
            rw [← hM4, rd_na (by decide), ← hM3, rd_na (by decide), ← hM2b]
            rcases hidx i q hi with ⟨h1, h2⟩ | ⟨h1, h2⟩
            · rw [rd_ni (by omega), ← hM2, rd_na (by decide), ← hM1, rd_na (by decide)]; exact h.2.2.1.2.1 i q h2
            · rw [h1, h2, rd_self]
          have r22 : ∀ i q, (Q ++ [r])[i]? = some q → M4.2.1 22 i = nI (hd q) := by
            intro i q hi
            rw [← hM4, rd_na (by decide), ← hM3]
            rcases hidx i q hi with ⟨h1, h2⟩ | ⟨h1, h2⟩
            · rw [rd_ni (by omega), ← hM2b, rd_na (by decide), ← hM2, rd_na (by decide), ← hM1, rd_na (by decide)]; exact (h.2.1 i q h2).2
            · rw [h1, h2, rd_self]
          have r23 : ∀ i, i ≠ Q.length → M4.2.1 23 i = M.2.1 23 i := by
            intro i hi
            rw [← hM4, rd_ni hi, ← hM3, rd_na (by decide), ← hM2b, rd_na (by decide), ← hM2, rd_na (by decide), ← hM1, rd_na (by decide)]
          have r23' : M4.2.1 23 Q.length = v := by rw [← hM4, rd_self]
          have r24 : ∀ i, M4.2.1 24 i = M.2.1 24 i := by
            intro i
            rw [← hM4, rd_na (by decide), ← hM3, rd_na (by decide), ← hM2b, rd_na (by decide), ← hM2, rd_na (by decide), ← hM1, rd_na (by decide)]
          have hw : Wf M M4 := by
            rw [← hM4, ← hM3, ← hM2b, ← hM2, ← hM1]
            exact ((((Wf.rf.s (by decide) (by decide)).s (by decide) (by decide)).s (by decide) (by decide)).s (by decide) (by decide)).s (by decide) (by decide)
          refine e_vret dX4_add_96 rfl ⟨none, rfl, rfl, ?_, hw.c, fun i hi => by rw [rd_na (by decide)]; exact r23 i hi, fun _ => by rw [rd_na (by decide)]; exact r23'⟩
          rw [ad1_f hs]
          refine ⟨by rw [rd_self, List.length_append]; rfl, fun i q hi => ⟨by rw [rd_na (by decide)]; exact r21 i q hi, by rw [rd_na (by decide)]; exact r22 i q hi⟩, ⟨fun T hT => by rw [rd_na (by decide)]; exact r26 T hT, fun i q hi => by rw [rd_na (by decide)]; exact r25 i q hi, fun x y h1 h2 h3 => by rw [rd_na (by decide), r24]; exact h.2.2.1.2.2 x y h1 h2 h3⟩, fun q hq => ?_⟩
          rw [List.mem_append, List.mem_singleton] at hq
          rcases hq with hq | hq
          · exact h.2.2.2 q hq
          · rw [hq]; exact ⟨hS4, hx12⟩
        · exact absurd rfl hz
theorem pc_s (L n : Nat) : pc L (n + 1) = pc L n + (if L.testBit n = true then 1 else 0) := rfl
theorem pc_le0 (L : Nat) : ∀ n, pc L n ≤ n := by
  intro n
  induction n with
  | zero => exact Nat.le_refl _
  | succ n ih =>
    rw [pc_s]
    split <;> omega
theorem lo2_in {g : Nw} (wf : Wfn g) {a x y : Nat} (h : g.2.2 x = some y) (hx : x ≠ a) (hy : y ≠ a) : (Lw g a).testBit (lo2 g x) = true ∧ ((x = lo2 g x ∧ lo2 g x < y) ∨ (y = lo2 g x ∧ lo2 g x < x)) ∧ lo2 g x < g.1 := by
  have hm := wf.2.2.2.2 x y h
  have el : lo2 g x = min x y := by unfold lo2; rw [h]
  rw [el]
  by_cases hlt : x < y
  · rw [Nat.min_eq_left (by omega)]
    exact ⟨(Lw_bit wf).mpr ⟨y, h, hx, hy, hlt⟩, Or.inl ⟨rfl, hlt⟩, hm.2.1⟩
  · rw [Nat.min_eq_right (by omega)]
    exact ⟨(Lw_bit wf).mpr ⟨x, hm.1, hy, hx, by omega⟩, Or.inr ⟨rfl, by omega⟩, hm.2.2.1⟩
theorem sl1 {k : Nat} (hk : k < 30) : nI (2 ^ k) <<< ((1 : Int32) &&& 31) = nI (2 ^ (k + 1)) := by
  have hlt : 2 ^ k < 2 ^ 30 := Nat.pow_lt_pow_right (by decide) hk
  have h := pk_shlN (n := 2 ^ k) (nI 1 &&& 31) 1 (sh_am 1 (by decide)) (by omega)
  rw [show 2 ^ k * 2 ^ 1 = 2 ^ (k + 1) from (Nat.pow_succ 2 k).symm] at h
  exact h
theorem c_numberPairs {B : Bd} {M : Mm} {g : Nw} {a : Nat} (ok : OkM M) (hn : NetRep M 2 g) (wf : Wfn g) (ha : a < g.1) : Ct B mX4_numberPairs 0 0 0 [.ref 19, .ref 2, .int (nI a)] M (Rt (fun u N => u = none ∧ WB g a N ∧ Fr 24 24 M N)) := by
  have hg12 := wf.1.2
  refine Ct.of (by decide) rfl rfl (Nat.le_of_ble_eq_true rfl) ?_
  have loop : ∀ j b N (t : Option Value), b + j = g.1 → (∀ x y, g.2.2 x = some y → x ≠ a → y ≠ a → lo2 g x < b → N.2.1 24 x = nI (2 ^ pbt g a x)) → Fr 24 24 M N → Ev B mX4_numberPairs 0 0 0 (Rt (fun u N => u = none ∧ WB g a N ∧ Fr 24 24 M N)) 5 [some (.ref 19), some (.ref 2), some (.int (nI a)), some (.int (nI (2 ^ pc (Lw g a) b))), some (.int (nI b)), t] [] N := by
    intro j
    induction j with
    | zero =>
      intro b N t hb hw hf
      have okN : OkM N := ok.fr hf
      have hnN : NetRep N 2 g := hn.fr hf (by omega)
      refine e_iload dX4_numberPairs_5 rfl ?_
      refine e_aload_n dX4_numberPairs_7 rfl rfl ?_
      refine e_getI dX4_numberPairs_8 fRX4_63 (by first | exact okN.sh rfl | exact hnN.1.1 | exact hnN.1.2.2.2.1) (fun _ => rfl) ?_
      rw [hnN.2.1]
      refine e_icmp_ge (tgt := 68) dX4_numberPairs_11 (by decide) (fun hc => ?_) (fun hc => ?_)
      · exact e_vret dX4_numberPairs_68 rfl ⟨none, rfl, rfl, fun x y h1 h2 h3 => hw x y h1 h2 h3 (by have := (lo2_in wf h1 h2 h3).2.2; omega), hf⟩
      · exact absurd (nI_le (by omega : g.1 ≤ b) (by omega)) hc
    | succ j ih =>
      intro b N t hb hw hf
      have okN : OkM N := ok.fr hf
      have hnN : NetRep N 2 g := hn.fr hf (by omega)
      have hb12 : b < 12 := by omega
      have hpb := pc_le0 (Lw g a) b
      -- a node that is no lesser one of its pair
      have skip : ∀ (t : Option Value), ¬ (Lw g a).testBit b = true → Ev B mX4_numberPairs 0 0 0 (Rt (fun u N => u = none ∧ WB g a N ∧ Fr 24 24 M N)) 62 [some (.ref 19), some (.ref 2), some (.int (nI a)), some (.int (nI (2 ^ pc (Lw g a) b))), some (.int (nI b)), t] [] N := by
        intro t hL
        refine e_iinc (v := nI (b + 1)) dX4_numberPairs_62 rfl (nI_1 b) (by decide) rfl rfl ?_
        refine e_goto (tgt := 5) dX4_numberPairs_65 (by decide) ?_
        have e : pc (Lw g a) (b + 1) = pc (Lw g a) b := by rw [pc_s, if_neg hL, Nat.add_zero]
        rw [← e]
        refine ih (b + 1) N t (by omega) (fun x y h1 h2 h3 h4 => ?_) hf
        refine hw x y h1 h2 h3 ?_
        have h5 := (lo2_in wf h1 h2 h3).1
        rcases Nat.lt_or_ge (lo2 g x) b with h6 | h6
        · exact h6
        · have : lo2 g x = b := by omega
          rw [this] at h5; exact absurd h5 hL
      refine e_iload dX4_numberPairs_5 rfl ?_
      refine e_aload_n dX4_numberPairs_7 rfl rfl ?_
      refine e_getI dX4_numberPairs_8 fRX4_63 (by first | exact okN.sh rfl | exact hnN.1.1 | exact hnN.1.2.2.2.1) (fun _ => rfl) ?_
      rw [hnN.2.1]
      refine e_icmp_ge (tgt := 68) dX4_numberPairs_11 (by decide) (fun hc => ?_) (fun hc => ?_)
      · exact absurd hc (nI_ge (by omega) (by omega))
      · refine e_aload_n dX4_numberPairs_14 rfl rfl ?_
        refine e_getR dX4_numberPairs_15 fRX4_68 (by first | exact okN.sh rfl | exact hnN.1.1 | exact hnN.1.2.2.2.1) (by first | exact okN.rf rfl | exact hnN.1.2.2.2.2.2.2) (fun _ => rfl) ?_
        refine e_iload dX4_numberPairs_18 rfl ?_
        refine e_iaload dX4_numberPairs_20 (by first | exact okN.sh rfl | exact hnN.1.1 | exact hnN.1.2.2.2.1) (by exact vp_in_nI hb12 (by decide)) ?_
        rw [nI_clamp (by omega), hnN.2.2.2.2.2 b hb12]
        cases hm : g.2.2 b with
        | none =>
          show Ev _ _ _ _ _ _ 21 _ [.int (-1)] _
          refine e_istore dX4_numberPairs_21 (by decide) rfl rfl ?_
          refine e_iload dX4_numberPairs_23 rfl ?_
          refine e_iload dX4_numberPairs_25 rfl ?_
          refine e_icmp_le (tgt := 62) dX4_numberPairs_27 (by decide) (fun _ => ?_) (fun hz => absurd ?_ hz)
          · refine skip _ (fun q => ?_)
            obtain ⟨y, h1, -⟩ := (Lw_bit wf).mp q
            rw [hm] at h1; cases h1
          · rw [fa_le, nI_toInt (by omega)]
            show (-1 : Int) ≤ _
            omega
        | some y =>
          have hmy := wf.2.2.2.2 b y hm
          have hy12 : y < 12 := by omega
          show Ev _ _ _ _ _ _ 21 _ [.int (nI y)] _
          refine e_istore dX4_numberPairs_21 (by decide) rfl rfl ?_
          refine e_iload dX4_numberPairs_23 rfl ?_
          refine e_iload dX4_numberPairs_25 rfl ?_
          refine e_icmp_le (tgt := 62) dX4_numberPairs_27 (by decide) (fun hz => ?_) (fun hz => ?_)
          · rw [nI_leI (by omega) (by omega)] at hz
            refine skip _ (fun q => ?_)
            obtain ⟨y', h1, h2, h3, h4⟩ := (Lw_bit wf).mp q
            rw [hm] at h1; cases h1; omega
          · rw [nI_leI (by omega) (by omega)] at hz
            refine e_iload dX4_numberPairs_30 rfl ?_
            refine e_iload_n dX4_numberPairs_32 rfl rfl ?_
            refine e_icmp_eq (tgt := 62) dX4_numberPairs_33 (by decide) (fun hz2 => ?_) (fun hz2 => ?_)
            · rw [nI_eq (by omega) (by omega)] at hz2
              refine skip _ (fun q => ?_)
              obtain ⟨y', h1, h2, h3, h4⟩ := (Lw_bit wf).mp q
              exact h2 hz2
            · refine e_iload dX4_numberPairs_36 rfl ?_
              refine e_iload_n dX4_numberPairs_38 rfl rfl ?_
              refine e_icmp_eq (tgt := 62) dX4_numberPairs_39 (by decide) (fun hz3 => ?_) (fun hz3 => ?_)
              · rw [nI_eq (by omega) (by omega)] at hz3
                refine skip _ (fun q => ?_)
                obtain ⟨y', h1, h2, h3, h4⟩ := (Lw_bit wf).mp q
                rw [hm] at h1; cases h1
                exact h3 hz3
              · have hba : b ≠ a := fun q => hz2 (by rw [q])
                have hya : y ≠ a := fun q => hz3 (by rw [q])
                have hL : (Lw g a).testBit b = true := (Lw_bit wf).mpr ⟨y, hm, hba, hya, by omega⟩
                have hlb : lo2 g b = b := by
                  unfold lo2
                  rw [hm]
                  exact Nat.min_eq_left (by omega)
                have hly : lo2 g y = b := by rw [lo2_mate wf hm, hlb]
                refine e_aload_n dX4_numberPairs_42 rfl rfl ?_
                refine e_getR dX4_numberPairs_43 fRX4_37 (by first | exact okN.sh rfl | exact hnN.1.1 | exact hnN.1.2.2.2.1) (by first | exact okN.rf rfl | exact hnN.1.2.2.2.2.2.2) (fun _ => rfl) ?_
                refine e_iload dX4_numberPairs_46 rfl ?_
                refine e_iload_n dX4_numberPairs_48 rfl rfl ?_
                refine e_iastore dX4_numberPairs_49 (by first | exact okN.sh rfl | exact hnN.1.1 | exact hnN.1.2.2.2.1) (by first | exact vp_in_nI hb12 (by decide) | exact vp_in_nI hy12 (by decide)) ?_
                refine e_aload_n dX4_numberPairs_50 rfl rfl ?_
                refine e_getR dX4_numberPairs_51 fRX4_37 (by first | exact okN.sh rfl | exact hnN.1.1 | exact hnN.1.2.2.2.1) (by first | exact okN.rf rfl | exact hnN.1.2.2.2.2.2.2) (fun _ => rfl) ?_
                refine e_iload dX4_numberPairs_54 rfl ?_
                refine e_iload_n dX4_numberPairs_56 rfl rfl ?_
                refine e_iastore dX4_numberPairs_57 (by first | exact okN.sh rfl | exact hnN.1.1 | exact hnN.1.2.2.2.1) (by first | exact vp_in_nI hb12 (by decide) | exact vp_in_nI hy12 (by decide)) ?_
                refine e_iload_n dX4_numberPairs_58 rfl rfl ?_
                refine e_iconst (v := 1) dX4_numberPairs_59 (by decide) ?_
                refine e_ishl dX4_numberPairs_60 ?_
                rw [nI_clamp (by omega), nI_clamp (by omega), sl1 (by omega)]
                refine e_istore_n dX4_numberPairs_61 rfl (by decide) rfl rfl ?_
                refine e_iinc (v := nI (b + 1)) dX4_numberPairs_62 rfl (nI_1 b) (by decide) rfl rfl ?_
                refine e_goto (tgt := 5) dX4_numberPairs_65 (by decide) ?_
                have e : pc (Lw g a) (b + 1) = pc (Lw g a) b + 1 := by rw [pc_s, if_pos hL]
                rw [← e]
                refine ih (b + 1) _ _ (by omega) (fun x z h1 h2 h3 h4 => ?_) ((hf.sI (by decide) (by decide)).sI (by decide) (by decide))
                rw [rd_sI, rd_sI]
                by_cases hxy : x = y
                · rw [if_pos ⟨rfl, hxy⟩, hxy]
                  unfold pbt
                  rw [hly]
                · rw [if_neg (fun q => hxy q.2)]
                  by_cases hxb : x = b
                  · rw [if_pos ⟨rfl, hxb⟩, hxb]
                    unfold pbt
                    rw [hlb]
                  · rw [if_neg (fun q => hxb q.2)]
                    refine hw x z h1 h2 h3 ?_
                    rcases Nat.lt_or_ge (lo2 g x) b with h6 | h6
                    · exact h6
                    · exfalso
                      have h7 : lo2 g x = b := by omega
                      rcases (lo2_in wf h1 h2 h3).2.1 with ⟨h8, -⟩ | ⟨h8, -⟩
                      · exact hxb (by omega)
                      · have h9 : z = b := by omega
                        have h10 := (wf.2.2.2.2 x z h1).1
                        rw [h9, hm] at h10
                        exact hxy (Option.some.inj h10).symm
  refine e_iconst (v := 1) dX4_numberPairs_0 (by decide) ?_
  refine e_istore_n dX4_numberPairs_1 rfl (by decide) rfl rfl ?_
  refine e_iconst (v := 0) dX4_numberPairs_2 (by decide) ?_
  refine e_istore dX4_numberPairs_3 (by decide) rfl rfl ?_
  exact loop g.1 0 M none (by omega) (fun _ _ _ _ _ h => by omega) Fr.rf

