theorem bd_r {α β : Type} (a : α) (f : α → Fl ⊕ β) : bd (.inr a) f = f a := rfl
theorem bd_l {α β : Type} (e : Fl) (f : α → Fl ⊕ β) : bd (.inl e) f = .inl e := rfl
theorem sk_sk (T : Nat → Nat) (n p : Nat) : sk T n (sk T n p) = sk T n p := ru_fix _ _ _
theorem ahd_sk (T : Nat → Nat) (n p : Nat) : ahd T n (sk T n p) = ahd T n p := by unfold ahd; rw [sk_sk]
theorem nval_sk (T : Nat → Nat) (n p : Nat) : nval T n (sk T n p) = nval T n p := by unfold nval; rw [sk_sk]
theorem pnum_sk (T : Nat → Nat) (n lo hi p : Nat) : pnum T n lo hi (sk T n p) = pnum T n lo hi p := by unfold pnum; rw [ahd_sk, nval_sk, sk_sk]
theorem pend_sk (T : Nat → Nat) (n p : Nat) : pend T n (sk T n p) = pend T n p := by unfold pend; rw [sk_sk]
theorem pnum_ok {T : Nat → Nat} {n lo hi p e v q : Nat} (hp : p ≤ n) (h : pnum T n lo hi p = .inr (e, v, q)) : e ≤ n ∧ lo ≤ v ∧ v ≤ hi ∧ q ≤ n ∧ p < e := by
  unfold pnum at h
  by_cases ha : ahd T n p = true
  · rw [if_pos ha] at h
    by_cases hv : lo ≤ nval T n p ∧ nval T n p ≤ hi
    · rw [if_pos hv] at h
      have hs := sk_le (T := T) hp
      have hr := ru_le (c := isD T) hs
      have hab := ha
      unfold ahd at hab
      rw [Bool.and_eq_true, decide_eq_true_eq] at hab
      have h1 := ru_t hab.1 hab.2
      have h2 := ru_ge (isD T) n (sk T n p + 1)
      have h3 : p ≤ sk T n p := ru_ge _ _ _
      cases h
      exact ⟨hr, hv.1, hv.2, hs, by omega⟩
    · rw [if_neg hv] at h; cases h
  · rw [if_neg ha] at h; cases h
def WP (s : Ps) : Prop := Wfn (s.1, s.2.1, (pmt s.2.2).1) ∧ ∀ ab, ab ∈ s.2.2 → ab.1 < s.1 ∧ ab.2 < s.1 ∧ ab.1 ≠ ab.2
def RdS (M : Mm) (s : Ps) : Prop := NetRep M 6 (s.1, s.2.1, (pmt s.2.2).1) ∧ M.2.1 11 6 = (if (pmt s.2.2).2 = true then 1 else 0) ∧ WP s
theorem RdS.rf {M N : Mm} {s : Ps} {ks : List Nat} (h : RdS M s) (hf : RF ks M N) (h6 : 6 ∉ ks) : RdS N s := ⟨h.1.fr hf.1 (by omega), by rw [hf.2 6 h6]; exact h.2.1, h.2.2⟩
/-- what a statement leaves -/
def StP (T : Nat → Nat) (n : Nat) (M : Mm) (x : Fl ⊕ (Nat × Ps)) : Ot → Mm → Prop := Rt (fun u N => u = none ∧ Tx N T n ∧ Fr 6 12 M N ∧ match x with
  | .inl f => Rd N n (.inl f)
  | .inr (e, s) => Rd N n (.inr e) ∧ RdS N s)
theorem Tx.fr {M N : Mm} {T : Nat → Nat} {n : Nat} (h : Tx M T n) (hf : Fr 6 9 M N) : Tx N T n := by
  obtain ⟨a, b, c, d, e⟩ := h
  refine ⟨by rw [hf.2.1]; exact a, by rw [hf.2.2 11 (by omega)]; exact b, c, d, fun i hi => ?_⟩
  rw [hf.2.2 1 (by omega)]; exact e i hi
theorem Rd.fr {M N : Mm} {n : Nat} {x : Fl ⊕ Nat} (h : Rd M n x) (hf : Fr 6 9 M N) : Rd N n x := by
  have e := hf.2.2 11 (by omega)
  cases x with
  | inl f => obtain ⟨k, pl⟩ := f; unfold Rd; rw [e]; exact h
  | inr p => unfold Rd; rw [e]; exact h
theorem Wfn_put {g : Nw} {a b k : Nat} (wf : Wfn g) (ha : a < g.1) (hb : b < g.1) (hab : a ≠ b) (hk : k ≤ 999) : Wfn (gPut g a b (some k)) := by
  refine ⟨wf.1, fun x y => ?_, fun x => ?_, fun x y j hj => ?_, wf.2.2.2.2⟩
  · show w2 g.2.1 a b (some k) x y = w2 g.2.1 a b (some k) y x
    unfold w2
    by_cases h1 : (x = a ∧ y = b) ∨ (x = b ∧ y = a)
    · rw [if_pos h1, if_pos (h1.elim (fun q => Or.inr ⟨q.2, q.1⟩) (fun q => Or.inl ⟨q.2, q.1⟩))]
    · rw [if_neg h1, if_neg (fun q => h1 (q.elim (fun q => Or.inr ⟨q.2, q.1⟩) (fun q => Or.inl ⟨q.2, q.1⟩)))]
      exact wf.2.1 x y
  · show w2 g.2.1 a b (some k) x x = none
    unfold w2
    rw [if_neg (by omega)]
    exact wf.2.2.1 x
  · have hj' : w2 g.2.1 a b (some k) x y = some j := hj
    unfold w2 at hj'
    by_cases h1 : (x = a ∧ y = b) ∨ (x = b ∧ y = a)
    · rw [if_pos h1] at hj'
      have := Option.some.inj hj'
      show x < g.1 ∧ y < g.1 ∧ j ≤ 999
      rcases h1 with ⟨h1, h2⟩ | ⟨h1, h2⟩ <;> omega
    · rw [if_neg h1] at hj'
      exact wf.2.2.2.1 x y j hj'
theorem nI_m1 {x : Nat} (h : 1 ≤ x) : nI x - 1 = nI (x - 1) := by
  have : nI (x - 1) + 1 = nI x := by rw [nI_1]; congr 1; omega
  rw [← this, Int32.add_sub_cancel]
/-- a fault: kind isn't 0 -/
theorem Rd.k {M : Mm} {n : Nat} {f : Fl} (h : Rd M n (.inl f)) : ¬ M.2.1 11 0 = 0 := by
  obtain ⟨k, pl⟩ := f
  rw [h.2.1]; exact k_ne ⟨h.1.1, h.1.2.1⟩
theorem two_readLine {B : Bd} {M : Mm} {T : Nat → Nat} {n p : Nat} {s : Ps} {Φ : Ot → Mm → Prop} (ok : OkM M) (h : Tx M T n) (hx : Rd M n (.inr p)) (hs : RdS M s) (kk : ∀ N r1 r2, Tx N T n → RF [0, 1, 4, 5] M N → Rd N n (bd (ptwo T n (s.1 - 1) p) (fun e => .inr e.1)) → (∀ e a b, ptwo T n (s.1 - 1) p = .inr (e, a, b) → r1 = nI a ∧ r2 = nI b) → Ev B mX3_readLine 3 0 0 Φ 30 [some (.ref 11), some (.ref 6), some (.int r1), some (.int r2), none] [] N) : Ev B mX3_readLine 3 0 0 Φ 0 [some (.ref 11), some (.ref 6), none, none, none] [] M := by
  have hn := h.2.2.1
  have hg1 := hs.2.2.1.1
  have hg1' : 1 ≤ s.1 ∧ s.1 ≤ 12 := hg1
  refine e_aload_n dX3_readLine_0 rfl rfl ?_
  refine e_iconst (v := 0) dX3_readLine_1 (by decide) ?_
  refine e_aload_n dX3_readLine_2 rfl rfl ?_
  refine e_getI dX3_readLine_3 fRX3_92 (by exact ok.sh rfl) (fun _ => rfl) ?_
  rw [hs.1.2.1]
  refine e_iconst (v := 1) dX3_readLine_6 (by decide) ?_
  refine e_isub dX3_readLine_7 ?_
  rw [nI_m1 hg1'.1]
  refine e_callV1 [_, _] dX3_readLine_8 mvmX3_takeNumber lkRX3_62 (by exact ok.sh rfl) ⟨by decide, rfl⟩ rfl rfl (Nat.le_of_ble_eq_true rfl) (by decide) (c_takeNumber (lo := 0) (hi := s.1 - 1) ok h hx (by decide) (by omega)) (fun u N1 h1 => ?_)
  obtain ⟨r1, hu, rd1, rf1, v1⟩ := h1
  subst hu
  have ok1 : OkM N1 := ok.fr rf1.1
  have t1 := h.rf rf1 (by decide)
  have s1 := hs.rf rf1 (by decide)
  refine e_istore_n dX3_readLine_11 rfl (by decide) rfl rfl ?_
  refine e_aload_n dX3_readLine_12 rfl rfl ?_
  refine e_iconst (v := 0) dX3_readLine_13 (by decide) ?_
  refine e_aload_n dX3_readLine_14 rfl rfl ?_
  refine e_getI dX3_readLine_15 fRX3_92 (by exact ok1.sh rfl) (fun _ => rfl) ?_
  rw [s1.1.2.1]
  refine e_iconst (v := 1) dX3_readLine_18 (by decide) ?_
  refine e_isub dX3_readLine_19 ?_
  rw [nI_m1 hg1'.1]
  refine e_callV1 [_, _] dX3_readLine_20 mvmX3_takeNumber lkRX3_62 (by exact ok1.sh rfl) ⟨by decide, rfl⟩ rfl rfl (Nat.le_of_ble_eq_true rfl) (by decide) (c_takeNumber (lo := 0) (hi := s.1 - 1) ok1 t1 rd1 (by decide) (by omega)) (fun u N2 h2 => ?_)
  obtain ⟨r2, hu, rd2, rf2, v2⟩ := h2
  subst hu
  have ok2 : OkM N2 := ok1.fr rf2.1
  have t2 := t1.rf rf2 (by decide)
  refine e_istore_n dX3_readLine_23 rfl (by decide) rfl rfl ?_
  refine e_aload_n dX3_readLine_24 rfl rfl ?_
  refine e_iload_n dX3_readLine_25 rfl rfl ?_
  refine e_iload_n dX3_readLine_26 rfl rfl ?_
  refine e_callV0v [_, _] dX3_readLine_27 mvmX3_needUnlike lkRX3_94 (by exact ok2.sh rfl) ⟨by decide, rfl⟩ rfl rfl (Nat.le_of_ble_eq_true rfl) (by decide) (c_needUnlike ok2) ?_
  -- the three ways
  cases hp1 : pnum T n 0 (s.1 - 1) p with
  | inl f =>
    have e9 : ptwo T n (s.1 - 1) p = .inl f := by unfold ptwo; rw [hp1]
    have rd2' : Rd N2 n (.inl f) := by
      simp only [bd_r, bd_l, hp1] at rd2
      exact rd2
    rw [if_neg (fun q => rd2'.k q.2)]
    exact kk N2 r1 r2 t2 (rf1.trans rf2) (by rw [e9]; exact rd2') (fun e a b q => by rw [e9] at q; cases q)
  | inr w =>
    obtain ⟨e1, a, q1⟩ := w
    have ho1 := pnum_ok hx.1 hp1
    obtain ⟨va, -⟩ := v1 p e1 a q1 rfl hp1
    have rd1' : Rd N1 n (.inr e1) := by
      simp only [bd_r, bd_l, hp1] at rd1
      exact rd1
    cases hp2 : pnum T n 0 (s.1 - 1) e1 with
    | inl f =>
      have e9 : ptwo T n (s.1 - 1) p = .inl f := by unfold ptwo; rw [hp1]; dsimp only; rw [hp2]
      have rd2' : Rd N2 n (.inl f) := by
        simp only [bd_r, bd_l, hp1, hp2] at rd2
        exact rd2
      rw [if_neg (fun q => rd2'.k q.2)]
      exact kk N2 r1 r2 t2 (rf1.trans rf2) (by rw [e9]; exact rd2') (fun e a b q => by rw [e9] at q; cases q)
    | inr w2 =>
      obtain ⟨e2, b, q2⟩ := w2
      have ho2 := pnum_ok ho1.1 hp2
      obtain ⟨vb, n5⟩ := v2 e1 e2 b q2 (by simp only [bd_r, hp1]) hp2
      have rd2' : Rd N2 n (.inr e2) := by
        simp only [bd_r, bd_l, hp1, hp2] at rd2
        exact rd2
      have hab : r1 = r2 ↔ a = b := by rw [va, vb]; exact nI_eq (by omega) (by omega)
      by_cases hq : a = b
      · have e9 : ptwo T n (s.1 - 1) p = .inl (2, q2) := by unfold ptwo; rw [hp1]; dsimp only; rw [hp2]; dsimp only; rw [if_pos hq]
        rw [if_pos ⟨hab.mpr hq, rd2'.2.1⟩, n5]
        have hrf : RF [0, 1, 4, 5] M (sI (sI N2 11 0 2) 11 1 (nI q2)) := ((rf1.trans rf2).s (by decide)).s (by decide)
        exact kk _ r1 r2 (h.rf hrf (by decide)) hrf (by rw [e9]; exact Rd.fl rd2'.1 rd2'.2.2.2 ⟨by decide, by decide, ho2.2.2.2.1⟩ rfl) (fun e a b q => by rw [e9] at q; cases q)
      · have e9 : ptwo T n (s.1 - 1) p = .inr (e2, a, b) := by unfold ptwo; rw [hp1]; dsimp only; rw [hp2]; dsimp only; rw [if_neg hq]
        rw [if_neg (fun q => hq (hab.mp q.1))]
        exact kk N2 r1 r2 t2 (rf1.trans rf2) (by rw [e9]; exact rd2') (fun e a' b' q => by
          rw [e9] at q
          cases q
          exact ⟨va, vb⟩)
theorem two_readPair {B : Bd} {M : Mm} {T : Nat → Nat} {n p : Nat} {s : Ps} {Φ : Ot → Mm → Prop} (ok : OkM M) (h : Tx M T n) (hx : Rd M n (.inr p)) (hs : RdS M s) (kk : ∀ N r1 r2, Tx N T n → RF [0, 1, 4, 5] M N → Rd N n (bd (ptwo T n (s.1 - 1) p) (fun e => .inr e.1)) → (∀ e a b, ptwo T n (s.1 - 1) p = .inr (e, a, b) → r1 = nI a ∧ r2 = nI b) → Ev B mX3_readPair 3 0 0 Φ 30 [some (.ref 11), some (.ref 6), some (.int r1), some (.int r2)] [] N) : Ev B mX3_readPair 3 0 0 Φ 0 [some (.ref 11), some (.ref 6), none, none] [] M := by
  have hn := h.2.2.1
  have hg1 := hs.2.2.1.1
  have hg1' : 1 ≤ s.1 ∧ s.1 ≤ 12 := hg1
  refine e_aload_n dX3_readPair_0 rfl rfl ?_
  refine e_iconst (v := 0) dX3_readPair_1 (by decide) ?_
  refine e_aload_n dX3_readPair_2 rfl rfl ?_
  refine e_getI dX3_readPair_3 fRX3_92 (by exact ok.sh rfl) (fun _ => rfl) ?_
  rw [hs.1.2.1]
  refine e_iconst (v := 1) dX3_readPair_6 (by decide) ?_
  refine e_isub dX3_readPair_7 ?_
  rw [nI_m1 hg1'.1]
  refine e_callV1 [_, _] dX3_readPair_8 mvmX3_takeNumber lkRX3_62 (by exact ok.sh rfl) ⟨by decide, rfl⟩ rfl rfl (Nat.le_of_ble_eq_true rfl) (by decide) (c_takeNumber (lo := 0) (hi := s.1 - 1) ok h hx (by decide) (by omega)) (fun u N1 h1 => ?_)
  obtain ⟨r1, hu, rd1, rf1, v1⟩ := h1
  subst hu
  have ok1 : OkM N1 := ok.fr rf1.1
  have t1 := h.rf rf1 (by decide)
  have s1 := hs.rf rf1 (by decide)
  refine e_istore_n dX3_readPair_11 rfl (by decide) rfl rfl ?_
  refine e_aload_n dX3_readPair_12 rfl rfl ?_
  refine e_iconst (v := 0) dX3_readPair_13 (by decide) ?_
  refine e_aload_n dX3_readPair_14 rfl rfl ?_
  refine e_getI dX3_readPair_15 fRX3_92 (by exact ok1.sh rfl) (fun _ => rfl) ?_
  rw [s1.1.2.1]
  refine e_iconst (v := 1) dX3_readPair_18 (by decide) ?_
  refine e_isub dX3_readPair_19 ?_
  rw [nI_m1 hg1'.1]
  refine e_callV1 [_, _] dX3_readPair_20 mvmX3_takeNumber lkRX3_62 (by exact ok1.sh rfl) ⟨by decide, rfl⟩ rfl rfl (Nat.le_of_ble_eq_true rfl) (by decide) (c_takeNumber (lo := 0) (hi := s.1 - 1) ok1 t1 rd1 (by decide) (by omega)) (fun u N2 h2 => ?_)
  obtain ⟨r2, hu, rd2, rf2, v2⟩ := h2
  subst hu
  have ok2 : OkM N2 := ok1.fr rf2.1
  have t2 := t1.rf rf2 (by decide)
  refine e_istore_n dX3_readPair_23 rfl (by decide) rfl rfl ?_
  refine e_aload_n dX3_readPair_24 rfl rfl ?_
  refine e_iload_n dX3_readPair_25 rfl rfl ?_
  refine e_iload_n dX3_readPair_26 rfl rfl ?_
  refine e_callV0v [_, _] dX3_readPair_27 mvmX3_needUnlike lkRX3_94 (by exact ok2.sh rfl) ⟨by decide, rfl⟩ rfl rfl (Nat.le_of_ble_eq_true rfl) (by decide) (c_needUnlike ok2) ?_
  -- the three ways
  cases hp1 : pnum T n 0 (s.1 - 1) p with
  | inl f =>
    have e9 : ptwo T n (s.1 - 1) p = .inl f := by unfold ptwo; rw [hp1]
    have rd2' : Rd N2 n (.inl f) := by
      simp only [bd_r, bd_l, hp1] at rd2
      exact rd2
    rw [if_neg (fun q => rd2'.k q.2)]
    exact kk N2 r1 r2 t2 (rf1.trans rf2) (by rw [e9]; exact rd2') (fun e a b q => by rw [e9] at q; cases q)
  | inr w =>
    obtain ⟨e1, a, q1⟩ := w
    have ho1 := pnum_ok hx.1 hp1
    obtain ⟨va, -⟩ := v1 p e1 a q1 rfl hp1
    have rd1' : Rd N1 n (.inr e1) := by
      simp only [bd_r, bd_l, hp1] at rd1
      exact rd1
    cases hp2 : pnum T n 0 (s.1 - 1) e1 with
    | inl f =>
      have e9 : ptwo T n (s.1 - 1) p = .inl f := by unfold ptwo; rw [hp1]; dsimp only; rw [hp2]
      have rd2' : Rd N2 n (.inl f) := by
        simp only [bd_r, bd_l, hp1, hp2] at rd2
        exact rd2
      rw [if_neg (fun q => rd2'.k q.2)]
      exact kk N2 r1 r2 t2 (rf1.trans rf2) (by rw [e9]; exact rd2') (fun e a b q => by rw [e9] at q; cases q)
    | inr w2 =>
      obtain ⟨e2, b, q2⟩ := w2
      have ho2 := pnum_ok ho1.1 hp2
      obtain ⟨vb, n5⟩ := v2 e1 e2 b q2 (by simp only [bd_r, hp1]) hp2
      have rd2' : Rd N2 n (.inr e2) := by
        simp only [bd_r, bd_l, hp1, hp2] at rd2
        exact rd2
      have hab : r1 = r2 ↔ a = b := by rw [va, vb]; exact nI_eq (by omega) (by omega)
      by_cases hq : a = b
      · have e9 : ptwo T n (s.1 - 1) p = .inl (2, q2) := by unfold ptwo; rw [hp1]; dsimp only; rw [hp2]; dsimp only; rw [if_pos hq]
        rw [if_pos ⟨hab.mpr hq, rd2'.2.1⟩, n5]
        have hrf : RF [0, 1, 4, 5] M (sI (sI N2 11 0 2) 11 1 (nI q2)) := ((rf1.trans rf2).s (by decide)).s (by decide)
        exact kk _ r1 r2 (h.rf hrf (by decide)) hrf (by rw [e9]; exact Rd.fl rd2'.1 rd2'.2.2.2 ⟨by decide, by decide, ho2.2.2.2.1⟩ rfl) (fun e a b q => by rw [e9] at q; cases q)
      · have e9 : ptwo T n (s.1 - 1) p = .inr (e2, a, b) := by unfold ptwo; rw [hp1]; dsimp only; rw [hp2]; dsimp only; rw [if_neg hq]
        rw [if_neg (fun q => hq (hab.mp q.1))]
        exact kk N2 r1 r2 t2 (rf1.trans rf2) (by rw [e9]; exact rd2') (fun e a' b' q => by
          rw [e9] at q
          cases q
          exact ⟨va, vb⟩)
theorem ptwo_ok {T : Nat → Nat} {n hi p e a b : Nat} (hp : p ≤ n) (h : ptwo T n hi p = .inr (e, a, b)) : e ≤ n ∧ a ≤ hi ∧ b ≤ hi ∧ a ≠ b ∧ p < e := by
  unfold ptwo at h
  cases h1 : pnum T n 0 hi p with
  | inl f => rw [h1] at h; cases h
  | inr w =>
    obtain ⟨e1, a1, q1⟩ := w
    have o1 := pnum_ok hp h1
    rw [h1] at h
    dsimp only at h
    cases h2 : pnum T n 0 hi e1 with
    | inl f => rw [h2] at h; cases h
    | inr w =>
      obtain ⟨e2, b1, q2⟩ := w
      have o2 := pnum_ok o1.1 h2
      rw [h2] at h
      dsimp only at h
      by_cases hq : a1 = b1
      · rw [if_pos hq] at h; cases h
      · rw [if_neg hq] at h
        cases h
        exact ⟨o2.1, o1.2.2.1, o2.2.2.1, hq, by omega⟩

