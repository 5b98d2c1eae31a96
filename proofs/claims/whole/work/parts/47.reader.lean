/-! Reader: cell 11, its ring 12; the tape is cell 1 -/
/-- of the reader only the fields ks have changed -/
def RF (ks : List Nat) (M N : Mm) : Prop := Fr 11 11 M N ∧ ∀ j, j ∉ ks → N.2.1 11 j = M.2.1 11 j
theorem RF.rf {ks : List Nat} {M : Mm} : RF ks M M := ⟨Fr.rf, fun _ _ => rfl⟩
theorem RF.trans {ks : List Nat} {M N K : Mm} (h1 : RF ks M N) (h2 : RF ks N K) : RF ks M K := ⟨h1.1.trans h2.1, fun j hj => (h2.2 j hj).trans (h1.2 j hj)⟩
theorem RF.wide {ks ks2 : List Nat} {M N : Mm} (h : RF ks M N) (hs : ∀ j, j ∈ ks → j ∈ ks2) : RF ks2 M N := ⟨h.1, fun j hj => h.2 j (fun q => hj (hs j q))⟩
theorem RF.s {ks : List Nat} {M N : Mm} (h : RF ks M N) {i : Nat} {v : Int32} (hi : i ∈ ks) : RF ks M (sI N 11 i v) := ⟨h.1.sI (by decide) (by decide), fun j hj => by rw [rd_ni (j := j) (i := i) (fun e => hj (by rw [e]; exact hi))]; exact h.2 j hj⟩
/-- the text: n bytes of the tape -/
def Tx (M : Mm) (T : Nat → Nat) (n : Nat) : Prop := M.2.2.2 11 2 = some 1 ∧ M.2.1 11 3 = nI n ∧ n ≤ 500 ∧ (∀ i, T i < 256) ∧ ∀ i, i < 500 → M.2.1 1 i = sb (T i)
theorem Tx.rf {M N : Mm} {T : Nat → Nat} {n : Nat} {ks : List Nat} (h : Tx M T n) (hf : RF ks M N) (h3 : 3 ∉ ks) : Tx N T n := by
  obtain ⟨a, b, c, d, e⟩ := h
  refine ⟨by rw [hf.1.2.1]; exact a, by rw [hf.2 3 h3]; exact b, c, d, fun i hi => ?_⟩
  rw [hf.1.2.2 1 (by omega)]; exact e i hi
theorem c_isDigit {B : Bd} {M : Mm} {t : Nat} (ht : t < 256) : Ct B mX3_isDigit 0 0 0 [.int (sb t)] M (Is (some (.int (if 48 ≤ t ∧ t ≤ 57 then 1 else 0))) M) := by
  have hs := sb_lt48 t ht
  refine Ct.of (by decide) rfl rfl (Nat.le_of_ble_eq_true rfl) ?_
  refine e_iload_n dX3_isDigit_0 rfl rfl ?_
  refine e_bipush (v := 48) dX3_isDigit_1 (by decide) ?_
  refine e_icmp_lt (tgt := 16) dX3_isDigit_3 (by decide) (fun h1 => ?_) (fun h1 => ?_)
  · refine e_iconst (v := 0) dX3_isDigit_16 (by decide) ?_
    rw [if_neg (fun q => (hs.mpr q).1 h1)]
    exact e_iret dX3_isDigit_17 rfl rfl (⟨rfl, rfl⟩)
  · refine e_iload_n dX3_isDigit_6 rfl rfl ?_
    refine e_bipush (v := 57) dX3_isDigit_7 (by decide) ?_
    refine e_icmp_gt (tgt := 16) dX3_isDigit_9 (by decide) (fun h2 => ?_) (fun h2 => ?_)
    · refine e_iconst (v := 0) dX3_isDigit_16 (by decide) ?_
      rw [if_neg (fun q => (hs.mpr q).2 h2)]
      exact e_iret dX3_isDigit_17 rfl rfl (⟨rfl, rfl⟩)
    · refine e_iconst (v := 1) dX3_isDigit_12 (by decide) ?_
      refine e_goto (tgt := 17) dX3_isDigit_13 (by decide) ?_
      rw [if_pos (hs.mp ⟨h1, h2⟩)]
      exact e_iret dX3_isDigit_17 rfl rfl (⟨rfl, rfl⟩)
theorem c_fail {B : Bd} {M : Mm} {k p : Int32} (ok : OkM M) : Ct B mX3_fail 0 0 0 [.ref 11, .int k, .int p] M (Is none (if M.2.1 11 0 = 0 then sI (sI M 11 0 k) 11 1 p else M)) := by
  refine Ct.of (by decide) rfl rfl (Nat.le_of_ble_eq_true rfl) ?_
  refine e_aload_n dX3_fail_0 rfl rfl ?_
  refine e_getI dX3_fail_1 fRX3_26 (by exact ok.sh rfl) (fun _ => rfl) ?_
  refine e_if_ne (tgt := 17) dX3_fail_4 (by decide) (fun h => ?_) (fun h => ?_)
  · rw [if_neg h]
    exact e_vret dX3_fail_17 rfl (⟨rfl, rfl⟩)
  · rw [if_pos h]
    refine e_aload_n dX3_fail_7 rfl rfl ?_
    refine e_iload_n dX3_fail_8 rfl rfl ?_
    refine e_putI dX3_fail_9 fRX3_26 (by exact ok.sh rfl) rfl rfl rfl (fun _ _ => rfl) ?_
    refine e_aload_n dX3_fail_12 rfl rfl ?_
    refine e_iload_n dX3_fail_13 rfl rfl ?_
    refine e_putI dX3_fail_14 fRX3_29 (by exact ok.sh rfl) rfl rfl rfl (fun _ _ => rfl) ?_
    exact e_vret dX3_fail_17 rfl (⟨rfl, rfl⟩)
theorem c_skip {B : Bd} {M : Mm} {T : Nat → Nat} {n p : Nat} (ok : OkM M) (h : Tx M T n) (hp : M.2.1 11 4 = nI p) (hpn : p ≤ n) : Ct B mX3_skipBlanks 0 0 0 [.ref 11] M (Rt (fun u N => u = none ∧ N.2.1 11 4 = nI (sk T n p) ∧ RF [4] M N)) := by
  have hn := h.2.2.1
  refine Ct.of (by decide) rfl rfl (Nat.le_of_ble_eq_true rfl) ?_
  have loop : ∀ j q N, n - q = j → q ≤ n → N.2.1 11 4 = nI q → RF [4] M N → sk T n q = sk T n p → Ev B mX3_skipBlanks 0 0 0 (Rt (fun u N => u = none ∧ N.2.1 11 4 = nI (sk T n p) ∧ RF [4] M N)) 0 [some (.ref 11)] [] N := by
    intro j
    induction j with
    | zero =>
      intro q N hj hq hN hf he
      have okN : OkM N := ok.fr hf.1
      have hx := h.rf hf (by decide)
      have hqn : q = n := by omega
      have e : sk T n q = q := ru_f (by omega)
      refine e_aload_n dX3_skipBlanks_0 rfl rfl ?_
      refine e_getI dX3_skipBlanks_1 fRX3_23 (by exact okN.sh rfl) (fun _ => rfl) ?_
      rw [hN]
      refine e_aload_n dX3_skipBlanks_4 rfl rfl ?_
      refine e_getI dX3_skipBlanks_5 fRX3_19 (by exact okN.sh rfl) (fun _ => rfl) ?_
      rw [hx.2.1]
      refine e_icmp_ge (tgt := 38) dX3_skipBlanks_8 (by decide) (fun hc => ?_) (fun hc => ?_)
      · exact e_vret dX3_skipBlanks_38 rfl ⟨none, rfl, rfl, by rw [← he, e]; exact hN, hf⟩
      · exact absurd (nI_le (by omega) (by omega)) hc
    | succ j ih =>
      intro q N hj hq hN hf he
      have okN : OkM N := ok.fr hf.1
      have hx := h.rf hf (by decide)
      have hqn : q < n := by omega
      have hTq := hx.2.2.2.1 q
      refine e_aload_n dX3_skipBlanks_0 rfl rfl ?_
      refine e_getI dX3_skipBlanks_1 fRX3_23 (by exact okN.sh rfl) (fun _ => rfl) ?_
      rw [hN]
      refine e_aload_n dX3_skipBlanks_4 rfl rfl ?_
      refine e_getI dX3_skipBlanks_5 fRX3_19 (by exact okN.sh rfl) (fun _ => rfl) ?_
      rw [hx.2.1]
      refine e_icmp_ge (tgt := 38) dX3_skipBlanks_8 (by decide) (fun hc => ?_) (fun hc => ?_)
      · exact absurd hc (nI_ge hqn (by omega))
      · refine e_aload_n dX3_skipBlanks_11 rfl rfl ?_
        refine e_getR dX3_skipBlanks_12 fRX3_15 (by exact okN.sh rfl) (by exact hx.1) (fun _ => rfl) ?_
        refine e_aload_n dX3_skipBlanks_15 rfl rfl ?_
        refine e_getI dX3_skipBlanks_16 fRX3_23 (by exact okN.sh rfl) (fun _ => rfl) ?_
        rw [hN]
        refine e_baloadB dX3_skipBlanks_19 (by exact okN.sh rfl) (by exact vp_in_nI (show q < 500 by omega) (by decide)) ?_
        rw [nI_clamp (by omega), hx.2.2.2.2 q (by omega)]
        refine e_bipush (v := 32) dX3_skipBlanks_20 (by decide) ?_
        by_cases hb : T q = 32
        · have e : sk T n q = sk T n (q + 1) := ru_t hqn (decide_eq_true hb)
          refine e_icmp_ne (tgt := 38) dX3_skipBlanks_22 (by decide) (fun hz => ?_) (fun hz => ?_)
          · exact absurd ((sb_32 (T q) hTq).mpr hb) hz
          · refine e_aload_n dX3_skipBlanks_25 rfl rfl ?_
            refine e_dup dX3_skipBlanks_26 rfl ?_
            refine e_getI dX3_skipBlanks_27 fRX3_23 (by exact okN.sh rfl) (fun _ => rfl) ?_
            rw [hN]
            refine e_iconst (v := 1) dX3_skipBlanks_30 (by decide) ?_
            refine e_iadd dX3_skipBlanks_31 ?_
            rw [nI_1]
            refine e_putI dX3_skipBlanks_32 fRX3_23 (by exact okN.sh rfl) rfl rfl rfl (fun _ _ => rfl) ?_
            refine e_goto (tgt := 0) dX3_skipBlanks_35 (by decide) ?_
            exact ih (q + 1) _ (by omega) (by omega) (by rw [rd_self]) (hf.s (by decide)) (by rw [← e]; exact he)
        · have e : sk T n q = q := ru_f (fun z => hb (of_decide_eq_true z.2))
          refine e_icmp_ne (tgt := 38) dX3_skipBlanks_22 (by decide) (fun hz => ?_) (fun hz => ?_)
          · exact e_vret dX3_skipBlanks_38 rfl ⟨none, rfl, rfl, by rw [← he, e]; exact hN, hf⟩
          · exact absurd ((sb_32 (T q) hTq).mp hz) hb
  exact loop (n - p) p M rfl hpn hp RF.rf rfl
theorem sk_le {T : Nat → Nat} {n p : Nat} (h : p ≤ n) : sk T n p ≤ n := ru_le h
theorem c_isNumberAhead {B : Bd} {M : Mm} {T : Nat → Nat} {n p : Nat} (ok : OkM M) (h : Tx M T n) (hp : M.2.1 11 4 = nI p) (hpn : p ≤ n) : Ct B mX3_isNumberAhead 1 0 0 [.ref 11] M (Rt (fun u N => u = some (.int (if ahd T n p = true then 1 else 0)) ∧ N.2.1 11 4 = nI (sk T n p) ∧ RF [4] M N)) := by
  have hn := h.2.2.1
  have hsk := sk_le (T := T) hpn
  refine Ct.of (by decide) rfl rfl (Nat.le_of_ble_eq_true rfl) ?_
  refine e_aload_n dX3_isNumberAhead_0 rfl rfl ?_
  refine e_callV1 [] dX3_isNumberAhead_1 mvmX3_skipBlanks lkRX3_121 (by exact ok.sh rfl) ⟨by decide, rfl⟩ rfl rfl (Nat.le_of_ble_eq_true rfl) (by decide) (c_skip ok h hp hpn) (fun u N h1 => ?_)
  obtain ⟨hu, hN, hf⟩ := h1
  subst hu
  have okN : OkM N := ok.fr hf.1
  have hx := h.rf hf (by decide)
  have hTq := hx.2.2.2.1 (sk T n p)
  refine e_aload_n dX3_isNumberAhead_4 rfl rfl ?_
  refine e_getI dX3_isNumberAhead_5 fRX3_23 (by exact okN.sh rfl) (fun _ => rfl) ?_
  rw [hN]
  refine e_aload_n dX3_isNumberAhead_8 rfl rfl ?_
  refine e_getI dX3_isNumberAhead_9 fRX3_19 (by exact okN.sh rfl) (fun _ => rfl) ?_
  rw [hx.2.1]
  by_cases hlt : sk T n p < n
  · refine e_icmp_ge (tgt := 34) dX3_isNumberAhead_12 (by decide) (fun hc => ?_) (fun hc => ?_)
    · exact absurd hc (nI_ge hlt (by omega))
    · refine e_aload_n dX3_isNumberAhead_15 rfl rfl ?_
      refine e_getR dX3_isNumberAhead_16 fRX3_15 (by exact okN.sh rfl) (by exact hx.1) (fun _ => rfl) ?_
      refine e_aload_n dX3_isNumberAhead_19 rfl rfl ?_
      refine e_getI dX3_isNumberAhead_20 fRX3_23 (by exact okN.sh rfl) (fun _ => rfl) ?_
      rw [hN]
      refine e_baloadB dX3_isNumberAhead_23 (by exact okN.sh rfl) (by exact vp_in_nI (show sk T n p < 500 by omega) (by decide)) ?_
      rw [nI_clamp (by omega), hx.2.2.2.2 _ (by omega)]
      refine e_callS0i [_] dX3_isNumberAhead_24 msmX3_isDigit lkRX3_133 rfl rfl (Nat.le_of_ble_eq_true rfl) (by decide) (c_isDigit hTq) ?_
      by_cases hd : 48 ≤ T (sk T n p) ∧ T (sk T n p) ≤ 57
      · have ha : ahd T n p = true := by unfold ahd isD; simp [hlt, hd]
        rw [if_pos hd, if_pos ha]
        refine e_if_eq (tgt := 34) dX3_isNumberAhead_27 (by decide) (fun hz => ?_) (fun hz => ?_)
        · exact absurd hz (by decide)
        · refine e_iconst (v := 1) dX3_isNumberAhead_30 (by decide) ?_
          refine e_goto (tgt := 35) dX3_isNumberAhead_31 (by decide) ?_
          exact e_iret dX3_isNumberAhead_35 rfl rfl ⟨_, rfl, rfl, hN, hf⟩
      · have ha : ¬ ahd T n p = true := by unfold ahd isD; simp; intro _ q; omega
        rw [if_neg hd, if_neg ha]
        refine e_if_eq (tgt := 34) dX3_isNumberAhead_27 (by decide) (fun hz => ?_) (fun hz => ?_)
        · refine e_iconst (v := 0) dX3_isNumberAhead_34 (by decide) ?_
          exact e_iret dX3_isNumberAhead_35 rfl rfl ⟨_, rfl, rfl, hN, hf⟩
        · exact absurd rfl hz
  · have ha : ¬ ahd T n p = true := by unfold ahd; simp [hlt]
    rw [if_neg ha]
    refine e_icmp_ge (tgt := 34) dX3_isNumberAhead_12 (by decide) (fun hc => ?_) (fun hc => ?_)
    · refine e_iconst (v := 0) dX3_isNumberAhead_34 (by decide) ?_
      exact e_iret dX3_isNumberAhead_35 rfl rfl ⟨_, rfl, rfl, hN, hf⟩
    · exact absurd (nI_le (by omega) (by omega)) hc
theorem c_isAtEnd {B : Bd} {M : Mm} {T : Nat → Nat} {n p : Nat} (ok : OkM M) (h : Tx M T n) (hp : M.2.1 11 4 = nI p) (hpn : p ≤ n) : Ct B mX3_isAtEnd 1 0 0 [.ref 11] M (Rt (fun u N => u = some (.int (if sk T n p < n then 0 else 1)) ∧ N.2.1 11 4 = nI (sk T n p) ∧ RF [4] M N)) := by
  have hn := h.2.2.1
  have hsk := sk_le (T := T) hpn
  refine Ct.of (by decide) rfl rfl (Nat.le_of_ble_eq_true rfl) ?_
  refine e_aload_n dX3_isAtEnd_0 rfl rfl ?_
  refine e_callV1 [] dX3_isAtEnd_1 mvmX3_skipBlanks lkRX3_121 (by exact ok.sh rfl) ⟨by decide, rfl⟩ rfl rfl (Nat.le_of_ble_eq_true rfl) (by decide) (c_skip ok h hp hpn) (fun u N h1 => ?_)
  obtain ⟨hu, hN, hf⟩ := h1
  subst hu
  have okN : OkM N := ok.fr hf.1
  have hx := h.rf hf (by decide)
  refine e_aload_n dX3_isAtEnd_4 rfl rfl ?_
  refine e_getI dX3_isAtEnd_5 fRX3_23 (by exact okN.sh rfl) (fun _ => rfl) ?_
  rw [hN]
  refine e_aload_n dX3_isAtEnd_8 rfl rfl ?_
  refine e_getI dX3_isAtEnd_9 fRX3_19 (by exact okN.sh rfl) (fun _ => rfl) ?_
  rw [hx.2.1]
  by_cases hlt : sk T n p < n
  · rw [if_pos hlt]
    refine e_icmp_lt (tgt := 19) dX3_isAtEnd_12 (by decide) (fun hc => ?_) (fun hc => ?_)
    · refine e_iconst (v := 0) dX3_isAtEnd_19 (by decide) ?_
      exact e_iret dX3_isAtEnd_20 rfl rfl ⟨_, rfl, rfl, hN, hf⟩
    · exact absurd (nI_lt hlt (by omega)) hc
  · rw [if_neg hlt]
    refine e_icmp_lt (tgt := 19) dX3_isAtEnd_12 (by decide) (fun hc => ?_) (fun hc => ?_)
    · exact absurd hc (nI_nlt (by omega) (by omega))
    · refine e_iconst (v := 1) dX3_isAtEnd_15 (by decide) ?_
      refine e_goto (tgt := 20) dX3_isAtEnd_16 (by decide) ?_
      exact e_iret dX3_isAtEnd_20 rfl rfl ⟨_, rfl, rfl, hN, hf⟩
/-- where the reader stands: at a fault, or at a place -/
def Rd (M : Mm) (n : Nat) : Fl ⊕ Nat → Prop
  | .inl (k, pl) => (0 < k ∧ k ≤ 3 ∧ pl ≤ n) ∧ M.2.1 11 0 = nI k ∧ M.2.1 11 1 = nI pl ∧ ∃ p, p ≤ n ∧ M.2.1 11 4 = nI p
  | .inr p => p ≤ n ∧ M.2.1 11 0 = 0 ∧ M.2.1 11 1 = -1 ∧ M.2.1 11 4 = nI p
theorem Rd.at {M : Mm} {n : Nat} {x : Fl ⊕ Nat} (h : Rd M n x) : ∃ p, p ≤ n ∧ M.2.1 11 4 = nI p := by
  cases x with
  | inl f => obtain ⟨k, pl⟩ := f; exact h.2.2.2
  | inr p => exact ⟨p, h.1, h.2.2.2⟩
theorem Rd.mv {M N : Mm} {n p : Nat} {f : Fl} (h : Rd M n (.inl f)) (hf : RF [4, 5] M N) (hp : p ≤ n) (h4 : N.2.1 11 4 = nI p) : Rd N n (.inl f) := by
  obtain ⟨k, pl⟩ := f
  exact ⟨h.1, by rw [hf.2 0 (by decide)]; exact h.2.1, by rw [hf.2 1 (by decide)]; exact h.2.2.1, p, hp, h4⟩
theorem Rd.go {M N : Mm} {n p q : Nat} (h : Rd M n (.inr p)) (hf : RF [4, 5] M N) (hp : q ≤ n) (h4 : N.2.1 11 4 = nI q) : Rd N n (.inr q) := ⟨hp, by rw [hf.2 0 (by decide)]; exact h.2.1, by rw [hf.2 1 (by decide)]; exact h.2.2.1, h4⟩
theorem Rd.fl {M N : Mm} {n p k pl : Nat} (h : p ≤ n) (h4 : M.2.1 11 4 = nI p) (hk : 0 < k ∧ k ≤ 3 ∧ pl ≤ n) (e : N = sI (sI M 11 0 (nI k)) 11 1 (nI pl)) : Rd N n (.inl (k, pl)) := by
  subst e
  exact ⟨hk, by rw [rd_ni (by decide), rd_self], by rw [rd_self], p, h, by rw [rd_ni (by decide), rd_ni (by decide)]; exact h4⟩
theorem k_ne {k : Nat} (h : 0 < k ∧ k ≤ 3) : ¬ nI k = 0 := by
  intro q
  have := (nI_eq (a := k) (b := 0) (by omega) (by decide)).mp q
  omega

