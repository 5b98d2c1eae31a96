def awp (n : Nat) (w : Nat → Nat → Option Nat) (a b : Nat) : Nat → Nat → Option Nat := fun x y => if (x < y ∧ y < n ∧ (x < a ∨ (x = a ∧ y < b))) ∨ (y < x ∧ x < n ∧ (y < a ∨ (y = a ∧ x < b))) then some ((w x y).getD 1) else w x y
theorem awp_cong {n a b c d : Nat} {w : Nat → Nat → Option Nat} (h : ∀ x y, x < y → y < n → ((x < a ∨ (x = a ∧ y < b)) ↔ (x < c ∨ (x = c ∧ y < d)))) : awp n w a b = awp n w c d := by
  funext x y
  unfold awp
  have e : ((x < y ∧ y < n ∧ (x < a ∨ (x = a ∧ y < b))) ∨ (y < x ∧ x < n ∧ (y < a ∨ (y = a ∧ x < b)))) ↔ ((x < y ∧ y < n ∧ (x < c ∨ (x = c ∧ y < d))) ∨ (y < x ∧ x < n ∧ (y < c ∨ (y = c ∧ x < d)))) := by
    constructor
    · rintro (⟨h1, h2, h3⟩ | ⟨h1, h2, h3⟩)
      · exact Or.inl ⟨h1, h2, (h x y h1 h2).mp h3⟩
      · exact Or.inr ⟨h1, h2, (h y x h1 h2).mp h3⟩
    · rintro (⟨h1, h2, h3⟩ | ⟨h1, h2, h3⟩)
      · exact Or.inl ⟨h1, h2, (h x y h1 h2).mpr h3⟩
      · exact Or.inr ⟨h1, h2, (h y x h1 h2).mpr h3⟩
  by_cases hq : ((x < y ∧ y < n ∧ (x < a ∨ (x = a ∧ y < b))) ∨ (y < x ∧ x < n ∧ (y < a ∨ (y = a ∧ x < b))))
  · rw [if_pos hq, if_pos (e.mp hq)]
  · rw [if_neg hq, if_neg (fun z => hq (e.mpr z))]
theorem awp_0 (n : Nat) (w : Nat → Nat → Option Nat) : awp n w 0 0 = w := by
  funext x y
  unfold awp
  rw [if_neg (by omega)]
theorem awp_end (n : Nat) (w : Nat → Nat → Option Nat) : awp n w n 0 = allw n w := by
  funext x y
  unfold awp allw
  by_cases h : x ≠ y ∧ x < n ∧ y < n
  · rw [if_pos h, if_pos (by omega)]
  · rw [if_neg h, if_neg (by omega)]
theorem awp_step {n a b : Nat} {w : Nat → Nat → Option Nat} {m : Nat → Option Nat} (hs : ∀ x y, w x y = w y x) (hab : a < b) (hb : b < n) : pIN (n, awp n w a b, m) a b = (n, awp n w a (b + 1), m) := by
  have e0 : awp n w a b a b = w a b := by unfold awp; rw [if_neg (by omega)]
  unfold pIN
  show (if (awp n w a b a b).isSome = true then _ else (n, w2 (awp n w a b) a b (some 1), m)) = _
  rw [e0]
  by_cases hw : (w a b).isSome = true
  · rw [if_pos hw]
    congr 2
    funext x y
    unfold awp
    by_cases h1 : (x < y ∧ y < n ∧ (x < a ∨ (x = a ∧ y < b))) ∨ (y < x ∧ x < n ∧ (y < a ∨ (y = a ∧ x < b)))
    · rw [if_pos h1, if_pos (by omega)]
    · rw [if_neg h1]
      by_cases h2 : (x < y ∧ y < n ∧ (x < a ∨ (x = a ∧ y < b + 1))) ∨ (y < x ∧ x < n ∧ (y < a ∨ (y = a ∧ x < b + 1)))
      · rw [if_pos h2]
        have h3 : (x = a ∧ y = b) ∨ (x = b ∧ y = a) := by omega
        obtain ⟨k, hk⟩ := Option.isSome_iff_exists.mp hw
        rcases h3 with ⟨q1, q2⟩ | ⟨q1, q2⟩
        · rw [q1, q2, hk]; rfl
        · rw [q1, q2, hs b a, hk]; rfl
      · rw [if_neg h2]
  · rw [if_neg hw]
    have hn : w a b = none := by
      cases hh : w a b with
      | none => rfl
      | some k => rw [hh] at hw; exact absurd rfl hw
    congr 2
    funext x y
    unfold w2
    by_cases h3 : (x = a ∧ y = b) ∨ (x = b ∧ y = a)
    · rw [if_pos h3]
      unfold awp
      rw [if_pos (by omega)]
      rcases h3 with ⟨q1, q2⟩ | ⟨q1, q2⟩
      · rw [q1, q2, hn]; rfl
      · rw [q1, q2, hs b a, hn]; rfl
    · rw [if_neg h3]
      unfold awp
      by_cases h1 : (x < y ∧ y < n ∧ (x < a ∨ (x = a ∧ y < b))) ∨ (y < x ∧ x < n ∧ (y < a ∨ (y = a ∧ x < b)))
      · rw [if_pos h1, if_pos (by omega)]
      · rw [if_neg h1, if_neg (by omega)]
theorem c_readAll {B : Bd} {M : Mm} {T : Nat → Nat} {n p : Nat} {s : Ps} (ok : OkM M) (h : Tx M T n) (hx : Rd M n (.inr p)) (hs : RdS M s) : Ct B mX3_readAll 4 0 0 [.ref 11, .ref 6] M (StP T n M (pall T n s p)) := by
  have hg1' : 1 ≤ s.1 ∧ s.1 ≤ 12 := hs.2.2.1.1
  refine Ct.of (by decide) rfl rfl (Nat.le_of_ble_eq_true rfl) ?_
  refine e_aload_n dX3_readAll_0 rfl rfl ?_
  refine e_callV1 [] dX3_readAll_1 mvmX3_takeEnd lkRX3_66 (by exact ok.sh rfl) ⟨by decide, rfl⟩ rfl rfl (Nat.le_of_ble_eq_true rfl) (by decide) (c_takeEnd ok h hx) (fun u N4 h4 => ?_)
  obtain ⟨hu, rd4, rf4⟩ := h4
  subst hu
  have ok4 : OkM N4 := ok.fr rf4.1
  have t4 := h.rf rf4 (by decide)
  have s4 := hs.rf rf4 (by decide)
  have hsy := s4.2.2.1.2.1
  simp only [bd_r] at rd4
  refine e_iconst (v := 0) dX3_readAll_4 (by decide) ?_
  refine e_istore_n dX3_readAll_5 rfl (by decide) rfl rfl ?_
  cases hpe : pend T n p with
  | inl f =>
    have e9 : pall T n s p = .inl f := by unfold pall; rw [hpe]
    rw [hpe] at rd4
    have rd4' : Rd N4 n (.inl f) := rd4
    refine e_iload_n dX3_readAll_6 rfl rfl ?_
    refine e_aload_n dX3_readAll_7 rfl rfl ?_
    refine e_getI dX3_readAll_8 fRX3_92 (by exact ok4.sh rfl) (fun _ => rfl) ?_
    refine e_icmp_ge (tgt := 51) dX3_readAll_11 (by decide) (fun hz => ?_) (fun hz => ?_)
    · exact e_vret dX3_readAll_51 rfl ⟨none, rfl, rfl, t4, rf4.F, by rw [e9]; exact rd4'⟩
    · refine e_aload_n dX3_readAll_14 rfl rfl ?_
      refine e_getI dX3_readAll_15 fRX3_26 (by exact ok4.sh rfl) (fun _ => rfl) ?_
      refine e_if_ne (tgt := 51) dX3_readAll_18 (by decide) (fun hz2 => ?_) (fun hz2 => ?_)
      · exact e_vret dX3_readAll_51 rfl ⟨none, rfl, rfl, t4, rf4.F, by rw [e9]; exact rd4'⟩
      · exact absurd hz2 rd4'.k
  | inr e =>
    have e8 : pall T n s p = .inr (e, s.1, allw s.1 s.2.1, s.2.2) := by unfold pall; rw [hpe]
    rw [hpe] at rd4
    have rd4' : Rd N4 n (.inr e) := rd4
    have outer : ∀ j a K (t : Option Value), a + j = s.1 → Fr 6 9 N4 K → NetRep K 6 (s.1, awp s.1 s.2.1 a 0, (pmt s.2.2).1) → Wfn (s.1, awp s.1 s.2.1 a 0, (pmt s.2.2).1) → Ev B mX3_readAll 4 0 0 (StP T n M (pall T n s p)) 6 [some (.ref 11), some (.ref 6), some (.int (nI a)), t] [] K := by
      intro j
      induction j with
      | zero =>
        intro a K t haj hf hK wf
        have hag : a = s.1 := by omega
        have okK : OkM K := ok4.fr hf
        rw [hag, awp_end] at hK wf
        refine e_iload_n dX3_readAll_6 rfl rfl ?_
        refine e_aload_n dX3_readAll_7 rfl rfl ?_
        refine e_getI dX3_readAll_8 fRX3_92 (by exact okK.sh rfl) (fun _ => rfl) ?_
        rw [hK.2.1]
        refine e_icmp_ge (tgt := 51) dX3_readAll_11 (by decide) (fun hz => ?_) (fun hz => ?_)
        · refine e_vret dX3_readAll_51 rfl ⟨none, rfl, rfl, t4.fr hf, rf4.F.trans (hf.wide (by decide) (by decide)), ?_⟩
          rw [e8]
          exact ⟨rd4'.fr hf, hK, by rw [hf.2.2 11 (by omega)]; exact s4.2.1, wf, s4.2.2.2⟩
        · exact absurd (nI_le (by omega) (by omega)) hz
      | succ j ih =>
        intro a K t haj hf hK wf
        have okK : OkM K := ok4.fr hf
        have k0 : K.2.1 11 0 = 0 := by rw [hf.2.2 11 (by omega)]; exact rd4'.2.1
        refine e_iload_n dX3_readAll_6 rfl rfl ?_
        refine e_aload_n dX3_readAll_7 rfl rfl ?_
        refine e_getI dX3_readAll_8 fRX3_92 (by exact okK.sh rfl) (fun _ => rfl) ?_
        rw [hK.2.1]
        refine e_icmp_ge (tgt := 51) dX3_readAll_11 (by decide) (fun hz => ?_) (fun hz => ?_)
        · exact absurd hz (nI_ge (by omega) (by omega))
        · refine e_aload_n dX3_readAll_14 rfl rfl ?_
          refine e_getI dX3_readAll_15 fRX3_26 (by exact okK.sh rfl) (fun _ => rfl) ?_
          refine e_if_ne (tgt := 51) dX3_readAll_18 (by decide) (fun hz2 => ?_) (fun hz2 => ?_)
          · exact absurd k0 hz2
          · refine e_iload_n dX3_readAll_21 rfl rfl ?_
            refine e_iconst (v := 1) dX3_readAll_22 (by decide) ?_
            refine e_iadd dX3_readAll_23 ?_
            rw [nI_1]
            refine e_istore_n dX3_readAll_24 rfl (by decide) rfl rfl ?_
            have inner : ∀ j2 b K, b + j2 = s.1 → a < b → Fr 6 9 N4 K → NetRep K 6 (s.1, awp s.1 s.2.1 a b, (pmt s.2.2).1) → Wfn (s.1, awp s.1 s.2.1 a b, (pmt s.2.2).1) → Ev B mX3_readAll 4 0 0 (StP T n M (pall T n s p)) 25 [some (.ref 11), some (.ref 6), some (.int (nI a)), some (.int (nI b))] [] K := by
              intro j2
              induction j2 with
              | zero =>
                intro b K hbj hab hf hK wf
                have okK : OkM K := ok4.fr hf
                have ec : awp s.1 s.2.1 a b = awp s.1 s.2.1 (a + 1) 0 := awp_cong (fun x y _ _ => by omega)
                rw [ec] at hK wf
                refine e_iload_n dX3_readAll_25 rfl rfl ?_
                refine e_aload_n dX3_readAll_26 rfl rfl ?_
                refine e_getI dX3_readAll_27 fRX3_92 (by exact okK.sh rfl) (fun _ => rfl) ?_
                rw [hK.2.1]
                refine e_icmp_ge (tgt := 45) dX3_readAll_30 (by decide) (fun hz => ?_) (fun hz => ?_)
                · refine e_iinc (v := nI (a + 1)) dX3_readAll_45 rfl (nI_1 a) (by decide) rfl rfl ?_
                  refine e_goto (tgt := 6) dX3_readAll_48 (by decide) ?_
                  exact ih (a + 1) K _ (by omega) hf hK wf
                · exact absurd (nI_le (by omega) (by omega)) hz
              | succ j2 ih2 =>
                intro b K hbj hab hf hK wf
                have okK : OkM K := ok4.fr hf
                refine e_iload_n dX3_readAll_25 rfl rfl ?_
                refine e_aload_n dX3_readAll_26 rfl rfl ?_
                refine e_getI dX3_readAll_27 fRX3_92 (by exact okK.sh rfl) (fun _ => rfl) ?_
                rw [hK.2.1]
                refine e_icmp_ge (tgt := 45) dX3_readAll_30 (by decide) (fun hz => ?_) (fun hz => ?_)
                · exact absurd hz (nI_ge (by omega) (by omega))
                · refine e_aload_n dX3_readAll_33 rfl rfl ?_
                  refine e_iload_n dX3_readAll_34 rfl rfl ?_
                  refine e_iload_n dX3_readAll_35 rfl rfl ?_
                  refine e_callV1 [_, _] dX3_readAll_36 mvmX1_putLineIfNone lkRX3_111 (by exact okK.sh rfl) ⟨by decide, rfl⟩ rfl rfl (Nat.le_of_ble_eq_true rfl) (by decide) (c_putLineIfNone hK wf.2.1 (by omega) (by omega) (by omega : a ≠ b)) (fun u K2 h2 => ?_)
                  obtain ⟨hu, q1, q2⟩ := h2
                  subst hu
                  have q1' : NetRep K2 6 (pIN (s.1, awp s.1 s.2.1 a b, (pmt s.2.2).1) a b) := q1
                  obtain ⟨w1, -, -⟩ := pIN_wf wf (show a < s.1 by omega) (show b < s.1 by omega) (by omega : a ≠ b)
                  rw [awp_step hsy hab (by omega)] at q1' w1
                  refine e_iinc (v := nI (b + 1)) dX3_readAll_39 rfl (nI_1 b) (by decide) rfl rfl ?_
                  refine e_goto (tgt := 25) dX3_readAll_42 (by decide) ?_
                  exact ih2 (b + 1) K2 (by omega) (by omega) (hf.trans q2) q1' w1
            have ec : awp s.1 s.2.1 a 0 = awp s.1 s.2.1 a (a + 1) := awp_cong (fun x y _ _ => by omega)
            rw [ec] at hK wf
            exact inner (s.1 - (a + 1)) (a + 1) K (by omega) (by omega) hf hK wf
    refine outer s.1 0 N4 none (by omega) Fr.rf ?_ ?_
    · rw [awp_0]; exact s4.1
    · rw [awp_0]; exact s4.2.2.1
theorem pwd_le {T : Nat → Nat} {n p : Nat} {w : List Nat} (hp : p ≤ n) (h : pwd T n w p = true) : sk T n p + w.length ≤ n := by
  unfold pwd at h
  rw [Bool.and_eq_true, decide_eq_true_eq] at h
  have := ru_le (c := isL T) (sk_le (T := T) hp)
  omega
theorem pwd_sk (T : Nat → Nat) (n : Nat) (w : List Nat) (p : Nat) : pwd T n w (sk T n p) = pwd T n w p := by unfold pwd; rw [sk_sk]
theorem StP_pre {T : Nat → Nat} {n : Nat} {M N : Mm} {x : Fl ⊕ (Nat × Ps)} (hf : Fr 6 12 M N) : ∀ o K, StP T n N x o K → StP T n M x o K := by
  rintro o K ⟨u, h1, h2, h3, h4, h5⟩
  exact ⟨u, h1, h2, h3, hf.trans h4, h5⟩
theorem c_readStatement {B : Bd} {M : Mm} {T : Nat → Nat} {n p : Nat} {s : Ps} (ok : OkM M) (h : Tx M T n) (hx : Rd M n (.inr p)) (hs : RdS M s) : Ct B mX3_readStatement 5 0 0 [.ref 11, .ref 6] M (StP T n M (pstm T n s p)) := by
  have hsk := sk_le (T := T) hx.1
  refine Ct.of (by decide) rfl rfl (Nat.le_of_ble_eq_true rfl) ?_
  refine e_aload_n dX3_readStatement_0 rfl rfl ?_
  refine e_ldcS (k0 := 2) (tx := "line") dX3_readStatement_1 (by decide) ?_
  refine e_callV1 [_] dX3_readStatement_3 mvmX3_takeWord lkRX3_58 (by exact ok.sh rfl) ⟨by decide, rfl⟩ rfl rfl (Nat.le_of_ble_eq_true rfl) (by decide) (c_takeWord ok h hx.2.2.2 hx.1 wd_line) (fun u N1 h1 => ?_)
  obtain ⟨hu, a1, rf1⟩ := h1
  subst hu
  have ok1 : OkM N1 := ok.fr rf1.1
  have t1 := h.rf rf1 (by decide)
  have s1 := hs.rf rf1 (by decide)
  by_cases p1 : pwd T n wLine p = true
  · rw [if_pos p1] at a1 ⊢
    have e9 : pstm T n s p = pline T n s (sk T n p + 4) := by unfold pstm; rw [if_pos p1]
    have rd1 : Rd N1 n (.inr (sk T n p + 4)) := hx.go (rf1.wide (by decide)) (pwd_le hx.1 p1) a1
    refine e_if_eq (tgt := 17) dX3_readStatement_6 (by decide) (fun hz => ?_) (fun hz => ?_)
    · exact absurd hz (by decide)
    · refine e_aload_n dX3_readStatement_9 rfl rfl ?_
      refine e_aload_n dX3_readStatement_10 rfl rfl ?_
      refine e_callV1 [_] dX3_readStatement_11 mvmX3_readLine lkRX3_75 (by exact ok1.sh rfl) ⟨by decide, rfl⟩ rfl rfl (Nat.le_of_ble_eq_true rfl) (by decide) (c_readLine ok1 t1 rd1 s1) (fun u N2 h2 => ?_)
      obtain ⟨hu, h3, h4, h5⟩ := h2
      subst hu
      refine e_goto (tgt := 77) dX3_readStatement_14 (by decide) ?_
      rw [e9]
      exact e_vret dX3_readStatement_77 rfl ⟨none, rfl, rfl, h3, rf1.F.trans h4, h5⟩
  · rw [if_neg p1] at a1 ⊢
    have rd1 : Rd N1 n (.inr (sk T n p)) := hx.go (rf1.wide (by decide)) hsk a1
    refine e_if_eq (tgt := 17) dX3_readStatement_6 (by decide) (fun hz => ?_) (fun hz => ?_)
    · refine e_aload_n dX3_readStatement_17 rfl rfl ?_
      refine e_ldcS (k0 := 3) (tx := "ring") dX3_readStatement_18 (by decide) ?_
      refine e_callV1 [_] dX3_readStatement_20 mvmX3_takeWord lkRX3_58 (by exact ok1.sh rfl) ⟨by decide, rfl⟩ rfl rfl (Nat.le_of_ble_eq_true rfl) (by decide) (c_takeWord ok1 t1 rd1.2.2.2 rd1.1 wd_ring) (fun u N2 h2 => ?_)
      obtain ⟨hu, a2, rf2⟩ := h2
      subst hu
      rw [pwd_sk, sk_sk] at a2
      rw [pwd_sk]
      have ok2 : OkM N2 := ok1.fr rf2.1
      have t2 := t1.rf rf2 (by decide)
      have s2 := s1.rf rf2 (by decide)
      have rf12 : RF [4] M N2 := rf1.trans rf2
      by_cases p2 : pwd T n wRing p = true
      · rw [if_pos p2] at a2 ⊢
        have e9 : pstm T n s p = pring T n s (sk T n p + 4) := by unfold pstm; rw [if_neg p1, if_pos p2]
        have rd2 : Rd N2 n (.inr (sk T n p + 4)) := hx.go (rf12.wide (by decide)) (pwd_le hx.1 p2) a2
        refine e_if_eq (tgt := 34) dX3_readStatement_23 (by decide) (fun hz2 => ?_) (fun hz2 => ?_)
        · exact absurd hz2 (by decide)
        · refine e_aload_n dX3_readStatement_26 rfl rfl ?_
          refine e_aload_n dX3_readStatement_27 rfl rfl ?_
          refine e_callV1 [_] dX3_readStatement_28 mvmX3_readRing lkRX3_79 (by exact ok2.sh rfl) ⟨by decide, rfl⟩ rfl rfl (Nat.le_of_ble_eq_true rfl) (by decide) (c_readRing ok2 t2 rd2 s2) (fun u N3 h3 => ?_)
          obtain ⟨hu, h3, h4, h5⟩ := h3
          subst hu
          refine e_goto (tgt := 77) dX3_readStatement_31 (by decide) ?_
          rw [e9]
          exact e_vret dX3_readStatement_77 rfl ⟨none, rfl, rfl, h3, rf12.F.trans h4, h5⟩
      · rw [if_neg p2] at a2 ⊢
        have rd2 : Rd N2 n (.inr (sk T n p)) := hx.go (rf12.wide (by decide)) hsk a2
        refine e_if_eq (tgt := 34) dX3_readStatement_23 (by decide) (fun hz2 => ?_) (fun hz2 => ?_)
        · refine e_aload_n dX3_readStatement_34 rfl rfl ?_
          refine e_ldcS (k0 := 4) (tx := "all") dX3_readStatement_35 (by decide) ?_
          refine e_callV1 [_] dX3_readStatement_37 mvmX3_takeWord lkRX3_58 (by exact ok2.sh rfl) ⟨by decide, rfl⟩ rfl rfl (Nat.le_of_ble_eq_true rfl) (by decide) (c_takeWord ok2 t2 rd2.2.2.2 rd2.1 wd_all) (fun u N3 h3 => ?_)
          obtain ⟨hu, a3, rf3⟩ := h3
          subst hu
          rw [pwd_sk, sk_sk] at a3
          rw [pwd_sk]
          have ok3 : OkM N3 := ok2.fr rf3.1
          have t3 := t2.rf rf3 (by decide)
          have s3 := s2.rf rf3 (by decide)
          have rf13 : RF [4] M N3 := rf12.trans rf3
          by_cases p3 : pwd T n wAll p = true
          · rw [if_pos p3] at a3 ⊢
            have e9 : pstm T n s p = pall T n s (sk T n p + 3) := by unfold pstm; rw [if_neg p1, if_neg p2, if_pos p3]
            have rd3 : Rd N3 n (.inr (sk T n p + 3)) := hx.go (rf13.wide (by decide)) (pwd_le hx.1 p3) a3
            refine e_if_eq (tgt := 51) dX3_readStatement_40 (by decide) (fun hz3 => ?_) (fun hz3 => ?_)
            · exact absurd hz3 (by decide)
            · refine e_aload_n dX3_readStatement_43 rfl rfl ?_
              refine e_aload_n dX3_readStatement_44 rfl rfl ?_
              refine e_callV1 [_] dX3_readStatement_45 mvmX3_readAll lkRX3_84 (by exact ok3.sh rfl) ⟨by decide, rfl⟩ rfl rfl (Nat.le_of_ble_eq_true rfl) (by decide) (c_readAll ok3 t3 rd3 s3) (fun u N4 h4 => ?_)
              obtain ⟨hu, h3, h4, h5⟩ := h4
              subst hu
              refine e_goto (tgt := 77) dX3_readStatement_48 (by decide) ?_
              rw [e9]
              exact e_vret dX3_readStatement_77 rfl ⟨none, rfl, rfl, h3, rf13.F.trans h4, h5⟩
          · rw [if_neg p3] at a3 ⊢
            have rd3 : Rd N3 n (.inr (sk T n p)) := hx.go (rf13.wide (by decide)) hsk a3
            refine e_if_eq (tgt := 51) dX3_readStatement_40 (by decide) (fun hz3 => ?_) (fun hz3 => ?_)
            · refine e_aload_n dX3_readStatement_51 rfl rfl ?_
              refine e_ldcS (k0 := 5) (tx := "pair") dX3_readStatement_52 (by decide) ?_
              refine e_callV1 [_] dX3_readStatement_54 mvmX3_takeWord lkRX3_58 (by exact ok3.sh rfl) ⟨by decide, rfl⟩ rfl rfl (Nat.le_of_ble_eq_true rfl) (by decide) (c_takeWord ok3 t3 rd3.2.2.2 rd3.1 wd_pair) (fun u N4 h4 => ?_)
              obtain ⟨hu, a4, rf4⟩ := h4
              subst hu
              rw [pwd_sk, sk_sk] at a4
              rw [pwd_sk]
              have ok4 : OkM N4 := ok3.fr rf4.1
              have t4 := t3.rf rf4 (by decide)
              have s4 := s3.rf rf4 (by decide)
              have rf14 : RF [4] M N4 := rf13.trans rf4
              by_cases p4 : pwd T n wPair p = true
              · rw [if_pos p4] at a4 ⊢
                have e9 : pstm T n s p = ppair T n s (sk T n p + 4) := by unfold pstm; rw [if_neg p1, if_neg p2, if_neg p3, if_pos p4]
                have rd4 : Rd N4 n (.inr (sk T n p + 4)) := hx.go (rf14.wide (by decide)) (pwd_le hx.1 p4) a4
                refine e_if_eq (tgt := 68) dX3_readStatement_57 (by decide) (fun hz4 => ?_) (fun hz4 => ?_)
                · exact absurd hz4 (by decide)
                · refine e_aload_n dX3_readStatement_60 rfl rfl ?_
                  refine e_aload_n dX3_readStatement_61 rfl rfl ?_
                  refine e_callV1 [_] dX3_readStatement_62 mvmX3_readPair lkRX3_89 (by exact ok4.sh rfl) ⟨by decide, rfl⟩ rfl rfl (Nat.le_of_ble_eq_true rfl) (by decide) (c_readPair ok4 t4 rd4 s4) (fun u N5 h5 => ?_)
                  obtain ⟨hu, h3, h4, h5⟩ := h5
                  subst hu
                  refine e_goto (tgt := 77) dX3_readStatement_65 (by decide) ?_
                  rw [e9]
                  exact e_vret dX3_readStatement_77 rfl ⟨none, rfl, rfl, h3, rf14.F.trans h4, h5⟩
              · rw [if_neg p4] at a4 ⊢
                have e9 : pstm T n s p = .inl (1, sk T n p) := by unfold pstm; rw [if_neg p1, if_neg p2, if_neg p3, if_neg p4]
                have rd4 : Rd N4 n (.inr (sk T n p)) := hx.go (rf14.wide (by decide)) hsk a4
                refine e_if_eq (tgt := 68) dX3_readStatement_57 (by decide) (fun hz4 => ?_) (fun hz4 => ?_)
                · refine e_aload_n dX3_readStatement_68 rfl rfl ?_
                  refine e_iconst (v := 1) dX3_readStatement_69 (by decide) ?_
                  refine e_aload_n dX3_readStatement_70 rfl rfl ?_
                  refine e_getI dX3_readStatement_71 fRX3_23 (by exact ok4.sh rfl) (fun _ => rfl) ?_
                  rw [a4]
                  refine e_callV0v [_, _] dX3_readStatement_74 mvmX3_fail lkRX3_52 (by exact ok4.sh rfl) ⟨by decide, rfl⟩ rfl rfl (Nat.le_of_ble_eq_true rfl) (by decide) (c_fail ok4) ?_
                  rw [if_pos rd4.2.1]
                  have rff : RF [0, 1] N4 (sI (sI N4 11 0 1) 11 1 (nI (sk T n p))) := (RF.rf.s (by decide)).s (by decide)
                  refine e_vret dX3_readStatement_77 rfl ⟨none, rfl, rfl, t4.rf rff (by decide), rf14.F.trans rff.F, ?_⟩
                  rw [e9]
                  exact Rd.fl hsk a4 ⟨by decide, by decide, hsk⟩ rfl
                · exact absurd rfl hz4
            · exact absurd rfl hz3
        · exact absurd rfl hz2
    · exact absurd rfl hz

