def bd {α β : Type} (x : Fl ⊕ α) (f : α → Fl ⊕ β) : Fl ⊕ β := match x with
  | .inl e => .inl e
  | .inr a => f a
theorem c_takeEnd {B : Bd} {M : Mm} {T : Nat → Nat} {n : Nat} {x : Fl ⊕ Nat} (ok : OkM M) (h : Tx M T n) (hx : Rd M n x) : Ct B mX3_takeEnd 1 0 0 [.ref 11] M (Rt (fun u N => u = none ∧ Rd N n (bd x (pend T n)) ∧ RF [0, 1, 4] M N)) := by
  have hn := h.2.2.1
  obtain ⟨p, hpn, hp⟩ := hx.at
  have hsk := sk_le (T := T) hpn
  refine Ct.of (by decide) rfl rfl (Nat.le_of_ble_eq_true rfl) ?_
  refine e_aload_n dX3_takeEnd_0 rfl rfl ?_
  refine e_callV1 [] dX3_takeEnd_1 mvmX3_skipBlanks lkRX3_121 (by exact ok.sh rfl) ⟨by decide, rfl⟩ rfl rfl (Nat.le_of_ble_eq_true rfl) (by decide) (c_skip ok h hp hpn) (fun u N h1 => ?_)
  obtain ⟨hu, hN, hf⟩ := h1
  subst hu
  have okN : OkM N := ok.fr hf.1
  have ht := h.rf hf (by decide)
  have hTq := ht.2.2.2.1 (sk T n p)
  have hf3 : RF [0, 1, 4] M N := hf.wide (by decide)
  have f0 := hf.2 0 (by decide)
  have f1 := hf.2 1 (by decide)
  -- not the end
  have bad : ¬ (sk T n p < n ∧ T (sk T n p) = 59) → Ev B mX3_takeEnd 1 0 0 (Rt (fun u N => u = none ∧ Rd N n (bd x (pend T n)) ∧ RF [0, 1, 4] M N)) 42 [some (.ref 11)] [] N := by
    intro hno
    refine e_aload_n dX3_takeEnd_42 rfl rfl ?_
    refine e_iconst (v := 1) dX3_takeEnd_43 (by decide) ?_
    refine e_aload_n dX3_takeEnd_44 rfl rfl ?_
    refine e_getI dX3_takeEnd_45 fRX3_23 (by exact okN.sh rfl) (fun _ => rfl) ?_
    rw [hN]
    refine e_callV0v [_, _] dX3_takeEnd_48 mvmX3_fail lkRX3_52 (by exact okN.sh rfl) ⟨by decide, rfl⟩ rfl rfl (Nat.le_of_ble_eq_true rfl) (by decide) (c_fail (k := 1) (p := nI (sk T n p)) okN) ?_
    cases x with
    | inl f =>
      obtain ⟨k, pl⟩ := f
      have hk0 : ¬ N.2.1 11 0 = 0 := by rw [f0, hx.2.1]; exact k_ne ⟨hx.1.1, hx.1.2.1⟩
      rw [if_neg hk0]
      exact e_vret dX3_takeEnd_51 rfl ⟨none, rfl, rfl, hx.mv (hf.wide (by decide)) hsk hN, hf3⟩
    | inr p' =>
      have hpp : p' = p := by
        have := hx.2.2.2.symm.trans hp
        exact (nI_eq (by have := hx.1; omega) (by omega)).mp this
      subst hpp
      have hk0 : N.2.1 11 0 = 0 := by rw [f0]; exact hx.2.1
      rw [if_pos hk0]
      refine e_vret dX3_takeEnd_51 rfl ⟨none, rfl, rfl, ?_, (hf3.s (by decide)).s (by decide)⟩
      show Rd _ n (pend T n p')
      unfold pend
      rw [if_neg hno]
      exact Rd.fl hsk hN ⟨by decide, by decide, hsk⟩ rfl
  refine e_aload_n dX3_takeEnd_4 rfl rfl ?_
  refine e_getI dX3_takeEnd_5 fRX3_23 (by exact okN.sh rfl) (fun _ => rfl) ?_
  rw [hN]
  refine e_aload_n dX3_takeEnd_8 rfl rfl ?_
  refine e_getI dX3_takeEnd_9 fRX3_19 (by exact okN.sh rfl) (fun _ => rfl) ?_
  rw [ht.2.1]
  by_cases hlt : sk T n p < n
  · refine e_icmp_ge (tgt := 42) dX3_takeEnd_12 (by decide) (fun hc => ?_) (fun hc => ?_)
    · exact absurd hc (nI_ge hlt (by omega))
    · refine e_aload_n dX3_takeEnd_15 rfl rfl ?_
      refine e_getR dX3_takeEnd_16 fRX3_15 (by exact okN.sh rfl) (by exact ht.1) (fun _ => rfl) ?_
      refine e_aload_n dX3_takeEnd_19 rfl rfl ?_
      refine e_getI dX3_takeEnd_20 fRX3_23 (by exact okN.sh rfl) (fun _ => rfl) ?_
      rw [hN]
      refine e_baloadB dX3_takeEnd_23 (by exact okN.sh rfl) (by exact vp_in_nI (show sk T n p < 500 by omega) (by decide)) ?_
      rw [nI_clamp (by omega), ht.2.2.2.2 _ (by omega)]
      refine e_bipush (v := 59) dX3_takeEnd_24 (by decide) ?_
      refine e_icmp_ne (tgt := 42) dX3_takeEnd_26 (by decide) (fun hz => ?_) (fun hz => ?_)
      · exact bad (fun q => hz ((sb_59 _ hTq).mpr q.2))
      · have h59 := (sb_59 _ hTq).mp hz
        refine e_aload_n dX3_takeEnd_29 rfl rfl ?_
        refine e_dup dX3_takeEnd_30 rfl ?_
        refine e_getI dX3_takeEnd_31 fRX3_23 (by exact okN.sh rfl) (fun _ => rfl) ?_
        rw [hN]
        refine e_iconst (v := 1) dX3_takeEnd_34 (by decide) ?_
        refine e_iadd dX3_takeEnd_35 ?_
        rw [nI_1]
        refine e_putI dX3_takeEnd_36 fRX3_23 (by exact okN.sh rfl) rfl rfl rfl (fun _ _ => rfl) ?_
        refine e_goto (tgt := 51) dX3_takeEnd_39 (by decide) ?_
        refine e_vret dX3_takeEnd_51 rfl ⟨none, rfl, rfl, ?_, hf3.s (by decide)⟩
        have hf5 : RF [4, 5] M (sI N 11 4 (nI (sk T n p + 1))) := (hf.wide (by decide)).s (by decide)
        cases x with
        | inl f => exact hx.mv hf5 (p := sk T n p + 1) (by omega) (by rw [rd_self])
        | inr p' =>
          have hpp : p' = p := by
            have := hx.2.2.2.symm.trans hp
            exact (nI_eq (by have := hx.1; omega) (by omega)).mp this
          subst hpp
          show Rd _ n (pend T n p')
          unfold pend
          rw [if_pos ⟨hlt, h59⟩]
          exact hx.go hf5 (by omega) (by rw [rd_self])
  · refine e_icmp_ge (tgt := 42) dX3_takeEnd_12 (by decide) (fun hc => ?_) (fun hc => ?_)
    · exact bad (fun q => hlt q.1)
    · exact absurd (nI_le (by omega) (by omega)) hc
/-- what a number's reading leaves -/
def NumP (T : Nat → Nat) (n lo hi : Nat) (x : Fl ⊕ Nat) (M : Mm) : Ot → Mm → Prop := Rt (fun u N => ∃ r : Int32, u = some (.int r) ∧ Rd N n (bd x (fun p => bd (pnum T n lo hi p) (fun e => .inr e.1))) ∧ RF [0, 1, 4, 5] M N ∧ ∀ p e v q, x = .inr p → pnum T n lo hi p = .inr (e, v, q) → r = nI v ∧ N.2.1 11 5 = nI q)
theorem nI_lt_iff {a b : Nat} (ha : a < 2 ^ 31) (hb : b < 2 ^ 31) : nI a < nI b ↔ a < b := by
  rw [fa_lt, nI_toInt ha, nI_toInt hb]
  omega
theorem c_takeNumber {B : Bd} {M : Mm} {T : Nat → Nat} {n lo hi : Nat} {x : Fl ⊕ Nat} (ok : OkM M) (h : Tx M T n) (hx : Rd M n x) (hlo : lo ≤ 1) (hhi : hi ≤ 999) : Ct B mX3_takeNumber 2 0 0 [.ref 11, .int (nI lo), .int (nI hi)] M (NumP T n lo hi x M) := by
  have hn := h.2.2.1
  refine Ct.of (by decide) rfl rfl (Nat.le_of_ble_eq_true rfl) ?_
  cases x with
  | inl f =>
    obtain ⟨k, pl⟩ := f
    have hk0 : ¬ M.2.1 11 0 = 0 := by rw [hx.2.1]; exact k_ne ⟨hx.1.1, hx.1.2.1⟩
    refine e_aload_n dX3_takeNumber_0 rfl rfl ?_
    refine e_getI dX3_takeNumber_1 fRX3_26 (by exact ok.sh rfl) (fun _ => rfl) ?_
    refine e_if_ne (tgt := 23) dX3_takeNumber_4 (by decide) (fun hz => ?_) (fun hz => ?_)
    · refine e_aload_n dX3_takeNumber_23 rfl rfl ?_
      refine e_getI dX3_takeNumber_24 fRX3_26 (by exact ok.sh rfl) (fun _ => rfl) ?_
      refine e_if_eq (tgt := 32) dX3_takeNumber_27 (by decide) (fun hz2 => ?_) (fun hz2 => ?_)
      · exact absurd hz2 hk0
      · refine e_iconst (v := (-1)) dX3_takeNumber_30 (by decide) ?_
        exact e_iret dX3_takeNumber_31 rfl rfl ⟨_, rfl, _, rfl, hx, RF.rf, fun p e v q hp => by cases hp⟩
    · exact absurd hz hk0
  | inr p =>
    obtain ⟨hpn, hk, hpl, hp⟩ := hx
    have hx : Rd M n (.inr p) := ⟨hpn, hk, hpl, hp⟩
    have hsk := sk_le (T := T) hpn
    refine e_aload_n dX3_takeNumber_0 rfl rfl ?_
    refine e_getI dX3_takeNumber_1 fRX3_26 (by exact ok.sh rfl) (fun _ => rfl) ?_
    refine e_if_ne (tgt := 23) dX3_takeNumber_4 (by decide) (fun hz => ?_) (fun hz => ?_)
    · exact absurd hk hz
    · refine e_aload_n dX3_takeNumber_7 rfl rfl ?_
      refine e_callV1 [] dX3_takeNumber_8 mvmX3_isNumberAhead lkRX3_97 (by exact ok.sh rfl) ⟨by decide, rfl⟩ rfl rfl (Nat.le_of_ble_eq_true rfl) (by decide) (c_isNumberAhead ok h hp hpn) (fun u N h1 => ?_)
      obtain ⟨hu, hN, hf⟩ := h1
      subst hu
      have okN : OkM N := ok.fr hf.1
      have ht := h.rf hf (by decide)
      have f0 : N.2.1 11 0 = 0 := by rw [hf.2 0 (by decide)]; exact hk
      have f1 : N.2.1 11 1 = -1 := by rw [hf.2 1 (by decide)]; exact hpl
      have hf4 : RF [0, 1, 4, 5] M N := hf.wide (by decide)
      by_cases ha : ahd T n p = true
      · rw [if_pos ha]
        show Ev _ _ _ _ _ _ 11 _ [.int 1] _
        have hab := ha
        unfold ahd at hab
        rw [Bool.and_eq_true, decide_eq_true_eq] at hab
        obtain ⟨hlt, hdq⟩ := hab
        refine e_if_ne (tgt := 23) dX3_takeNumber_11 (by decide) (fun hz2 => ?_) (fun hz2 => absurd hz2 (by decide))
        refine e_aload_n dX3_takeNumber_23 rfl rfl ?_
        refine e_getI dX3_takeNumber_24 fRX3_26 (by exact okN.sh rfl) (fun _ => rfl) ?_
        refine e_if_eq (tgt := 32) dX3_takeNumber_27 (by decide) (fun hz3 => ?_) (fun hz3 => absurd f0 hz3)
        refine e_aload_n dX3_takeNumber_32 rfl rfl ?_
        refine e_aload_n dX3_takeNumber_33 rfl rfl ?_
        refine e_getI dX3_takeNumber_34 fRX3_23 (by exact okN.sh rfl) (fun _ => rfl) ?_
        rw [hN]
        refine e_putI dX3_takeNumber_37 fRX3_108 (by exact okN.sh rfl) rfl rfl rfl (fun _ _ => rfl) ?_
        refine e_iconst (v := 0) dX3_takeNumber_40 (by decide) ?_
        refine e_istore_n dX3_takeNumber_41 rfl (by decide) rfl rfl ?_
        generalize hN1 : sI N 11 5 (nI (sk T n p)) = N1
        have hf5 : RF [0, 1, 4, 5] M N1 := by rw [← hN1]; exact hf4.s (by decide)
        have a0 : N1.2.1 11 0 = 0 := by rw [← hN1, rd_ni (by decide)]; exact f0
        have a1 : N1.2.1 11 1 = -1 := by rw [← hN1, rd_ni (by decide)]; exact f1
        have a4 : N1.2.1 11 4 = nI (sk T n p) := by rw [← hN1, rd_ni (by decide)]; exact hN
        have a5 : N1.2.1 11 5 = nI (sk T n p) := by rw [← hN1, rd_self]
        -- behind the digits
        have fin : ∀ K, RF [4] N1 K → K.2.1 11 4 = nI (ru (isD T) n (sk T n p)) → Ev B mX3_takeNumber 2 0 0 (NumP T n lo hi (.inr p) M) 105 [some (.ref 11), some (.int (nI lo)), some (.int (nI hi)), some (.int (nI (min 10000 (nval T n p))))] [] K := by
          intro K hfK h4
          have okK : OkM K := ok.fr (hf5.1.trans hfK.1)
          have k0 : K.2.1 11 0 = 0 := by rw [hfK.2 0 (by decide)]; exact a0
          have k1 : K.2.1 11 1 = -1 := by rw [hfK.2 1 (by decide)]; exact a1
          have k5 : K.2.1 11 5 = nI (sk T n p) := by rw [hfK.2 5 (by decide)]; exact a5
          have hfM : RF [0, 1, 4, 5] M K := hf5.trans (hfK.wide (by decide))
          have hre := ru_le (c := isD T) hsk
          have bad : ¬ (lo ≤ nval T n p ∧ nval T n p ≤ hi) → Ev B mX3_takeNumber 2 0 0 (NumP T n lo hi (.inr p) M) 115 [some (.ref 11), some (.int (nI lo)), some (.int (nI hi)), some (.int (nI (min 10000 (nval T n p))))] [] K := by
            intro hno
            refine e_aload_n dX3_takeNumber_115 rfl rfl ?_
            refine e_iconst (v := 2) dX3_takeNumber_116 (by decide) ?_
            refine e_aload_n dX3_takeNumber_117 rfl rfl ?_
            refine e_getI dX3_takeNumber_118 fRX3_108 (by exact okK.sh rfl) (fun _ => rfl) ?_
            rw [k5]
            refine e_callV0v [_, _] dX3_takeNumber_121 mvmX3_fail lkRX3_52 (by exact okK.sh rfl) ⟨by decide, rfl⟩ rfl rfl (Nat.le_of_ble_eq_true rfl) (by decide) (c_fail (k := 2) (p := nI (sk T n p)) okK) ?_
            rw [if_pos k0]
            refine e_iload_n dX3_takeNumber_124 rfl rfl ?_
            have e9 : pnum T n lo hi p = .inl (2, sk T n p) := by unfold pnum; rw [if_pos ha, if_neg hno]
            refine e_iret dX3_takeNumber_125 rfl rfl ⟨_, rfl, _, rfl, ?_, (hfM.s (by decide)).s (by decide), fun p' e v q hp' he => ?_⟩
            · show Rd _ n (bd (pnum T n lo hi p) _)
              rw [e9]
              exact Rd.fl hre h4 ⟨by decide, by decide, hsk⟩ rfl
            · cases hp'
              rw [e9] at he; cases he
          refine e_iload_n dX3_takeNumber_105 rfl rfl ?_
          refine e_iload_n dX3_takeNumber_106 rfl rfl ?_
          refine e_icmp_lt (tgt := 115) dX3_takeNumber_107 (by decide) (fun hc => ?_) (fun hc => ?_)
          · exact bad (fun q => by
              have := (nI_lt_iff (by omega) (by omega)).mp hc
              omega)
          · refine e_iload_n dX3_takeNumber_110 rfl rfl ?_
            refine e_iload_n dX3_takeNumber_111 rfl rfl ?_
            refine e_icmp_le (tgt := 124) dX3_takeNumber_112 (by decide) (fun hc2 => ?_) (fun hc2 => ?_)
            · have hle := (nI_leI (by omega) (by omega)).mp hc2
              have hge : ¬ min 10000 (nval T n p) < lo := fun q => hc ((nI_lt_iff (by omega) (by omega)).mpr q)
              have hv : min 10000 (nval T n p) = nval T n p := by omega
              rw [hv]
              refine e_iload_n dX3_takeNumber_124 rfl rfl ?_
              have e9 : pnum T n lo hi p = .inr (ru (isD T) n (sk T n p), nval T n p, sk T n p) := by unfold pnum; rw [if_pos ha, if_pos (by omega)]
              refine e_iret dX3_takeNumber_125 rfl rfl ⟨_, rfl, _, rfl, ?_, hfM, fun p' e v q hp' he => ?_⟩
              · show Rd _ n (bd (pnum T n lo hi p) _)
                rw [e9]
                exact ⟨hre, k0, k1, h4⟩
              · cases hp'
                rw [e9] at he
                cases he
                exact ⟨rfl, k5⟩
            · exact bad (fun q => hc2 ((nI_leI (by omega) (by omega)).mpr (by omega)))
        have loop : ∀ j q v K, n - q = j → q ≤ n → RF [4] N1 K → K.2.1 11 4 = nI q → ru (isD T) n q = ru (isD T) n (sk T n p) → nvf T (ru (isD T) n q - q) q v = nval T n p → Ev B mX3_takeNumber 2 0 0 (NumP T n lo hi (.inr p) M) 42 [some (.ref 11), some (.int (nI lo)), some (.int (nI hi)), some (.int (nI (min 10000 v)))] [] K := by
          intro j
          induction j with
          | zero =>
            intro q v K hj hq hfK h4 hru hv
            have okK : OkM K := ok.fr (hf5.1.trans hfK.1)
            have htK := (h.rf hf5 (by decide)).rf hfK (by decide)
            have e : ru (isD T) n q = q := ru_f (by omega)
            rw [e, Nat.sub_self] at hv
            have hv' : v = nval T n p := hv
            rw [hv']
            refine e_aload_n dX3_takeNumber_42 rfl rfl ?_
            refine e_getI dX3_takeNumber_43 fRX3_23 (by exact okK.sh rfl) (fun _ => rfl) ?_
            rw [h4]
            refine e_aload_n dX3_takeNumber_46 rfl rfl ?_
            refine e_getI dX3_takeNumber_47 fRX3_19 (by exact okK.sh rfl) (fun _ => rfl) ?_
            rw [htK.2.1]
            refine e_icmp_ge (tgt := 105) dX3_takeNumber_50 (by decide) (fun hc => ?_) (fun hc => ?_)
            · exact fin K hfK (by rw [← hru, e]; exact h4)
            · exact absurd (nI_le (by omega) (by omega)) hc
          | succ j ih =>
            intro q v K hj hq hfK h4 hru hv
            have okK : OkM K := ok.fr (hf5.1.trans hfK.1)
            have htK := (h.rf hf5 (by decide)).rf hfK (by decide)
            have hqn : q < n := by omega
            have hTq := htK.2.2.2.1 q
            refine e_aload_n dX3_takeNumber_42 rfl rfl ?_
            refine e_getI dX3_takeNumber_43 fRX3_23 (by exact okK.sh rfl) (fun _ => rfl) ?_
            rw [h4]
            refine e_aload_n dX3_takeNumber_46 rfl rfl ?_
            refine e_getI dX3_takeNumber_47 fRX3_19 (by exact okK.sh rfl) (fun _ => rfl) ?_
            rw [htK.2.1]
            refine e_icmp_ge (tgt := 105) dX3_takeNumber_50 (by decide) (fun hc => ?_) (fun hc => ?_)
            · exact absurd hc (nI_ge hqn (by omega))
            · refine e_aload_n dX3_takeNumber_53 rfl rfl ?_
              refine e_getR dX3_takeNumber_54 fRX3_15 (by exact okK.sh rfl) (by exact htK.1) (fun _ => rfl) ?_
              refine e_aload_n dX3_takeNumber_57 rfl rfl ?_
              refine e_getI dX3_takeNumber_58 fRX3_23 (by exact okK.sh rfl) (fun _ => rfl) ?_
              rw [h4]
              refine e_baloadB dX3_takeNumber_61 (by exact okK.sh rfl) (by exact vp_in_nI (show q < 500 by omega) (by decide)) ?_
              rw [nI_clamp (by omega), htK.2.2.2.2 _ (by omega)]
              refine e_callS0i [_] dX3_takeNumber_62 msmX3_isDigit lkRX3_133 rfl rfl (Nat.le_of_ble_eq_true rfl) (by decide) (c_isDigit hTq) ?_
              by_cases hd : 48 ≤ T q ∧ T q ≤ 57
              · have hdb : isD T q = true := by unfold isD; simp [hd]
                have e : ru (isD T) n q = ru (isD T) n (q + 1) := ru_t hqn hdb
                have hge := ru_ge (isD T) n (q + 1)
                have hv2 : nvf T (ru (isD T) n (q + 1) - (q + 1)) (q + 1) (10 * v + (T q - 48)) = nval T n p := by
                  rw [← hv, e, show ru (isD T) n (q + 1) - q = (ru (isD T) n (q + 1) - (q + 1)) + 1 by omega]; rfl
                rw [if_pos hd]
                refine e_if_eq (tgt := 105) dX3_takeNumber_65 (by decide) (fun hz => ?_) (fun hz => ?_)
                · exact absurd hz (by decide)
                · refine e_sipush (v := 10000) dX3_takeNumber_68 (by decide) ?_
                  refine e_iload_n dX3_takeNumber_71 rfl rfl ?_
                  refine e_bipush (v := 10) dX3_takeNumber_72 (by decide) ?_
                  have em : nI (min 10000 v) * 10 = nI (min 10000 v * 10) := pk_mul _ 10
                  refine e_imul dX3_takeNumber_74 ?_
                  rw [em]
                  refine e_aload_n dX3_takeNumber_75 rfl rfl ?_
                  refine e_getR dX3_takeNumber_76 fRX3_15 (by exact okK.sh rfl) (by exact htK.1) (fun _ => rfl) ?_
                  refine e_aload_n dX3_takeNumber_79 rfl rfl ?_
                  refine e_getI dX3_takeNumber_80 fRX3_23 (by exact okK.sh rfl) (fun _ => rfl) ?_
                  rw [h4]
                  refine e_baloadB dX3_takeNumber_83 (by exact okK.sh rfl) (by exact vp_in_nI (show q < 500 by omega) (by decide)) ?_
                  rw [nI_clamp (by omega), htK.2.2.2.2 _ (by omega), sb_D _ hTq hd]
                  refine e_iadd dX3_takeNumber_84 ?_
                  rw [nI_add]
                  refine e_bipush (v := 48) dX3_takeNumber_85 (by decide) ?_
                  refine e_isub dX3_takeNumber_87 ?_
                  have es : nI (min 10000 v * 10 + T q) - 48 = nI (min 10000 v * 10 + (T q - 48)) := by
                    have : nI (min 10000 v * 10 + (T q - 48)) + nI 48 = nI (min 10000 v * 10 + T q) := by rw [nI_add]; congr 1; omega
                    rw [← this, show (48 : Int32) = nI 48 from rfl, Int32.add_sub_cancel]
                  rw [es]
                  rw [show (10000 : Int32) = nI 10000 from fa_lit 10000]
                  refine e_mminN (by decide) (by omega) dX3_takeNumber_88 lkRX3_137 (Nat.le_of_ble_eq_true rfl) (by decide) ?_
                  have e10 : min 10000 (min 10000 v * 10 + (T q - 48)) = min 10000 (10 * v + (T q - 48)) := by omega
                  rw [e10]
                  refine e_istore_n dX3_takeNumber_91 rfl (by decide) rfl rfl ?_
                  refine e_aload_n dX3_takeNumber_92 rfl rfl ?_
                  refine e_dup dX3_takeNumber_93 rfl ?_
                  refine e_getI dX3_takeNumber_94 fRX3_23 (by exact okK.sh rfl) (fun _ => rfl) ?_
                  rw [h4]
                  refine e_iconst (v := 1) dX3_takeNumber_97 (by decide) ?_
                  refine e_iadd dX3_takeNumber_98 ?_
                  rw [nI_1]
                  refine e_putI dX3_takeNumber_99 fRX3_23 (by exact okK.sh rfl) rfl rfl rfl (fun _ _ => rfl) ?_
                  refine e_goto (tgt := 42) dX3_takeNumber_102 (by decide) ?_
                  exact ih (q + 1) _ _ (by omega) (by omega) (hfK.s (by decide)) (by rw [rd_self]) (by rw [← e]; exact hru) hv2
              · have e : ru (isD T) n q = q := ru_f (fun z => hd (by have := z.2; unfold isD at this; simpa using this))
                rw [e, Nat.sub_self] at hv
                have hv' : v = nval T n p := hv
                rw [hv', if_neg hd]
                refine e_if_eq (tgt := 105) dX3_takeNumber_65 (by decide) (fun hz => ?_) (fun hz => ?_)
                · exact fin K hfK (by rw [← hru, e]; exact h4)
                · exact absurd rfl hz
        exact loop (n - sk T n p) (sk T n p) 0 N1 rfl hsk RF.rf a4 rfl rfl
      · rw [if_neg ha]
        show Ev _ _ _ _ _ _ 11 _ [.int 0] _
        refine e_if_ne (tgt := 23) dX3_takeNumber_11 (by decide) (fun hz2 => absurd rfl hz2) (fun hz2 => ?_)
        refine e_aload_n dX3_takeNumber_14 rfl rfl ?_
        refine e_iconst (v := 1) dX3_takeNumber_15 (by decide) ?_
        refine e_aload_n dX3_takeNumber_16 rfl rfl ?_
        refine e_getI dX3_takeNumber_17 fRX3_23 (by exact okN.sh rfl) (fun _ => rfl) ?_
        rw [hN]
        refine e_callV0v [_, _] dX3_takeNumber_20 mvmX3_fail lkRX3_52 (by exact okN.sh rfl) ⟨by decide, rfl⟩ rfl rfl (Nat.le_of_ble_eq_true rfl) (by decide) (c_fail (k := 1) (p := nI (sk T n p)) okN) ?_
        rw [if_pos f0]
        have e9 : pnum T n lo hi p = .inl (1, sk T n p) := by unfold pnum; rw [if_neg ha]
        refine e_aload_n dX3_takeNumber_23 rfl rfl ?_
        refine e_getI dX3_takeNumber_24 fRX3_26 (by exact okN.sh rfl) (fun _ => rfl) ?_
        refine e_if_eq (tgt := 32) dX3_takeNumber_27 (by decide) (fun hz3 => ?_) (fun hz3 => ?_)
        · rw [rd_ni (by decide), rd_self] at hz3
          exact absurd hz3 (by decide)
        · refine e_iconst (v := (-1)) dX3_takeNumber_30 (by decide) ?_
          refine e_iret dX3_takeNumber_31 rfl rfl ⟨_, rfl, _, rfl, ?_, (hf4.s (by decide)).s (by decide), fun p' e v q hp' he => ?_⟩
          · show Rd _ n (bd (pnum T n lo hi p) _)
            rw [e9]
            exact Rd.fl hsk hN ⟨by decide, by decide, hsk⟩ rfl
          · cases hp'
            rw [e9] at he; cases he

