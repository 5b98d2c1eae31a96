/-! Integer.bitCount; Parts: cells 17 and 18 -/
def bcF (x : Int32) : Int32 :=
  let ush := fun (x z : Int32) => ((x.toUInt32 >>> (z.toUInt32 &&& Int32.toUInt32 31)).toInt32 : Int32)
  let a := x - (ush x 1 &&& 1431655765)
  let b := (a &&& 858993459) + (ush a 2 &&& 858993459)
  let c := (b + ush b 4) &&& 252645135
  let d := c + ush c 8
  let e := d + ush d 16
  e &&& 63
theorem bc_all : ∀ a, a < 64 → ∀ b, b < 64 → bcF (nI (a * 64 + b)) = nI (pop (a * 64 + b)) := by decide +kernel
theorem bc_ok {k : Nat} (hk : k < 4096) : bcF (nI k) = nI (pop k) := by
  have h := bc_all (k / 64) (by omega) (k % 64) (by omega)
  have e : k / 64 * 64 + k % 64 = k := by omega
  rw [e] at h; exact h
theorem c_bitCount {B : Bd} {M : Mm} {k : Nat} (hk : k < 4096) : Ct B mJ6_bitCount_0f7a4 0 0 0 [.int (nI k)] M (Is (some (.int (nI (pop k)))) M) := by
  refine Ct.of (by decide) rfl rfl (Nat.le_of_ble_eq_true rfl) ?_
  refine e_iload_n dJ6_bitCount_0f7a4_0 rfl rfl ?_
  refine e_iload_n dJ6_bitCount_0f7a4_1 rfl rfl ?_
  refine e_iconst (v := 1) dJ6_bitCount_0f7a4_2 (by decide) ?_
  refine e_iushr dJ6_bitCount_0f7a4_3 ?_
  refine e_ldcw dJ6_bitCount_0f7a4_4 kRJ6_265 ?_
  refine e_iand dJ6_bitCount_0f7a4_7 ?_
  refine e_isub dJ6_bitCount_0f7a4_8 ?_
  refine e_istore_n dJ6_bitCount_0f7a4_9 rfl (by decide) rfl rfl ?_
  refine e_iload_n dJ6_bitCount_0f7a4_10 rfl rfl ?_
  refine e_ldcw dJ6_bitCount_0f7a4_11 kRJ6_266 ?_
  refine e_iand dJ6_bitCount_0f7a4_14 ?_
  refine e_iload_n dJ6_bitCount_0f7a4_15 rfl rfl ?_
  refine e_iconst (v := 2) dJ6_bitCount_0f7a4_16 (by decide) ?_
  refine e_iushr dJ6_bitCount_0f7a4_17 ?_
  refine e_ldcw dJ6_bitCount_0f7a4_18 kRJ6_266 ?_
  refine e_iand dJ6_bitCount_0f7a4_21 ?_
  refine e_iadd dJ6_bitCount_0f7a4_22 ?_
  refine e_istore_n dJ6_bitCount_0f7a4_23 rfl (by decide) rfl rfl ?_
  refine e_iload_n dJ6_bitCount_0f7a4_24 rfl rfl ?_
  refine e_iload_n dJ6_bitCount_0f7a4_25 rfl rfl ?_
  refine e_iconst (v := 4) dJ6_bitCount_0f7a4_26 (by decide) ?_
  refine e_iushr dJ6_bitCount_0f7a4_27 ?_
  refine e_iadd dJ6_bitCount_0f7a4_28 ?_
  refine e_ldcw dJ6_bitCount_0f7a4_29 kRJ6_267 ?_
  refine e_iand dJ6_bitCount_0f7a4_32 ?_
  refine e_istore_n dJ6_bitCount_0f7a4_33 rfl (by decide) rfl rfl ?_
  refine e_iload_n dJ6_bitCount_0f7a4_34 rfl rfl ?_
  refine e_iload_n dJ6_bitCount_0f7a4_35 rfl rfl ?_
  refine e_bipush (v := 8) dJ6_bitCount_0f7a4_36 (by decide) ?_
  refine e_iushr dJ6_bitCount_0f7a4_38 ?_
  refine e_iadd dJ6_bitCount_0f7a4_39 ?_
  refine e_istore_n dJ6_bitCount_0f7a4_40 rfl (by decide) rfl rfl ?_
  refine e_iload_n dJ6_bitCount_0f7a4_41 rfl rfl ?_
  refine e_iload_n dJ6_bitCount_0f7a4_42 rfl rfl ?_
  refine e_bipush (v := 16) dJ6_bitCount_0f7a4_43 (by decide) ?_
  refine e_iushr dJ6_bitCount_0f7a4_45 ?_
  refine e_iadd dJ6_bitCount_0f7a4_46 ?_
  refine e_istore_n dJ6_bitCount_0f7a4_47 rfl (by decide) rfl rfl ?_
  refine e_iload_n dJ6_bitCount_0f7a4_48 rfl rfl ?_
  refine e_bipush (v := 63) dJ6_bitCount_0f7a4_49 (by decide) ?_
  refine e_iand dJ6_bitCount_0f7a4_51 ?_
  have h := bc_ok hk
  unfold bcF at h
  exact e_iret dJ6_bitCount_0f7a4_52 rfl rfl ⟨congrArg (fun z => Sum.inl (some (Value.int z))) h, rfl⟩
/-- what is around a set, and its odd parts, in one int -/
def arO (w : Nat → Nat → Option Nat) (S : Nat) : Nat := 2 ^ 4 * AR w S + od w S
def PR (M : Mm) (w : Nat → Nat → Option Nat) (n : Nat) : Prop := ∀ S, S < n → M.2.1 18 S = nI (arO w S)
def PAR (M : Mm) (g : Nw) : Prop := PR M g.2.1 (2 ^ g.1) ∧ M.2.1 17 1 = nI (al g)
def PInv (M : Mm) (g : Nw) : Prop := M.2.1 18 0 = 0 ∧ (M.2.1 17 0 = 0 ∨ (M.2.1 17 0 = 1 ∧ PAR M g))
theorem AR_lt (w : Nat → Nat → Option Nat) (P : Nat) : AR w P < 4096 := lt_of_bits (n := 12) (fun i hi => by
  cases hc : (AR w P).testBit i with
  | false => rfl
  | true =>
    obtain ⟨a, -, -, h, -⟩ := AR_bit.mp hc
    omega)
theorem sub_le {P S : Nat} (h : ∀ i, P.testBit i = true → S.testBit i = true) : P ≤ S := Nat.le_of_testBit h
theorem sh4 {x o : Nat} (hx : x < 4096) (ho : o < 16) : nI (2 ^ 4 * x + o) >>> ((4 : Int32) &&& 31) = nI x := by
  have h := shr_nI (k := 2 ^ 4 * x + o) (j := 4) (by omega) (by decide)
  rw [show (2 ^ 4 * x + o) / 2 ^ 4 = x by omega] at h
  exact h
theorem an15 {x o : Nat} (hx : x < 4096) (ho : o < 16) : nI (2 ^ 4 * x + o) &&& 15 = nI o := by
  have h : nI (2 ^ 4 * x + o) &&& 15 = nI ((2 ^ 4 * x + o) % 2 ^ 4) := pk_andN (m := 15) (by omega) 4 (by decide)
  rw [show (2 ^ 4 * x + o) % 2 ^ 4 = o by omega] at h
  exact h
theorem sl4 {x : Nat} (hx : x < 4096) : nI x <<< ((4 : Int32) &&& 31) = nI (2 ^ 4 * x) := by
  have h := pk_shlN (n := x) (nI 4 &&& 31) 4 (sh_am 4 (by decide)) (by omega)
  rw [Nat.mul_comm] at h
  exact h
theorem c_aroundOf {B : Bd} {M : Mm} {S x o : Nat} (ok : OkM M) (hS : S < 4096) (hx : x < 4096) (ho : o < 16) (h : M.2.1 18 S = nI (2 ^ 4 * x + o)) : Ct B mX2_aroundOf 0 0 0 [.ref 17, .int (nI S)] M (Is (some (.int (nI x))) M) := by
  refine Ct.of (by decide) rfl rfl (Nat.le_of_ble_eq_true rfl) ?_
  refine e_aload_n dX2_aroundOf_0 rfl rfl ?_
  refine e_getR dX2_aroundOf_1 fRX2_19 (by exact ok.sh rfl) (by exact ok.rf rfl) (fun _ => rfl) ?_
  refine e_iload_n dX2_aroundOf_4 rfl rfl ?_
  refine e_iaload dX2_aroundOf_5 (by exact ok.sh rfl) (by exact vp_in_nI hS (by decide)) ?_
  rw [nI_clamp (by omega), h]
  refine e_iconst (v := 4) dX2_aroundOf_6 (by decide) ?_
  refine e_ishr dX2_aroundOf_7 ?_
  rw [sh4 hx ho]
  exact e_iret dX2_aroundOf_8 rfl rfl (⟨rfl, rfl⟩)
theorem c_oddIn {B : Bd} {M : Mm} {S x o : Nat} (ok : OkM M) (hS : S < 4096) (hx : x < 4096) (ho : o < 16) (h : M.2.1 18 S = nI (2 ^ 4 * x + o)) : Ct B mX2_oddIn 0 0 0 [.ref 17, .int (nI S)] M (Is (some (.int (nI o))) M) := by
  refine Ct.of (by decide) rfl rfl (Nat.le_of_ble_eq_true rfl) ?_
  refine e_aload_n dX2_oddIn_0 rfl rfl ?_
  refine e_getR dX2_oddIn_1 fRX2_19 (by exact ok.sh rfl) (by exact ok.rf rfl) (fun _ => rfl) ?_
  refine e_iload_n dX2_oddIn_4 rfl rfl ?_
  refine e_iaload dX2_oddIn_5 (by exact ok.sh rfl) (by exact vp_in_nI hS (by decide)) ?_
  rw [nI_clamp (by omega), h]
  refine e_bipush (v := 15) dX2_oddIn_6 (by decide) ?_
  refine e_iand dX2_oddIn_8 ?_
  rw [an15 hx ho]
  exact e_iret dX2_oddIn_9 rfl rfl (⟨rfl, rfl⟩)
theorem c_partOf {B : Bd} {M : Mm} {w : Nat → Nat → Option Nat} {a S : Nat} (ok : OkM M) (hS : S < 4096) (ha : S.testBit a = true) (hA : ∀ P, P ≤ S → ∃ o, o < 16 ∧ M.2.1 18 P = nI (2 ^ 4 * AR w P + o)) : Ct B mX2_partOf 1 0 0 [.ref 17, .int (nI a), .int (nI S)] M (Is (some (.int (nI (cmp w S a)))) M) := by
  have ha12 := in12 hS ha
  refine Ct.of (by decide) rfl rfl (Nat.le_of_ble_eq_true rfl) ?_
  have loop : ∀ k i P (t : Option Value), i + k = 12 → (∀ j, P.testBit j = true → S.testBit j = true) → itr w S k P = cmp w S a → Ev B mX2_partOf 1 0 0 (Is (some (.int (nI (cmp w S a)))) M) 7 [some (.ref 17), some (.int (nI a)), some (.int (nI S)), some (.int (nI P)), some (.int (nI i)), t] [] M := by
    intro k
    induction k with
    | zero =>
      intro i P t hi hP he
      have h12 : i = 12 := by omega
      subst h12
      have he' : P = cmp w S a := he
      refine e_iload dX2_partOf_7 rfl ?_
      refine e_bipush (v := 12) dX2_partOf_9 (by decide) ?_
      refine e_icmp_ge (tgt := 43) dX2_partOf_11 (by decide) (fun hc => ?_) (fun hc => ?_)
      · refine e_iload_n dX2_partOf_43 rfl rfl ?_
        rw [he']
        exact e_iret dX2_partOf_44 rfl rfl (⟨rfl, rfl⟩)
      · exact absurd (by decide) hc
    | succ k ih =>
      intro i P t hi hP he
      have hPS := sub_le hP
      have he' : itr w S k (cst w S P) = cmp w S a := he
      have hcl := cst_lt (w := w) hS (show P < 4096 by omega)
      obtain ⟨o, ho, hMo⟩ := hA P hPS
      refine e_iload dX2_partOf_7 rfl ?_
      refine e_bipush (v := 12) dX2_partOf_9 (by decide) ?_
      refine e_icmp_ge (tgt := 43) dX2_partOf_11 (by decide) (fun hc => ?_) (fun hc => ?_)
      · exact absurd hc (nI_ge (b := 12) (by omega) (by decide))
      · refine e_iload_n dX2_partOf_14 rfl rfl ?_
        refine e_aload_n dX2_partOf_15 rfl rfl ?_
        refine e_iload_n dX2_partOf_16 rfl rfl ?_
        refine e_callV0i [_] dX2_partOf_17 mvmX2_aroundOf lkRX2_35 (by exact ok.sh rfl) ⟨by decide, rfl⟩ rfl rfl (Nat.le_of_ble_eq_true rfl) (by decide) (c_aroundOf ok (show P < 4096 by omega) (AR_lt w P) ho hMo) ?_
        refine e_iload_n dX2_partOf_20 rfl rfl ?_
        refine e_iand dX2_partOf_21 ?_
        rw [fa_and]
        refine e_ior dX2_partOf_22 ?_
        rw [fa_or]
        have e9 : P ||| (AR w P &&& S) = cst w S P := rfl
        rw [e9]
        refine e_istore dX2_partOf_23 (by decide) rfl rfl ?_
        refine e_iload dX2_partOf_25 rfl ?_
        refine e_iload_n dX2_partOf_27 rfl rfl ?_
        refine e_icmp_ne (tgt := 34) dX2_partOf_28 (by decide) (fun hq => ?_) (fun hq => ?_)
        · refine e_iload dX2_partOf_34 rfl ?_
          refine e_istore_n dX2_partOf_36 rfl (by decide) rfl rfl ?_
          refine e_iinc (v := nI (i + 1)) dX2_partOf_37 rfl (nI_1 i) (by decide) rfl rfl ?_
          refine e_goto (tgt := 7) dX2_partOf_40 (by decide) ?_
          refine ih (i + 1) (cst w S P) _ (by omega) (fun j hj => ?_) he'
          rcases cst_bit.mp hj with h1 | ⟨h1, -⟩
          · exact hP j h1
          · exact h1
        · rw [nI_eq (by omega) (by omega)] at hq
          rw [hq, itr_fix hq] at he'
          refine e_goto (tgt := 43) dX2_partOf_31 (by decide) ?_
          refine e_iload_n dX2_partOf_43 rfl rfl ?_
          rw [he']
          exact e_iret dX2_partOf_44 rfl rfl (⟨rfl, rfl⟩)
  refine e_iconst (v := 1) dX2_partOf_0 (by decide) ?_
  refine e_iload_n dX2_partOf_1 rfl rfl ?_
  refine e_ishl dX2_partOf_2 ?_
  rw [shl_1 (by omega)]
  refine e_istore_n dX2_partOf_3 rfl (by decide) rfl rfl ?_
  refine e_iconst (v := 0) dX2_partOf_4 (by decide) ?_
  refine e_istore dX2_partOf_5 (by decide) rfl rfl ?_
  refine loop 12 0 (2 ^ a) _ (by omega) (fun j hj => ?_) rfl
  rw [Nat.testBit_two_pow] at hj
  have : a = j := by simpa using hj
  rw [← this]; exact ha
theorem c_plearnSet {B : Bd} {M : Mm} {g : Nw} {a S : Nat} (ok : OkM M) (h : NetRep M 2 g) (wf : Wfn g) (ha : a < 12) (h1 : 2 ^ a ≤ S) (h2 : S < 2 ^ (a + 1)) (hT : PR M g.2.1 S) : Ct B mX2_learnSet 2 0 0 [.ref 17, .ref 2, .int (nI a), .int (nI S)] M (Rt (fun v N => v = none ∧ PR N g.2.1 (S + 1) ∧ Fr 18 18 M N)) := by
  have hbt := bit_top h1 h2
  have hrl := dif_hi h2
  have hp := p12 (a := a + 1) (by omega)
  have hS4 : S < 4096 := by omega
  have cS : (nI S).toNatClampNeg = S := nI_clamp (by omega)
  have hod : ∀ T, od g.2.1 T < 16 := fun T => by have := od_le g.2.1 T; omega
  refine Ct.of (by decide) rfl rfl (Nat.le_of_ble_eq_true rfl) ?_
  refine e_aload_n dX2_learnSet_0 rfl rfl ?_
  refine e_iload_n dX2_learnSet_1 rfl rfl ?_
  refine e_iconst (v := 1) dX2_learnSet_2 (by decide) ?_
  refine e_iload_n dX2_learnSet_3 rfl rfl ?_
  refine e_ishl dX2_learnSet_4 ?_
  rw [shl_1 (by omega)]
  refine e_iconst (v := (-1)) dX2_learnSet_5 (by decide) ?_
  refine e_ixor dX2_learnSet_6 ?_
  refine e_iand dX2_learnSet_7 ?_
  rw [andn_nI]
  refine e_callV0i [_] dX2_learnSet_8 mvmX2_aroundOf lkRX2_35 (by first | exact ok.sh rfl | exact h.1.2.2.1) ⟨by decide, rfl⟩ rfl rfl (Nat.le_of_ble_eq_true rfl) (by decide) (c_aroundOf ok (show dif S (2 ^ a) < 4096 by omega) (AR_lt g.2.1 (dif S (2 ^ a))) (hod (dif S (2 ^ a))) (hT _ (by omega))) ?_
  refine e_aload_n dX2_learnSet_11 rfl rfl ?_
  refine e_getR dX2_learnSet_12 fRX2_39 (by first | exact ok.sh rfl | exact h.1.2.2.1) (by first | exact ok.rf rfl) (fun _ => rfl) ?_
  refine e_iload_n dX2_learnSet_15 rfl rfl ?_
  refine e_iaload dX2_learnSet_16 (by first | exact ok.sh rfl | exact h.1.2.2.1) (by first | exact vp_in_nI (show a < 12 by omega) (by decide) | exact vp_in_nI hS4 (by decide)) ?_
  rw [nI_clamp (by omega), h.2.2.2.2.1 a (by omega)]
  refine e_ior dX2_learnSet_17 ?_
  rw [fa_or, ← AR_hi (by omega) hbt (by omega)]
  refine e_istore dX2_learnSet_18 (by decide) rfl rfl ?_
  refine e_aload_n dX2_learnSet_20 rfl rfl ?_
  refine e_getR dX2_learnSet_21 fRX2_19 (by first | exact ok.sh rfl | exact h.1.2.2.1) (by first | exact ok.rf rfl) (fun _ => rfl) ?_
  refine e_iload_n dX2_learnSet_24 rfl rfl ?_
  refine e_iload dX2_learnSet_25 rfl ?_
  refine e_iconst (v := 4) dX2_learnSet_27 (by decide) ?_
  refine e_ishl dX2_learnSet_28 ?_
  rw [sl4 (AR_lt _ _)]
  refine e_iastore dX2_learnSet_29 (by first | exact ok.sh rfl | exact h.1.2.2.1) (by first | exact vp_in_nI (show a < 12 by omega) (by decide) | exact vp_in_nI hS4 (by decide)) ?_
  rw [cS]
  generalize hM1 : sI M 18 S (nI (2 ^ 4 * AR g.2.1 S)) = M1
  have ok1 : OkM M1 := by rw [← hM1]; exact ok
  have f1 : Fr 18 18 M M1 := by rw [← hM1]; exact Fr.rf.sI (by decide) (by decide)
  have e1 : M1.2.1 18 S = nI (2 ^ 4 * AR g.2.1 S) := by rw [← hM1, rd_self]
  have e2 : ∀ T, T ≠ S → M1.2.1 18 T = M.2.1 18 T := fun T hne => by rw [← hM1, rd_ni hne]
  have hpt := c_partOf (B := B) (w := g.2.1) ok1 hS4 hbt (fun P hP => by
    by_cases hPS : P = S
    · exact ⟨0, by decide, by rw [hPS, e1, Nat.add_zero]⟩
    · exact ⟨_, hod P, by rw [e2 P hPS]; exact hT P (by omega)⟩)
  refine e_aload_n dX2_learnSet_30 rfl rfl ?_
  refine e_iload_n dX2_learnSet_31 rfl rfl ?_
  refine e_iload_n dX2_learnSet_32 rfl rfl ?_
  refine e_callV0i [_, _] dX2_learnSet_33 mvmX2_partOf lkRX2_42 (by exact ok1.sh rfl) ⟨by decide, rfl⟩ rfl rfl (Nat.le_of_ble_eq_true rfl) (by decide) (hpt) ?_
  have hcl := cmp_lt (w := g.2.1) hS4 hbt
  have hst := od_step wf.2.1 hS4 hbt
  have hdl : dif S (cmp g.2.1 S a) < S := by
    have h1 : dif S (cmp g.2.1 S a) ≤ S := dif_le _ _
    have h2 : dif S (cmp g.2.1 S a) ≠ S := by
      intro q
      have : (dif S (cmp g.2.1 S a)).testBit a = true := by rw [q]; exact hbt
      rw [dif_bit, cmp_self] at this
      simp at this
    omega
  generalize hcm : cmp g.2.1 S a = P at hcl hst hdl
  refine e_istore dX2_learnSet_36 (by decide) rfl rfl ?_
  refine e_aload_n dX2_learnSet_38 rfl rfl ?_
  refine e_getR dX2_learnSet_39 fRX2_19 (by exact ok1.sh rfl) (by exact ok1.rf rfl) (fun _ => rfl) ?_
  refine e_iload_n dX2_learnSet_42 rfl rfl ?_
  refine e_dup2 dX2_learnSet_43 rfl rfl ?_
  refine e_iaload dX2_learnSet_44 (by exact ok1.sh rfl) (by first | exact vp_in_nI (show a < 12 by omega) (by decide) | exact vp_in_nI hS4 (by decide)) ?_
  rw [cS, e1]
  refine e_aload_n dX2_learnSet_45 rfl rfl ?_
  refine e_iload_n dX2_learnSet_46 rfl rfl ?_
  refine e_iload dX2_learnSet_47 rfl ?_
  refine e_iconst (v := (-1)) dX2_learnSet_49 (by decide) ?_
  refine e_ixor dX2_learnSet_50 ?_
  refine e_iand dX2_learnSet_51 ?_
  rw [andn_nI]
  refine e_callV0i [_] dX2_learnSet_52 mvmX2_oddIn lkRX2_46 (by exact ok1.sh rfl) ⟨by decide, rfl⟩ rfl rfl (Nat.le_of_ble_eq_true rfl) (by decide) (c_oddIn ok1 (show dif S P < 4096 by omega) (AR_lt g.2.1 (dif S P)) (hod (dif S P)) (by rw [e2 _ (by omega)]; exact hT _ hdl)) ?_
  refine e_iload dX2_learnSet_55 rfl ?_
  refine e_callS0i [_] dX2_learnSet_57 msmJ6_bitCount_0f7a4 lkRX2_49 rfl rfl (Nat.le_of_ble_eq_true rfl) (by decide) (c_bitCount hcl) ?_
  refine e_iconst (v := 1) dX2_learnSet_60 (by decide) ?_
  refine e_iand dX2_learnSet_61 ?_
  have e3 : nI (pop P) &&& 1 = nI (pop P % 2 ^ 1) := pk_andN (m := 1) (by have := pop_le P; omega) 1 (by decide)
  rw [e3]
  refine e_iadd dX2_learnSet_62 ?_
  rw [nI_add, show od g.2.1 (dif S P) + pop P % 2 ^ 1 = od g.2.1 S by omega]
  refine e_ior dX2_learnSet_63 ?_
  rw [fa_or_sum (k := 4) _ (hod S)]
  refine e_iastore dX2_learnSet_64 (by exact ok1.sh rfl) (by first | exact vp_in_nI (show a < 12 by omega) (by decide) | exact vp_in_nI hS4 (by decide)) ?_
  rw [cS]
  refine e_vret dX2_learnSet_65 rfl ⟨none, rfl, rfl, fun T hT9 => ?_, f1.sI (by decide) (by decide)⟩
  by_cases hTS : T = S
  · rw [hTS, rd_self]; rfl
  · rw [rd_ni hTS, e2 T hTS]; exact hT T (by omega)
/-- nothing but ints of the cells 17 and 18 -/
theorem c_plearn {B : Bd} {M : Mm} {g : Nw} (ok : OkM M) (h : NetRep M 2 g) (wf : Wfn g) (hi : PInv M g) : Ct B mX2_learn 3 0 0 [.ref 17, .ref 2] M (Rt (fun v N => v = none ∧ PAR N g ∧ N.2.1 17 0 = 1 ∧ N.2.1 18 0 = 0 ∧ Fr 17 18 M N)) := by
  have hN := h.1
  have hg12 := wf.1.2
  have hp12 := p12 hg12
  obtain ⟨z, hi⟩ := hi
  refine Ct.of (by decide) rfl rfl (Nat.le_of_ble_eq_true rfl) ?_
  refine e_aload_n dX2_learn_0 rfl rfl ?_
  refine e_getI dX2_learn_1 fRX2_9 (by first | exact ok.sh rfl) (fun _ => rfl) ?_
  refine e_if_eq (tgt := 8) dX2_learn_4 (by decide) (fun hq => ?_) (fun hq => ?_)
  · refine e_aload_n dX2_learn_8 rfl rfl ?_
    refine e_iconst (v := 1) dX2_learn_9 (by decide) ?_
    refine e_putI dX2_learn_10 fRX2_9 (by first | exact ok.sh rfl) rfl rfl rfl (fun _ _ => rfl) ?_
    refine e_aload_n dX2_learn_13 rfl rfl ?_
    refine e_aload_n dX2_learn_14 rfl rfl ?_
    refine e_callV0i [] dX2_learn_15 mvmX1_all lkRX2_23 (by first | exact ok.sh rfl) ⟨by decide, rfl⟩ rfl rfl (Nat.le_of_ble_eq_true rfl) (by decide) (c_all (h.fr (Fr.rf.sI (lo := 17) (hi := 18) (a := 17) (i := 0) (v := 1) (by decide) (by decide)) (by omega)) wf.1.2) ?_
    show Ev _ _ _ _ _ _ 18 _ [.int (nI (al g)), .ref 17] _
    refine e_putI dX2_learn_18 fRX2_15 (by first | exact ok.sh rfl) rfl rfl rfl (fun _ _ => rfl) ?_
    refine e_iconst (v := 0) dX2_learn_21 (by decide) ?_
    refine e_istore_n dX2_learn_22 rfl (by decide) rfl rfl ?_
    generalize hM1 : sI (sI M 17 0 1) 17 1 (nI (al g)) = M1
    have hf1 : Fr 17 18 M M1 := by
      rw [← hM1]
      exact (Fr.rf.sI (by decide) (by decide)).sI (by decide) (by decide)
    have ao0 : arO g.2.1 0 = 0 := by unfold arO; rw [AR_0, od_0]
    have q0 : PR M1 g.2.1 1 := by
      intro S hS
      have hS0 : S = 0 := by omega
      rw [hS0, ao0, ← hM1, rd_na (by decide), rd_na (by decide)]
      exact z
    have k0 : M1.2.1 17 0 = 1 := by rw [← hM1, rd_ni (by decide), rd_self]
    have k1 : M1.2.1 17 1 = nI (al g) := by rw [← hM1, rd_self]
    have outer : ∀ k a N (t : Option Value), a + k = g.1 → PR N g.2.1 (2 ^ a) → Fr 18 18 M1 N → Ev B mX2_learn 3 0 0 (Rt (fun v N => v = none ∧ PAR N g ∧ N.2.1 17 0 = 1 ∧ N.2.1 18 0 = 0 ∧ Fr 17 18 M N)) 23 [some (.ref 17), some (.ref 2), some (.int (nI a)), t] [] N := by
      intro k
      induction k with
      | zero =>
        intro a N t hak hT hf
        have hag : a = g.1 := by omega
        have rf : Fr 17 18 M N := hf1.trans (hf.wide (by decide) (by decide))
        have okN : OkM N := ok.fr rf
        have hNN : NetRep N 2 g := h.fr rf (by omega)
        refine e_iload_n dX2_learn_23 rfl rfl ?_
        refine e_aload_n dX2_learn_24 rfl rfl ?_
        refine e_getI dX2_learn_25 fRX2_28 (by exact okN.sh rfl) (fun _ => rfl) ?_
        rw [hNN.2.1]
        refine e_icmp_ge (tgt := 63) dX2_learn_28 (by decide) (fun hc => ?_) (fun hc => ?_)
        · have e17 : N.2.1 17 = M1.2.1 17 := hf.2.2 17 (by omega)
          have h0 := hT 0 (Nat.two_pow_pos a)
          rw [ao0] at h0
          exact e_vret dX2_learn_63 rfl ⟨none, rfl, rfl, ⟨by rw [← hag]; exact hT, by rw [e17]; exact k1⟩, by rw [e17]; exact k0, h0, rf⟩
        · exact absurd (nI_le (by omega : g.1 ≤ a) (by omega)) hc
      | succ k ih =>
        intro a N t hak hT hf
        have rf : Fr 17 18 M N := hf1.trans (hf.wide (by decide) (by decide))
        have okN : OkM N := ok.fr rf
        have hNN : NetRep N 2 g := h.fr rf (by omega)
        refine e_iload_n dX2_learn_23 rfl rfl ?_
        refine e_aload_n dX2_learn_24 rfl rfl ?_
        refine e_getI dX2_learn_25 fRX2_28 (by exact okN.sh rfl) (fun _ => rfl) ?_
        rw [hNN.2.1]
        refine e_icmp_ge (tgt := 63) dX2_learn_28 (by decide) (fun hc => ?_) (fun hc => ?_)
        · exact absurd hc (nI_ge (by omega) (by omega))
        · refine e_iconst (v := 1) dX2_learn_31 (by decide) ?_
          refine e_iload_n dX2_learn_32 rfl rfl ?_
          refine e_ishl dX2_learn_33 ?_
          rw [shl_1 (by omega)]
          refine e_istore_n dX2_learn_34 rfl (by decide) rfl rfl ?_
          have hpw : 2 ^ (a + 1) = 2 ^ a * 2 := Nat.pow_succ 2 a
          have hp := p12 (a := a + 1) (by omega)
          have inner : ∀ k2 S N2, S + k2 = 2 ^ (a + 1) → 2 ^ a ≤ S → PR N2 g.2.1 S → Fr 18 18 M1 N2 → Ev B mX2_learn 3 0 0 (Rt (fun v N => v = none ∧ PAR N g ∧ N.2.1 17 0 = 1 ∧ N.2.1 18 0 = 0 ∧ Fr 17 18 M N)) 35 [some (.ref 17), some (.ref 2), some (.int (nI a)), some (.int (nI S))] [] N2 := by
            intro k2
            induction k2 with
            | zero =>
              intro S N2 hS hS1 hT2 hf2
              refine e_iload_n dX2_learn_35 rfl rfl ?_
              refine e_iconst (v := 1) dX2_learn_36 (by decide) ?_
              refine e_iload_n dX2_learn_37 rfl rfl ?_
              refine e_iconst (v := 1) dX2_learn_38 (by decide) ?_
              refine e_iadd dX2_learn_39 ?_
              rw [nI_1]
              refine e_ishl dX2_learn_40 ?_
              rw [shl_1 (by omega)]
              refine e_icmp_ge (tgt := 57) dX2_learn_41 (by decide) (fun hc2 => ?_) (fun hc2 => ?_)
              · refine e_iinc (v := nI (a + 1)) dX2_learn_57 rfl (nI_1 a) (by decide) rfl rfl ?_
                refine e_goto (tgt := 23) dX2_learn_60 (by decide) ?_
                exact ih (a + 1) N2 _ (by omega) (fun T hT => hT2 T (by omega)) hf2
              · exact absurd (nI_le (by omega : 2 ^ (a + 1) ≤ S) (by omega)) hc2
            | succ k2 ih2 =>
              intro S N2 hS hS1 hT2 hf2
              have sf : Fr 17 18 M N2 := hf1.trans (hf2.wide (by decide) (by decide))
              have okN2 : OkM N2 := ok.fr sf
              have hN2 : NetRep N2 2 g := h.fr sf (by omega)
              refine e_iload_n dX2_learn_35 rfl rfl ?_
              refine e_iconst (v := 1) dX2_learn_36 (by decide) ?_
              refine e_iload_n dX2_learn_37 rfl rfl ?_
              refine e_iconst (v := 1) dX2_learn_38 (by decide) ?_
              refine e_iadd dX2_learn_39 ?_
              rw [nI_1]
              refine e_ishl dX2_learn_40 ?_
              rw [shl_1 (by omega)]
              refine e_icmp_ge (tgt := 57) dX2_learn_41 (by decide) (fun hc2 => ?_) (fun hc2 => ?_)
              · exact absurd hc2 (nI_ge (by omega) (by omega))
              · refine e_aload_n dX2_learn_44 rfl rfl ?_
                refine e_aload_n dX2_learn_45 rfl rfl ?_
                refine e_iload_n dX2_learn_46 rfl rfl ?_
                refine e_iload_n dX2_learn_47 rfl rfl ?_
                refine e_callV1 [_, _, _] dX2_learn_48 mvmX2_learnSet lkRX2_31 (by exact okN2.sh rfl) ⟨by decide, rfl⟩ rfl rfl (Nat.le_of_ble_eq_true rfl) (by decide) (c_plearnSet okN2 hN2 wf (by omega) hS1 (by omega) hT2) (fun v N3 h3 => ?_)
                obtain ⟨rfl, h4, h5⟩ := h3
                refine e_iinc (v := nI (S + 1)) dX2_learn_51 rfl (nI_1 S) (by decide) rfl rfl ?_
                refine e_goto (tgt := 35) dX2_learn_54 (by decide) ?_
                exact ih2 (S + 1) N3 (by omega) (by omega) h4 (hf2.trans h5)
          exact inner (2 ^ a) (2 ^ a) N (by omega) (Nat.le_refl _) hT hf
    exact outer g.1 0 M1 none (by omega) q0 Fr.rf
  · rcases hi with hi | hi
    · exact absurd hi hq
    · exact e_vret dX2_learn_7 rfl ⟨none, rfl, rfl, hi.2, hi.1, z, Fr.rf⟩

