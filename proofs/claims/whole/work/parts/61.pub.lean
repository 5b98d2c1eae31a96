/-! OddPairs: the calls -/
theorem CI.tape {M N : Mm} {s : Sx} {T : Nat → Nat} {l : Nat} (h : CI M s) (hf : Fr 0 1 M N) (h0 : N.2.1 0 1 = nI l) (hl : l ≤ 500) (h2 : N.2.1 0 2 = sff s) (h6 : N.2.1 0 6 = M.2.1 0 6) (hT : CT N T) : CI N (setT s T l) := by
  obtain ⟨ok, c0, -, ⟨hn, hg⟩, hpa, ⟨a1, a2, a3⟩, hrr⟩ := h
  exact ⟨ok.fr hf, ⟨h0, hl, h2, by rw [h6]; exact c0.2.2.2.1, c0.2.2.2.2⟩, hT, ⟨hn.fr hf (by omega), hg⟩, hpa.fr c0.2.2.2.2 hf (by omega), ⟨a1.fr hf (by omega), a2.fr hf (by omega), a3.fr hf (by omega)⟩, hrr.fr hf (by omega)⟩
theorem nar_b (x : Int32) : vp_nar .byte x.toInt8.toInt32 = x.toInt8.toInt32 := by
  show (x.toInt8.toInt32).toInt8.toInt32 = x.toInt8.toInt32
  rw [Int8.toInt8_toInt32]
theorem sub8 (a b c : Int32) : a - b + -c = a - (b + c) := by
  rw [Int32.sub_eq_add_neg, Int32.sub_eq_add_neg, Int32.neg_add, Int32.add_assoc, Int32.sub_eq_add_neg]
theorem c_putBytes {B : Bd} {M : Mm} {s : Sx} {v : Int32} (h : CI M s) (hl : sll s + 4 ≤ 500) : Ct B mX5_putBytes 0 0 0 [.ref 0, .int v] M (Rt (fun u N => u = none ∧ CI N (setT s (wvj (sTT s) (sll s) v 4) (sll s + 4)) ∧ FC M N)) := by
  have ok := h.1
  refine Ct.of (by decide) rfl rfl (Nat.le_of_ble_eq_true rfl) ?_
  have loop : ∀ k j N, j + k = 4 → Fr 0 1 M N → CI N (setT s (wvj (sTT s) (sll s) v j) (sll s + j)) → Ev B mX5_putBytes 0 0 0 (Rt (fun u N => u = none ∧ CI N (setT s (wvj (sTT s) (sll s) v 4) (sll s + 4)) ∧ FC M N)) 3 [some (.ref 0), some (.int v), some (.int (nI 24 - nI (8 * j)))] [] N := by
    intro k
    induction k with
    | zero =>
      intro j N hj hf hN
      have hj4 : j = 4 := by omega
      subst hj4
      refine e_iload_n dX5_putBytes_3 rfl rfl ?_
      refine e_if_lt (tgt := 46) dX5_putBytes_4 (by decide) (fun _ => ?_) (fun hz => absurd (by decide) hz)
      exact e_vret dX5_putBytes_46 rfl ⟨none, rfl, rfl, hN, hf.FC (by decide)⟩
    | succ k ih =>
      intro j N hj hf hN
      have okN := hN.1
      have c0 := hN.2.1
      have hlj : N.2.1 0 1 = nI (sll s + j) := c0.1
      have hsh : nI 24 - nI (8 * j) = nI (24 - 8 * j) := by
        have : nI (24 - 8 * j) + nI (8 * j) = nI 24 := by rw [nI_add]; congr 1; omega
        rw [← this, Int32.add_sub_cancel]
      have hsh2 : nI 24 - nI (8 * j) + Int32.ofInt (-8) = nI 24 - nI (8 * (j + 1)) := by
        have : nI (8 * (j + 1)) = nI (8 * j) + nI 8 := by rw [nI_add]; congr 1
        rw [this, show Int32.ofInt (-8) = - nI 8 by decide]
        exact sub8 _ _ _
      refine e_iload_n dX5_putBytes_3 rfl rfl ?_
      refine e_if_lt (tgt := 46) dX5_putBytes_4 (by decide) (fun hz => ?_) (fun _ => ?_)
      · rw [hsh] at hz; exact absurd hz (nI_pos (by omega))
      · refine e_aload_n dX5_putBytes_7 rfl rfl ?_
        refine e_getI dX5_putBytes_8 fRX5_13 (by exact okN.sh rfl) (fun _ => rfl) ?_
        rw [hlj]
        refine e_sipush (v := 500) dX5_putBytes_11 (by decide) ?_
        rw [show (500 : Int32) = nI 500 from fa_lit 500]
        refine e_icmp_ge (tgt := 46) dX5_putBytes_14 (by decide) (fun hz2 => ?_) (fun hz2 => ?_)
        · exact absurd hz2 (nI_ge (by omega) (by omega))
        · refine e_aload_n dX5_putBytes_17 rfl rfl ?_
          refine e_getR dX5_putBytes_18 fRX5_9 (by exact okN.sh rfl) (by exact okN.rf rfl) (fun _ => rfl) ?_
          refine e_aload_n dX5_putBytes_21 rfl rfl ?_
          refine e_getI dX5_putBytes_22 fRX5_13 (by exact okN.sh rfl) (fun _ => rfl) ?_
          rw [hlj]
          refine e_iload_n dX5_putBytes_25 rfl rfl ?_
          refine e_iload_n dX5_putBytes_26 rfl rfl ?_
          refine e_ishr dX5_putBytes_27 ?_
          refine e_i2b dX5_putBytes_28 ?_
          refine e_bastoreB dX5_putBytes_29 (by exact okN.lo) (by exact okN.sh rfl) (by exact vp_in_nI (show sll s + j < 500 by omega) (by decide)) ?_
          rw [nar_b, hsh, byt_sb, nI_clamp (by omega)]
          have okN2 : OkM (sI N 1 (sll s + j) (sb (byt v j))) := okN
          have e1 : (sI N 1 (sll s + j) (sb (byt v j))).2.1 0 1 = nI (sll s + j) := by rw [rd_na (by decide)]; exact hlj
          refine e_aload_n dX5_putBytes_30 rfl rfl ?_
          refine e_dup dX5_putBytes_31 rfl ?_
          refine e_getI dX5_putBytes_32 fRX5_13 (by exact okN.sh rfl) (fun _ => rfl) ?_
          rw [e1]
          refine e_iconst (v := 1) dX5_putBytes_35 (by decide) ?_
          refine e_iadd dX5_putBytes_36 ?_
          rw [nI_1]
          refine e_putI dX5_putBytes_37 fRX5_13 (by exact okN.sh rfl) rfl rfl rfl (fun _ _ => rfl) ?_
          rw [← hsh]
          refine e_iinc dX5_putBytes_40 rfl hsh2 (by decide) rfl rfl ?_
          refine e_goto (tgt := 3) dX5_putBytes_43 (by decide) ?_
          have f2 : Fr 0 1 N (sI (sI N 1 (sll s + j) (sb (byt v j))) 0 1 (nI (sll s + j + 1))) := (Fr.rf.sI (by omega) (by omega)).sI (by omega) (by omega)
          refine ih (j + 1) _ (by omega) (hf.trans f2) ?_
          have := hN.tape (T := wvj (sTT s) (sll s) v (j + 1)) (l := sll s + j + 1) f2 (by rw [rd_self]) (by omega) (by rw [rd_ni (by decide), rd_na (by decide)]; exact c0.2.2.1) (by rw [rd_ni (by decide), rd_na (by decide)]) ?_
          · exact this
          · have hT := hN.2.2.1
            have hT1 : ∀ i, wvj (sTT s) (sll s) v j i < 256 := hT.1
            have hT2 : ∀ i, i < 500 → N.2.1 1 i = sb (wvj (sTT s) (sll s) v j i) := hT.2
            refine ⟨fun i => ?_, fun i hi => ?_⟩
            · show (if i = sll s + j then byt v j else wvj (sTT s) (sll s) v j i) < 256
              split
              · exact (byt_ok v j).1
              · exact hT1 i
            · rw [rd_na (by decide)]
              show _ = sb (if i = sll s + j then byt v j else wvj (sTT s) (sll s) v j i)
              by_cases hij : i = sll s + j
              · rw [if_pos hij, hij, rd_self]
              · rw [if_neg hij, rd_ni hij]; exact hT2 i hi
  refine e_bipush (v := 24) dX5_putBytes_0 (by decide) ?_
  refine e_istore_n dX5_putBytes_2 rfl (by decide) rfl rfl ?_
  exact loop 4 0 M (by decide) Fr.rf h
theorem c_feed {B : Bd} {M : Mm} {s : Sx} {a b c d e : Int32} (h : CI M s) : Ct B mX5_feed 1 0 0 [.ref 0, .int a, .int b, .int c, .int d, .int e] M (CPo [] M (sFeed s a b c d e)) := by
  have ok := h.1
  have c0 := h.2.1
  refine Ct.of (by decide) rfl rfl (Nat.le_of_ble_eq_true rfl) ?_
  refine e_aload_n dX5_feed_0 rfl rfl ?_
  refine e_getI dX5_feed_1 fRX5_13 (by exact ok.sh rfl) (fun _ => rfl) ?_
  rw [c0.1]
  refine e_bipush (v := 20) dX5_feed_4 (by decide) ?_
  refine e_iadd dX5_feed_6 ?_
  rw [show nI (sll s) + 20 = nI (sll s + 20) from nI_add _ 20]
  refine e_sipush (v := 500) dX5_feed_7 (by decide) ?_
  rw [show (500 : Int32) = nI 500 from fa_lit 500]
  have hle := c0.2.1
  by_cases hl : sll s + 20 ≤ 500
  · have e9 : sFeed s a b c d e = okR (nI (sll s + 20)) (setT s (fed5 (sTT s) (sll s) a b c d e) (sll s + 20)) := by unfold sFeed; rw [if_pos hl]
    rw [e9]
    refine e_icmp_le (tgt := 15) dX5_feed_10 (by decide) (fun hz => ?_) (fun hz => ?_)
    · refine e_aload_n dX5_feed_15 rfl rfl ?_
      refine e_iload_n dX5_feed_16 rfl rfl ?_
      refine e_callV1 [_] dX5_feed_17 mvmX5_putBytes lkRX5_79 (by exact ok.sh rfl) ⟨by decide, rfl⟩ rfl rfl (Nat.le_of_ble_eq_true rfl) (by decide) (c_putBytes (v := a) h (by omega)) (fun u N1 h1 => ?_)
      obtain ⟨hu, q1, p1⟩ := h1
      subst hu
      have ok1 := q1.1
      refine e_aload_n dX5_feed_20 rfl rfl ?_
      refine e_iload_n dX5_feed_21 rfl rfl ?_
      refine e_callV1 [_] dX5_feed_22 mvmX5_putBytes lkRX5_79 (by exact ok1.sh rfl) ⟨by decide, rfl⟩ rfl rfl (Nat.le_of_ble_eq_true rfl) (by decide) (c_putBytes (v := b) q1 (show sll s + 4 + 4 ≤ 500 by omega)) (fun u N2 h2 => ?_)
      obtain ⟨hu, q2, p2⟩ := h2
      subst hu
      have ok2 := q2.1
      refine e_aload_n dX5_feed_25 rfl rfl ?_
      refine e_iload_n dX5_feed_26 rfl rfl ?_
      refine e_callV1 [_] dX5_feed_27 mvmX5_putBytes lkRX5_79 (by exact ok2.sh rfl) ⟨by decide, rfl⟩ rfl rfl (Nat.le_of_ble_eq_true rfl) (by decide) (c_putBytes (v := c) q2 (show sll s + 4 + 4 + 4 ≤ 500 by omega)) (fun u N3 h3 => ?_)
      obtain ⟨hu, q3, p3⟩ := h3
      subst hu
      have ok3 := q3.1
      refine e_aload_n dX5_feed_30 rfl rfl ?_
      refine e_iload dX5_feed_31 rfl ?_
      refine e_callV1 [_] dX5_feed_33 mvmX5_putBytes lkRX5_79 (by exact ok3.sh rfl) ⟨by decide, rfl⟩ rfl rfl (Nat.le_of_ble_eq_true rfl) (by decide) (c_putBytes (v := d) q3 (show sll s + 4 + 4 + 4 + 4 ≤ 500 by omega)) (fun u N4 h4 => ?_)
      obtain ⟨hu, q4, p4⟩ := h4
      subst hu
      have ok4 := q4.1
      refine e_aload_n dX5_feed_36 rfl rfl ?_
      refine e_iload dX5_feed_37 rfl ?_
      refine e_callV1 [_] dX5_feed_39 mvmX5_putBytes lkRX5_79 (by exact ok4.sh rfl) ⟨by decide, rfl⟩ rfl rfl (Nat.le_of_ble_eq_true rfl) (by decide) (c_putBytes (v := e) q4 (show sll s + 4 + 4 + 4 + 4 + 4 ≤ 500 by omega)) (fun u N5 h5 => ?_)
      obtain ⟨hu, q5, p5⟩ := h5
      subst hu
      have ok5 := q5.1
      have c5 : N5.2.1 0 1 = nI (sll s + 20) := q5.2.1.1
      refine e_aload_n dX5_feed_42 rfl rfl ?_
      refine e_getI dX5_feed_43 fRX5_13 (by exact ok5.sh rfl) (fun _ => rfl) ?_
      rw [c5]
      exact e_iret dX5_feed_46 rfl rfl (cpo_ok q5 ((((p1.trans p2).trans p3).trans p4).trans p5))
    · exact absurd (nI_le (by omega) (by omega)) hz
  · have e9 : sFeed s a b c d e = okR (-1) s := by unfold sFeed; rw [if_neg hl]
    rw [e9]
    refine e_icmp_le (tgt := 15) dX5_feed_10 (by decide) (fun hz => ?_) (fun hz => ?_)
    · exact absurd hz (nI_ge (by omega) (by omega))
    · refine e_iconst (v := (-1)) dX5_feed_13 (by decide) ?_
      exact e_iret dX5_feed_14 rfl rfl (cpo_ok h FC.rf)
theorem c_fault {B : Bd} {M : Mm} {s : Sx} (h : CI M s) : Ct B mX5_fault 0 0 0 [.ref 0] M (CPo [] M (sFault s)) := by
  have ok := h.1
  refine Ct.of (by decide) rfl rfl (Nat.le_of_ble_eq_true rfl) ?_
  refine e_aload_n dX5_fault_0 rfl rfl ?_
  refine e_getI dX5_fault_1 fRX5_17 (by exact ok.sh rfl) (fun _ => rfl) ?_
  rw [h.2.1.2.2.1]
  exact e_iret dX5_fault_4 rfl rfl (cpo_ok h FC.rf)
theorem toN {x : Int32} {k : Nat} (h1 : 0 ≤ x.toInt) (h2 : x.toInt ≤ k) (hk : k < 2 ^ 31) : x = nI x.toInt.toNat ∧ x.toInt.toNat ≤ k := by
  refine ⟨?_, by omega⟩
  rw [fa_eq, nI_toInt (by omega)]; omega
theorem lt0 (x : Int32) : x < 0 ↔ x.toInt < 0 := by rw [fa_lt]; rfl
theorem gtN {x : Int32} {k : Nat} (hk : k < 2 ^ 31) : nI k < x ↔ (k : Int) < x.toInt := by rw [fa_lt, nI_toInt hk]
theorem NdP.t {p : Prop} {E : String} {k : Nat} {M N : Mm} {v : Option Value} (h : NdP p E k M (.inl v) N) : p ∧ v = none ∧ M = N := by
  rcases h with ⟨h1, h2, h3⟩ | ⟨-, h2, -⟩
  · cases h2; exact ⟨h1, rfl, h3.symm⟩
  · cases h2
theorem NdP.x {p : Prop} {E E2 : String} {k : Nat} {M N : Mm} (h : NdP p E k M (.inr E2) N) : ¬ p ∧ E2 = E ∧ N = sI M 27 k (M.2.1 27 k + 1) := by
  rcases h with ⟨-, h2, -⟩ | ⟨h1, h2, h3⟩
  · cases h2
  · cases h2; exact ⟨h1, rfl, h3⟩
theorem CI.reader {M N : Mm} {s : Sx} (h : CI M s) (hf : Fr 6 12 (sR M 11 2 (some 1)) N) : CI N s ∧ FC M N := by
  obtain ⟨ok, c0, hT, ⟨hn, hg⟩, hpa, ⟨a1, a2, a3⟩, hrr⟩ := h
  have okR := ok.r (b := some 1)
  have hR : ∀ n g, n ≠ 11 → NetRep M n g → NetRep (sR M 11 2 (some 1)) n g := by
    intro n g hn hr
    obtain ⟨q1, q2⟩ := hr
    refine ⟨?_, q2⟩
    unfold NetAt at q1 ⊢
    have : (sR M 11 2 (some 1)).2.2.2 n = M.2.2.2 n := u2_ne _ _ _ hn
    rw [this]; exact q1
  obtain ⟨π, p1, p2, p3, p4⟩ := hpa
  have hlen := c0.2.2.2.2
  have hpR : PR0 (sR M 11 2 (some 1)) π (shh s) := by
    refine ⟨p1, p2, fun i hi => ?_, fun i g hi => ⟨hR _ _ (by omega) (p4 i g hi).1, (p4 i g hi).2⟩⟩
    have : (sR M 11 2 (some 1)).2.2.2 10 i = M.2.2.2 10 i := by rw [rdR, if_neg (by omega)]
    rw [this]; exact p3 i hi
  refine ⟨⟨okR.fr hf, C0.fr (M := sR M 11 2 (some 1)) c0 hf (by omega), CT.fr (M := sR M 11 2 (some 1)) hT hf (by omega), ⟨(hR 2 _ (by decide) hn).fr hf (by omega), hg⟩, ⟨π, hpR.fr hlen hf (by omega)⟩, ⟨GInv.fr (M := sR M 11 2 (some 1)) a1 hf (by omega), PInv.fr (M := sR M 11 2 (some 1)) a2 hf (by omega), WInv.fr (M := sR M 11 2 (some 1)) a3 hf (by omega)⟩, CR.fr (M := sR M 11 2 (some 1)) hrr hf (by omega)⟩, (FC.r (by decide)).trans (hf.FC (by decide))⟩
theorem CI.told {M : Mm} {s : Sx} {f : Int32} (h : CI M s) : CI (sI (sI M 0 1 0) 0 2 f) (setF (setT s (sTT s) 0) f) ∧ FC M (sI (sI M 0 1 0) 0 2 f) := by
  obtain ⟨ok, c0, hT, ⟨hn, hg⟩, hpa, ⟨a1, a2, a3⟩, hrr⟩ := h
  have hf : Fr 0 0 M (sI (sI M 0 1 0) 0 2 f) := (Fr.rf.sI (by omega) (by omega)).sI (by omega) (by omega)
  refine ⟨⟨ok.fr hf, ⟨by rw [rd_ni (by decide), rd_self]; rfl, Nat.zero_le _, by rw [rd_self]; rfl, by rw [rd_ni (by decide), rd_ni (by decide)]; exact c0.2.2.2.1, c0.2.2.2.2⟩, hT.fr hf (by omega), ⟨hn.fr hf (by omega), hg⟩, hpa.fr c0.2.2.2.2 hf (by omega), ⟨a1.fr hf (by omega), a2.fr hf (by omega), a3.fr hf (by omega)⟩, hrr.fr hf (by omega)⟩, hf.FC (by decide)⟩
theorem c_text {B : Bd} {M : Mm} {s : Sx} {x : Int32} (h : CI M s) : Ct B mX5_text 8 1 6 [.ref 0, .int x] M (CPo [xIA] M (sText s x)) := by
  have ok := h.1
  have c0 := h.2.1
  have hle := c0.2.1
  refine Ct.of (by decide) rfl rfl (Nat.le_of_ble_eq_true rfl) ?_
  -- refused or not
  have need : ∀ z : Int32, (¬ z = 0 ↔ (0 ≤ x.toInt ∧ x.toInt ≤ sll s)) → Ev B mX5_text 8 1 6 (CPo [xIA] M (sText s x)) 18 [some (.ref 0), some (.int x)] [.int z, .ref 0] M := by
    intro z hz
    refine e_callV (rc1 := 1) (rs1 := 6) (rc2 := 0) (rs2 := 0) [_] dX5_text_18 mvmX5_needArgument lkRX5_82 (by exact ok.sh rfl) ⟨by decide, rfl⟩ rfl rfl (Nat.le_of_ble_eq_true rfl) (by decide) (by decide) (by decide) (c_needArgument (z := z) ok) (fun v N h1 => ?_) (fun v N h1 => ?_)
    · obtain ⟨p1, rfl, rfl⟩ := h1.t
      have hx := hz.mp p1
      obtain ⟨e1, e2⟩ := toN hx.1 hx.2 (by omega)
      generalize hn : x.toInt.toNat = n at e1 e2
      have e9 : sText s x = match ptx (sTT s) n with
          | .inl (k, pl) => okR (nI k - 10) (setF (setT s (sTT s) 0) (nI pl))
          | .inr g => okR (nI (lnc g.2.1)) (setG (setH (setF (setT s (sTT s) 0) (-1)) (psh (shh s) (sgg s))) g) := by
        unfold sText; rw [if_pos hx, hn]; rfl
      rw [e1] at e9 ⊢
      rw [e9]
      refine e_aload_n dX5_text_21 rfl rfl ?_
      refine e_getR dX5_text_22 fRX5_40 (by exact ok.sh rfl) (by exact ok.rf rfl) (fun _ => rfl) ?_
      refine e_aload_n dX5_text_25 rfl rfl ?_
      refine e_getR dX5_text_26 fRX5_9 (by exact ok.sh rfl) (by exact ok.rf rfl) (fun _ => rfl) ?_
      refine e_iload_n dX5_text_29 rfl rfl ?_
      refine e_aload_n dX5_text_30 rfl rfl ?_
      refine e_getR dX5_text_31 fRX5_27 (by exact ok.sh rfl) (by exact ok.rf rfl) (fun _ => rfl) ?_
      refine e_callV1 [_, _, _] dX5_text_34 mvmX3_read lkRX5_86 (by exact ok.sh rfl) ⟨by decide, rfl⟩ rfl rfl (Nat.le_of_ble_eq_true rfl) (by decide) (c_read (n := n) ok h.2.2.1.1 h.2.2.1.2 (by omega)) (fun u N h2 => ?_)
      obtain ⟨hu, hf, hm⟩ := h2
      subst hu
      obtain ⟨hN, hfc⟩ := h.reader hf
      have okN := hN.1
      refine e_aload_n dX5_text_37 rfl rfl ?_
      refine e_iconst (v := 0) dX5_text_38 (by decide) ?_
      refine e_putI dX5_text_39 fRX5_13 (by exact okN.sh rfl) rfl rfl rfl (fun _ _ => rfl) ?_
      refine e_aload_n dX5_text_42 rfl rfl ?_
      refine e_aload_n dX5_text_43 rfl rfl ?_
      refine e_getR dX5_text_44 fRX5_40 (by exact okN.sh rfl) (by exact okN.rf rfl) (fun _ => rfl) ?_
      refine e_getI dX5_text_47 fRX5_90 (by exact okN.sh rfl) (fun _ => rfl) ?_
      have e11 : ∀ j v, (sI N 0 1 v).2.1 11 j = N.2.1 11 j := fun j v => rd_na (by decide)
      rw [e11]
      refine e_putI dX5_text_50 fRX5_17 (by exact okN.sh rfl) rfl rfl rfl (fun _ _ => rfl) ?_
      refine e_aload_n dX5_text_53 rfl rfl ?_
      refine e_getR dX5_text_54 fRX5_40 (by exact okN.sh rfl) (by exact okN.rf rfl) (fun _ => rfl) ?_
      have e12 : ∀ j v v2, (sI (sI N 0 1 v) 0 2 v2).2.1 11 j = N.2.1 11 j := fun j v v2 => by rw [rd_na (by decide), rd_na (by decide)]
      refine e_getI dX5_text_57 fRX5_93 (by exact okN.sh rfl) (fun _ => rfl) ?_
      rw [e12]
      obtain ⟨hN2, hfc2⟩ := hN.told (f := N.2.1 11 1)
      have okN2 := hN2.1
      cases hp : ptx (sTT s) n with
      | inl f =>
        obtain ⟨k, pl⟩ := f
        rw [hp] at hm
        obtain ⟨⟨k1, k2, -⟩, m1, m2⟩ := hm
        refine e_if_eq (tgt := 74) dX5_text_60 (by decide) (fun hq => ?_) (fun _ => ?_)
        · rw [m1] at hq; exact absurd hq (k_ne ⟨k1, k2⟩)
        · refine e_aload_n dX5_text_63 rfl rfl ?_
          refine e_getR dX5_text_64 fRX5_40 (by exact okN.sh rfl) (by exact okN.rf rfl) (fun _ => rfl) ?_
          refine e_getI dX5_text_67 fRX5_93 (by exact okN.sh rfl) (fun _ => rfl) ?_
          rw [e12, m1]
          refine e_bipush (v := 10) dX5_text_70 (by decide) ?_
          refine e_isub dX5_text_72 ?_
          rw [m2] at hN2 hfc2 ⊢
          exact e_iret dX5_text_73 rfl rfl (cpo_ok hN2 (hfc.trans hfc2))
      | inr g =>
        rw [hp] at hm
        obtain ⟨m1, m2, m3, m4, m5⟩ := hm
        refine e_if_eq (tgt := 74) dX5_text_60 (by decide) (fun _ => ?_) (fun hq => absurd m1 hq)
        rw [m2] at hN2 hfc2 ⊢
        have f0 : Fr 0 0 N (sI (sI N 0 1 0) 0 2 (-1)) := (Fr.rf.sI (by omega) (by omega)).sI (by omega) (by omega)
        have d6 : NetRep (sI (sI N 0 1 0) 0 2 (-1)) 6 g := m3.fr f0 (by omega)
        refine e_aload_n dX5_text_74 rfl rfl ?_
        refine e_callV1 [] dX5_text_75 mvmX5_becomeDraft lkRX5_96 (by exact okN.sh rfl) ⟨by decide, rfl⟩ rfl rfl (Nat.le_of_ble_eq_true rfl) (by decide) (c_becomeDraft hN2 d6 ⟨m4, m5⟩) (fun u K h5 => ?_)
        obtain ⟨hu, q1, q2⟩ := h5
        subst hu
        have okK := q1.1
        have hr := q1.2.2.2.1.1
        have hr2 : K.2.1 2 1 = nI (lnc g.2.1) := hr.2.2.1
        refine e_aload_n dX5_text_78 rfl rfl ?_
        refine e_getR dX5_text_79 fRX5_23 (by exact okK.sh rfl) (by exact okK.rf rfl) (fun _ => rfl) ?_
        refine e_getI dX5_text_82 fRX5_99 (by exact okK.sh rfl) (fun _ => rfl) ?_
        rw [hr2]
        exact e_iret dX5_text_85 rfl rfl (cpo_ok q1 ((hfc.trans hfc2).trans q2))
    · obtain ⟨p1, rfl, e2⟩ := h1.x
      have hx : ¬ (0 ≤ x.toInt ∧ x.toInt ≤ sll s) := fun q => p1 (hz.mpr q)
      have e9 : sText s x = rej 1 1 s := by unfold sText; rw [if_neg hx]
      rw [e9]
      exact e_out rfl (cpo_rej h (by decide) rfl e2 FC.rf)
  refine e_aload_n dX5_text_0 rfl rfl ?_
  refine e_iload_n dX5_text_1 rfl rfl ?_
  refine e_if_lt (tgt := 17) dX5_text_2 (by decide) (fun hq => ?_) (fun hq => ?_)
  · refine e_iconst (v := 0) dX5_text_17 (by decide) ?_
    refine need 0 ⟨fun q => absurd rfl q, fun q => ?_⟩
    have := (lt0 x).mp hq
    omega
  · have h0 : ¬ x.toInt < 0 := fun q => hq ((lt0 x).mpr q)
    refine e_iload_n dX5_text_5 rfl rfl ?_
    refine e_aload_n dX5_text_6 rfl rfl ?_
    refine e_getI dX5_text_7 fRX5_13 (by exact ok.sh rfl) (fun _ => rfl) ?_
    rw [c0.1]
    refine e_icmp_gt (tgt := 17) dX5_text_10 (by decide) (fun hq2 => ?_) (fun hq2 => ?_)
    · have := (gtN (by omega)).mp hq2
      refine e_iconst (v := 0) dX5_text_17 (by decide) ?_
      exact need 0 ⟨fun q => absurd rfl q, fun q => by omega⟩
    · have h2 : ¬ ((sll s : Nat) : Int) < x.toInt := fun q => hq2 ((gtN (by omega)).mpr q)
      refine e_iconst (v := 1) dX5_text_13 (by decide) ?_
      refine e_goto (tgt := 18) dX5_text_14 (by decide) ?_
      exact need 1 ⟨fun _ => by omega, fun _ => by decide⟩

