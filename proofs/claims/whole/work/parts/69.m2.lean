theorem ru_eq {c : Nat → Bool} {n s : Nat} : ∀ k, (∀ i, i < k → s + i < n ∧ c (s + i) = true) → ¬ (s + k < n ∧ c (s + k) = true) → ru c n s = s + k := by
  intro k
  induction k generalizing s with
  | zero => intro _ h; exact ru_f h
  | succ k ih =>
    intro h1 h2
    have h0 := h1 0 (by omega)
    rw [ru_t (by simpa using h0.1) (by simpa using h0.2), ih (s := s + 1) (fun i hi => by
      have := h1 (i + 1) (by omega)
      rw [show s + 1 + i = s + (i + 1) by omega]; exact this) (by rw [show s + 1 + k = s + (k + 1) by omega]; exact h2)]
    omega
def Lw2 (w : List Nat) : Prop := ∀ i, i < w.length → 97 ≤ w.getD i 0 ∧ w.getD i 0 ≤ 122
theorem lw_nodes : Lw2 wNodes := by unfold Lw2; decide
theorem lw_line : Lw2 wLine := by unfold Lw2; decide
theorem lw_ring : Lw2 wRing := by unfold Lw2; decide
theorem lw_all : Lw2 wAll := by unfold Lw2; decide
theorem lw_pair : Lw2 wPair := by unfold Lw2; decide
theorem c_takes {B : Bd} {M : Mm} {T : Nat → Nat} {n k : Nat} {p : Nat} {w : List Nat} (ok : OkM M) (h : MT M T n) (hx : Mrd M n (.inr p)) (hw : Wd k w) (hlw : Lw2 w) : Ct B mX6_takes 4 0 0 [.ref 60, .ref (1000001 + k)] M (Rt (fun u N => u = some (.int (if pwd T n w p = true then 1 else 0)) ∧ Mrd N n (.inr (if pwd T n w p = true then sk T n p + w.length else sk T n p)) ∧ MF [4] M N)) := by
  have hn := h.2.1
  obtain ⟨hpn, h6, h7, hp⟩ := id hx
  have hsk := sk_le (T := T) hpn
  obtain ⟨hk9, hsl, hwl, hch⟩ := hw
  generalize hr : (if pwd T n w p = true then (1 : Int32) else 0) = r
  refine Ct.of (by decide) rfl rfl (Nat.le_of_ble_eq_true rfl) ?_
  refine e_aload_n dX6_takes_0 rfl rfl ?_
  refine e_callV0i [] dX6_takes_1 mvmX6_fine lkRX6_94 (by exact ok.sh rfl) ⟨by decide, rfl⟩ rfl rfl (Nat.le_of_ble_eq_true rfl) (by decide) (c_fine ok hx) ?_
  refine e_if_ne (tgt := 9) dX6_takes_4 (by decide) (fun _ => ?_) (fun hz => absurd hz (fin01_r p))
  refine e_aload_n dX6_takes_9 rfl rfl ?_
  refine e_callV1 [] dX6_takes_10 mvmX6_here lkRX6_98 (by exact ok.sh rfl) ⟨by decide, rfl⟩ rfl rfl (Nat.le_of_ble_eq_true rfl) (by decide) (c_here ok h hp hpn) (fun u N h1 => ?_)
  obtain ⟨hu, hN, hf⟩ := h1
  subst hu
  have okN : OkM N := ok.fr hf.1
  have ht := h.rf hf (by decide)
  have rdN := hx.go hf hsk hN
  show Ev _ _ _ _ _ _ 13 _ [.int (byA T n (sk T n p))] _
  refine e_pop dX6_takes_13 rfl ?_
  refine e_iconst (v := 0) dX6_takes_14 (by decide) ?_
  refine e_istore_n dX6_takes_15 rfl (by decide) rfl rfl ?_
  generalize hs : sk T n p = s at *
  -- the word isn't there
  have no : ∀ (t : Option Value), ¬ pwd T n w p = true → Ev B mX6_takes 4 0 0 (Rt (fun u N => u = some (.int r) ∧ Mrd N n (.inr (if pwd T n w p = true then s + w.length else s)) ∧ MF [4] M N)) 76 [some (.ref 60), some (.ref (1000001 + k)), t] [] N := by
    intro t hp
    rw [if_neg hp] at hr ⊢
    refine e_iconst (v := 0) dX6_takes_76 (by decide) ?_
    rw [← hr]
    exact e_iret dX6_takes_77 rfl rfl ⟨_, rfl, rfl, rdN, hf⟩
  have tail : ∀ i, i ≤ w.length → (∀ i', i' < i → s + i' < n ∧ T (s + i') = w.getD i' 0) → (i < w.length → ¬ (s + i < n ∧ T (s + i) = w.getD i 0)) → Ev B mX6_takes 4 0 0 (Rt (fun u N => u = some (.int r) ∧ Mrd N n (.inr (if pwd T n w p = true then s + w.length else s)) ∧ MF [4] M N)) 48 [some (.ref 60), some (.ref (1000001 + k)), some (.int (nI i))] [] N := by
    intro i hi hall hstop
    refine e_iload_n dX6_takes_48 rfl rfl ?_
    refine e_aload_n dX6_takes_49 rfl rfl ?_
    refine e_callT0i [] dX6_takes_50 mvmJ0_length_8abf5 lkRX6_102 hk9 rfl rfl rfl (Nat.le_of_ble_eq_true rfl) (by decide) (c_strlen hk9) ?_
    rw [hsl]
    by_cases hlt : i < w.length
    · have hnp : ¬ pwd T n w p = true := by
        unfold pwd
        rw [hs, Bool.and_eq_true, decide_eq_true_eq, List.all_eq_true]
        rintro ⟨q1, q2⟩
        have h2 := of_decide_eq_true (q2 i (List.mem_range.mpr hlt))
        have h3 := ru_le (c := isL T) (n := n) (p := s) hsk
        exact hstop hlt ⟨by omega, h2⟩
      refine e_icmp_lt (tgt := 76) dX6_takes_53 (by decide) (fun hz => ?_) (fun hz => ?_)
      · exact no _ hnp
      · exact absurd (nI_lt hlt (by omega)) hz
    · have hie : i = w.length := by omega
      subst hie
      refine e_icmp_lt (tgt := 76) dX6_takes_53 (by decide) (fun hz => ?_) (fun hz => ?_)
      · exact absurd hz (nI_nlt (by omega) (by omega))
      · refine e_aload_n dX6_takes_56 rfl rfl ?_
        refine e_aload_n dX6_takes_57 rfl rfl ?_
        refine e_getI dX6_takes_58 fRX6_81 (by exact okN.sh rfl) (fun _ => rfl) ?_
        rw [hN]
        refine e_iload_n dX6_takes_61 rfl rfl ?_
        refine e_iadd dX6_takes_62 ?_
        rw [nI_add]
        refine e_callV0i [_] dX6_takes_63 mvmX6_byteAt lkRX6_84 (by exact okN.sh rfl) ⟨by decide, rfl⟩ rfl rfl (Nat.le_of_ble_eq_true rfl) (by decide) (c_byteAt okN ht (by omega)) ?_
        refine e_bipush (v := 97) dX6_takes_66 (by decide) ?_
        refine e_bipush (v := 122) dX6_takes_68 (by decide) ?_
        rw [show (97 : Int32) = nI 97 from rfl, show (122 : Int32) = nI 122 from rfl]
        refine e_callS0i [_, _, _] dX6_takes_70 msmX6_in lkRX6_111 rfl rfl (Nat.le_of_ble_eq_true rfl) (by decide) (c_in (x := byA T n (s + w.length)) (lo := nI 97) (hi := nI 122)) ?_
        have hbi := byA_in (n := n) (q := s + w.length) (lo := 97) (hi := 122) (ht.2.2.1 _) (by decide) (by decide)
        have hil : (s + w.length < n ∧ 97 ≤ T (s + w.length) ∧ T (s + w.length) ≤ 122) ↔ (s + w.length < n ∧ isL T (s + w.length) = true) := by unfold isL; simp
        rw [hil] at hbi
        by_cases hb : s + w.length < n ∧ isL T (s + w.length) = true
        · rw [if_pos (hbi.mpr hb)]
          have hnp : ¬ pwd T n w p = true := by
            unfold pwd
            rw [hs, Bool.and_eq_true, decide_eq_true_eq]
            rintro ⟨q1, -⟩
            have := ru_end (isL T) n s
            rw [q1] at this
            exact this hb
          refine e_if_eq (tgt := 78) dX6_takes_73 (by decide) (fun hz2 => ?_) (fun hz2 => ?_)
          · exact absurd hz2 (by decide)
          · exact no _ hnp
        · rw [if_neg (fun q => hb (hbi.mp q))]
          have hyp : pwd T n w p = true := by
            unfold pwd
            rw [hs, Bool.and_eq_true, decide_eq_true_eq, List.all_eq_true]
            refine ⟨ru_eq w.length (fun i hi => ⟨(hall i hi).1, ?_⟩) hb, fun i hi => decide_eq_true (hall i (List.mem_range.mp hi)).2⟩
            unfold isL
            rw [(hall i hi).2]
            have := hlw i hi
            rw [decide_eq_true this.1, decide_eq_true this.2]; rfl
          refine e_if_eq (tgt := 78) dX6_takes_73 (by decide) (fun hz2 => ?_) (fun hz2 => ?_)
          · rw [if_pos hyp] at hr ⊢
            refine e_aload_n dX6_takes_78 rfl rfl ?_
            refine e_dup dX6_takes_79 rfl ?_
            refine e_getI dX6_takes_80 fRX6_81 (by exact okN.sh rfl) (fun _ => rfl) ?_
            rw [hN]
            refine e_iload_n dX6_takes_83 rfl rfl ?_
            refine e_iadd dX6_takes_84 ?_
            rw [nI_add]
            refine e_putI dX6_takes_85 fRX6_81 (by exact okN.sh rfl) rfl rfl rfl (fun _ _ => rfl) ?_
            refine e_iconst (v := 1) dX6_takes_88 (by decide) ?_
            rw [← hr]
            have hle : s + w.length ≤ n := by
              have := pwd_le hpn hyp
              omega
            exact e_iret dX6_takes_89 rfl rfl ⟨_, rfl, rfl, rdN.go (MF.rf.s (by decide)) hle (by rw [rd_self]), hf.s (by decide)⟩
          · exact absurd rfl hz2
  have loop : ∀ j i, i + j = w.length → (∀ i', i' < i → s + i' < n ∧ T (s + i') = w.getD i' 0) → Ev B mX6_takes 4 0 0 (Rt (fun u N => u = some (.int r) ∧ Mrd N n (.inr (if pwd T n w p = true then s + w.length else s)) ∧ MF [4] M N)) 16 [some (.ref 60), some (.ref (1000001 + k)), some (.int (nI i))] [] N := by
    intro j
    induction j with
    | zero =>
      intro i hij hall
      refine e_iload_n dX6_takes_16 rfl rfl ?_
      refine e_aload_n dX6_takes_17 rfl rfl ?_
      refine e_callT0i [] dX6_takes_18 mvmJ0_length_8abf5 lkRX6_102 hk9 rfl rfl rfl (Nat.le_of_ble_eq_true rfl) (by decide) (c_strlen hk9) ?_
      rw [hsl]
      refine e_icmp_ge (tgt := 48) dX6_takes_21 (by decide) (fun hz => ?_) (fun hz => ?_)
      · exact tail i (by omega) hall (fun q => by omega)
      · exact absurd (nI_le (by omega) (by omega)) hz
    | succ j ih =>
      intro i hij hall
      have hiw : i < w.length := by omega
      obtain ⟨hc1, hc2⟩ := hch i hiw
      refine e_iload_n dX6_takes_16 rfl rfl ?_
      refine e_aload_n dX6_takes_17 rfl rfl ?_
      refine e_callT0i [] dX6_takes_18 mvmJ0_length_8abf5 lkRX6_102 hk9 rfl rfl rfl (Nat.le_of_ble_eq_true rfl) (by decide) (c_strlen hk9) ?_
      rw [hsl]
      refine e_icmp_ge (tgt := 48) dX6_takes_21 (by decide) (fun hz => ?_) (fun hz => ?_)
      · exact absurd hz (nI_ge hiw (by omega))
      · refine e_aload_n dX6_takes_24 rfl rfl ?_
        refine e_aload_n dX6_takes_25 rfl rfl ?_
        refine e_getI dX6_takes_26 fRX6_81 (by exact okN.sh rfl) (fun _ => rfl) ?_
        rw [hN]
        refine e_iload_n dX6_takes_29 rfl rfl ?_
        refine e_iadd dX6_takes_30 ?_
        rw [nI_add]
        refine e_callV0i [_] dX6_takes_31 mvmX6_byteAt lkRX6_84 (by exact okN.sh rfl) ⟨by decide, rfl⟩ rfl rfl (Nat.le_of_ble_eq_true rfl) (by decide) (c_byteAt okN ht (by omega)) ?_
        refine e_aload_n dX6_takes_34 rfl rfl ?_
        refine e_iload_n dX6_takes_35 rfl rfl ?_
        refine e_callT0i [_] dX6_takes_36 mvmJ0_charAt_5068e lkRX6_107 hk9 rfl rfl rfl (Nat.le_of_ble_eq_true rfl) (by decide) (c_charAt hk9 (by omega)) ?_
        rw [hc1]
        have hbe := byA_eq (n := n) (q := s + i) (c := w.getD i 0) (ht.2.2.1 _) hc2
        refine e_icmp_ne (tgt := 48) dX6_takes_39 (by decide) (fun hz2 => ?_) (fun hz2 => ?_)
        · exact tail i (by omega) hall (fun _ q => hz2 (hbe.mpr q))
        · refine e_iinc (v := nI (i + 1)) dX6_takes_42 rfl (nI_1 i) (by decide) rfl rfl ?_
          refine e_goto (tgt := 16) dX6_takes_45 (by decide) ?_
          refine ih (i + 1) (by omega) (fun i' hi' => ?_)
          by_cases hii : i' = i
          · rw [hii]; exact hbe.mp hz2
          · exact hall i' (by omega)
  exact loop w.length 0 (by omega) (fun i' hi' => by omega)
/-- what is told so far -/
def MS (M : Mm) (s : Ps) : Prop := NowR M 64 (s.1, s.2.1, fun _ => none) ∧ M.2.1 60 14 = nI (2 * s.2.2.length) ∧ (∀ i ab, s.2.2[i]? = some ab → M.2.1 74 (2 * i) = nI ab.1 ∧ M.2.1 74 (2 * i + 1) = nI ab.2) ∧ 2 * s.2.2.length ≤ 500 ∧ WP s
theorem MS.rf {M N : Mm} {s : Ps} {ks : List Nat} (h : MS M s) (hf : MF ks M N) (h14 : 14 ∉ ks) : MS N s := ⟨h.1.fr hf.1 (by omega), by rw [hf.2 14 h14]; exact h.2.1, by rw [hf.1.2.2 74 (by omega)]; exact h.2.2.1, h.2.2.2⟩
theorem c_nodeTold {B : Bd} {M : Mm} {T : Nat → Nat} {n bt : Nat} {x : Fl ⊕ Nat} {s : Ps} (ok : OkM M) (h : MT M T n) (hx : Mrd M n x) (hs : MS M s) (hbt : bt < 4096) : Ct B mX6_nodeTold 3 0 0 [.ref 60, .int (nI bt)] M (MnP T n 0 (s.1 - 1) bt x M) := by
  have hg1' : 1 ≤ s.1 ∧ s.1 ≤ 12 := hs.2.2.2.2.1.1
  refine Ct.of (by decide) rfl rfl (Nat.le_of_ble_eq_true rfl) ?_
  refine e_aload_n dX6_nodeTold_0 rfl rfl ?_
  refine e_iconst (v := 0) dX6_nodeTold_1 (by decide) ?_
  refine e_aload_n dX6_nodeTold_2 rfl rfl ?_
  refine e_getR dX6_nodeTold_3 fRX6_23 (by exact ok.sh rfl) (by exact ok.rf rfl) (fun _ => rfl) ?_
  refine e_iconst (v := 0) dX6_nodeTold_6 (by decide) ?_
  refine e_iaload dX6_nodeTold_7 (by exact ok.sh rfl) (by exact vp_in_nI (n := 0) (N := 157) (by decide) (by decide)) ?_
  have e0 : M.2.1 64 (0 : Int32).toNatClampNeg = nI s.1 := hs.1.1
  rw [e0]
  refine e_iconst (v := 1) dX6_nodeTold_8 (by decide) ?_
  refine e_isub dX6_nodeTold_9 ?_
  rw [nI_m1 hg1'.1]
  refine e_iload_n dX6_nodeTold_10 rfl rfl ?_
  refine e_callV1 [_, _, _] dX6_nodeTold_11 mvmX6_number lkRX6_128 (by exact ok.sh rfl) ⟨by decide, rfl⟩ rfl rfl (Nat.le_of_ble_eq_true rfl) (by decide) (c_number (lo := 0) (hi := s.1 - 1) (bt := bt) ok h hx (by decide) (by omega) hbt) (fun u N h1 => ?_)
  obtain ⟨r, hu, q1, q2, q3⟩ := h1
  subst hu
  exact e_iret dX6_nodeTold_14 rfl rfl ⟨_, rfl, r, rfl, q1, q2, q3⟩
theorem c_comes {B : Bd} {M : Mm} {n p a b : Nat} {g : Nw} (ok : OkM M) (hx : Mrd M n (.inr p)) (hg : NowR M 64 g) (hk : ∀ k, g.2.1 a b = some k → k < 2 ^ 31) (ha : a < 12) (hb : b < 12) : Ct B mX6_comes 1 0 0 [.ref 60, .int (nI a), .int (nI b)] M (Rt (fun u N => u = none ∧ NowR N 64 (pIN g a b) ∧ Fr 64 64 M N)) := by
  refine Ct.of (by decide) rfl rfl (Nat.le_of_ble_eq_true rfl) ?_
  refine e_aload_n dX6_comes_0 rfl rfl ?_
  refine e_callV0i [] dX6_comes_1 mvmX6_fine lkRX6_94 (by exact ok.sh rfl) ⟨by decide, rfl⟩ rfl rfl (Nat.le_of_ble_eq_true rfl) (by decide) (c_fine ok hx) ?_
  refine e_if_eq (tgt := 35) dX6_comes_4 (by decide) (fun hz => absurd hz (fin01_r p)) (fun _ => ?_)
  refine e_aload_n dX6_comes_7 rfl rfl ?_
  refine e_getR dX6_comes_8 fRX6_23 (by exact ok.sh rfl) (by exact ok.rf rfl) (fun _ => rfl) ?_
  refine e_bipush (v := 13) dX6_comes_11 (by decide) ?_
  refine e_bipush (v := 12) dX6_comes_13 (by decide) ?_
  refine e_iload_n dX6_comes_15 rfl rfl ?_
  refine e_imul dX6_comes_16 ?_
  refine e_iadd dX6_comes_17 ?_
  refine e_iload_n dX6_comes_18 rfl rfl ?_
  refine e_iadd dX6_comes_19 ?_
  rw [e13]
  refine e_iaload dX6_comes_20 (by exact ok.sh rfl) (by exact vp_in_nI (show 13 + 12 * a + b < 157 by omega) (by decide)) ?_
  rw [nI_clamp (by omega), hg.2.2 a b ha hb]
  refine e_iconst (v := (-1)) dX6_comes_21 (by decide) ?_
  have hn := wI_none hk
  unfold pIN
  cases hw : g.2.1 a b with
  | none =>
    rw [if_neg (by intro q; cases q)]
    refine e_icmp_ne (tgt := 35) dX6_comes_22 (by decide) (fun hz => ?_) (fun hz => ?_)
    · exact absurd (by rw [← hw]; exact hn.mpr hw) hz
    · refine e_aload_n dX6_comes_25 rfl rfl ?_
      refine e_getR dX6_comes_26 fRX6_23 (by exact ok.sh rfl) (by exact ok.rf rfl) (fun _ => rfl) ?_
      refine e_iload_n dX6_comes_29 rfl rfl ?_
      refine e_iload_n dX6_comes_30 rfl rfl ?_
      refine e_iconst (v := 1) dX6_comes_31 (by decide) ?_
      refine e_callS0v [_, _, _, _] dX6_comes_32 msmX6_joins lkRX6_65 rfl rfl (Nat.le_of_ble_eq_true rfl) (by decide) (c_joins (r := 64) (v := 1) (ok.sh rfl) ha hb) ?_
      have hj := hg.join (v := some 1) ha hb
      exact e_vret dX6_comes_35 rfl ⟨none, rfl, rfl, hj, (Fr.rf.sI (by omega) (by omega)).sI (by omega) (by omega)⟩
  | some k =>
    rw [if_pos (by rfl)]
    refine e_icmp_ne (tgt := 35) dX6_comes_22 (by decide) (fun hz => ?_) (fun hz => ?_)
    · exact e_vret dX6_comes_35 rfl ⟨none, rfl, rfl, hg, Fr.rf⟩
    · rw [← hw] at hz
      rw [hn.mp hz] at hw; cases hw

