theorem mask_s (p : Nat → Bool) (k : Nat) : mask p (k + 1) = mask p k ||| (if p k = true then 2 ^ k else 0) := rfl
theorem mask_t {p : Nat → Bool} {k : Nat} (h : p k = true) : mask p (k + 1) = mask p k ||| 2 ^ k := by rw [mask_s, if_pos h]
theorem mask_f {p : Nat → Bool} {k : Nat} (h : ¬ p k = true) : mask p (k + 1) = mask p k := by rw [mask_s, if_neg h, Nat.or_zero]
theorem mask_12 (p : Nat → Bool) {n : Nat} (h : n ≤ 12) : mask p n < 4096 := Nat.lt_of_lt_of_le (mask_lt p n) (p12 h)
def pms (g : Nw) (a : Nat) : Bool := decide (mst g (dif (al g) (2 ^ a)) = mst g (al g))
def msd (g : Nw) : Nat := mask (pms g) g.1
def pbs (g : Nw) (a : Nat) : Bool := !(msd g).testBit a && !decide ((nbr g.2.1 a &&& msd g) = 0)
def bsd (g : Nw) : Nat := mask (pbs g) g.1
def setz (g : Nw) (k : Nat) : Nat := if k = 0 then msd g else if k = 1 then bsd g else dif (dif (al g) (msd g)) (bsd g)
theorem c_bitsOfSet {B : Bd} {M : Mm} {g : Nw} {k : Nat} (ok : OkM M) (h : NetRep M 2 g) (wf : Wfn g) (hg : GR M g) (hk : k ≤ 2) : Ct B mX0_bitsOfSet 29 0 0 [.ref 14, .int (nI k)] M (Rt (fun u N => u = some (.int (nI (setz g k))) ∧ GP g M N)) := by
  have hg12 := wf.1.2
  have hp12 := p12 hg12
  have hal := al_lt g
  obtain ⟨c1, c2⟩ := cl_al wf
  refine Ct.of (by decide) rfl rfl (Nat.le_of_ble_eq_true rfl) ?_
  have loop2 : ∀ j a N, a + j = g.1 → GP g M N → Ev B mX0_bitsOfSet 29 0 0 (Rt (fun u N => u = some (.int (nI (setz g k))) ∧ GP g M N)) 59 [some (.ref 14), some (.int (nI k)), some (.int (nI (msd g))), some (.int (nI (mask (pbs g) a))), some (.int (nI a))] [] N := by
    intro j
    induction j with
    | zero =>
      intro a N haj hP
      have hag : a = g.1 := by omega
      have okN := ok.fl hP.2
      have hN : NetRep N 2 g := h.fl hP.2
      refine e_iload dX0_bitsOfSet_59 rfl ?_
      refine e_aload_n dX0_bitsOfSet_61 rfl rfl ?_
      refine e_getR dX0_bitsOfSet_62 fRX0_23 (by first | exact okN.sh rfl | exact hN.1.1 | exact hN.1.2.2.1) (by first | exact okN.rf rfl | exact hN.1.2.2.2.2.2.1) (fun _ => rfl) ?_
      refine e_getI dX0_bitsOfSet_65 fRX0_33 (by first | exact okN.sh rfl | exact hN.1.1 | exact hN.1.2.2.1) (fun _ => rfl) ?_
      rw [hN.2.1]
      refine e_icmp_ge (tgt := 108) dX0_bitsOfSet_68 (by decide) (fun hc => ?_) (fun hc => ?_)
      · have hb9 : mask (pbs g) a = bsd g := by rw [hag]; rfl
        rw [hb9]
        refine e_iload_n dX0_bitsOfSet_108 rfl rfl ?_
        refine e_if_ne (tgt := 114) dX0_bitsOfSet_109 (by decide) (fun hc2 => ?_) (fun hc2 => ?_)
        · have hk0 : k ≠ 0 := fun q => hc2 (by rw [q]; rfl)
          refine e_iload_n dX0_bitsOfSet_114 rfl rfl ?_
          refine e_iconst (v := 1) dX0_bitsOfSet_115 (by decide) ?_
          refine e_icmp_ne (tgt := 123) dX0_bitsOfSet_116 (by decide) (fun hc3 => ?_) (fun hc3 => ?_)
          · have hk1 : k ≠ 1 := fun q => hc3 (by rw [q]; rfl)
            refine e_aload_n dX0_bitsOfSet_123 rfl rfl ?_
            refine e_getR dX0_bitsOfSet_124 fRX0_23 (by first | exact okN.sh rfl | exact hN.1.1 | exact hN.1.2.2.1) (by first | exact okN.rf rfl | exact hN.1.2.2.2.2.2.1) (fun _ => rfl) ?_
            refine e_callV0i [] dX0_bitsOfSet_127 mvmX1_all lkRX0_88 (by first | exact okN.sh rfl | exact hN.1.1 | exact hN.1.2.2.1) ⟨by decide, rfl⟩ rfl rfl (Nat.le_of_ble_eq_true rfl) (by decide) (c_all hN wf.1.2) ?_
            show Ev _ _ _ _ _ _ 130 _ [.int (nI (al g))] _
            refine e_iload_n dX0_bitsOfSet_130 rfl rfl ?_
            refine e_iconst (v := (-1)) dX0_bitsOfSet_131 (by decide) ?_
            refine e_ixor dX0_bitsOfSet_132 ?_
            refine e_iand dX0_bitsOfSet_133 ?_
            rw [andn_nI]
            refine e_iload_n dX0_bitsOfSet_134 rfl rfl ?_
            refine e_iconst (v := (-1)) dX0_bitsOfSet_135 (by decide) ?_
            refine e_ixor dX0_bitsOfSet_136 ?_
            refine e_iand dX0_bitsOfSet_137 ?_
            rw [andn_nI]
            exact e_iret dX0_bitsOfSet_138 rfl rfl (⟨_, rfl, by unfold setz; rw [if_neg hk0, if_neg hk1], hP⟩)
          · have hk1 : k = 1 := (nI_is (by omega)).mp hc3
            refine e_iload_n dX0_bitsOfSet_119 rfl rfl ?_
            refine e_goto (tgt := 138) dX0_bitsOfSet_120 (by decide) ?_
            exact e_iret dX0_bitsOfSet_138 rfl rfl (⟨_, rfl, by unfold setz; rw [if_neg hk0, if_pos hk1], hP⟩)
        · have hk0 : k = 0 := by
            have := (nI_eq (a := k) (b := 0) (by omega) (by decide)).mp (by rw [hc2]; rfl)
            exact this
          refine e_iload_n dX0_bitsOfSet_112 rfl rfl ?_
          exact e_iret dX0_bitsOfSet_113 rfl rfl (⟨_, rfl, by unfold setz; rw [if_pos hk0], hP⟩)
      · exact absurd (nI_le (by omega : g.1 ≤ a) (by omega)) hc
    | succ j ih =>
      intro a N haj hP
      have okN := ok.fl hP.2
      have hN : NetRep N 2 g := h.fl hP.2
      have hm12 := mask_12 (pms g) hg12
      have hmd : msd g < 4096 := hm12
      refine e_iload dX0_bitsOfSet_59 rfl ?_
      refine e_aload_n dX0_bitsOfSet_61 rfl rfl ?_
      refine e_getR dX0_bitsOfSet_62 fRX0_23 (by first | exact okN.sh rfl | exact hN.1.1 | exact hN.1.2.2.1) (by first | exact okN.rf rfl | exact hN.1.2.2.2.2.2.1) (fun _ => rfl) ?_
      refine e_getI dX0_bitsOfSet_65 fRX0_33 (by first | exact okN.sh rfl | exact hN.1.1 | exact hN.1.2.2.1) (fun _ => rfl) ?_
      rw [hN.2.1]
      refine e_icmp_ge (tgt := 108) dX0_bitsOfSet_68 (by decide) (fun hc => ?_) (fun hc => ?_)
      · exact absurd hc (nI_ge (by omega) (by omega))
      · have go : ∀ x, x = mask (pbs g) (a + 1) → Ev B mX0_bitsOfSet 29 0 0 (Rt (fun u N => u = some (.int (nI (setz g k))) ∧ GP g M N)) 102 [some (.ref 14), some (.int (nI k)), some (.int (nI (msd g))), some (.int (nI x)), some (.int (nI a))] [] N := by
          intro x hx
          refine e_iinc (v := nI (a + 1)) dX0_bitsOfSet_102 rfl (nI_1 a) (by decide) rfl rfl ?_
          refine e_goto (tgt := 59) dX0_bitsOfSet_105 (by decide) ?_
          rw [hx]
          exact ih (a + 1) N (by omega) hP
        refine e_iload_n dX0_bitsOfSet_71 rfl rfl ?_
        refine e_iload dX0_bitsOfSet_72 rfl ?_
        refine e_callN0i [_, _] dX0_bitsOfSet_74 msmX5_hasBit nest_0 rfl rfl (Nat.le_of_ble_eq_true rfl) (by decide) (c_hasBit (by omega) (by omega)) ?_
        by_cases hb : (msd g).testBit a = true
        · refine e_if_ne (tgt := 102) dX0_bitsOfSet_77 (by decide) (fun hq => ?_) (fun hq => ?_)
          · exact go _ (by rw [mask_f]; unfold pbs; rw [hb]; simp)
          · rw [if_pos hb] at hq; exact absurd hq (by decide)
        · refine e_if_ne (tgt := 102) dX0_bitsOfSet_77 (by decide) (fun hq => ?_) (fun hq => ?_)
          · rw [if_neg hb] at hq; exact absurd rfl hq
          · refine e_aload_n dX0_bitsOfSet_80 rfl rfl ?_
            refine e_getR dX0_bitsOfSet_81 fRX0_23 (by first | exact okN.sh rfl | exact hN.1.1 | exact hN.1.2.2.1) (by first | exact okN.rf rfl | exact hN.1.2.2.2.2.2.1) (fun _ => rfl) ?_
            refine e_getR dX0_bitsOfSet_84 fRX0_54 (by first | exact okN.sh rfl | exact hN.1.1 | exact hN.1.2.2.1) (by first | exact okN.rf rfl | exact hN.1.2.2.2.2.2.1) (fun _ => rfl) ?_
            refine e_iload dX0_bitsOfSet_87 rfl ?_
            refine e_iaload dX0_bitsOfSet_89 (by first | exact okN.sh rfl | exact hN.1.1 | exact hN.1.2.2.1) (by exact vp_in_nI (show a < 12 by omega) (by decide)) ?_
            rw [nI_clamp (by omega), hN.2.2.2.2.1 a (by omega)]
            refine e_iload_n dX0_bitsOfSet_90 rfl rfl ?_
            refine e_iand dX0_bitsOfSet_91 ?_
            rw [fa_and]
            have hz := nI_eq (a := nbr g.2.1 a &&& msd g) (b := 0) (Nat.lt_of_le_of_lt Nat.and_le_right (by omega)) (by decide)
            refine e_if_eq (tgt := 102) dX0_bitsOfSet_92 (by decide) (fun hq2 => ?_) (fun hq2 => ?_)
            · have h0 := hz.mp (by rw [hq2]; rfl)
              exact go _ (by rw [mask_f]; unfold pbs; rw [h0]; simp)
            · have h0 : ¬ (nbr g.2.1 a &&& msd g) = 0 := fun q => hq2 (by rw [q]; rfl)
              refine e_iload_n dX0_bitsOfSet_95 rfl rfl ?_
              refine e_iconst (v := 1) dX0_bitsOfSet_96 (by decide) ?_
              refine e_iload dX0_bitsOfSet_97 rfl ?_
              refine e_ishl dX0_bitsOfSet_99 ?_
              rw [shl_1 (by omega)]
              refine e_ior dX0_bitsOfSet_100 ?_
              rw [fa_or]
              refine e_istore_n dX0_bitsOfSet_101 rfl (by decide) rfl rfl ?_
              exact go _ (by
                rw [mask_t]
                unfold pbs
                have hb' : (msd g).testBit a = false := by simpa using hb
                rw [hb']; simp [h0])
  have loop1 : ∀ j a N, a + j = g.1 → GP g M N → Ev B mX0_bitsOfSet 29 0 0 (Rt (fun u N => u = some (.int (nI (setz g k))) ∧ GP g M N)) 4 [some (.ref 14), some (.int (nI k)), some (.int (nI (mask (pms g) a))), some (.int (nI a)), none] [] N := by
    intro j
    induction j with
    | zero =>
      intro a N haj hP
      have hag : a = g.1 := by omega
      have okN := ok.fl hP.2
      have hN : NetRep N 2 g := h.fl hP.2
      refine e_iload_n dX0_bitsOfSet_4 rfl rfl ?_
      refine e_aload_n dX0_bitsOfSet_5 rfl rfl ?_
      refine e_getR dX0_bitsOfSet_6 fRX0_23 (by first | exact okN.sh rfl | exact hN.1.1 | exact hN.1.2.2.1) (by first | exact okN.rf rfl | exact hN.1.2.2.2.2.2.1) (fun _ => rfl) ?_
      refine e_getI dX0_bitsOfSet_9 fRX0_33 (by first | exact okN.sh rfl | exact hN.1.1 | exact hN.1.2.2.1) (fun _ => rfl) ?_
      rw [hN.2.1]
      refine e_icmp_ge (tgt := 54) dX0_bitsOfSet_12 (by decide) (fun hc => ?_) (fun hc => ?_)
      · have hb9 : mask (pms g) a = msd g := by rw [hag]; rfl
        rw [hb9]
        refine e_iconst (v := 0) dX0_bitsOfSet_54 (by decide) ?_
        refine e_istore_n dX0_bitsOfSet_55 rfl (by decide) rfl rfl ?_
        refine e_iconst (v := 0) dX0_bitsOfSet_56 (by decide) ?_
        refine e_istore dX0_bitsOfSet_57 (by decide) rfl rfl ?_
        exact loop2 g.1 0 N (by omega) hP
      · exact absurd (nI_le (by omega : g.1 ≤ a) (by omega)) hc
    | succ j ih =>
      intro a N haj hP
      have okN := ok.fl hP.2
      have hN : NetRep N 2 g := h.fl hP.2
      have go : ∀ N' x, GP g M N' → x = mask (pms g) (a + 1) → Ev B mX0_bitsOfSet 29 0 0 (Rt (fun u N => u = some (.int (nI (setz g k))) ∧ GP g M N)) 48 [some (.ref 14), some (.int (nI k)), some (.int (nI x)), some (.int (nI a)), none] [] N' := by
        intro N' x hP' hx
        refine e_iinc (v := nI (a + 1)) dX0_bitsOfSet_48 rfl (nI_1 a) (by decide) rfl rfl ?_
        refine e_goto (tgt := 4) dX0_bitsOfSet_51 (by decide) ?_
        rw [hx]
        exact ih (a + 1) N' (by omega) hP'
      have hd1 : dif (al g) (2 ^ a) ≤ al g := dif_le _ _
      have m1 := mst_lt wf (dif (al g) (2 ^ a))
      have m2 := mst_lt wf (al g)
      refine e_iload_n dX0_bitsOfSet_4 rfl rfl ?_
      refine e_aload_n dX0_bitsOfSet_5 rfl rfl ?_
      refine e_getR dX0_bitsOfSet_6 fRX0_23 (by first | exact okN.sh rfl | exact hN.1.1 | exact hN.1.2.2.1) (by first | exact okN.rf rfl | exact hN.1.2.2.2.2.2.1) (fun _ => rfl) ?_
      refine e_getI dX0_bitsOfSet_9 fRX0_33 (by first | exact okN.sh rfl | exact hN.1.1 | exact hN.1.2.2.1) (fun _ => rfl) ?_
      rw [hN.2.1]
      refine e_icmp_ge (tgt := 54) dX0_bitsOfSet_12 (by decide) (fun hc => ?_) (fun hc => ?_)
      · exact absurd hc (nI_ge (by omega) (by omega))
      · refine e_aload_n dX0_bitsOfSet_15 rfl rfl ?_
        refine e_aload_n dX0_bitsOfSet_16 rfl rfl ?_
        refine e_getR dX0_bitsOfSet_17 fRX0_23 (by first | exact okN.sh rfl | exact hN.1.1 | exact hN.1.2.2.1) (by first | exact okN.rf rfl | exact hN.1.2.2.2.2.2.1) (fun _ => rfl) ?_
        refine e_callV0i [] dX0_bitsOfSet_20 mvmX1_all lkRX0_88 (by first | exact okN.sh rfl | exact hN.1.1 | exact hN.1.2.2.1) ⟨by decide, rfl⟩ rfl rfl (Nat.le_of_ble_eq_true rfl) (by decide) (c_all hN wf.1.2) ?_
        show Ev _ _ _ _ _ _ 23 _ [.int (nI (al g)), .ref 14] _
        refine e_iconst (v := 1) dX0_bitsOfSet_23 (by decide) ?_
        refine e_iload_n dX0_bitsOfSet_24 rfl rfl ?_
        refine e_ishl dX0_bitsOfSet_25 ?_
        rw [shl_1 (by omega)]
        refine e_iconst (v := (-1)) dX0_bitsOfSet_26 (by decide) ?_
        refine e_ixor dX0_bitsOfSet_27 ?_
        refine e_iand dX0_bitsOfSet_28 ?_
        rw [andn_nI]
        refine e_callV1l [_] dX0_bitsOfSet_29 mvmX0_greatestIn lkRX0_92 (by first | exact okN.sh rfl | exact hN.1.1 | exact hN.1.2.2.1) ⟨by decide, rfl⟩ rfl rfl (Nat.le_of_ble_eq_true rfl) (by decide) (c_greatestIn okN hN wf hP.1 (by omega)) (fun N1 h1 => ?_)
        refine e_callS0i [_] dX0_bitsOfSet_32 msmX0_sizeIn lkRX0_65 rfl rfl (Nat.le_of_ble_eq_true rfl) (by decide) (c_sizeIn (Tq_Qb wf.w _)) ?_
        obtain ⟨g1, f1⟩ := h1
        have ok1 := okN.fl f1
        refine e_aload_n dX0_bitsOfSet_35 rfl rfl ?_
        refine e_callV1i [] dX0_bitsOfSet_36 mvmX0_size lkRX0_96 (by exact ok1.sh rfl) ⟨by decide, rfl⟩ rfl rfl (Nat.le_of_ble_eq_true rfl) (by decide) (c_size ok1 (hN.fl f1) wf g1) (fun N2 h2 => ?_)
        obtain ⟨g2, f2⟩ := h2
        have hP2 : GP g M N2 := ⟨g2, (hP.2.trans f1).trans f2⟩
        show Ev _ _ _ _ _ _ 39 _ [.int (nI (mst g (al g))), .int (nI (mst g (dif (al g) (2 ^ a))))] _
        refine e_icmp_ne (tgt := 48) dX0_bitsOfSet_39 (by decide) (fun hq => ?_) (fun hq => ?_)
        · exact go N2 _ hP2 (by
            rw [mask_f]
            unfold pms
            simp
            intro q
            exact hq (by rw [q]))
        · rw [nI_eq (by omega) (by omega)] at hq
          refine e_iload_n dX0_bitsOfSet_42 rfl rfl ?_
          refine e_iconst (v := 1) dX0_bitsOfSet_43 (by decide) ?_
          refine e_iload_n dX0_bitsOfSet_44 rfl rfl ?_
          refine e_ishl dX0_bitsOfSet_45 ?_
          rw [shl_1 (by omega)]
          refine e_ior dX0_bitsOfSet_46 ?_
          rw [fa_or]
          refine e_istore_n dX0_bitsOfSet_47 rfl (by decide) rfl rfl ?_
          exact go N2 _ hP2 (by
            rw [mask_t]
            unfold pms
            simp [hq])
  refine e_iconst (v := 0) dX0_bitsOfSet_0 (by decide) ?_
  refine e_istore_n dX0_bitsOfSet_1 rfl (by decide) rfl rfl ?_
  refine e_iconst (v := 0) dX0_bitsOfSet_2 (by decide) ?_
  refine e_istore_n dX0_bitsOfSet_3 rfl (by decide) rfl rfl ?_
  exact loop1 g.1 0 M (by omega) ⟨hg, Fj.rf⟩
/-- the least i from lo on, k tries -/
def fnd (p : Nat → Bool) : Nat → Nat → Option Nat
  | 0, _ => none
  | k + 1, lo => if p lo = true then some lo else fnd p k (lo + 1)
def pfm (g : Nw) (a rest : Nat) (b : Nat) : Bool := rest.testBit b && ((g.2.1 a b).isSome && decide (mst g (dif rest (2 ^ a ||| 2 ^ b)) + 1 = mst g rest))
def fm (g : Nw) (a rest : Nat) : Option Nat := fnd (pfm g a rest) (g.1 - (a + 1)) (a + 1)
theorem c_firstMate {B : Bd} {M : Mm} {g : Nw} {a rest : Nat} (ok : OkM M) (h : NetRep M 2 g) (wf : Wfn g) (hg : GR M g) (ha : a < g.1) (hr : rest < 2 ^ g.1) : Ct B mX0_firstMate 28 0 0 [.ref 14, .int (nI a), .int (nI rest)] M (Rt (fun u N => u = some (.int (wI (fm g a rest))) ∧ GP g M N)) := by
  have hg12 := wf.1.2
  have hp12 := p12 hg12
  refine Ct.of (by decide) rfl rfl (Nat.le_of_ble_eq_true rfl) ?_
  have loop : ∀ k b N, b + k = g.1 → GP g M N → Ev B mX0_firstMate 28 0 0 (Rt (fun u N => u = some (.int (wI (fnd (pfm g a rest) k b))) ∧ GP g M N)) 4 [some (.ref 14), some (.int (nI a)), some (.int (nI rest)), some (.int (nI b))] [] N := by
    intro k
    induction k with
    | zero =>
      intro b N hb hP
      have okN := ok.fl hP.2
      have hN : NetRep N 2 g := h.fl hP.2
      refine e_iload_n dX0_firstMate_4 rfl rfl ?_
      refine e_aload_n dX0_firstMate_5 rfl rfl ?_
      refine e_getR dX0_firstMate_6 fRX0_23 (by first | exact okN.sh rfl | exact hN.1.1 | exact hN.1.2.2.1) (by first | exact okN.rf rfl | exact hN.1.2.2.2.2.2.1) (fun _ => rfl) ?_
      refine e_getI dX0_firstMate_9 fRX0_33 (by first | exact okN.sh rfl | exact hN.1.1 | exact hN.1.2.2.1) (fun _ => rfl) ?_
      rw [hN.2.1]
      refine e_icmp_ge (tgt := 74) dX0_firstMate_12 (by decide) (fun hc => ?_) (fun hc => ?_)
      · refine e_iconst (v := (-1)) dX0_firstMate_74 (by decide) ?_
        exact e_iret dX0_firstMate_75 rfl rfl (⟨_, rfl, rfl, hP⟩)
      · exact absurd (nI_le (by omega : g.1 ≤ b) (by omega)) hc
    | succ k ih =>
      intro b N hb hP
      have okN := ok.fl hP.2
      have hN : NetRep N 2 g := h.fl hP.2
      refine e_iload_n dX0_firstMate_4 rfl rfl ?_
      refine e_aload_n dX0_firstMate_5 rfl rfl ?_
      refine e_getR dX0_firstMate_6 fRX0_23 (by first | exact okN.sh rfl | exact hN.1.1 | exact hN.1.2.2.1) (by first | exact okN.rf rfl | exact hN.1.2.2.2.2.2.1) (fun _ => rfl) ?_
      refine e_getI dX0_firstMate_9 fRX0_33 (by first | exact okN.sh rfl | exact hN.1.1 | exact hN.1.2.2.1) (fun _ => rfl) ?_
      rw [hN.2.1]
      refine e_icmp_ge (tgt := 74) dX0_firstMate_12 (by decide) (fun hc => ?_) (fun hc => ?_)
      · exact absurd hc (nI_ge (by omega) (by omega))
      · have go : ∀ N', GP g M N' → ¬ pfm g a rest b = true → Ev B mX0_firstMate 28 0 0 (Rt (fun u N => u = some (.int (wI (fnd (pfm g a rest) (k + 1) b))) ∧ GP g M N)) 68 [some (.ref 14), some (.int (nI a)), some (.int (nI rest)), some (.int (nI b))] [] N' := by
          intro N' hP' hp
          have e9 : fnd (pfm g a rest) (k + 1) b = fnd (pfm g a rest) k (b + 1) := by
            show (if pfm g a rest b = true then _ else _) = _
            rw [if_neg hp]
          rw [e9]
          refine e_iinc (v := nI (b + 1)) dX0_firstMate_68 rfl (nI_1 b) (by decide) rfl rfl ?_
          refine e_goto (tgt := 4) dX0_firstMate_71 (by decide) ?_
          exact ih (b + 1) N' (by omega) hP'
        refine e_iload_n dX0_firstMate_15 rfl rfl ?_
        refine e_iload_n dX0_firstMate_16 rfl rfl ?_
        refine e_callN0i [_, _] dX0_firstMate_17 msmX5_hasBit nest_0 rfl rfl (Nat.le_of_ble_eq_true rfl) (by decide) (c_hasBit (by omega) (by omega)) ?_
        by_cases hbt : rest.testBit b = true
        · refine e_if_eq (tgt := 68) dX0_firstMate_20 (by decide) (fun hq => ?_) (fun hq => ?_)
          · rw [if_pos hbt] at hq; exact absurd hq (by decide)
          · refine e_aload_n dX0_firstMate_23 rfl rfl ?_
            refine e_getR dX0_firstMate_24 fRX0_23 (by first | exact okN.sh rfl | exact hN.1.1 | exact hN.1.2.2.1) (by first | exact okN.rf rfl | exact hN.1.2.2.2.2.2.1) (fun _ => rfl) ?_
            refine e_iload_n dX0_firstMate_27 rfl rfl ?_
            refine e_iload_n dX0_firstMate_28 rfl rfl ?_
            refine e_callV0i [_, _] dX0_firstMate_29 mvmX1_isLine lkRX0_99 (by first | exact okN.sh rfl | exact hN.1.1 | exact hN.1.2.2.1) ⟨by decide, rfl⟩ rfl rfl (Nat.le_of_ble_eq_true rfl) (by decide) (c_isLine hN (by omega) (by omega)) ?_
            by_cases hw : (g.2.1 a b).isSome = true
            · refine e_if_eq (tgt := 68) dX0_firstMate_32 (by decide) (fun hq2 => ?_) (fun hq2 => ?_)
              · rw [if_pos hw] at hq2; exact absurd hq2 (by decide)
              · have hd1 : dif rest (2 ^ a ||| 2 ^ b) ≤ rest := dif_le _ _
                have m1 := mst_lt wf (dif rest (2 ^ a ||| 2 ^ b))
                have m2 := mst_lt wf rest
                refine e_aload_n dX0_firstMate_35 rfl rfl ?_
                refine e_iload_n dX0_firstMate_36 rfl rfl ?_
                refine e_iconst (v := 1) dX0_firstMate_37 (by decide) ?_
                refine e_iload_n dX0_firstMate_38 rfl rfl ?_
                refine e_ishl dX0_firstMate_39 ?_
                rw [shl_1 (by omega)]
                refine e_iconst (v := 1) dX0_firstMate_40 (by decide) ?_
                refine e_iload_n dX0_firstMate_41 rfl rfl ?_
                refine e_ishl dX0_firstMate_42 ?_
                rw [shl_1 (by omega)]
                refine e_ior dX0_firstMate_43 ?_
                rw [fa_or]
                refine e_iconst (v := (-1)) dX0_firstMate_44 (by decide) ?_
                refine e_ixor dX0_firstMate_45 ?_
                refine e_iand dX0_firstMate_46 ?_
                rw [andn_nI]
                refine e_callV1l [_] dX0_firstMate_47 mvmX0_greatestIn lkRX0_92 (by first | exact okN.sh rfl | exact hN.1.1 | exact hN.1.2.2.1) ⟨by decide, rfl⟩ rfl rfl (Nat.le_of_ble_eq_true rfl) (by decide) (c_greatestIn okN hN wf hP.1 (by omega)) (fun N1 h1 => ?_)
                refine e_callS0i [_] dX0_firstMate_50 msmX0_sizeIn lkRX0_65 rfl rfl (Nat.le_of_ble_eq_true rfl) (by decide) (c_sizeIn (Tq_Qb wf.w _)) ?_
                obtain ⟨g1, f1⟩ := h1
                have ok1 := okN.fl f1
                refine e_iconst (v := 1) dX0_firstMate_53 (by decide) ?_
                refine e_iadd dX0_firstMate_54 ?_
                rw [nI_1]
                refine e_aload_n dX0_firstMate_55 rfl rfl ?_
                refine e_iload_n dX0_firstMate_56 rfl rfl ?_
                refine e_callV1l [_] dX0_firstMate_57 mvmX0_greatestIn lkRX0_92 (by exact ok1.sh rfl) ⟨by decide, rfl⟩ rfl rfl (Nat.le_of_ble_eq_true rfl) (by decide) (c_greatestIn ok1 (hN.fl f1) wf g1 hr) (fun N2 h2 => ?_)
                refine e_callS0i [_] dX0_firstMate_60 msmX0_sizeIn lkRX0_65 rfl rfl (Nat.le_of_ble_eq_true rfl) (by decide) (c_sizeIn (Tq_Qb wf.w _)) ?_
                obtain ⟨g2, f2⟩ := h2
                have hP2 : GP g M N2 := ⟨g2, (hP.2.trans f1).trans f2⟩
                show Ev _ _ _ _ _ _ 63 _ [.int (nI (mst g rest)), .int (nI (mst g (dif rest (2 ^ a ||| 2 ^ b)) + 1))] _
                refine e_icmp_ne (tgt := 68) dX0_firstMate_63 (by decide) (fun hq3 => ?_) (fun hq3 => ?_)
                · exact go N2 hP2 (by
                    unfold pfm
                    simp [hbt, hw]
                    intro q
                    exact hq3 (by rw [q]))
                · rw [nI_eq (by omega) (by omega)] at hq3
                  have hp : pfm g a rest b = true := by unfold pfm; simp [hbt, hw, hq3]
                  have e9 : fnd (pfm g a rest) (k + 1) b = some b := by
                    show (if pfm g a rest b = true then _ else _) = _
                    rw [if_pos hp]
                  refine e_iload_n dX0_firstMate_66 rfl rfl ?_
                  rw [e9]
                  exact e_iret dX0_firstMate_67 rfl rfl (⟨_, rfl, rfl, hP2⟩)
            · refine e_if_eq (tgt := 68) dX0_firstMate_32 (by decide) (fun hq2 => ?_) (fun hq2 => ?_)
              · exact go N hP (by unfold pfm; simp [hw])
              · rw [if_neg hw] at hq2; exact absurd rfl hq2
        · refine e_if_eq (tgt := 68) dX0_firstMate_20 (by decide) (fun hq => ?_) (fun hq => ?_)
          · exact go N hP (by unfold pfm; simp [hbt])
          · rw [if_neg hbt] at hq; exact absurd rfl hq
  refine e_iload_n dX0_firstMate_0 rfl rfl ?_
  refine e_iconst (v := 1) dX0_firstMate_1 (by decide) ?_
  refine e_iadd dX0_firstMate_2 ?_
  rw [nI_1]
  refine e_istore_n dX0_firstMate_3 rfl (by decide) rfl rfl ?_
  exact loop (g.1 - (a + 1)) (a + 1) M (by omega) ⟨hg, Fj.rf⟩

