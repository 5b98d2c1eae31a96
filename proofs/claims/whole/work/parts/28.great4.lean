theorem mask_s (p : Nat → Bool) (k : Nat) : mask p (k + 1) = mask p k ||| (if p k = true then 2 ^ k else 0) := rfl
theorem mask_t {p : Nat → Bool} {k : Nat} (h : p k = true) : mask p (k + 1) = mask p k ||| 2 ^ k := by rw [mask_s, if_pos h]
theorem mask_f {p : Nat → Bool} {k : Nat} (h : ¬ p k = true) : mask p (k + 1) = mask p k := by rw [mask_s, if_neg h, Nat.or_zero]
theorem mask_12 (p : Nat → Bool) {n : Nat} (h : n ≤ 12) : mask p n < 4096 := Nat.lt_of_lt_of_le (mask_lt p n) (p12 h)
def pms (g : Nw) (a : Nat) : Bool := decide (mst g (dif (al g) (2 ^ a)) = mst g (al g))
def msd (g : Nw) : Nat := mask (pms g) g.1
def pbs (g : Nw) (a : Nat) : Bool := !(msd g).testBit a && !decide ((nbr g.2.1 a &&& msd g) = 0)
def bsd (g : Nw) : Nat := mask (pbs g) g.1
def setz (g : Nw) (k : Nat) : Nat := if k = 0 then msd g else if k = 1 then bsd g else dif (dif (al g) (msd g)) (bsd g)
theorem c_bitsOfSet {B : Bd} {M : Mm} {g : Nw} {k : Nat} (ok : OkM M) (h : NetRep M 2 g) (wf : Wfn g) (hg : GR M g) (hk : k ≤ 2) : Ct B mX0_bitsOfSet 1 0 0 [.ref 14, .ref 2, .int (nI k)] M (Is (some (.int (nI (setz g k)))) M) := by
  have hN := h.1
  have hg12 := wf.1.2
  have hp12 := p12 hg12
  have hal := al_lt g
  obtain ⟨c1, c2⟩ := cl_al wf
  refine Ct.of (by decide) rfl rfl (Nat.le_of_ble_eq_true rfl) ?_
  have loop2 : ∀ j a, a + j = g.1 → Ev B mX0_bitsOfSet 1 0 0 (Is (some (.int (nI (setz g k)))) M) 61 [some (.ref 14), some (.ref 2), some (.int (nI k)), some (.int (nI (msd g))), some (.int (nI (mask (pbs g) a))), some (.int (nI a))] [] M := by
    intro j
    induction j with
    | zero =>
      intro a haj
      have hag : a = g.1 := by omega
      refine e_iload dX0_bitsOfSet_61 rfl ?_
      refine e_aload_n dX0_bitsOfSet_63 rfl rfl ?_
      refine e_getI dX0_bitsOfSet_64 fRX0_23 (by first | exact ok.sh rfl) (fun _ => rfl) ?_
      rw [hg.2.2]
      refine e_icmp_ge (tgt := 106) dX0_bitsOfSet_67 (by decide) (fun hc => ?_) (fun hc => ?_)
      · have hb9 : mask (pbs g) a = bsd g := by rw [hag]; rfl
        rw [hb9]
        refine e_iload_n dX0_bitsOfSet_106 rfl rfl ?_
        refine e_if_ne (tgt := 112) dX0_bitsOfSet_107 (by decide) (fun hc2 => ?_) (fun hc2 => ?_)
        · have hk0 : k ≠ 0 := fun q => hc2 (by rw [q]; rfl)
          refine e_iload_n dX0_bitsOfSet_112 rfl rfl ?_
          refine e_iconst (v := 1) dX0_bitsOfSet_113 (by decide) ?_
          refine e_icmp_ne (tgt := 122) dX0_bitsOfSet_114 (by decide) (fun hc3 => ?_) (fun hc3 => ?_)
          · have hk1 : k ≠ 1 := fun q => hc3 (by rw [q]; rfl)
            refine e_aload_n dX0_bitsOfSet_122 rfl rfl ?_
            refine e_getI dX0_bitsOfSet_123 fRX0_19 (by first | exact ok.sh rfl) (fun _ => rfl) ?_
            rw [hg.2.1]
            refine e_iload_n dX0_bitsOfSet_126 rfl rfl ?_
            refine e_iconst (v := (-1)) dX0_bitsOfSet_127 (by decide) ?_
            refine e_ixor dX0_bitsOfSet_128 ?_
            refine e_iand dX0_bitsOfSet_129 ?_
            rw [andn_nI]
            refine e_iload dX0_bitsOfSet_130 rfl ?_
            refine e_iconst (v := (-1)) dX0_bitsOfSet_132 (by decide) ?_
            refine e_ixor dX0_bitsOfSet_133 ?_
            refine e_iand dX0_bitsOfSet_134 ?_
            rw [andn_nI]
            exact e_iret dX0_bitsOfSet_135 rfl rfl (⟨by unfold setz; rw [if_neg hk0, if_neg hk1], rfl⟩)
          · have hk1 : k = 1 := (nI_is (by omega)).mp hc3
            refine e_iload dX0_bitsOfSet_117 rfl ?_
            refine e_goto (tgt := 135) dX0_bitsOfSet_119 (by decide) ?_
            exact e_iret dX0_bitsOfSet_135 rfl rfl (⟨by unfold setz; rw [if_neg hk0, if_pos hk1], rfl⟩)
        · have hk0 : k = 0 := by
            have := (nI_eq (a := k) (b := 0) (by omega) (by decide)).mp (by rw [hc2]; rfl)
            exact this
          refine e_iload_n dX0_bitsOfSet_110 rfl rfl ?_
          exact e_iret dX0_bitsOfSet_111 rfl rfl (⟨by unfold setz; rw [if_pos hk0], rfl⟩)
      · exact absurd (nI_le (by omega : g.1 ≤ a) (by omega)) hc
    | succ j ih =>
      intro a haj
      have hm12 := mask_12 (pms g) hg12
      have hmd : msd g < 4096 := hm12
      refine e_iload dX0_bitsOfSet_61 rfl ?_
      refine e_aload_n dX0_bitsOfSet_63 rfl rfl ?_
      refine e_getI dX0_bitsOfSet_64 fRX0_23 (by first | exact ok.sh rfl) (fun _ => rfl) ?_
      rw [hg.2.2]
      refine e_icmp_ge (tgt := 106) dX0_bitsOfSet_67 (by decide) (fun hc => ?_) (fun hc => ?_)
      · exact absurd hc (nI_ge (by omega) (by omega))
      · have go : ∀ x, x = mask (pbs g) (a + 1) → Ev B mX0_bitsOfSet 1 0 0 (Is (some (.int (nI (setz g k)))) M) 100 [some (.ref 14), some (.ref 2), some (.int (nI k)), some (.int (nI (msd g))), some (.int (nI x)), some (.int (nI a))] [] M := by
          intro x hx
          refine e_iinc (v := nI (a + 1)) dX0_bitsOfSet_100 rfl (nI_1 a) (by decide) rfl rfl ?_
          refine e_goto (tgt := 61) dX0_bitsOfSet_103 (by decide) ?_
          rw [hx]
          exact ih (a + 1) (by omega)
        refine e_iload_n dX0_bitsOfSet_70 rfl rfl ?_
        refine e_iload dX0_bitsOfSet_71 rfl ?_
        refine e_callN0i [_, _] dX0_bitsOfSet_73 msmX5_hasBit nest_0 rfl rfl (Nat.le_of_ble_eq_true rfl) (by decide) (c_hasBit (by omega) (by omega)) ?_
        by_cases hb : (msd g).testBit a = true
        · refine e_if_ne (tgt := 100) dX0_bitsOfSet_76 (by decide) (fun hq => ?_) (fun hq => ?_)
          · exact go _ (by rw [mask_f]; unfold pbs; rw [hb]; simp)
          · rw [if_pos hb] at hq; exact absurd hq (by decide)
        · refine e_if_ne (tgt := 100) dX0_bitsOfSet_76 (by decide) (fun hq => ?_) (fun hq => ?_)
          · rw [if_neg hb] at hq; exact absurd rfl hq
          · refine e_aload_n dX0_bitsOfSet_79 rfl rfl ?_
            refine e_getR dX0_bitsOfSet_80 fRX0_48 (by first | exact ok.sh rfl) (by first | exact ok.rf rfl) (fun _ => rfl) ?_
            refine e_iload dX0_bitsOfSet_83 rfl ?_
            refine e_iaload dX0_bitsOfSet_85 (by first | exact ok.sh rfl) (by exact vp_in_nI (show a < 12 by omega) (by decide)) ?_
            rw [nI_clamp (by omega), h.2.2.2.2.1 a (by omega)]
            refine e_iload_n dX0_bitsOfSet_86 rfl rfl ?_
            refine e_iand dX0_bitsOfSet_87 ?_
            rw [fa_and]
            have hz := nI_eq (a := nbr g.2.1 a &&& msd g) (b := 0) (Nat.lt_of_le_of_lt Nat.and_le_right (by omega)) (by decide)
            refine e_if_eq (tgt := 100) dX0_bitsOfSet_88 (by decide) (fun hq2 => ?_) (fun hq2 => ?_)
            · have h0 := hz.mp (by rw [hq2]; rfl)
              exact go _ (by rw [mask_f]; unfold pbs; rw [h0]; simp)
            · have h0 : ¬ (nbr g.2.1 a &&& msd g) = 0 := fun q => hq2 (by rw [q]; rfl)
              refine e_iload dX0_bitsOfSet_91 rfl ?_
              refine e_iconst (v := 1) dX0_bitsOfSet_93 (by decide) ?_
              refine e_iload dX0_bitsOfSet_94 rfl ?_
              refine e_ishl dX0_bitsOfSet_96 ?_
              rw [shl_1 (by omega)]
              refine e_ior dX0_bitsOfSet_97 ?_
              rw [fa_or]
              refine e_istore dX0_bitsOfSet_98 (by decide) rfl rfl ?_
              exact go _ (by
                rw [mask_t]
                unfold pbs
                have hb' : (msd g).testBit a = false := by simpa using hb
                rw [hb']; simp [h0])
  have loop1 : ∀ j a, a + j = g.1 → Ev B mX0_bitsOfSet 1 0 0 (Is (some (.int (nI (setz g k)))) M) 5 [some (.ref 14), some (.ref 2), some (.int (nI k)), some (.int (nI (mask (pms g) a))), some (.int (nI a)), none] [] M := by
    intro j
    induction j with
    | zero =>
      intro a haj
      have hag : a = g.1 := by omega
      refine e_iload dX0_bitsOfSet_5 rfl ?_
      refine e_aload_n dX0_bitsOfSet_7 rfl rfl ?_
      refine e_getI dX0_bitsOfSet_8 fRX0_23 (by first | exact ok.sh rfl) (fun _ => rfl) ?_
      rw [hg.2.2]
      refine e_icmp_ge (tgt := 55) dX0_bitsOfSet_11 (by decide) (fun hc => ?_) (fun hc => ?_)
      · have hb9 : mask (pms g) a = msd g := by rw [hag]; rfl
        rw [hb9]
        refine e_iconst (v := 0) dX0_bitsOfSet_55 (by decide) ?_
        refine e_istore dX0_bitsOfSet_56 (by decide) rfl rfl ?_
        refine e_iconst (v := 0) dX0_bitsOfSet_58 (by decide) ?_
        refine e_istore dX0_bitsOfSet_59 (by decide) rfl rfl ?_
        exact loop2 g.1 0 (by omega)
      · exact absurd (nI_le (by omega : g.1 ≤ a) (by omega)) hc
    | succ j ih =>
      intro a haj
      have go : ∀ x, x = mask (pms g) (a + 1) → Ev B mX0_bitsOfSet 1 0 0 (Is (some (.int (nI (setz g k)))) M) 49 [some (.ref 14), some (.ref 2), some (.int (nI k)), some (.int (nI x)), some (.int (nI a)), none] [] M := by
        intro x hx
        refine e_iinc (v := nI (a + 1)) dX0_bitsOfSet_49 rfl (nI_1 a) (by decide) rfl rfl ?_
        refine e_goto (tgt := 5) dX0_bitsOfSet_52 (by decide) ?_
        rw [hx]
        exact ih (a + 1) (by omega)
      have hd1 : dif (al g) (2 ^ a) ≤ al g := dif_le _ _
      have m1 := mst_lt wf (dif (al g) (2 ^ a))
      have m2 := mst_lt wf (al g)
      refine e_iload dX0_bitsOfSet_5 rfl ?_
      refine e_aload_n dX0_bitsOfSet_7 rfl rfl ?_
      refine e_getI dX0_bitsOfSet_8 fRX0_23 (by first | exact ok.sh rfl) (fun _ => rfl) ?_
      rw [hg.2.2]
      refine e_icmp_ge (tgt := 55) dX0_bitsOfSet_11 (by decide) (fun hc => ?_) (fun hc => ?_)
      · exact absurd hc (nI_ge (by omega) (by omega))
      · refine e_aload_n dX0_bitsOfSet_14 rfl rfl ?_
        refine e_getR dX0_bitsOfSet_15 fRX0_26 (by first | exact ok.sh rfl) (by first | exact ok.rf rfl) (fun _ => rfl) ?_
        refine e_aload_n dX0_bitsOfSet_18 rfl rfl ?_
        refine e_getI dX0_bitsOfSet_19 fRX0_19 (by first | exact ok.sh rfl) (fun _ => rfl) ?_
        rw [hg.2.1]
        refine e_iconst (v := 1) dX0_bitsOfSet_22 (by decide) ?_
        refine e_iload dX0_bitsOfSet_23 rfl ?_
        refine e_ishl dX0_bitsOfSet_25 ?_
        rw [shl_1 (by omega)]
        refine e_iconst (v := (-1)) dX0_bitsOfSet_26 (by decide) ?_
        refine e_ixor dX0_bitsOfSet_27 ?_
        refine e_iand dX0_bitsOfSet_28 ?_
        rw [andn_nI]
        refine e_iaload dX0_bitsOfSet_29 (by first | exact ok.sh rfl) (by first | exact vp_in_nI (show dif (al g) (2 ^ a) < 4096 by omega) (by decide) | exact vp_in_nI c2 (by decide)) ?_
        rw [nI_clamp (by omega), (hg.1 _ (by omega)).1]
        refine e_aload_n dX0_bitsOfSet_30 rfl rfl ?_
        refine e_getR dX0_bitsOfSet_31 fRX0_26 (by first | exact ok.sh rfl) (by first | exact ok.rf rfl) (fun _ => rfl) ?_
        refine e_aload_n dX0_bitsOfSet_34 rfl rfl ?_
        refine e_getI dX0_bitsOfSet_35 fRX0_19 (by first | exact ok.sh rfl) (fun _ => rfl) ?_
        rw [hg.2.1]
        refine e_iaload dX0_bitsOfSet_38 (by first | exact ok.sh rfl) (by first | exact vp_in_nI (show dif (al g) (2 ^ a) < 4096 by omega) (by decide) | exact vp_in_nI c2 (by decide)) ?_
        rw [c1, (hg.1 _ (al_lt g)).1]
        show Ev _ _ _ _ _ _ 39 _ [.int (nI (mst g (al g))), .int (nI (mst g (dif (al g) (2 ^ a))))] _
        refine e_icmp_ne (tgt := 49) dX0_bitsOfSet_39 (by decide) (fun hq => ?_) (fun hq => ?_)
        · exact go _ (by
            rw [mask_f]
            unfold pms
            simp
            intro q
            exact hq (by rw [q]))
        · rw [nI_eq (by omega) (by omega)] at hq
          refine e_iload_n dX0_bitsOfSet_42 rfl rfl ?_
          refine e_iconst (v := 1) dX0_bitsOfSet_43 (by decide) ?_
          refine e_iload dX0_bitsOfSet_44 rfl ?_
          refine e_ishl dX0_bitsOfSet_46 ?_
          rw [shl_1 (by omega)]
          refine e_ior dX0_bitsOfSet_47 ?_
          rw [fa_or]
          refine e_istore_n dX0_bitsOfSet_48 rfl (by decide) rfl rfl ?_
          exact go _ (by
            rw [mask_t]
            unfold pms
            simp [hq])
  refine e_iconst (v := 0) dX0_bitsOfSet_0 (by decide) ?_
  refine e_istore_n dX0_bitsOfSet_1 rfl (by decide) rfl rfl ?_
  refine e_iconst (v := 0) dX0_bitsOfSet_2 (by decide) ?_
  refine e_istore dX0_bitsOfSet_3 (by decide) rfl rfl ?_
  exact loop1 g.1 0 (by omega)
/-- the least i from lo on, k tries -/
def fnd (p : Nat → Bool) : Nat → Nat → Option Nat
  | 0, _ => none
  | k + 1, lo => if p lo = true then some lo else fnd p k (lo + 1)
def pfm (g : Nw) (a rest : Nat) (b : Nat) : Bool := rest.testBit b && ((g.2.1 a b).isSome && decide (mst g (dif rest (2 ^ a ||| 2 ^ b)) + 1 = mst g rest))
def fm (g : Nw) (a rest : Nat) : Option Nat := fnd (pfm g a rest) (g.1 - (a + 1)) (a + 1)
theorem c_firstMate {B : Bd} {M : Mm} {g : Nw} {a rest : Nat} (ok : OkM M) (h : NetRep M 2 g) (wf : Wfn g) (hg : GR M g) (ha : a < g.1) (hr : rest < 2 ^ g.1) : Ct B mX0_firstMate 2 0 0 [.ref 14, .ref 2, .int (nI a), .int (nI rest)] M (Is (some (.int (wI (fm g a rest)))) M) := by
  have hN := h.1
  have hg12 := wf.1.2
  have hp12 := p12 hg12
  refine Ct.of (by decide) rfl rfl (Nat.le_of_ble_eq_true rfl) ?_
  have loop : ∀ k b, b + k = g.1 → Ev B mX0_firstMate 2 0 0 (Is (some (.int (wI (fnd (pfm g a rest) k b)))) M) 5 [some (.ref 14), some (.ref 2), some (.int (nI a)), some (.int (nI rest)), some (.int (nI b))] [] M := by
    intro k
    induction k with
    | zero =>
      intro b hb
      refine e_iload dX0_firstMate_5 rfl ?_
      refine e_aload_n dX0_firstMate_7 rfl rfl ?_
      refine e_getI dX0_firstMate_8 fRX0_23 (by first | exact ok.sh rfl) (fun _ => rfl) ?_
      rw [hg.2.2]
      refine e_icmp_ge (tgt := 70) dX0_firstMate_11 (by decide) (fun hc => ?_) (fun hc => ?_)
      · refine e_iconst (v := (-1)) dX0_firstMate_70 (by decide) ?_
        exact e_iret dX0_firstMate_71 rfl rfl (⟨rfl, rfl⟩)
      · exact absurd (nI_le (by omega : g.1 ≤ b) (by omega)) hc
    | succ k ih =>
      intro b hb
      refine e_iload dX0_firstMate_5 rfl ?_
      refine e_aload_n dX0_firstMate_7 rfl rfl ?_
      refine e_getI dX0_firstMate_8 fRX0_23 (by first | exact ok.sh rfl) (fun _ => rfl) ?_
      rw [hg.2.2]
      refine e_icmp_ge (tgt := 70) dX0_firstMate_11 (by decide) (fun hc => ?_) (fun hc => ?_)
      · exact absurd hc (nI_ge (by omega) (by omega))
      · have go : ¬ pfm g a rest b = true → Ev B mX0_firstMate 2 0 0 (Is (some (.int (wI (fnd (pfm g a rest) (k + 1) b)))) M) 64 [some (.ref 14), some (.ref 2), some (.int (nI a)), some (.int (nI rest)), some (.int (nI b))] [] M := by
          intro hp
          have e9 : fnd (pfm g a rest) (k + 1) b = fnd (pfm g a rest) k (b + 1) := by
            show (if pfm g a rest b = true then _ else _) = _
            rw [if_neg hp]
          rw [e9]
          refine e_iinc (v := nI (b + 1)) dX0_firstMate_64 rfl (nI_1 b) (by decide) rfl rfl ?_
          refine e_goto (tgt := 5) dX0_firstMate_67 (by decide) ?_
          exact ih (b + 1) (by omega)
        refine e_iload_n dX0_firstMate_14 rfl rfl ?_
        refine e_iload dX0_firstMate_15 rfl ?_
        refine e_callN0i [_, _] dX0_firstMate_17 msmX5_hasBit nest_0 rfl rfl (Nat.le_of_ble_eq_true rfl) (by decide) (c_hasBit (by omega) (by omega)) ?_
        by_cases hbt : rest.testBit b = true
        · refine e_if_eq (tgt := 64) dX0_firstMate_20 (by decide) (fun hq => ?_) (fun hq => ?_)
          · rw [if_pos hbt] at hq; exact absurd hq (by decide)
          · refine e_aload_n dX0_firstMate_23 rfl rfl ?_
            refine e_iload_n dX0_firstMate_24 rfl rfl ?_
            refine e_iload dX0_firstMate_25 rfl ?_
            refine e_callV0i [_, _] dX0_firstMate_27 mvmX1_isLine lkRX0_71 (by first | exact ok.sh rfl) ⟨by decide, rfl⟩ rfl rfl (Nat.le_of_ble_eq_true rfl) (by decide) (c_isLine h (by omega) (by omega)) ?_
            by_cases hw : (g.2.1 a b).isSome = true
            · refine e_if_eq (tgt := 64) dX0_firstMate_30 (by decide) (fun hq2 => ?_) (fun hq2 => ?_)
              · rw [if_pos hw] at hq2; exact absurd hq2 (by decide)
              · have hd1 : dif rest (2 ^ a ||| 2 ^ b) ≤ rest := dif_le _ _
                have m1 := mst_lt wf (dif rest (2 ^ a ||| 2 ^ b))
                have m2 := mst_lt wf rest
                refine e_aload_n dX0_firstMate_33 rfl rfl ?_
                refine e_getR dX0_firstMate_34 fRX0_26 (by first | exact ok.sh rfl) (by first | exact ok.rf rfl) (fun _ => rfl) ?_
                refine e_iload_n dX0_firstMate_37 rfl rfl ?_
                refine e_iconst (v := 1) dX0_firstMate_38 (by decide) ?_
                refine e_iload_n dX0_firstMate_39 rfl rfl ?_
                refine e_ishl dX0_firstMate_40 ?_
                rw [shl_1 (by omega)]
                refine e_iconst (v := 1) dX0_firstMate_41 (by decide) ?_
                refine e_iload dX0_firstMate_42 rfl ?_
                refine e_ishl dX0_firstMate_44 ?_
                rw [shl_1 (by omega)]
                refine e_ior dX0_firstMate_45 ?_
                rw [fa_or]
                refine e_iconst (v := (-1)) dX0_firstMate_46 (by decide) ?_
                refine e_ixor dX0_firstMate_47 ?_
                refine e_iand dX0_firstMate_48 ?_
                rw [andn_nI]
                refine e_iaload dX0_firstMate_49 (by first | exact ok.sh rfl) (by first | exact vp_in_nI (show dif rest (2 ^ a ||| 2 ^ b) < 4096 by omega) (by decide) | exact vp_in_nI (show rest < 4096 by omega) (by decide)) ?_
                rw [nI_clamp (by omega), (hg.1 _ (by omega)).1]
                refine e_iconst (v := 1) dX0_firstMate_50 (by decide) ?_
                refine e_iadd dX0_firstMate_51 ?_
                rw [nI_1]
                refine e_aload_n dX0_firstMate_52 rfl rfl ?_
                refine e_getR dX0_firstMate_53 fRX0_26 (by first | exact ok.sh rfl) (by first | exact ok.rf rfl) (fun _ => rfl) ?_
                refine e_iload_n dX0_firstMate_56 rfl rfl ?_
                refine e_iaload dX0_firstMate_57 (by first | exact ok.sh rfl) (by first | exact vp_in_nI (show dif rest (2 ^ a ||| 2 ^ b) < 4096 by omega) (by decide) | exact vp_in_nI (show rest < 4096 by omega) (by decide)) ?_
                rw [nI_clamp (by omega), (hg.1 _ hr).1]
                show Ev _ _ _ _ _ _ 58 _ [.int (nI (mst g rest)), .int (nI (mst g (dif rest (2 ^ a ||| 2 ^ b)) + 1))] _
                refine e_icmp_ne (tgt := 64) dX0_firstMate_58 (by decide) (fun hq3 => ?_) (fun hq3 => ?_)
                · exact go (by
                    unfold pfm
                    simp [hbt, hw]
                    intro q
                    exact hq3 (by rw [q]))
                · rw [nI_eq (by omega) (by omega)] at hq3
                  have hp : pfm g a rest b = true := by unfold pfm; simp [hbt, hw, hq3]
                  have e9 : fnd (pfm g a rest) (k + 1) b = some b := by
                    show (if pfm g a rest b = true then _ else _) = _
                    rw [if_pos hp]
                  refine e_iload dX0_firstMate_61 rfl ?_
                  rw [e9]
                  exact e_iret dX0_firstMate_63 rfl rfl (⟨rfl, rfl⟩)
            · refine e_if_eq (tgt := 64) dX0_firstMate_30 (by decide) (fun hq2 => ?_) (fun hq2 => ?_)
              · exact go (by unfold pfm; simp [hw])
              · rw [if_neg hw] at hq2; exact absurd rfl hq2
        · refine e_if_eq (tgt := 64) dX0_firstMate_20 (by decide) (fun hq => ?_) (fun hq => ?_)
          · exact go (by unfold pfm; simp [hbt])
          · rw [if_neg hbt] at hq; exact absurd rfl hq
  refine e_iload_n dX0_firstMate_0 rfl rfl ?_
  refine e_iconst (v := 1) dX0_firstMate_1 (by decide) ?_
  refine e_iadd dX0_firstMate_2 ?_
  rw [nI_1]
  refine e_istore dX0_firstMate_3 (by decide) rfl rfl ?_
  exact loop (g.1 - (a + 1)) (a + 1) (by omega)

