theorem c_status {B : Bd} {M : Mm} {s : Sx} {x : Int32} (h : CI M s) : Ct B mX5_status 0 0 0 [.ref 0, .int x] M (CPo [] M (sStatus s x)) := by
  have ok := h.1
  have hr := h.2.2.2.2.2.2
  refine Ct.of (by decide) rfl rfl (Nat.le_of_ble_eq_true rfl) ?_
  refine e_iload_n dX5_status_0 rfl rfl ?_
  unfold sStatus
  refine e_if_lt (tgt := 22) dX5_status_1 (by decide) (fun hq => ?_) (fun hq => ?_)
  · have := (lt0 x).mp hq
    rw [if_neg (by omega)]
    refine e_iconst (v := (-1)) dX5_status_22 (by decide) ?_
    exact e_iret dX5_status_23 rfl rfl (cpo_ok h FC.rf)
  · have h0 : ¬ x.toInt < 0 := fun q => hq ((lt0 x).mpr q)
    refine e_iload_n dX5_status_4 rfl rfl ?_
    refine e_aload_n dX5_status_5 rfl rfl ?_
    refine e_getR dX5_status_6 fRX5_67 (by exact ok.sh rfl) (by exact ok.rf rfl) (fun _ => rfl) ?_
    refine e_alen (t0 := 0) dX5_status_9 (by exact ok.sh rfl) (fun _ => rfl) ?_
    refine e_icmp_ge (tgt := 22) dX5_status_10 (by decide) (fun hq2 => ?_) (fun hq2 => ?_)
    · rw [fa_le, nI_toInt (by decide)] at hq2
      rw [if_neg (by omega)]
      refine e_iconst (v := (-1)) dX5_status_22 (by decide) ?_
      exact e_iret dX5_status_23 rfl rfl (cpo_ok h FC.rf)
    · rw [fa_le, nI_toInt (by decide)] at hq2
      have h3 : 0 ≤ x.toInt ∧ x.toInt < 3 := by omega
      obtain ⟨e1, e2⟩ := toN (x := x) (k := 2) (by omega) (by omega) (by omega)
      rw [if_pos h3]
      generalize x.toInt.toNat = n at e1 e2
      refine e_aload_n dX5_status_13 rfl rfl ?_
      refine e_getR dX5_status_14 fRX5_67 (by exact ok.sh rfl) (by exact ok.rf rfl) (fun _ => rfl) ?_
      refine e_iload_n dX5_status_17 rfl rfl ?_
      refine e_iaload dX5_status_18 (by exact ok.sh rfl) (by (rw [e1]; exact vp_in_nI (show n < 3 by omega) (by decide))) ?_
      have e3 : x.toNatClampNeg = n := by rw [e1]; exact nI_clamp (by omega)
      rw [e3, hr n (by omega)]
      refine e_goto (tgt := 23) dX5_status_19 (by decide) ?_
      exact e_iret dX5_status_23 rfl rfl (cpo_ok h FC.rf)
theorem prR_lo (g : Nw) (a : Nat) (v : Int64) : ∀ k, k ≤ a + 1 → prR g a k v = v := by
  intro k
  induction k with
  | zero => intro _; rfl
  | succ k ih =>
    intro hk
    show (if a < k ∧ (g.2.1 a k).isSome = true then _ else _) = v
    rw [if_neg (by omega)]
    exact ih (by omega)
theorem c_print {B : Bd} {M : Mm} {s : Sx} (h : CI M s) : Ct B mX5_print 2 0 0 [.ref 0] M (Is (some (.long (prt (sgg s)))) M) := by
  have ok := h.1
  have hn := h.2.2.2.1.1
  have hgd := h.2.2.2.1.2
  have hg12 := hgd.1.1.2
  generalize sgg s = g at hn hgd hg12
  refine Ct.of (by decide) rfl rfl (Nat.le_of_ble_eq_true rfl) ?_
  have outer : ∀ j a (t4 : Option Value), a + j = g.1 → Ev B mX5_print 2 0 0 (Is (some (.long (prt g))) M) 40 [some (.ref 0), some (.long (prW g a (prM g g.1 0))), none, some (.int (nI a)), t4] [] M := by
    intro j
    induction j with
    | zero =>
      intro a t4 haj
      have hag : a = g.1 := by omega
      refine e_iload_n dX5_print_40 rfl rfl ?_
      refine e_aload_n dX5_print_41 rfl rfl ?_
      refine e_getR dX5_print_42 fRX5_23 (by exact ok.sh rfl) (by exact ok.rf rfl) (fun _ => rfl) ?_
      refine e_getI dX5_print_45 fRX5_171 (by exact ok.sh rfl) (fun _ => rfl) ?_
      rw [hn.2.1]
      refine e_icmp_ge (tgt := 111) dX5_print_48 (by decide) (fun hz => ?_) (fun hz => ?_)
      · refine e_lload_n dX5_print_111 rfl rfl ?_
        exact e_lret dX5_print_112 rfl ⟨by rw [hag]; rfl, rfl⟩
      · exact absurd (nI_le (by omega) (by omega)) hz
    | succ j ih =>
      intro a t4 haj
      refine e_iload_n dX5_print_40 rfl rfl ?_
      refine e_aload_n dX5_print_41 rfl rfl ?_
      refine e_getR dX5_print_42 fRX5_23 (by exact ok.sh rfl) (by exact ok.rf rfl) (fun _ => rfl) ?_
      refine e_getI dX5_print_45 fRX5_171 (by exact ok.sh rfl) (fun _ => rfl) ?_
      rw [hn.2.1]
      refine e_icmp_ge (tgt := 111) dX5_print_48 (by decide) (fun hz => ?_) (fun hz => ?_)
      · exact absurd hz (nI_ge (by omega) (by omega))
      · refine e_iload_n dX5_print_51 rfl rfl ?_
        refine e_iconst (v := 1) dX5_print_52 (by decide) ?_
        refine e_iadd dX5_print_53 ?_
        rw [nI_1]
        refine e_istore dX5_print_54 (by decide) rfl rfl ?_
        have inner : ∀ j2 b, b + j2 = g.1 → a < b → Ev B mX5_print 2 0 0 (Is (some (.long (prt g))) M) 56 [some (.ref 0), some (.long (prR g a b (prW g a (prM g g.1 0)))), none, some (.int (nI a)), some (.int (nI b))] [] M := by
          intro j2
          induction j2 with
          | zero =>
            intro b hbj hab
            have hbg : b = g.1 := by omega
            refine e_iload dX5_print_56 rfl ?_
            refine e_aload_n dX5_print_58 rfl rfl ?_
            refine e_getR dX5_print_59 fRX5_23 (by exact ok.sh rfl) (by exact ok.rf rfl) (fun _ => rfl) ?_
            refine e_getI dX5_print_62 fRX5_171 (by exact ok.sh rfl) (fun _ => rfl) ?_
            rw [hn.2.1]
            refine e_icmp_ge (tgt := 105) dX5_print_65 (by decide) (fun hz => ?_) (fun hz => ?_)
            · refine e_iinc (v := nI (a + 1)) dX5_print_105 rfl (nI_1 a) (by decide) rfl rfl ?_
              refine e_goto (tgt := 40) dX5_print_108 (by decide) ?_
              rw [hbg]
              exact ih (a + 1) _ (by omega)
            · exact absurd (nI_le (by omega) (by omega)) hz
          | succ j2 ih2 =>
            intro b hbj hab
            have e1 : prR g a (b + 1) (prW g a (prM g g.1 0)) = if a < b ∧ (g.2.1 a b).isSome = true then prR g a b (prW g a (prM g g.1 0)) * 31 + (wI (g.2.1 a b)).toInt64 else prR g a b (prW g a (prM g g.1 0)) := rfl
            have nxt : ∀ v, v = prR g a (b + 1) (prW g a (prM g g.1 0)) → Ev B mX5_print 2 0 0 (Is (some (.long (prt g))) M) 99 [some (.ref 0), some (.long v), none, some (.int (nI a)), some (.int (nI b))] [] M := by
              intro v hv
              refine e_iinc (v := nI (b + 1)) dX5_print_99 rfl (nI_1 b) (by decide) rfl rfl ?_
              refine e_goto (tgt := 56) dX5_print_102 (by decide) ?_
              rw [hv]
              exact ih2 (b + 1) (by omega) (by omega)
            refine e_iload dX5_print_56 rfl ?_
            refine e_aload_n dX5_print_58 rfl rfl ?_
            refine e_getR dX5_print_59 fRX5_23 (by exact ok.sh rfl) (by exact ok.rf rfl) (fun _ => rfl) ?_
            refine e_getI dX5_print_62 fRX5_171 (by exact ok.sh rfl) (fun _ => rfl) ?_
            rw [hn.2.1]
            refine e_icmp_ge (tgt := 105) dX5_print_65 (by decide) (fun hz => ?_) (fun hz => ?_)
            · exact absurd hz (nI_ge (by omega) (by omega))
            · refine e_aload_n dX5_print_68 rfl rfl ?_
              refine e_getR dX5_print_69 fRX5_23 (by exact ok.sh rfl) (by exact ok.rf rfl) (fun _ => rfl) ?_
              refine e_iload_n dX5_print_72 rfl rfl ?_
              refine e_iload dX5_print_73 rfl ?_
              refine e_callV0i [_, _] dX5_print_75 mvmX1_isLine lkRX5_112 (by exact ok.sh rfl) ⟨by decide, rfl⟩ rfl rfl (Nat.le_of_ble_eq_true rfl) (by decide) (c_isLine hn (by omega) (by omega)) ?_
              by_cases hl : (g.2.1 a b).isSome = true
              · rw [if_pos hl]
                refine e_if_eq (tgt := 99) dX5_print_78 (by decide) (fun hz2 => ?_) (fun hz2 => ?_)
                · exact absurd hz2 (by decide)
                · refine e_lload_n dX5_print_81 rfl rfl ?_
                  refine e_ldc2 dX5_print_82 kRX5_257 ?_
                  refine e_lmul dX5_print_85 ?_
                  refine e_aload_n dX5_print_86 rfl rfl ?_
                  refine e_getR dX5_print_87 fRX5_23 (by exact ok.sh rfl) (by exact ok.rf rfl) (fun _ => rfl) ?_
                  refine e_iload_n dX5_print_90 rfl rfl ?_
                  refine e_iload dX5_print_91 rfl ?_
                  refine e_callV0i [_, _] dX5_print_93 mvmX1_weightOf lkRX5_193 (by exact ok.sh rfl) ⟨by decide, rfl⟩ rfl rfl (Nat.le_of_ble_eq_true rfl) (by decide) (c_weightOf hn (by omega) (by omega)) ?_
                  refine e_i2l dX5_print_96 ?_
                  refine e_ladd dX5_print_97 ?_
                  refine e_lstore_n dX5_print_98 rfl (by decide) rfl rfl ?_
                  exact nxt _ (by rw [e1, if_pos ⟨hab, hl⟩])
              · rw [if_neg hl]
                refine e_if_eq (tgt := 99) dX5_print_78 (by decide) (fun hz2 => ?_) (fun hz2 => ?_)
                · exact nxt _ (by rw [e1, if_neg (fun q => hl q.2)])
                · exact absurd rfl hz2
        have h0 := inner (g.1 - (a + 1)) (a + 1) (by omega) (by omega)
        rw [prR_lo g a _ (a + 1) (Nat.le_refl _)] at h0
        exact h0
  have loop : ∀ j a, a + j = g.1 → Ev B mX5_print 2 0 0 (Is (some (.long (prt g))) M) 4 [some (.ref 0), some (.long (prM g a 0)), none, some (.int (nI a)), none] [] M := by
    intro j
    induction j with
    | zero =>
      intro a haj
      have hag : a = g.1 := by omega
      refine e_iload_n dX5_print_4 rfl rfl ?_
      refine e_aload_n dX5_print_5 rfl rfl ?_
      refine e_getR dX5_print_6 fRX5_23 (by exact ok.sh rfl) (by exact ok.rf rfl) (fun _ => rfl) ?_
      refine e_getI dX5_print_9 fRX5_171 (by exact ok.sh rfl) (fun _ => rfl) ?_
      rw [hn.2.1]
      refine e_icmp_ge (tgt := 38) dX5_print_12 (by decide) (fun hz => ?_) (fun hz => ?_)
      · refine e_iconst (v := 0) dX5_print_38 (by decide) ?_
        refine e_istore_n dX5_print_39 rfl (by decide) rfl rfl ?_
        rw [hag]
        exact outer g.1 0 none (by omega)
      · exact absurd (nI_le (by omega) (by omega)) hz
    | succ j ih =>
      intro a haj
      refine e_iload_n dX5_print_4 rfl rfl ?_
      refine e_aload_n dX5_print_5 rfl rfl ?_
      refine e_getR dX5_print_6 fRX5_23 (by exact ok.sh rfl) (by exact ok.rf rfl) (fun _ => rfl) ?_
      refine e_getI dX5_print_9 fRX5_171 (by exact ok.sh rfl) (fun _ => rfl) ?_
      rw [hn.2.1]
      refine e_icmp_ge (tgt := 38) dX5_print_12 (by decide) (fun hz => ?_) (fun hz => ?_)
      · exact absurd hz (nI_ge (by omega) (by omega))
      · refine e_lload_n dX5_print_15 rfl rfl ?_
        refine e_ldc2 dX5_print_16 kRX5_257 ?_
        refine e_lmul dX5_print_19 ?_
        refine e_aload_n dX5_print_20 rfl rfl ?_
        refine e_getR dX5_print_21 fRX5_23 (by exact ok.sh rfl) (by exact ok.rf rfl) (fun _ => rfl) ?_
        refine e_getR dX5_print_24 fRX5_136 (by exact ok.sh rfl) (by exact ok.rf rfl) (fun _ => rfl) ?_
        refine e_iload_n dX5_print_27 rfl rfl ?_
        refine e_iaload dX5_print_28 (by exact ok.sh rfl) (by exact vp_in_nI (show a < 12 by omega) (by decide)) ?_
        rw [nI_clamp (by omega), hn.2.2.2.2.2 a (by omega)]
        refine e_i2l dX5_print_29 ?_
        refine e_ladd dX5_print_30 ?_
        refine e_lstore_n dX5_print_31 rfl (by decide) rfl rfl ?_
        refine e_iinc (v := nI (a + 1)) dX5_print_32 rfl (nI_1 a) (by decide) rfl rfl ?_
        refine e_goto (tgt := 4) dX5_print_35 (by decide) ?_
        exact ih (a + 1) (by omega)
  refine e_lconst (v := 0) dX5_print_0 (by decide) ?_
  refine e_lstore_n dX5_print_1 rfl (by decide) rfl rfl ?_
  refine e_iconst (v := 0) dX5_print_2 (by decide) ?_
  refine e_istore_n dX5_print_3 rfl (by decide) rfl rfl ?_
  exact loop g.1 0 (by omega)

