/-- the word in constant k -/
def Wd (k : Nat) (w : List Nat) : Prop := k < 9 ∧ slen.getD k 0 = w.length ∧ w.length < 100 ∧ ∀ i, i < w.length → sch k i = nI (w.getD i 0) ∧ w.getD i 0 < 256
theorem wd_nodes : Wd 1 wNodes := ⟨by decide, by decide, by decide, by decide⟩
theorem wd_line : Wd 2 wLine := ⟨by decide, by decide, by decide, by decide⟩
theorem wd_ring : Wd 3 wRing := ⟨by decide, by decide, by decide, by decide⟩
theorem wd_all : Wd 4 wAll := ⟨by decide, by decide, by decide, by decide⟩
theorem wd_pair : Wd 5 wPair := ⟨by decide, by decide, by decide, by decide⟩
theorem c_takeWord {B : Bd} {M : Mm} {T : Nat → Nat} {n p k : Nat} {w : List Nat} (ok : OkM M) (h : Tx M T n) (hp : M.2.1 11 4 = nI p) (hpn : p ≤ n) (hw : Wd k w) : Ct B mX3_takeWord 4 0 0 [.ref 11, .ref (1000001 + k)] M (Rt (fun u N => u = some (.int (if pwd T n w p = true then 1 else 0)) ∧ N.2.1 11 4 = nI (if pwd T n w p = true then sk T n p + w.length else sk T n p) ∧ RF [4] M N)) := by
  have hn := h.2.2.1
  have hsk := sk_le (T := T) hpn
  obtain ⟨hk9, hsl, hwl, hch⟩ := hw
  refine Ct.of (by decide) rfl rfl (Nat.le_of_ble_eq_true rfl) ?_
  refine e_aload_n dX3_takeWord_0 rfl rfl ?_
  refine e_callV1 [] dX3_takeWord_1 mvmX3_skipBlanks lkRX3_121 (by exact ok.sh rfl) ⟨by decide, rfl⟩ rfl rfl (Nat.le_of_ble_eq_true rfl) (by decide) (c_skip ok h hp hpn) (fun u N h1 => ?_)
  obtain ⟨hu, hN, hf⟩ := h1
  subst hu
  have okN : OkM N := ok.fr hf.1
  have ht := h.rf hf (by decide)
  generalize hs : sk T n p = s at *
  have hend : ∀ e, e = ru (isL T) n s → Ev B mX3_takeWord 4 0 0 (Rt (fun u N => u = some (.int (if pwd T n w p = true then 1 else 0)) ∧ N.2.1 11 4 = nI (if pwd T n w p = true then s + w.length else s) ∧ RF [4] M N)) 45 [some (.ref 11), some (.ref (1000001 + k)), some (.int (nI e)), none] [] N := by
    intro e he
    have hge := ru_ge (isL T) n s
    have hle := ru_le (c := isL T) hsk
    refine e_iload_n dX3_takeWord_45 rfl rfl ?_
    refine e_aload_n dX3_takeWord_46 rfl rfl ?_
    refine e_getI dX3_takeWord_47 fRX3_23 (by exact okN.sh rfl) (fun _ => rfl) ?_
    rw [hN]
    refine e_isub dX3_takeWord_50 ?_
    refine e_aload_n dX3_takeWord_51 rfl rfl ?_
    have e1 : nI e - nI s = nI (e - s) := by
      have : nI (e - s) + nI s = nI e := by rw [nI_add]; congr 1; omega
      rw [← this, Int32.add_sub_cancel]
    rw [e1]
    refine e_callT0i [] dX3_takeWord_52 mvmJ0_length_8abf5 lkRX3_124 hk9 rfl rfl rfl (Nat.le_of_ble_eq_true rfl) (by decide) (c_strlen hk9) ?_
    rw [hsl]
    refine e_icmp_eq (tgt := 60) dX3_takeWord_55 (by decide) (fun hc => ?_) (fun hc => ?_)
    · rw [nI_eq (by omega) (by omega)] at hc
      have hew : ru (isL T) n s = s + w.length := by omega
      refine e_iconst (v := 0) dX3_takeWord_60 (by decide) ?_
      refine e_istore_n dX3_takeWord_61 rfl (by decide) rfl rfl ?_
      have loop : ∀ j i, i + j = w.length → (∀ i', i' < i → T (s + i') = w.getD i' 0) → Ev B mX3_takeWord 4 0 0 (Rt (fun u N => u = some (.int (if pwd T n w p = true then 1 else 0)) ∧ N.2.1 11 4 = nI (if pwd T n w p = true then s + w.length else s) ∧ RF [4] M N)) 62 [some (.ref 11), some (.ref (1000001 + k)), some (.int (nI e)), some (.int (nI i))] [] N := by
        intro j
        induction j with
        | zero =>
          intro i hij hall
          have hp : pwd T n w p = true := by
            unfold pwd
            rw [hs, Bool.and_eq_true, decide_eq_true_eq, List.all_eq_true]
            refine ⟨hew, fun i' hi' => decide_eq_true (hall i' ?_)⟩
            rw [List.mem_range] at hi'; omega
          rw [if_pos hp, if_pos hp]
          refine e_iload_n dX3_takeWord_62 rfl rfl ?_
          refine e_aload_n dX3_takeWord_63 rfl rfl ?_
          refine e_callT0i [] dX3_takeWord_64 mvmJ0_length_8abf5 lkRX3_124 hk9 rfl rfl rfl (Nat.le_of_ble_eq_true rfl) (by decide) (c_strlen hk9) ?_
          rw [hsl]
          refine e_icmp_ge (tgt := 97) dX3_takeWord_67 (by decide) (fun hq => ?_) (fun hq => ?_)
          · refine e_aload_n dX3_takeWord_97 rfl rfl ?_
            refine e_iload_n dX3_takeWord_98 rfl rfl ?_
            refine e_putI dX3_takeWord_99 fRX3_23 (by exact okN.sh rfl) rfl rfl rfl (fun _ _ => rfl) ?_
            refine e_iconst (v := 1) dX3_takeWord_102 (by decide) ?_
            refine e_iret dX3_takeWord_103 rfl rfl ⟨_, rfl, rfl, ?_, hf.s (by decide)⟩
            rw [rd_self]; congr 1; omega
          · exact absurd (nI_le (by omega) (by omega)) hq
        | succ j ih =>
          intro i hij hall
          have hiw : i < w.length := by omega
          obtain ⟨hc1, hc2⟩ := hch i hiw
          have hlet := ru_all (c := isL T) (n := n) (p := s) (q := s + i) (by omega) (by omega)
          have hlet' : 97 ≤ T (s + i) ∧ T (s + i) ≤ 122 := by unfold isL at hlet; simpa using hlet
          have hTq := ht.2.2.2.1 (s + i)
          refine e_iload_n dX3_takeWord_62 rfl rfl ?_
          refine e_aload_n dX3_takeWord_63 rfl rfl ?_
          refine e_callT0i [] dX3_takeWord_64 mvmJ0_length_8abf5 lkRX3_124 hk9 rfl rfl rfl (Nat.le_of_ble_eq_true rfl) (by decide) (c_strlen hk9) ?_
          rw [hsl]
          refine e_icmp_ge (tgt := 97) dX3_takeWord_67 (by decide) (fun hq => ?_) (fun hq => ?_)
          · exact absurd hq (nI_ge hiw (by omega))
          · refine e_aload_n dX3_takeWord_70 rfl rfl ?_
            refine e_getR dX3_takeWord_71 fRX3_15 (by exact okN.sh rfl) (by exact ht.1) (fun _ => rfl) ?_
            refine e_aload_n dX3_takeWord_74 rfl rfl ?_
            refine e_getI dX3_takeWord_75 fRX3_23 (by exact okN.sh rfl) (fun _ => rfl) ?_
            rw [hN]
            refine e_iload_n dX3_takeWord_78 rfl rfl ?_
            refine e_iadd dX3_takeWord_79 ?_
            rw [nI_add]
            refine e_baloadB dX3_takeWord_80 (by exact okN.sh rfl) (by exact vp_in_nI (show s + i < 500 by omega) (by decide)) ?_
            rw [nI_clamp (by omega), ht.2.2.2.2 _ (by omega), sb_L _ hTq hlet']
            refine e_aload_n dX3_takeWord_81 rfl rfl ?_
            refine e_iload_n dX3_takeWord_82 rfl rfl ?_
            refine e_callT0i [_] dX3_takeWord_83 mvmJ0_charAt_5068e lkRX3_129 hk9 rfl rfl rfl (Nat.le_of_ble_eq_true rfl) (by decide) (c_charAt hk9 (by omega)) ?_
            rw [hc1]
            refine e_icmp_eq (tgt := 91) dX3_takeWord_86 (by decide) (fun hq2 => ?_) (fun hq2 => ?_)
            · rw [nI_eq (by omega) (by omega)] at hq2
              refine e_iinc (v := nI (i + 1)) dX3_takeWord_91 rfl (nI_1 i) (by decide) rfl rfl ?_
              refine e_goto (tgt := 62) dX3_takeWord_94 (by decide) ?_
              refine ih (i + 1) (by omega) (fun i' hi' => ?_)
              by_cases hii : i' = i
              · rw [hii]; exact hq2
              · exact hall i' (by omega)
            · have hp : ¬ pwd T n w p = true := by
                unfold pwd
                rw [hs, Bool.and_eq_true, List.all_eq_true]
                rintro ⟨-, q⟩
                have := of_decide_eq_true (q i (List.mem_range.mpr hiw))
                exact hq2 (by rw [this])
              rw [if_neg hp, if_neg hp]
              refine e_iconst (v := 0) dX3_takeWord_89 (by decide) ?_
              exact e_iret dX3_takeWord_90 rfl rfl ⟨_, rfl, rfl, hN, hf⟩
      exact loop w.length 0 (by omega) (fun i' hi' => by omega)
    · have hp : ¬ pwd T n w p = true := by
        unfold pwd
        rw [hs, Bool.and_eq_true, decide_eq_true_eq]
        rintro ⟨q, -⟩
        exact hc (by congr 1; omega)
      rw [if_neg hp, if_neg hp]
      refine e_iconst (v := 0) dX3_takeWord_58 (by decide) ?_
      exact e_iret dX3_takeWord_59 rfl rfl ⟨_, rfl, rfl, hN, hf⟩
  refine e_aload_n dX3_takeWord_4 rfl rfl ?_
  refine e_getI dX3_takeWord_5 fRX3_23 (by exact okN.sh rfl) (fun _ => rfl) ?_
  rw [hN]
  refine e_istore_n dX3_takeWord_8 rfl (by decide) rfl rfl ?_
  have loop : ∀ j q, n - q = j → q ≤ n → ru (isL T) n q = ru (isL T) n s → Ev B mX3_takeWord 4 0 0 (Rt (fun u N => u = some (.int (if pwd T n w p = true then 1 else 0)) ∧ N.2.1 11 4 = nI (if pwd T n w p = true then s + w.length else s) ∧ RF [4] M N)) 9 [some (.ref 11), some (.ref (1000001 + k)), some (.int (nI q)), none] [] N := by
    intro j
    induction j with
    | zero =>
      intro q hj hq hru
      have e : ru (isL T) n q = q := ru_f (by omega)
      refine e_iload_n dX3_takeWord_9 rfl rfl ?_
      refine e_aload_n dX3_takeWord_10 rfl rfl ?_
      refine e_getI dX3_takeWord_11 fRX3_19 (by exact okN.sh rfl) (fun _ => rfl) ?_
      rw [ht.2.1]
      refine e_icmp_ge (tgt := 45) dX3_takeWord_14 (by decide) (fun hc => ?_) (fun hc => ?_)
      · exact hend q (by rw [← hru, e])
      · exact absurd (nI_le (by omega) (by omega)) hc
    | succ j ih =>
      intro q hj hq hru
      have hqn : q < n := by omega
      have hTq := ht.2.2.2.1 q
      have hsb := sb_97 (T q) hTq
      refine e_iload_n dX3_takeWord_9 rfl rfl ?_
      refine e_aload_n dX3_takeWord_10 rfl rfl ?_
      refine e_getI dX3_takeWord_11 fRX3_19 (by exact okN.sh rfl) (fun _ => rfl) ?_
      rw [ht.2.1]
      refine e_icmp_ge (tgt := 45) dX3_takeWord_14 (by decide) (fun hc => ?_) (fun hc => ?_)
      · exact absurd hc (nI_ge hqn (by omega))
      · refine e_aload_n dX3_takeWord_17 rfl rfl ?_
        refine e_getR dX3_takeWord_18 fRX3_15 (by exact okN.sh rfl) (by exact ht.1) (fun _ => rfl) ?_
        refine e_iload_n dX3_takeWord_21 rfl rfl ?_
        refine e_baloadB dX3_takeWord_22 (by exact okN.sh rfl) (by exact vp_in_nI (show q < 500 by omega) (by decide)) ?_
        rw [nI_clamp (by omega), ht.2.2.2.2 _ (by omega)]
        refine e_bipush (v := 97) dX3_takeWord_23 (by decide) ?_
        have stop : ¬ (97 ≤ T q ∧ T q ≤ 122) → q = ru (isL T) n s := by
          intro hno
          rw [← hru]
          exact (ru_f (fun z => hno (by have := z.2; unfold isL at this; simpa using this))).symm
        refine e_icmp_lt (tgt := 45) dX3_takeWord_25 (by decide) (fun hc1 => ?_) (fun hc1 => ?_)
        · exact hend q (stop (fun z => (hsb.mpr z).1 hc1))
        · refine e_aload_n dX3_takeWord_28 rfl rfl ?_
          refine e_getR dX3_takeWord_29 fRX3_15 (by exact okN.sh rfl) (by exact ht.1) (fun _ => rfl) ?_
          refine e_iload_n dX3_takeWord_32 rfl rfl ?_
          refine e_baloadB dX3_takeWord_33 (by exact okN.sh rfl) (by exact vp_in_nI (show q < 500 by omega) (by decide)) ?_
          rw [nI_clamp (by omega), ht.2.2.2.2 _ (by omega)]
          refine e_bipush (v := 122) dX3_takeWord_34 (by decide) ?_
          refine e_icmp_gt (tgt := 45) dX3_takeWord_36 (by decide) (fun hc2 => ?_) (fun hc2 => ?_)
          · exact hend q (stop (fun z => (hsb.mpr z).2 hc2))
          · have hl := hsb.mp ⟨hc1, hc2⟩
            have e : ru (isL T) n q = ru (isL T) n (q + 1) := ru_t hqn (by unfold isL; simp [hl])
            refine e_iinc (v := nI (q + 1)) dX3_takeWord_39 rfl (nI_1 q) (by decide) rfl rfl ?_
            refine e_goto (tgt := 9) dX3_takeWord_42 (by decide) ?_
            exact ih (q + 1) (by omega) (by omega) (by rw [← e]; exact hru)
  exact loop (n - s) s rfl hsk rfl
theorem c_needUnlike {B : Bd} {M : Mm} {x y : Int32} (ok : OkM M) : Ct B mX3_needUnlike 1 0 0 [.ref 11, .int x, .int y] M (Is none (if x = y ∧ M.2.1 11 0 = 0 then sI (sI M 11 0 2) 11 1 (M.2.1 11 5) else M)) := by
  refine Ct.of (by decide) rfl rfl (Nat.le_of_ble_eq_true rfl) ?_
  refine e_iload_n dX3_needUnlike_0 rfl rfl ?_
  refine e_iload_n dX3_needUnlike_1 rfl rfl ?_
  refine e_icmp_ne (tgt := 14) dX3_needUnlike_2 (by decide) (fun h => ?_) (fun h => ?_)
  · rw [if_neg (fun q => h q.1)]
    exact e_vret dX3_needUnlike_14 rfl (⟨rfl, rfl⟩)
  · refine e_aload_n dX3_needUnlike_5 rfl rfl ?_
    refine e_iconst (v := 2) dX3_needUnlike_6 (by decide) ?_
    refine e_aload_n dX3_needUnlike_7 rfl rfl ?_
    refine e_getI dX3_needUnlike_8 fRX3_108 (by exact ok.sh rfl) (fun _ => rfl) ?_
    refine e_callV0v [_, _] dX3_needUnlike_11 mvmX3_fail lkRX3_52 (by exact ok.sh rfl) ⟨by decide, rfl⟩ rfl rfl (Nat.le_of_ble_eq_true rfl) (by decide) (c_fail ok) ?_
    have e : (if M.2.1 11 0 = 0 then sI (sI M 11 0 2) 11 1 (M.2.1 11 5) else M) = (if x = y ∧ M.2.1 11 0 = 0 then sI (sI M 11 0 2) 11 1 (M.2.1 11 5) else M) := by
      by_cases hk : M.2.1 11 0 = 0
      · rw [if_pos hk, if_pos ⟨h, hk⟩]
      · rw [if_neg hk, if_neg (fun q => hk q.2)]
    rw [e]
    exact e_vret dX3_needUnlike_14 rfl (⟨rfl, rfl⟩)

