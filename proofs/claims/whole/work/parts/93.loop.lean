/-! the loop of the law -/
theorem small_n : ∀ n, n < 6 → (nI n - 6).toInt < 0 := by decide
set_option maxHeartbeats 4000000 in
theorem law_loop {B : Bd} (hB : bL B ≤ 3072) : ∀ (k j : Nat) (M : Mm) (s : Sx) (o5 o6 : Option Value), bL B < j + 6 * (k + 1) → j ≤ 4000 → CI M s → MI M s → Ev B mL_law 36 (4 * k) (24 * k) LQ 23 [some (.ref 1000000), some (.ref 0), some (.ref 60), some (.ref 83), some (.int (nI j)), o5, o6] [] M := by
  intro k
  induction k with
  | zero =>
    intro j M s o5 o6 hk hj h g
    refine e_iload dL_law_23 rfl ?_
    refine e_aload_n dL_law_25 rfl rfl ?_
    refine e_slen dL_law_26 ?_
    refine e_bipush (v := 6) dL_law_27 (by decide) ?_
    refine e_isub dL_law_29 ?_
    refine e_icmp_gt (tgt := 1322) dL_law_30 (by decide) (fun _ => ?_) (fun q => ?_)
    · refine e_iconst (v := 1) dL_law_1322 (by decide) ?_
      exact e_iret dL_law_1323 rfl rfl ⟨_, rfl, rfl⟩
    · have hjn : j + 6 ≤ bL B := by
        rcases Nat.lt_or_ge (bL B) 6 with h6 | h6
        · refine absurd ?_ q
          rw [fa_lt, nI_toInt (show j < 2 ^ 31 by omega)]
          have := small_n _ h6
          omega
        · rw [show (6 : Int32) = nI 6 from rfl, pk_sub h6, nI_ltI (by omega) (by omega)] at q
          omega
      omega
  | succ k ih =>
    intro j M s o5 o6 hk hj h g
    refine e_iload dL_law_23 rfl ?_
    refine e_aload_n dL_law_25 rfl rfl ?_
    refine e_slen dL_law_26 ?_
    refine e_bipush (v := 6) dL_law_27 (by decide) ?_
    refine e_isub dL_law_29 ?_
    refine e_icmp_gt (tgt := 1322) dL_law_30 (by decide) (fun _ => ?_) (fun q => ?_)
    · refine e_iconst (v := 1) dL_law_1322 (by decide) ?_
      exact e_iret dL_law_1323 rfl rfl ⟨_, rfl, rfl⟩
    · have hjn : j + 6 ≤ bL B := by
        rcases Nat.lt_or_ge (bL B) 6 with h6 | h6
        · refine absurd ?_ q
          rw [fa_lt, nI_toInt (show j < 2 ^ 31 by omega)]
          have := small_n _ h6
          omega
        · rw [show (6 : Int32) = nI 6 from rfl, pk_sub h6, nI_ltI (by omega) (by omega)] at q
          omega
      have v0 : vp_in (nI j) (bL B) := vp_in_nI (by omega) (by omega)
      have v1 : vp_in (nI j + 1) (bL B) := by rw [show (1 : Int32) = nI 1 from rfl, nI_add]; exact vp_in_nI (by omega) (by omega)
      have v2 : vp_in (nI j + 2) (bL B) := by rw [show (2 : Int32) = nI 2 from rfl, nI_add]; exact vp_in_nI (by omega) (by omega)
      have v3 : vp_in (nI j + 3) (bL B) := by rw [show (3 : Int32) = nI 3 from rfl, nI_add]; exact vp_in_nI (by omega) (by omega)
      have v4 : vp_in (nI j + 4) (bL B) := by rw [show (4 : Int32) = nI 4 from rfl, nI_add]; exact vp_in_nI (by omega) (by omega)
      have v5 : vp_in (nI j + 5) (bL B) := by rw [show (5 : Int32) = nI 5 from rfl, nI_add]; exact vp_in_nI (by omega) (by omega)
      have ih1 : ∀ (M1 : Mm) (s1 : Sx) (p5 p6 : Option Value), CI M1 s1 → MI M1 s1 → Ev B mL_law 36 (4 * k) (24 * k) LQ 1316 [some (.ref 1000000), some (.ref 0), some (.ref 60), some (.ref 83), some (.int (nI j)), p5, p6] [] M1 := fun M1 s1 p5 p6 h1 g1 => by
        refine e_iinc (v := nI (j + 6)) dL_law_1316 rfl (nI_add j 6) (by decide) rfl rfl ?_
        refine e_goto (tgt := 23) dL_law_1319 (by decide) ?_
        exact ih (j + 6) M1 s1 p5 p6 (by omega) (by omega) h1 g1
      refine e_aload_n dL_law_33 rfl rfl ?_
      refine e_iload dL_law_34 rfl ?_
      refine e_sld dL_law_36 v0 ?_
      refine e_bipush (v := 31) dL_law_37 (by decide) ?_
      refine e_iand dL_law_39 ?_
      generalize bX B (nI j).toNatClampNeg &&& 31 = w
      by_cases hw : w.toInt < 0 ∨ 22 < w.toInt
      · refine e_swOut (tgt := 1316) dL_law_40 hw (by decide) ?_
        exact (ih1 _ _ _ _ h g).less (by omega) (by omega)
      · have hc : w.toInt = 0 ∨ w.toInt = 1 ∨ w.toInt = 2 ∨ w.toInt = 3 ∨ w.toInt = 4 ∨ w.toInt = 5 ∨ w.toInt = 6 ∨ w.toInt = 7 ∨ w.toInt = 8 ∨ w.toInt = 9 ∨ w.toInt = 10 ∨ w.toInt = 11 ∨ w.toInt = 12 ∨ w.toInt = 13 ∨ w.toInt = 14 ∨ w.toInt = 15 ∨ w.toInt = 16 ∨ w.toInt = 17 ∨ w.toInt = 18 ∨ w.toInt = 19 ∨ w.toInt = 20 ∨ w.toInt = 21 ∨ w.toInt = 22 := by omega
        rcases hc with hi | hi | hi | hi | hi | hi | hi | hi | hi | hi | hi | hi | hi | hi | hi | hi | hi | hi | hi | hi | hi | hi | hi
        · refine e_swIn (off := 108) (tgt := 148) dL_law_40 (by omega) (by omega) (by rw [hi]; rfl) (by decide) ?_
          exact (law_0 h g v1 v2 v3 v4 v5 ih1).less (by omega) (by omega)
        · refine e_swIn (off := 181) (tgt := 221) dL_law_40 (by omega) (by omega) (by rw [hi]; rfl) (by decide) ?_
          exact (law_1 h g v1 v2 v3 v4 v5 ih1).less (by omega) (by omega)
        · refine e_swIn (off := 237) (tgt := 277) dL_law_40 (by omega) (by omega) (by rw [hi]; rfl) (by decide) ?_
          exact (law_2 h g v1 v2 v3 v4 v5 ih1).less (by omega) (by omega)
        · refine e_swIn (off := 250) (tgt := 290) dL_law_40 (by omega) (by omega) (by rw [hi]; rfl) (by decide) ?_
          exact (law_3 h g v1 v2 v3 v4 v5 ih1).less (by omega) (by omega)
        · refine e_swIn (off := 330) (tgt := 370) dL_law_40 (by omega) (by omega) (by rw [hi]; rfl) (by decide) ?_
          exact (law_4 h g v1 v2 v3 v4 v5 ih1).less (by omega) (by omega)
        · refine e_swIn (off := 398) (tgt := 438) dL_law_40 (by omega) (by omega) (by rw [hi]; rfl) (by decide) ?_
          exact (law_5 h g v1 v2 v3 v4 v5 ih1).less (by omega) (by omega)
        · refine e_swIn (off := 466) (tgt := 506) dL_law_40 (by omega) (by omega) (by rw [hi]; rfl) (by decide) ?_
          exact (law_6 h g v1 v2 v3 v4 v5 ih1).less (by omega) (by omega)
        · refine e_swIn (off := 522) (tgt := 562) dL_law_40 (by omega) (by omega) (by rw [hi]; rfl) (by decide) ?_
          exact (law_7 h g v1 v2 v3 v4 v5 ih1).less (by omega) (by omega)
        · refine e_swIn (off := 578) (tgt := 618) dL_law_40 (by omega) (by omega) (by rw [hi]; rfl) (by decide) ?_
          exact (law_8 h g v1 v2 v3 v4 v5 ih1).less (by omega) (by omega)
        · refine e_swIn (off := 591) (tgt := 631) dL_law_40 (by omega) (by omega) (by rw [hi]; rfl) (by decide) ?_
          exact (law_9 h g v1 v2 v3 v4 v5 ih1).less (by omega) (by omega)
        · refine e_swIn (off := 647) (tgt := 687) dL_law_40 (by omega) (by omega) (by rw [hi]; rfl) (by decide) ?_
          exact (law_10 h g v1 v2 v3 v4 v5 ih1).less (by omega) (by omega)
        · refine e_swIn (off := 660) (tgt := 700) dL_law_40 (by omega) (by omega) (by rw [hi]; rfl) (by decide) ?_
          exact (law_11 h g v1 v2 v3 v4 v5 ih1).less (by omega) (by omega)
        · refine e_swIn (off := 716) (tgt := 756) dL_law_40 (by omega) (by omega) (by rw [hi]; rfl) (by decide) ?_
          exact (law_12 h g v1 v2 v3 v4 v5 ih1).less (by omega) (by omega)
        · refine e_swIn (off := 796) (tgt := 836) dL_law_40 (by omega) (by omega) (by rw [hi]; rfl) (by decide) ?_
          exact (law_13 h g v1 v2 v3 v4 v5 ih1).less (by omega) (by omega)
        · refine e_swIn (off := 864) (tgt := 904) dL_law_40 (by omega) (by omega) (by rw [hi]; rfl) (by decide) ?_
          exact (law_14 h g v1 v2 v3 v4 v5 ih1).less (by omega) (by omega)
        · refine e_swIn (off := 920) (tgt := 960) dL_law_40 (by omega) (by omega) (by rw [hi]; rfl) (by decide) ?_
          exact (law_15 h g v1 v2 v3 v4 v5 ih1).less (by omega) (by omega)
        · refine e_swIn (off := 976) (tgt := 1016) dL_law_40 (by omega) (by omega) (by rw [hi]; rfl) (by decide) ?_
          exact (law_16 h g v1 v2 v3 v4 v5 ih1).less (by omega) (by omega)
        · refine e_swIn (off := 1032) (tgt := 1072) dL_law_40 (by omega) (by omega) (by rw [hi]; rfl) (by decide) ?_
          exact (law_17 h g v1 v2 v3 v4 v5 ih1).less (by omega) (by omega)
        · refine e_swIn (off := 1045) (tgt := 1085) dL_law_40 (by omega) (by omega) (by rw [hi]; rfl) (by decide) ?_
          exact (law_18 h g v1 v2 v3 v4 v5 ih1).less (by omega) (by omega)
        · refine e_swIn (off := 1101) (tgt := 1141) dL_law_40 (by omega) (by omega) (by rw [hi]; rfl) (by decide) ?_
          exact (law_19 h g v1 v2 v3 v4 v5 ih1).less (by omega) (by omega)
        · refine e_swIn (off := 1169) (tgt := 1209) dL_law_40 (by omega) (by omega) (by rw [hi]; rfl) (by decide) ?_
          exact (law_20 h g v1 v2 v3 v4 v5 ih1).less (by omega) (by omega)
        · refine e_swIn (off := 1237) (tgt := 1277) dL_law_40 (by omega) (by omega) (by rw [hi]; rfl) (by decide) ?_
          exact (law_21 h g v1 v2 v3 v4 v5 ih1).less (by omega) (by omega)
        · refine e_swIn (off := 1251) (tgt := 1291) dL_law_40 (by omega) (by omega) (by rw [hi]; rfl) (by decide) ?_
          exact (law_22 h g v1 v2 v3 v4 v5 ih1).less (by omega) (by omega)
