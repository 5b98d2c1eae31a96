theorem pend_ok {T : Nat → Nat} {n p e : Nat} (h : pend T n p = .inr e) : e ≤ n ∧ p < e := by
  unfold pend at h
  by_cases hq : sk T n p < n ∧ T (sk T n p) = 59
  · rw [if_pos hq] at h
    have h3 : p ≤ sk T n p := ru_ge _ _ _
    have := Sum.inr.inj h
    omega
  · rw [if_neg hq] at h; cases h
theorem RF.F {ks : List Nat} {M N : Mm} (h : RF ks M N) : Fr 6 12 M N := h.1.wide (by decide) (by decide)
theorem c_readLine {B : Bd} {M : Mm} {T : Nat → Nat} {n p : Nat} {s : Ps} (ok : OkM M) (h : Tx M T n) (hx : Rd M n (.inr p)) (hs : RdS M s) : Ct B mX3_readLine 3 0 0 [.ref 11, .ref 6] M (StP T n M (pline T n s p)) := by
  have hg1' : 1 ≤ s.1 ∧ s.1 ≤ 12 := hs.2.2.1.1
  refine Ct.of (by decide) rfl rfl (Nat.le_of_ble_eq_true rfl) ?_
  refine two_readLine ok h hx hs (fun N r1 r2 t1 rf1 rd1 hv => ?_)
  have ok1 : OkM N := ok.fr rf1.1
  have s1 := hs.rf rf1 (by decide)
  obtain ⟨p1, hp1n, hp1⟩ := rd1.at
  refine e_iconst (v := 1) dX3_readLine_30 (by decide) ?_
  refine e_istore dX3_readLine_31 (by decide) rfl rfl ?_
  refine e_aload_n dX3_readLine_33 rfl rfl ?_
  refine e_callV1 [] dX3_readLine_34 mvmX3_isNumberAhead lkRX3_97 (by exact ok1.sh rfl) ⟨by decide, rfl⟩ rfl rfl (Nat.le_of_ble_eq_true rfl) (by decide) (c_isNumberAhead ok1 t1 hp1 hp1n) (fun u N2 h2 => ?_)
  obtain ⟨hu, a2, rf2⟩ := h2
  subst hu
  have ok2 : OkM N2 := ok1.fr rf2.1
  have t2 := t1.rf rf2 (by decide)
  have s2 := s1.rf rf2 (by decide)
  have hsk := sk_le (T := T) hp1n
  -- from 50 on
  have fin : ∀ N3 (x : Fl ⊕ Nat) (k : Nat) (r3 : Int32), Tx N3 T n → RF [0, 1, 4, 5] M N3 → Rd N3 n x → (∀ e, x = .inr e → ∃ e0 a b q, ptwo T n (s.1 - 1) p = .inr (e0, a, b) ∧ (if ahd T n e0 = true then pnum T n 0 999 e0 else .inr (sk T n e0, 1, 0)) = .inr (e, k, q) ∧ r3 = nI k ∧ k ≤ 999) → (∀ f, x = .inl f → pline T n s p = .inl f) → Ev B mX3_readLine 3 0 0 (StP T n M (pline T n s p)) 50 [some (.ref 11), some (.ref 6), some (.int r1), some (.int r2), some (.int r3)] [] N3 := by
    intro N3 x k r3 t3 rf3 rd3 hk hfl
    have ok3 : OkM N3 := ok.fr rf3.1
    refine e_aload_n dX3_readLine_50 rfl rfl ?_
    refine e_callV1 [] dX3_readLine_51 mvmX3_takeEnd lkRX3_66 (by exact ok3.sh rfl) ⟨by decide, rfl⟩ rfl rfl (Nat.le_of_ble_eq_true rfl) (by decide) (c_takeEnd ok3 t3 rd3) (fun u N4 h4 => ?_)
    obtain ⟨hu, rd4, rf4⟩ := h4
    subst hu
    have ok4 : OkM N4 := ok3.fr rf4.1
    have t4 := t3.rf rf4 (by decide)
    have rfM : RF [0, 1, 4, 5] M N4 := rf3.trans (rf4.wide (by decide))
    have s4 := hs.rf rfM (by decide)
    refine e_aload_n dX3_readLine_54 rfl rfl ?_
    refine e_getI dX3_readLine_55 fRX3_26 (by exact ok4.sh rfl) (fun _ => rfl) ?_
    cases x with
    | inl f =>
      have e9 := hfl f rfl
      have rd4' : Rd N4 n (.inl f) := rd4
      refine e_if_ne (tgt := 69) dX3_readLine_58 (by decide) (fun hz => ?_) (fun hz => ?_)
      · exact e_vret dX3_readLine_69 rfl ⟨none, rfl, rfl, t4, rfM.F, by rw [e9]; exact rd4'⟩
      · exact absurd hz rd4'.k
    | inr e =>
      obtain ⟨e0, a, b, q, h1, h2, h3, h4⟩ := hk e rfl
      have ho := ptwo_ok hx.1 h1
      obtain ⟨v1, v2⟩ := hv e0 a b h1
      have e8 : pline T n s p = match pend T n e with
          | .inl f => .inl f
          | .inr e3 => .inr (e3, s.1, w2 s.2.1 a b (some k), s.2.2) := by
        unfold pline
        rw [h1]
        dsimp only
        rw [h2]
        rfl
      cases hpe : pend T n e with
      | inl f =>
        rw [hpe] at e8
        have rd4' : Rd N4 n (.inl f) := by simp only [bd_r, hpe] at rd4; exact rd4
        refine e_if_ne (tgt := 69) dX3_readLine_58 (by decide) (fun hz => ?_) (fun hz => ?_)
        · exact e_vret dX3_readLine_69 rfl ⟨none, rfl, rfl, t4, rfM.F, by rw [e8]; exact rd4'⟩
        · exact absurd hz rd4'.k
      | inr e3 =>
        rw [hpe] at e8
        have rd4' : Rd N4 n (.inr e3) := by simp only [bd_r, hpe] at rd4; exact rd4
        have ha : a < s.1 := by omega
        have hb : b < s.1 := by omega
        refine e_if_ne (tgt := 69) dX3_readLine_58 (by decide) (fun hz => ?_) (fun hz => ?_)
        · exact absurd rd4'.2.1 hz
        · rw [v1, v2, h3]
          refine e_aload_n dX3_readLine_61 rfl rfl ?_
          refine e_iload_n dX3_readLine_62 rfl rfl ?_
          refine e_iload_n dX3_readLine_63 rfl rfl ?_
          refine e_iload dX3_readLine_64 rfl ?_
          refine e_callV1 [_, _, _] dX3_readLine_66 mvmX1_putLine lkRX3_100 (by exact ok4.sh rfl) ⟨by decide, rfl⟩ rfl rfl (Nat.le_of_ble_eq_true rfl) (by decide) (c_putLine (k := k) s4.1 s4.2.2.1.2.1 (by omega) (by omega) ho.2.2.2.1) (fun u N5 h5 => ?_)
          obtain ⟨hu, q1, q2⟩ := h5
          subst hu
          refine e_vret dX3_readLine_69 rfl ⟨none, rfl, rfl, t4.fr q2, rfM.F.trans (q2.wide (by decide) (by decide)), ?_⟩
          rw [e8]
          exact ⟨rd4'.fr q2, q1, by rw [q2.2.2 11 (by omega)]; exact s4.2.1, Wfn_put s4.2.2.1 ha hb ho.2.2.2.1 h4, s4.2.2.2⟩
  cases hp2 : ptwo T n (s.1 - 1) p with
  | inl f =>
    have e9 : pline T n s p = .inl f := by unfold pline; rw [hp2]
    have rd1' : Rd N n (.inl f) := by rw [hp2] at rd1; exact rd1
    have rd2 : Rd N2 n (.inl f) := rd1'.mv (rf2.wide (by decide)) hsk a2
    refine e_if_eq (tgt := 50) dX3_readLine_37 (by decide) (fun hz => ?_) (fun hz => ?_)
    · exact fin N2 (.inl f) 0 _ t2 (rf1.trans (rf2.wide (by decide))) rd2 (fun e q => by cases q) (fun f' q => by cases q; exact e9)
    · refine e_aload_n dX3_readLine_40 rfl rfl ?_
      refine e_iconst (v := 0) dX3_readLine_41 (by decide) ?_
      refine e_sipush (v := 999) dX3_readLine_42 (by decide) ?_
      rw [show (999 : Int32) = nI 999 from fa_lit 999]
      refine e_callV1 [_, _] dX3_readLine_45 mvmX3_takeNumber lkRX3_62 (by exact ok2.sh rfl) ⟨by decide, rfl⟩ rfl rfl (Nat.le_of_ble_eq_true rfl) (by decide) (c_takeNumber (lo := 0) (hi := 999) ok2 t2 rd2 (by decide) (by decide)) (fun u N3 h3 => ?_)
      obtain ⟨r3, hu, rd3, rf3, v3⟩ := h3
      subst hu
      refine e_istore dX3_readLine_48 (by decide) rfl rfl ?_
      exact fin N3 (.inl f) 0 _ (t2.rf rf3 (by decide)) ((rf1.trans (rf2.wide (by decide))).trans rf3) rd3 (fun e q => by cases q) (fun f' q => by cases q; exact e9)
  | inr w =>
    obtain ⟨e0, a, b⟩ := w
    have ho := ptwo_ok hx.1 hp2
    have rd1' : Rd N n (.inr e0) := by rw [hp2] at rd1; exact rd1
    have hpe : p1 = e0 := (nI_eq (by have := h.2.2.1; omega) (by have := h.2.2.1; omega)).mp (hp1.symm.trans rd1'.2.2.2)
    subst hpe
    have rd2 : Rd N2 n (.inr (sk T n p1)) := rd1'.go (rf2.wide (by decide)) hsk a2
    by_cases ha : ahd T n p1 = true
    · rw [if_pos ha]
      refine e_if_eq (tgt := 50) dX3_readLine_37 (by decide) (fun hz => ?_) (fun hz => ?_)
      · exact absurd hz (by decide)
      · refine e_aload_n dX3_readLine_40 rfl rfl ?_
        refine e_iconst (v := 0) dX3_readLine_41 (by decide) ?_
        refine e_sipush (v := 999) dX3_readLine_42 (by decide) ?_
        rw [show (999 : Int32) = nI 999 from fa_lit 999]
        refine e_callV1 [_, _] dX3_readLine_45 mvmX3_takeNumber lkRX3_62 (by exact ok2.sh rfl) ⟨by decide, rfl⟩ rfl rfl (Nat.le_of_ble_eq_true rfl) (by decide) (c_takeNumber (lo := 0) (hi := 999) ok2 t2 rd2 (by decide) (by decide)) (fun u N3 h3 => ?_)
        obtain ⟨r3, hu, rd3, rf3, v3⟩ := h3
        subst hu
        simp only [bd_r, pnum_sk] at rd3
        refine e_istore dX3_readLine_48 (by decide) rfl rfl ?_
        cases hp3 : pnum T n 0 999 p1 with
        | inl f =>
          have e9 : pline T n s p = .inl f := by unfold pline; rw [hp2]; dsimp only; rw [if_pos ha, hp3]
          rw [hp3] at rd3
          exact fin N3 (.inl f) 0 _ (t2.rf rf3 (by decide)) ((rf1.trans (rf2.wide (by decide))).trans rf3) rd3 (fun e q => by cases q) (fun f' q => by cases q; exact e9)
        | inr w =>
          obtain ⟨e3, k, q⟩ := w
          have ho3 := pnum_ok ho.1 hp3
          rw [hp3] at rd3
          obtain ⟨vk, -⟩ := v3 _ e3 k q rfl (by rw [pnum_sk]; exact hp3)
          exact fin N3 (.inr e3) k _ (t2.rf rf3 (by decide)) ((rf1.trans (rf2.wide (by decide))).trans rf3) rd3 (fun e q' => by cases q'; exact ⟨p1, a, b, q, hp2, by rw [if_pos ha]; exact hp3, vk, ho3.2.2.1⟩) (fun f' q => by cases q)
    · rw [if_neg ha]
      refine e_if_eq (tgt := 50) dX3_readLine_37 (by decide) (fun hz => ?_) (fun hz => ?_)
      · exact fin N2 (.inr (sk T n p1)) 1 _ t2 (rf1.trans (rf2.wide (by decide))) rd2 (fun e q' => by cases q'; exact ⟨p1, a, b, 0, hp2, by rw [if_neg ha], rfl, by decide⟩) (fun f' q => by cases q)
      · exact absurd rfl hz
theorem pmt_ap (ps : List (Nat × Nat)) (a b : Nat) : pmt (ps ++ [(a, b)]) = ptl (pmt ps) a b := by
  unfold pmt
  rw [List.foldl_append]; rfl
theorem Wfn_m2 {g : Nw} {a b : Nat} (wf : Wfn g) (ha : a < g.1) (hb : b < g.1) (hab : a ≠ b) (ma : g.2.2 a = none) (mb : g.2.2 b = none) : Wfn (g.1, g.2.1, m2 (m2 g.2.2 a (some b)) b (some a)) := by
  refine ⟨wf.1, wf.2.1, wf.2.2.1, wf.2.2.2.1, fun x y hxy => ?_⟩
  have hxy' : m2 (m2 g.2.2 a (some b)) b (some a) x = some y := hxy
  show m2 (m2 g.2.2 a (some b)) b (some a) y = some x ∧ x < g.1 ∧ y < g.1 ∧ x ≠ y
  unfold m2 at hxy' ⊢
  by_cases h1 : x = b
  · rw [if_pos h1] at hxy'
    have h2 := Option.some.inj hxy'
    subst h1 h2
    rw [if_neg hab, if_pos rfl]
    exact ⟨rfl, hb, ha, fun q => hab q.symm⟩
  · rw [if_neg h1] at hxy'
    by_cases h2 : x = a
    · rw [if_pos h2] at hxy'
      have h3 := Option.some.inj hxy'
      subst h2 h3
      rw [if_pos rfl]
      exact ⟨rfl, ha, hb, hab⟩
    · rw [if_neg h2] at hxy'
      obtain ⟨c1, c2, c3, c4⟩ := wf.2.2.2.2 x y hxy'
      have n1 : y ≠ b := fun q => by rw [q, mb] at c1; cases c1
      have n2 : y ≠ a := fun q => by rw [q, ma] at c1; cases c1
      rw [if_neg n1, if_neg n2]
      exact ⟨c1, c2, c3, c4⟩
theorem c_readPair {B : Bd} {M : Mm} {T : Nat → Nat} {n p : Nat} {s : Ps} (ok : OkM M) (h : Tx M T n) (hx : Rd M n (.inr p)) (hs : RdS M s) : Ct B mX3_readPair 3 0 0 [.ref 11, .ref 6] M (StP T n M (ppair T n s p)) := by
  have hg1' : 1 ≤ s.1 ∧ s.1 ≤ 12 := hs.2.2.1.1
  refine Ct.of (by decide) rfl rfl (Nat.le_of_ble_eq_true rfl) ?_
  refine two_readPair ok h hx hs (fun N r1 r2 t1 rf1 rd1 hv => ?_)
  have ok1 : OkM N := ok.fr rf1.1
  refine e_aload_n dX3_readPair_30 rfl rfl ?_
  refine e_callV1 [] dX3_readPair_31 mvmX3_takeEnd lkRX3_66 (by exact ok1.sh rfl) ⟨by decide, rfl⟩ rfl rfl (Nat.le_of_ble_eq_true rfl) (by decide) (c_takeEnd ok1 t1 rd1) (fun u N4 h4 => ?_)
  obtain ⟨hu, rd4, rf4⟩ := h4
  subst hu
  have ok4 : OkM N4 := ok1.fr rf4.1
  have t4 := t1.rf rf4 (by decide)
  have rfM : RF [0, 1, 4, 5] M N4 := rf1.trans (rf4.wide (by decide))
  have s4 := hs.rf rfM (by decide)
  refine e_aload_n dX3_readPair_34 rfl rfl ?_
  refine e_getI dX3_readPair_35 fRX3_26 (by exact ok4.sh rfl) (fun _ => rfl) ?_
  cases hp2 : ptwo T n (s.1 - 1) p with
  | inl f =>
    have e9 : ppair T n s p = .inl f := by unfold ppair; rw [hp2]
    rw [hp2] at rd4
    have rd4' : Rd N4 n (.inl f) := rd4
    refine e_if_eq (tgt := 42) dX3_readPair_38 (by decide) (fun hz => ?_) (fun hz => ?_)
    · exact absurd hz rd4'.k
    · exact e_vret dX3_readPair_41 rfl ⟨none, rfl, rfl, t4, rfM.F, by rw [e9]; exact rd4'⟩
  | inr w =>
    obtain ⟨e, a, b⟩ := w
    have ho := ptwo_ok hx.1 hp2
    obtain ⟨v1, v2⟩ := hv e a b hp2
    rw [hp2] at rd4
    have e8 : ppair T n s p = match pend T n e with
        | .inl f => .inl f
        | .inr e3 => .inr (e3, s.1, s.2.1, s.2.2 ++ [(a, b)]) := by
      unfold ppair
      rw [hp2]
      rfl
    simp only [bd_r] at rd4
    cases hpe : pend T n e with
    | inl f =>
      rw [hpe] at e8 rd4
      have rd4' : Rd N4 n (.inl f) := rd4
      refine e_if_eq (tgt := 42) dX3_readPair_38 (by decide) (fun hz => ?_) (fun hz => ?_)
      · exact absurd hz rd4'.k
      · exact e_vret dX3_readPair_41 rfl ⟨none, rfl, rfl, t4, rfM.F, by rw [e8]; exact rd4'⟩
    | inr e3 =>
      rw [hpe] at e8 rd4
      have rd4' : Rd N4 n (.inr e3) := rd4
      have ha : a < s.1 := by omega
      have hb : b < s.1 := by omega
      have hab := ho.2.2.2.1
      have wf := s4.2.2.1
      have hmem : ∀ ab, ab ∈ s.2.2 ++ [(a, b)] → ab.1 < s.1 ∧ ab.2 < s.1 ∧ ab.1 ≠ ab.2 := by
        intro ab hin
        rw [List.mem_append, List.mem_singleton] at hin
        rcases hin with hin | hin
        · exact s4.2.2.2 ab hin
        · rw [hin]; exact ⟨ha, hb, hab⟩
      have hap := pmt_ap s.2.2 a b
      have clash : ¬ ((pmt s.2.2).1 a = none ∧ (pmt s.2.2).1 b = none) → Ev B mX3_readPair 3 0 0 (StP T n M (ppair T n s p)) 67 [some (.ref 11), some (.ref 6), some (.int r1), some (.int r2)] [] N4 := by
        intro hno
        refine e_aload_n dX3_readPair_67 rfl rfl ?_
        refine e_iconst (v := 1) dX3_readPair_68 (by decide) ?_
        refine e_putI dX3_readPair_69 fRX3_32 (by exact ok4.sh rfl) rfl rfl rfl (fun _ _ => rfl) ?_
        refine e_vret dX3_readPair_72 rfl ⟨none, rfl, rfl, ?_, rfM.F.trans ((RF.s (ks := [6]) (RF.rf (ks := [6]) (M := N4)) (i := 6) (v := 1) (by decide)).F), ?_⟩
        · exact t4.rf (RF.s (ks := [6]) (RF.rf (ks := [6]) (M := N4)) (i := 6) (v := 1) (by decide)) (by decide)
        · rw [e8]
          have e7 : pmt (s.2.2 ++ [(a, b)]) = ((pmt s.2.2).1, true) := by
            rw [hap]; unfold ptl; rw [if_neg hno]
          refine ⟨⟨rd4'.1, by rw [rd_ni (by decide)]; exact rd4'.2.1, by rw [rd_ni (by decide)]; exact rd4'.2.2.1, by rw [rd_ni (by decide)]; exact rd4'.2.2.2⟩, ?_⟩
          refine ⟨?_, ?_, ?_, hmem⟩
          · show NetRep _ 6 (s.1, s.2.1, (pmt (s.2.2 ++ [(a, b)])).1)
            rw [e7]
            exact s4.1.fr (Fr.rf.sI (lo := 11) (hi := 11) (by decide) (by decide)) (by omega)
          · show _ = (if (pmt (s.2.2 ++ [(a, b)])).2 = true then 1 else 0)
            rw [e7, rd_self]; rfl
          · show Wfn (s.1, s.2.1, (pmt (s.2.2 ++ [(a, b)])).1)
            rw [e7]; exact wf
      refine e_if_eq (tgt := 42) dX3_readPair_38 (by decide) (fun hz => ?_) (fun hz => ?_)
      · rw [v1, v2] at clash ⊢
        refine e_aload_n dX3_readPair_42 rfl rfl ?_
        refine e_iload_n dX3_readPair_43 rfl rfl ?_
        refine e_callV0i [_] dX3_readPair_44 mvmX1_isFree lkRX3_114 (by exact ok4.sh rfl) ⟨by decide, rfl⟩ rfl rfl (Nat.le_of_ble_eq_true rfl) (by decide) (c_isFree s4.1 (by omega) (fun k hk => wf.m a k hk)) ?_
        by_cases ma : (pmt s.2.2).1 a = none
        · rw [if_pos ma]
          refine e_if_eq (tgt := 67) dX3_readPair_47 (by decide) (fun hz1 => ?_) (fun hz1 => ?_)
          · exact absurd hz1 (by decide)
          · refine e_aload_n dX3_readPair_50 rfl rfl ?_
            refine e_iload_n dX3_readPair_51 rfl rfl ?_
            refine e_callV0i [_] dX3_readPair_52 mvmX1_isFree lkRX3_114 (by exact ok4.sh rfl) ⟨by decide, rfl⟩ rfl rfl (Nat.le_of_ble_eq_true rfl) (by decide) (c_isFree s4.1 (by omega) (fun k hk => wf.m b k hk)) ?_
            by_cases mb : (pmt s.2.2).1 b = none
            · rw [if_pos mb]
              refine e_if_eq (tgt := 67) dX3_readPair_55 (by decide) (fun hz2 => ?_) (fun hz2 => ?_)
              · exact absurd hz2 (by decide)
              · refine e_aload_n dX3_readPair_58 rfl rfl ?_
                refine e_iload_n dX3_readPair_59 rfl rfl ?_
                refine e_iload_n dX3_readPair_60 rfl rfl ?_
                refine e_callV1 [_, _] dX3_readPair_61 mvmX1_putPair lkRX3_118 (by exact ok4.sh rfl) ⟨by decide, rfl⟩ rfl rfl (Nat.le_of_ble_eq_true rfl) (by decide) (c_putPair s4.1 (by omega) (by omega) hab) (fun u N5 h5 => ?_)
                obtain ⟨hu, q1, q2⟩ := h5
                subst hu
                have e7 : pmt (s.2.2 ++ [(a, b)]) = (m2 (m2 (pmt s.2.2).1 a (some b)) b (some a), (pmt s.2.2).2) := by
                  rw [hap]; unfold ptl; rw [if_pos ⟨ma, mb⟩]
                refine e_goto (tgt := 72) dX3_readPair_64 (by decide) ?_
                refine e_vret dX3_readPair_72 rfl ⟨none, rfl, rfl, t4.fr q2, rfM.F.trans (q2.wide (by decide) (by decide)), ?_⟩
                rw [e8]
                refine ⟨rd4'.fr q2, ?_, ?_, ?_, hmem⟩
                · show NetRep _ 6 (s.1, s.2.1, (pmt (s.2.2 ++ [(a, b)])).1)
                  rw [e7]; exact q1
                · show _ = (if (pmt (s.2.2 ++ [(a, b)])).2 = true then 1 else 0)
                  rw [e7, q2.2.2 11 (by omega)]; exact s4.2.1
                · show Wfn (s.1, s.2.1, (pmt (s.2.2 ++ [(a, b)])).1)
                  rw [e7]
                  exact Wfn_m2 (g := (s.1, s.2.1, (pmt s.2.2).1)) wf ha hb hab ma mb
            · rw [if_neg mb]
              refine e_if_eq (tgt := 67) dX3_readPair_55 (by decide) (fun hz2 => ?_) (fun hz2 => ?_)
              · exact clash (fun q => mb q.2)
              · exact absurd rfl hz2
        · rw [if_neg ma]
          refine e_if_eq (tgt := 67) dX3_readPair_47 (by decide) (fun hz1 => ?_) (fun hz1 => ?_)
          · exact clash (fun q => ma q.1)
          · exact absurd rfl hz1
      · exact absurd rd4'.2.1 hz

