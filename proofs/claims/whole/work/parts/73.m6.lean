/-! the Model: pairs told, the past, the text -/
theorem sI_row {M : Mm} {a i b : Nat} {v : Int32} (h : b ≠ a) : (sI M a i v).2.1 b = M.2.1 b := u2_ne _ _ _ h
theorem pmt_bad {pre rest : List (Nat × Nat)} (hne : ∀ ab, ab ∈ rest → ab.1 ≠ ab.2) (h : (pmt pre).2 = true) : (pmt (pre ++ rest)).2 = true := by
  cases hq : (pmt (pre ++ rest)).2 with
  | true => rfl
  | false =>
    unfold pmt at hq h
    rw [List.foldl_append] at hq
    have := (pmt_gen rest _ (List.foldl (fun q ab => ptl q ab.1 ab.2) (fun _ => none, false) pre).2 hne hq).1
    rw [h] at this; cases this
theorem c_arePairs {B : Bd} {M : Mm} {s : Ps} {r : Int32} (ok : OkM M) (hs : MS M s) (hr1 : ((pmt s.2.2).2 = false ∧ ∀ ab, ab ∈ s.2.2 → (s.2.1 ab.1 ab.2).isSome = true) → r = 1) (hr0 : ¬ ((pmt s.2.2).2 = false ∧ ∀ ab, ab ∈ s.2.2 → (s.2.1 ab.1 ab.2).isSome = true) → r = 0) : Ct B mX6_arePairs 0 0 0 [.ref 60] M (Rt (fun u N => u = some (.int r) ∧ Fr 64 64 M N ∧ (r = 1 → NowR N 64 (s.1, s.2.1, (pmt s.2.2).1)))) := by
  have hg1' : 1 ≤ s.1 ∧ s.1 ≤ 12 := hs.2.2.2.2.1.1
  have wp := hs.2.2.2.2
  have wf := wf_none wp
  refine Ct.of (by decide) rfl rfl (Nat.le_of_ble_eq_true rfl) ?_
  have loop : ∀ (rest pre : List (Nat × Nat)) N (t2 t3 : Option Value), pre ++ rest = s.2.2 → Fr 64 64 M N → NowR N 64 (s.1, s.2.1, (pmt pre).1) → (pmt pre).2 = false → (∀ ab, ab ∈ pre → (s.2.1 ab.1 ab.2).isSome = true) → (t2 = none ∨ ∃ i, t2 = some (.int i)) → Ev B mX6_arePairs 0 0 0 (Rt (fun u N => u = some (.int r) ∧ Fr 64 64 M N ∧ (r = 1 → NowR N 64 (s.1, s.2.1, (pmt s.2.2).1)))) 2 [some (.ref 60), some (.int (nI (2 * pre.length))), t2, t3] [] N := by
    intro rest
    induction rest with
    | nil =>
      intro pre N t2 t3 hap hf hN hc hl _
      rw [List.append_nil] at hap
      have okN : OkM N := ok.fr hf
      refine e_iload_n dX6_arePairs_2 rfl rfl ?_
      refine e_aload_n dX6_arePairs_3 rfl rfl ?_
      refine e_getI dX6_arePairs_4 fRX6_152 (by exact okN.sh rfl) (fun _ => rfl) ?_
      rw [hf.2.2 60 (by omega), hs.2.1, hap]
      have h9 := hs.2.2.2.1
      refine e_icmp_ge (tgt := 94) dX6_arePairs_7 (by decide) (fun _ => ?_) (fun hz => absurd (nI_le (by omega) (by omega)) hz)
      refine e_iconst (v := 1) dX6_arePairs_94 (by decide) ?_
      rw [hap] at hc hl hN
      have e1 : r = 1 := hr1 ⟨hc, hl⟩
      exact e_iret dX6_arePairs_95 rfl rfl ⟨_, rfl, by rw [e1], hf, fun _ => hN⟩
    | cons ab rest ih =>
      intro pre N t2 t3 hap hf hN hc hl ht2
      obtain ⟨a, b⟩ := ab
      have okN : OkM N := ok.fr hf
      have hlen : pre.length < s.2.2.length := by rw [← hap]; simp
      have h9 := hs.2.2.2.1
      have hget : s.2.2[pre.length]? = some (a, b) := by rw [← hap, List.getElem?_append_right (Nat.le_refl _), Nat.sub_self]; rfl
      obtain ⟨p1, p2⟩ := hs.2.2.1 _ _ hget
      have hin : (a, b) ∈ s.2.2 := List.mem_of_getElem? hget
      obtain ⟨ha, hb, hab⟩ := wp.2 _ hin
      have ha' : a < s.1 := ha
      have hb' : b < s.1 := hb
      have hnepre : ∀ ab, ab ∈ pre → ab.1 ≠ ab.2 := fun ab h => (wp.2 ab (by rw [← hap]; exact List.mem_append_left _ h)).2.2
      have hnerest : ∀ ab, ab ∈ rest → ab.1 ≠ ab.2 := fun ab h => (wp.2 ab (by rw [← hap]; exact List.mem_append_right _ (List.mem_cons_of_mem _ h))).2.2
      have hmb : ∀ x y, (pmt pre).1 x = some y → y < 2 ^ 31 := by
        intro x y hxy
        rcases (pmt_iff hnepre hc x y).mp hxy with q | q
        · have := (wp.2 _ (by rw [← hap]; exact List.mem_append_left _ q)).2.1
          have : y < s.1 := this
          omega
        · have := (wp.2 _ (by rw [← hap]; exact List.mem_append_left _ q)).1
          have : y < s.1 := this
          omega
      have e62 := hf.2.2 60 (by omega)
      have e76 := hf.2.2 74 (by omega)
      -- not so
      have no : ∀ (t2 t3 : Option Value), ¬ ((pmt s.2.2).2 = false ∧ ∀ ab, ab ∈ s.2.2 → (s.2.1 ab.1 ab.2).isSome = true) → Ev B mX6_arePairs 0 0 0 (Rt (fun u N => u = some (.int r) ∧ Fr 64 64 M N ∧ (r = 1 → NowR N 64 (s.1, s.2.1, (pmt s.2.2).1)))) 68 [some (.ref 60), some (.int (nI (2 * pre.length))), t2, t3] [] N := by
        intro t2 t3 hno
        refine e_iconst (v := 0) dX6_arePairs_68 (by decide) ?_
        have e0 : r = 0 := hr0 hno
        exact e_iret dX6_arePairs_69 rfl rfl ⟨_, rfl, by rw [e0], hf, fun q => by rw [e0] at q; exact absurd q (by decide)⟩
      have clash : ¬ ((pmt pre).1 a = none ∧ (pmt pre).1 b = none) → ¬ ((pmt s.2.2).2 = false ∧ ∀ ab, ab ∈ s.2.2 → (s.2.1 ab.1 ab.2).isSome = true) := by
        intro hcl q
        have e1 : (pmt (pre ++ [(a, b)])).2 = true := by rw [pmt_ap]; unfold ptl; rw [if_neg hcl]
        have e2 := pmt_bad (rest := rest) hnerest e1
        rw [List.append_assoc] at e2
        have e3 : pre ++ ([(a, b)] ++ rest) = s.2.2 := hap
        rw [e3, q.1] at e2
        cases e2
      refine e_iload_n dX6_arePairs_2 rfl rfl ?_
      refine e_aload_n dX6_arePairs_3 rfl rfl ?_
      refine e_getI dX6_arePairs_4 fRX6_152 (by exact okN.sh rfl) (fun _ => rfl) ?_
      rw [e62, hs.2.1]
      refine e_icmp_ge (tgt := 94) dX6_arePairs_7 (by decide) (fun hz => absurd hz (nI_ge (by omega) (by omega))) (fun _ => ?_)
      refine e_aload_n dX6_arePairs_10 rfl rfl ?_
      refine e_getR dX6_arePairs_11 fRX6_31 (by exact okN.sh rfl) (by exact okN.rf rfl) (fun _ => rfl) ?_
      refine e_iload_n dX6_arePairs_14 rfl rfl ?_
      refine e_iaload dX6_arePairs_15 (by exact okN.sh rfl) (by exact vp_in_nI (show 2 * pre.length < 500 by omega) (by decide)) ?_
      rw [nI_clamp (by omega), e76, p1]
      refine e_istore_n dX6_arePairs_16 rfl (by decide) rfl rfl ?_
      refine e_aload_n dX6_arePairs_17 rfl rfl ?_
      refine e_getR dX6_arePairs_18 fRX6_31 (by exact okN.sh rfl) (by exact okN.rf rfl) (fun _ => rfl) ?_
      refine e_iload_n dX6_arePairs_21 rfl rfl ?_
      refine e_iconst (v := 1) dX6_arePairs_22 (by decide) ?_
      refine e_iadd dX6_arePairs_23 ?_
      rw [nI_1]
      refine e_iaload dX6_arePairs_24 (by exact okN.sh rfl) (by exact vp_in_nI (show 2 * pre.length + 1 < 500 by omega) (by decide)) ?_
      rw [nI_clamp (by omega), e76, p2]
      refine e_istore_n dX6_arePairs_25 rfl (by decide) rfl rfl ?_
      show Ev _ _ _ _ _ _ 26 [some (.ref 60), some (.int (nI (2 * pre.length))), some (.int (nI a)), some (.int (nI b))] _ _
      refine e_aload_n dX6_arePairs_26 rfl rfl ?_
      refine e_getR dX6_arePairs_27 fRX6_23 (by exact okN.sh rfl) (by exact okN.rf rfl) (fun _ => rfl) ?_
      refine e_bipush (v := 13) dX6_arePairs_30 (by decide) ?_
      refine e_bipush (v := 12) dX6_arePairs_32 (by decide) ?_
      refine e_iload_n dX6_arePairs_34 rfl rfl ?_
      refine e_imul dX6_arePairs_35 ?_
      refine e_iadd dX6_arePairs_36 ?_
      refine e_iload_n dX6_arePairs_37 rfl rfl ?_
      refine e_iadd dX6_arePairs_38 ?_
      rw [e13]
      refine e_iaload dX6_arePairs_39 (by exact okN.sh rfl) (by exact vp_in_nI (show 13 + 12 * a + b < 157 by omega) (by decide)) ?_
      rw [nI_clamp (by omega), hN.2.2 a b (by omega) (by omega)]
      refine e_iconst (v := (-1)) dX6_arePairs_40 (by decide) ?_
      have hn := wI_none (wf.wb a b)
      refine e_icmp_eq (tgt := 68) dX6_arePairs_41 (by decide) (fun hz => ?_) (fun hz => ?_)
      · have e5 : s.2.1 a b = none := hn.mp hz
        refine no _ _ (fun q => ?_)
        have := q.2 _ hin
        have : (s.2.1 a b).isSome = true := this
        rw [e5] at this; cases this
      · have hsm : (s.2.1 a b).isSome = true := by
          cases hw : s.2.1 a b with
          | none => exact absurd (hn.mpr hw) hz
          | some k => rfl
        refine e_aload_n dX6_arePairs_44 rfl rfl ?_
        refine e_getR dX6_arePairs_45 fRX6_23 (by exact okN.sh rfl) (by exact okN.rf rfl) (fun _ => rfl) ?_
        refine e_iconst (v := 1) dX6_arePairs_48 (by decide) ?_
        refine e_iload_n dX6_arePairs_49 rfl rfl ?_
        refine e_iadd dX6_arePairs_50 ?_
        rw [e1p]
        refine e_iaload dX6_arePairs_51 (by exact okN.sh rfl) (by first | exact vp_in_nI (show 1 + a < 157 by omega) (by decide) | exact vp_in_nI (show 1 + b < 157 by omega) (by decide)) ?_
        rw [nI_clamp (by omega), hN.2.1 a (by omega)]
        refine e_iconst (v := (-1)) dX6_arePairs_52 (by decide) ?_
        have hna := wI_none (hmb a)
        refine e_icmp_ne (tgt := 68) dX6_arePairs_53 (by decide) (fun hz2 => ?_) (fun hz2 => ?_)
        · exact no _ _ (clash (fun q => hz2 (hna.mpr q.1)))
        · have ma : (pmt pre).1 a = none := hna.mp hz2
          refine e_aload_n dX6_arePairs_56 rfl rfl ?_
          refine e_getR dX6_arePairs_57 fRX6_23 (by exact okN.sh rfl) (by exact okN.rf rfl) (fun _ => rfl) ?_
          refine e_iconst (v := 1) dX6_arePairs_60 (by decide) ?_
          refine e_iload_n dX6_arePairs_61 rfl rfl ?_
          refine e_iadd dX6_arePairs_62 ?_
          rw [e1p]
          refine e_iaload dX6_arePairs_63 (by exact okN.sh rfl) (by first | exact vp_in_nI (show 1 + a < 157 by omega) (by decide) | exact vp_in_nI (show 1 + b < 157 by omega) (by decide)) ?_
          rw [nI_clamp (by omega), hN.2.1 b (by omega)]
          refine e_iconst (v := (-1)) dX6_arePairs_64 (by decide) ?_
          have hnb := wI_none (hmb b)
          refine e_icmp_eq (tgt := 70) dX6_arePairs_65 (by decide) (fun hz3 => ?_) (fun hz3 => ?_)
          · have mb : (pmt pre).1 b = none := hnb.mp hz3
            refine e_aload_n dX6_arePairs_70 rfl rfl ?_
            refine e_getR dX6_arePairs_71 fRX6_23 (by exact okN.sh rfl) (by exact okN.rf rfl) (fun _ => rfl) ?_
            refine e_iconst (v := 1) dX6_arePairs_74 (by decide) ?_
            refine e_iload_n dX6_arePairs_75 rfl rfl ?_
            refine e_iadd dX6_arePairs_76 ?_
            rw [e1p]
            refine e_iload_n dX6_arePairs_77 rfl rfl ?_
            refine e_iastore dX6_arePairs_78 (by exact okN.sh rfl) (by first | exact vp_in_nI (show 1 + a < 157 by omega) (by decide) | exact vp_in_nI (show 1 + b < 157 by omega) (by decide)) ?_
            rw [nI_clamp (by omega)]
            refine e_aload_n dX6_arePairs_79 rfl rfl ?_
            refine e_getR dX6_arePairs_80 fRX6_23 (by exact okN.sh rfl) (by exact okN.rf rfl) (fun _ => rfl) ?_
            refine e_iconst (v := 1) dX6_arePairs_83 (by decide) ?_
            refine e_iload_n dX6_arePairs_84 rfl rfl ?_
            refine e_iadd dX6_arePairs_85 ?_
            rw [e1p]
            refine e_iload_n dX6_arePairs_86 rfl rfl ?_
            refine e_iastore dX6_arePairs_87 (by exact okN.sh rfl) (by first | exact vp_in_nI (show 1 + a < 157 by omega) (by decide) | exact vp_in_nI (show 1 + b < 157 by omega) (by decide)) ?_
            rw [nI_clamp (by omega)]
            refine e_iinc (v := nI (2 * (pre ++ [(a, b)]).length)) dX6_arePairs_88 rfl ?_ (by decide) rfl rfl ?_
            · rw [List.length_append]
              show nI (2 * pre.length) + 2 = nI (2 * (pre.length + 1))
              rw [show (2 : Int32) = nI 2 from rfl, nI_add]; rfl
            refine e_goto (tgt := 2) dX6_arePairs_91 (by decide) ?_
            have hap2 : pre ++ [(a, b)] ++ rest = s.2.2 := by rw [List.append_assoc]; exact hap
            have ep : pmt (pre ++ [(a, b)]) = (m2 (m2 (pmt pre).1 a (some b)) b (some a), (pmt pre).2) := by rw [pmt_ap]; unfold ptl; rw [if_pos ⟨ma, mb⟩]
            refine ih (pre ++ [(a, b)]) _ _ _ hap2 ((hf.sI (by decide) (by decide)).sI (by decide) (by decide)) ?_ (by rw [ep]; exact hc) (fun ab q => ?_) (Or.inr ⟨_, rfl⟩)
            · rw [ep]
              exact (hN.m1 (v := some b) (by omega)).m1 (v := some a) (by omega)
            · rw [List.mem_append, List.mem_singleton] at q
              rcases q with q | q
              · exact hl ab q
              · rw [q]; exact hsm
          · exact no _ _ (clash (fun q => hz3 (hnb.mpr q.2)))
  refine e_iconst (v := 0) dX6_arePairs_0 (by decide) ?_
  refine e_istore_n dX6_arePairs_1 rfl (by decide) rfl rfl ?_
  exact loop s.2.2 [] M none none rfl Fr.rf hs.1 rfl (fun ab h => by cases h) (Or.inl rfl)
/-- what goes with the past -/
def MR (M N : Mm) : Prop := N.1 = M.1 ∧ N.2.2 = M.2.2 ∧ (∀ j, j ≠ 12 → N.2.1 60 j = M.2.1 60 j) ∧ ∀ b, b ≠ 60 → (b < 66 ∨ 73 < b) → N.2.1 b = M.2.1 b
theorem MR.rf {M : Mm} : MR M M := ⟨rfl, rfl, fun _ _ => rfl, fun _ _ _ => rfl⟩
theorem MR.trans {M N K : Mm} (h1 : MR M N) (h2 : MR N K) : MR M K := ⟨h2.1.trans h1.1, h2.2.1.trans h1.2.1, fun j hj => (h2.2.2.1 j hj).trans (h1.2.2.1 j hj), fun b x y => (h2.2.2.2 b x y).trans (h1.2.2.2 b x y)⟩
theorem Fr.R {lo hi : Nat} {M N : Mm} (h : Fr lo hi M N) (h1 : 66 ≤ lo) (h2 : hi ≤ 73) : MR M N := ⟨h.1, h.2.1, fun j _ => by rw [h.2.2 60 (by omega)], fun b _ hb => h.2.2 b (by omega)⟩
theorem MR.b {M N : Mm} (h : MR M N) {v : Int32} : MR M (sI N 60 12 v) := ⟨h.1, h.2.1, fun j hj => by rw [rd_ni hj]; exact h.2.2.1 j hj, fun b h1 h2 => (u2_ne _ _ _ h1).trans (h.2.2.2 b h1 h2)⟩
theorem MR.FM {M N : Mm} (h : MR M N) : FM M N := ⟨h.1, by rw [h.2.1], fun a ha => h.2.2.2 a (by omega) (by omega), fun a _ => by rw [h.2.1]⟩
theorem MI.past {M N : Mm} {s : Sx} {h' : List Nw} (h : MI M s) (hr : MR M N) (hl : h'.length ≤ 8) (h12 : N.2.1 60 12 = nI h'.length) (hp : ∀ i g, h'[i]? = some g → NowR N (66 + i) g ∧ Gd g) : MI N (setH s h') := by
  obtain ⟨ok, ⟨a1, a2, a3, a4, a5⟩, ⟨b1, b2⟩, ⟨c1, c2⟩, d1, e1, f1⟩ := h
  have e : ∀ b, b ≠ 60 → (b < 66 ∨ 73 < b) → N.2.1 b = M.2.1 b := hr.2.2.2
  exact ⟨ok.of hr.1 hr.2.1, ⟨by rw [hr.2.2.1 2 (by decide)]; exact a1, a2, by rw [hr.2.2.1 5 (by decide)]; exact a3, h12, hl⟩, ⟨b1, fun i hi => by rw [e 62 (by decide) (by decide)]; exact b2 i hi⟩, ⟨c1.at (e 63 (by decide) (by decide)), c2⟩, hp, e1.at (hr.2.2.1 19 (by decide)) (e _ (by decide) (by decide)) (e _ (by decide) (by decide)) (e _ (by decide) (by decide)) (by rw [hr.2.1]), fun i hi => by rw [e 61 (by decide) (by decide)]; exact f1 i hi⟩
theorem MI.net {M N : Mm} {s : Sx} {g : Nw} (h : MI M s) (hf : Fr 63 63 M N) (hn : NowR N 63 g) (hg : Gd g) : MI (sI N 60 19 0) (setG s g) := by
  obtain ⟨ok, ⟨a1, a2, a3, a4, a5⟩, ⟨b1, b2⟩, ⟨c1, c2⟩, d1, e1, f1⟩ := h
  have e : ∀ b, b ≠ 60 → b ≠ 63 → (sI N 60 19 0).2.1 b = M.2.1 b := fun b h1 h2 => (u2_ne _ _ _ h1).trans (hf.2.2 b (by omega))
  have e2 : ∀ j, j ≠ 19 → (sI N 60 19 0).2.1 60 j = M.2.1 60 j := fun j hj => by rw [rd_ni hj, hf.2.2 60 (by omega)]
  exact ⟨ok.of hf.1 hf.2.1, ⟨by rw [e2 2 (by decide)]; exact a1, a2, by rw [e2 5 (by decide)]; exact a3, by rw [e2 12 (by decide)]; exact a4, a5⟩, ⟨b1, fun i hi => by rw [e 62 (by decide) (by decide)]; exact b2 i hi⟩, ⟨hn.at (sI_row (by decide)), hg⟩, fun i g hg => ⟨(d1 i g hg).1.at (e _ (by omega) (by omega)), (d1 i g hg).2⟩, Or.inl (by rw [rd_self]), fun i hi => by rw [e 61 (by decide) (by decide)]; exact f1 i hi⟩
theorem MI.matesOf {M N : Mm} {s : Sx} {m : Nat → Option Nat} (h : MI M s) (hf : Fr 63 63 M N) (hn : NowR N 63 ((sgg s).1, (sgg s).2.1, m)) (hg : Gd ((sgg s).1, (sgg s).2.1, m)) : MI N (setG s ((sgg s).1, (sgg s).2.1, m)) := by
  obtain ⟨ok, ⟨a1, a2, a3, a4, a5⟩, ⟨b1, b2⟩, ⟨c1, c2⟩, d1, e1, f1⟩ := h
  have e : ∀ b, b ≠ 63 → N.2.1 b = M.2.1 b := fun b h1 => hf.2.2 b (by omega)
  have e5 : MInv N (sgg s) := e1.at (by rw [e 60 (by decide)]) (e _ (by decide)) (e _ (by decide)) (e _ (by decide)) (by rw [hf.2.1])
  exact ⟨ok.fr hf, ⟨by rw [e 60 (by decide)]; exact a1, a2, by rw [e 60 (by decide)]; exact a3, by rw [e 60 (by decide)]; exact a4, a5⟩, ⟨b1, fun i hi => by rw [e 62 (by decide)]; exact b2 i hi⟩, ⟨hn, hg⟩, fun i g hg => ⟨(d1 i g hg).1.at (e _ (by omega)), (d1 i g hg).2⟩, e5, fun i hi => by rw [e 61 (by decide)]; exact f1 i hi⟩
theorem fin_past : ∀ i, i < 8 → finz 65 i = some (66 + i) := by decide
theorem sz_past : ∀ i, i < 8 → SZ[66 + i]? = some (.inr (.int, 157)) := by decide
theorem NowR.copy {M N : Mm} {a b : Nat} {g : Nw} (h : NowR M a g) (hc : ∀ i, i < 157 → N.2.1 b i = M.2.1 a i) : NowR N b g := ⟨by rw [hc 0 (by omega)]; exact h.1, fun x hx => by rw [hc _ (by omega)]; exact h.2.1 x hx, fun x y hx hy => by rw [hc _ (by omega)]; exact h.2.2 x y hx hy⟩
theorem c_remembers {B : Bd} {M : Mm} {s : Sx} (h : MI M s) : Ct B mX6_remembers 1 0 0 [.ref 60] M (Rt (fun u N => u = none ∧ MI N (setH s (psh (shh s) (sgg s))) ∧ MR M N)) := by
  have ok := h.1
  have hl := h.2.1.2.2.2.2
  have h12 := h.2.1.2.2.2.1
  refine Ct.of (by decide) rfl rfl (Nat.le_of_ble_eq_true rfl) ?_
  -- from 50 on
  have rest : ∀ N h' (t : Option Value), h'.length < 8 → psh (shh s) (sgg s) = h' ++ [sgg s] → MR M N → N.2.1 60 12 = nI h'.length → (∀ i g, h'[i]? = some g → NowR N (66 + i) g ∧ Gd g) → Ev B mX6_remembers 1 0 0 (Rt (fun u N => u = none ∧ MI N (setH s (psh (shh s) (sgg s))) ∧ MR M N)) 50 [some (.ref 60), t] [] N := by
    intro N h' t hl' he hr hn hp
    have okN : OkM N := ok.of hr.1 hr.2.1
    refine e_aload_n dX6_remembers_50 rfl rfl ?_
    refine e_getR dX6_remembers_51 fRX6_20 (by exact okN.sh rfl) (by first | exact okN.rf rfl | (rw [nI_clamp (by omega)]; exact okN.rf (fin_past _ hl'))) (fun _ => rfl) ?_
    refine e_aload_n dX6_remembers_54 rfl rfl ?_
    refine e_getR dX6_remembers_55 fRX6_28 (by exact okN.sh rfl) (by first | exact okN.rf rfl | (rw [nI_clamp (by omega)]; exact okN.rf (fin_past _ hl'))) (fun _ => rfl) ?_
    refine e_aload_n dX6_remembers_58 rfl rfl ?_
    refine e_getI dX6_remembers_59 fRX6_242 (by exact okN.sh rfl) (fun _ => rfl) ?_
    rw [hn]
    refine e_aaloadA dX6_remembers_62 (by exact okN.sh rfl) (by exact vp_in_nI (show h'.length < 8 by omega) (by decide)) (by first | exact okN.rf rfl | (rw [nI_clamp (by omega)]; exact okN.rf (fin_past _ hl'))) ?_
    refine e_callS1 [_, _] dX6_remembers_63 msmX6_copies lkRX6_174 rfl rfl (Nat.le_of_ble_eq_true rfl) (by decide) (c_copies (a := 63) (b := 66 + h'.length) (okN.sh rfl) (okN.sh (sz_past _ hl')) (by omega)) (fun u K hk => ?_)
    obtain ⟨hu, k1, k2⟩ := hk
    subst hu
    have okK : OkM K := okN.fr k1
    refine e_aload_n dX6_remembers_66 rfl rfl ?_
    refine e_dup dX6_remembers_67 rfl ?_
    refine e_getI dX6_remembers_68 fRX6_242 (by exact okK.sh rfl) (fun _ => rfl) ?_
    rw [k1.2.2 60 (by omega), hn]
    refine e_iconst (v := 1) dX6_remembers_71 (by decide) ?_
    refine e_iadd dX6_remembers_72 ?_
    rw [nI_1]
    refine e_putI dX6_remembers_73 fRX6_242 (by exact okK.sh rfl) rfl rfl rfl (fun _ _ => rfl) ?_
    have hrK : MR M (sI K 60 12 (nI (h'.length + 1))) := (hr.trans (k1.R (by omega) (by omega))).b
    refine e_vret dX6_remembers_76 rfl ⟨none, rfl, rfl, ?_, hrK⟩
    rw [he]
    refine h.past hrK (by rw [List.length_append]; show h'.length + 1 ≤ 8; omega) (by rw [rd_self, List.length_append]; rfl) (fun i g hg => ?_)
    rcases Nat.lt_trichotomy i h'.length with q | q | q
    · rw [List.getElem?_append_left q] at hg
      have := hp i g hg
      exact ⟨(this.1.at (k1.2.2 (66 + i) (by omega))).at (sI_row (by omega)), this.2⟩
    · subst q
      rw [List.getElem?_append_right (Nat.le_refl _), Nat.sub_self] at hg
      have e5 : sgg s = g := Option.some.inj hg
      rw [← e5]
      have hnow : NowR N 63 (sgg s) := h.now.at (hr.2.2.2 63 (by decide) (by decide))
      exact ⟨(hnow.copy k2).at (sI_row (by omega)), h.2.2.2.1.2⟩
    · rw [List.getElem?_eq_none (by simp; omega)] at hg; cases hg
  refine e_aload_n dX6_remembers_0 rfl rfl ?_
  refine e_getI dX6_remembers_1 fRX6_242 (by exact ok.sh rfl) (fun _ => rfl) ?_
  refine e_bipush (v := 8) dX6_remembers_4 (by decide) ?_
  rw [h12]
  by_cases h8 : (shh s).length = 8
  · rw [h8]
    refine e_icmp_ne (tgt := 50) dX6_remembers_6 (by decide) (fun hz => absurd rfl hz) (fun _ => ?_)
    refine e_iconst (v := 1) dX6_remembers_9 (by decide) ?_
    refine e_istore_n dX6_remembers_10 rfl (by decide) rfl rfl ?_
    have loop : ∀ j k N, k + j = 8 → 1 ≤ k → Fr 66 73 M N → (∀ i, k ≤ i → i < 8 → N.2.1 (66 + i) = M.2.1 (66 + i)) → (∀ i, 1 ≤ i → i < k → ∀ q, q < 157 → N.2.1 (66 + (i - 1)) q = M.2.1 (66 + i) q) → Ev B mX6_remembers 1 0 0 (Rt (fun u N => u = none ∧ MI N (setH s (psh (shh s) (sgg s))) ∧ MR M N)) 11 [some (.ref 60), some (.int (nI k))] [] N := by
      intro j
      induction j with
      | zero =>
        intro k N hk h1 hf hsame hcop
        have : k = 8 := by omega
        subst this
        have okN : OkM N := ok.fr hf
        refine e_iload_n dX6_remembers_11 rfl rfl ?_
        refine e_bipush (v := 8) dX6_remembers_12 (by decide) ?_
        refine e_icmp_ge (tgt := 40) dX6_remembers_14 (by decide) (fun _ => ?_) (fun hz => absurd (nI_le (a := 8) (b := 8) (by omega) (by omega)) hz)
        refine e_aload_n dX6_remembers_40 rfl rfl ?_
        refine e_dup dX6_remembers_41 rfl ?_
        refine e_getI dX6_remembers_42 fRX6_242 (by exact okN.sh rfl) (fun _ => rfl) ?_
        rw [hf.2.2 60 (by omega), h12, h8]
        refine e_iconst (v := 1) dX6_remembers_45 (by decide) ?_
        refine e_isub dX6_remembers_46 ?_
        refine e_putI dX6_remembers_47 fRX6_242 (by exact okN.sh rfl) rfl rfl rfl (fun _ _ => rfl) ?_
        have hdr : ((shh s).drop 1).length = 7 := by rw [List.length_drop, h8]
        refine rest _ ((shh s).drop 1) _ (by omega) (by unfold psh; rw [if_neg (by omega)]) ((hf.R (by omega) (by omega)).b) (by rw [rd_self, hdr]; decide) (fun i g hg => ?_)
        have hi : i < 7 := by
          rcases Nat.lt_or_ge i 7 with q | q
          · exact q
          · rw [List.getElem?_eq_none (by omega)] at hg; cases hg
        rw [List.getElem?_drop] at hg
        have hold := h.2.2.2.2.1 (1 + i) g hg
        refine ⟨?_, hold.2⟩
        have e1 : NowR N (66 + i) g := hold.1.copy (fun q hq => by
          have := hcop (1 + i) (by omega) (by omega) q hq
          rw [show 1 + i - 1 = i by omega] at this
          exact this)
        exact e1.at (sI_row (by omega))
      | succ j ih =>
        intro k N hk h1 hf hsame hcop
        have okN : OkM N := ok.fr hf
        refine e_iload_n dX6_remembers_11 rfl rfl ?_
        refine e_bipush (v := 8) dX6_remembers_12 (by decide) ?_
        refine e_icmp_ge (tgt := 40) dX6_remembers_14 (by decide) (fun hz => absurd hz (nI_ge (b := 8) (by omega) (by omega))) (fun _ => ?_)
        refine e_aload_n dX6_remembers_17 rfl rfl ?_
        refine e_getR dX6_remembers_18 fRX6_28 (by exact okN.sh rfl) (by first | exact okN.rf rfl | (rw [nI_clamp (by omega)]; exact okN.rf (fin_past k (by omega)))) (fun _ => rfl) ?_
        refine e_iload_n dX6_remembers_21 rfl rfl ?_
        refine e_aaloadA dX6_remembers_22 (by exact okN.sh rfl) (by exact vp_in_nI (show k < 8 by omega) (by decide)) (by first | exact okN.rf rfl | (rw [nI_clamp (by omega)]; exact okN.rf (fin_past k (by omega)))) ?_
        refine e_aload_n dX6_remembers_23 rfl rfl ?_
        refine e_getR dX6_remembers_24 fRX6_28 (by exact okN.sh rfl) (by first | exact okN.rf rfl | (rw [nI_clamp (by omega)]; exact okN.rf (fin_past k (by omega)))) (fun _ => rfl) ?_
        refine e_iload_n dX6_remembers_27 rfl rfl ?_
        refine e_iconst (v := 1) dX6_remembers_28 (by decide) ?_
        refine e_isub dX6_remembers_29 ?_
        rw [nI_m1 h1]
        refine e_aaloadA (b := 66 + (k - 1)) dX6_remembers_30 (okN.sh rfl) (vp_in_nI (show k - 1 < 8 by omega) (by decide)) (by rw [nI_clamp (by omega)]; exact okN.rf (fin_past (k - 1) (by omega))) ?_
        refine e_callS1 [_, _] dX6_remembers_31 msmX6_copies lkRX6_174 rfl rfl (Nat.le_of_ble_eq_true rfl) (by decide) (c_copies (a := 66 + k) (b := 66 + (k - 1)) (okN.sh (sz_past k (by omega))) (okN.sh (sz_past (k - 1) (by omega))) (by omega)) (fun u K hk => ?_)
        obtain ⟨hu, k1, k2⟩ := hk
        subst hu
        refine e_iinc (v := nI (k + 1)) dX6_remembers_34 rfl (nI_1 k) (by decide) rfl rfl ?_
        refine e_goto (tgt := 11) dX6_remembers_37 (by decide) ?_
        refine ih (k + 1) K (by omega) (by omega) (hf.trans (k1.wide (by omega) (by omega))) (fun i hi hi8 => by rw [k1.2.2 (66 + i) (by omega)]; exact hsame i (by omega) hi8) (fun i hi hik q hq => ?_)
        by_cases hik2 : i = k
        · subst hik2
          rw [k2 q hq, hsame i (by omega) (by omega)]
        · rw [k1.2.2 (66 + (i - 1)) (by omega)]
          exact hcop i hi (by omega) q hq
    exact loop 7 1 M (by omega) (by omega) Fr.rf (fun i _ _ => rfl) (fun i h1 h2 => by omega)
  · refine e_icmp_ne (tgt := 50) dX6_remembers_6 (by decide) (fun _ => ?_) (fun hz => absurd ((nI_eq (b := 8) (by omega) (by decide)).mp hz) h8)
    exact rest M (shh s) _ (by omega) (by unfold psh; rw [if_pos (by omega)]) MR.rf h12 h.2.2.2.2.1

