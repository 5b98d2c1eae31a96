theorem pIN_wf {g : Nw} {a b : Nat} (wf : Wfn g) (ha : a < g.1) (hb : b < g.1) (hab : a ≠ b) : Wfn (pIN g a b) ∧ (pIN g a b).1 = g.1 ∧ (pIN g a b).2.2 = g.2.2 := by
  unfold pIN
  split
  · exact ⟨wf, rfl, rfl⟩
  · exact ⟨Wfn_put wf ha hb hab (by decide), rfl, rfl⟩
theorem rgl_m (l : List Nat) (n : Nat) (m m' : Nat → Option Nat) : ∀ k i w, rgl l k i (n, w, m) = (n, (rgl l k i (n, w, m')).2.1, m) := by
  intro k
  induction k with
  | zero => intro i w; rfl
  | succ k ih =>
    intro i w
    show rgl l k (i + 1) (pIN (n, w, m) _ _) = (n, (rgl l k (i + 1) (pIN (n, w, m') _ _)).2.1, m)
    generalize l.getD i 0 = a
    generalize l.getD (if i + 1 < l.length then i + 1 else 0) 0 = b
    have e1 : pIN (n, w, m) a b = (n, (pIN (n, w, m') a b).2.1, m) := by
      unfold pIN
      by_cases h : (w a b).isSome = true
      · rw [if_pos h, if_pos h]
      · rw [if_neg h, if_neg h]; rfl
    have e2 : pIN (n, w, m') a b = (n, (pIN (n, w, m') a b).2.1, m') := by
      unfold pIN
      by_cases h : (w a b).isSome = true
      · rw [if_pos h]
      · rw [if_neg h]; rfl
    rw [e1, ih, e2]
def RgOk (n : Nat) (l : List Nat) : Prop := (∀ x, x ∈ l → x < n) ∧ l.Pairwise (fun x y => x ≠ y)
theorem prng_ok {T : Nat → Nat} {n hi : Nat} : ∀ f l p e l', p ≤ n → RgOk (hi + 1) l → f + l.length = 12 → prng T n hi f l p = .inr (e, l') → e ≤ n ∧ RgOk (hi + 1) l' ∧ 2 ≤ l'.length ∧ l'.length ≤ 12 ∧ p ≤ e := by
  intro f
  induction f with
  | zero =>
    intro l p e l' hp hl hf h
    have h' : (.inr (p, l) : Fl ⊕ (Nat × List Nat)) = .inr (e, l') := h
    cases h'
    exact ⟨hp, hl, by omega, by omega, Nat.le_refl _⟩
  | succ f ih =>
    intro l p e l' hp hl hf h
    unfold prng at h
    by_cases hc : l.length < 2 ∨ ahd T n p = true
    · rw [if_pos hc] at h
      cases hn : pnum T n 0 hi p with
      | inl f => rw [hn] at h; cases h
      | inr w =>
        obtain ⟨e1, v, q⟩ := w
        have ho := pnum_ok hp hn
        rw [hn] at h
        dsimp only at h
        by_cases hv : v ∈ l
        · rw [if_pos hv] at h; cases h
        · rw [if_neg hv] at h
          have := ih (l ++ [v]) e1 e l' ho.1 ⟨fun x hx => by
            rw [List.mem_append, List.mem_singleton] at hx
            rcases hx with hx | hx
            · exact hl.1 x hx
            · omega, by
            rw [List.pairwise_append]
            refine ⟨hl.2, List.pairwise_singleton _ _, fun x hx y hy => ?_⟩
            rw [List.mem_singleton.mp hy]
            exact fun q => hv (by rw [← q]; exact hx)⟩ (by rw [List.length_append]; show f + (l.length + 1) = 12; omega) h
          exact ⟨this.1, this.2.1, this.2.2.1, this.2.2.2.1, by omega⟩
    · rw [if_neg hc] at h
      cases h
      have h3 : p ≤ sk T n p := ru_ge _ _ _
      exact ⟨sk_le hp, hl, by omega, by omega, h3⟩
/-- the ring in hand -/
def Rg (M : Mm) (l : List Nat) : Prop := ∀ i x, l[i]? = some x → M.2.1 12 i = nI x
theorem Rg.rf {M N : Mm} {l : List Nat} {ks : List Nat} (h : Rg M l) (hf : RF ks M N) : Rg N l := fun i x hi => by rw [hf.1.2.2 12 (by omega)]; exact h i x hi
theorem gof_lt {n : Nat} (hn : n ≤ 12) {l : List Nat} (h : ∀ x, x ∈ l → x < n) : gof l 0 < 4096 := lt_of_bits (n := 12) (fun i hi => by
  cases hc : (gof l 0).testBit i with
  | false => rfl
  | true =>
    rcases (gof_bit i l 0).mp hc with h1 | h1
    · simp at h1
    · have := h i h1; omega)
theorem gof_ap (l : List Nat) (x m : Nat) : gof (l ++ [x]) m = gof l m ||| 2 ^ x := by
  unfold gof
  rw [List.foldl_append]; rfl
theorem c_readRing {B : Bd} {M : Mm} {T : Nat → Nat} {n p : Nat} {s : Ps} (ok : OkM M) (h : Tx M T n) (hx : Rd M n (.inr p)) (hs : RdS M s) : Ct B mX3_readRing 4 0 0 [.ref 11, .ref 6] M (StP T n M (pring T n s p)) := by
  have hg1' : 1 ≤ s.1 ∧ s.1 ≤ 12 := hs.2.2.1.1
  refine Ct.of (by decide) rfl rfl (Nat.le_of_ble_eq_true rfl) ?_
  -- a fault was found
  have flt : ∀ N (f : Fl) (c : Nat) (t2 t4 : Option Value), Tx N T n → Fr 6 12 M N → Rd N n (.inl f) → pring T n s p = .inl f → c ≤ 12 → Ev B mX3_readRing 4 0 0 (StP T n M (pring T n s p)) 95 [some (.ref 11), some (.ref 6), t2, some (.int (nI c)), t4] [] N := by
    intro N f c t2 t4 tN fN rdN e9 hc
    have okN : OkM N := ok.fr fN
    refine e_aload_n dX3_readRing_95 rfl rfl ?_
    refine e_callV1 [] dX3_readRing_96 mvmX3_takeEnd lkRX3_66 (by exact okN.sh rfl) ⟨by decide, rfl⟩ rfl rfl (Nat.le_of_ble_eq_true rfl) (by decide) (c_takeEnd okN tN rdN) (fun u N4 h4 => ?_)
    obtain ⟨hu, rd4, rf4⟩ := h4
    subst hu
    have ok4 : OkM N4 := okN.fr rf4.1
    have rd4' : Rd N4 n (.inl f) := rd4
    have out : ∀ (t4 : Option Value), Ev B mX3_readRing 4 0 0 (StP T n M (pring T n s p)) 153 [some (.ref 11), some (.ref 6), t2, some (.int (nI c)), t4] [] N4 := by
      intro t4
      exact e_vret dX3_readRing_153 rfl ⟨none, rfl, rfl, tN.rf rf4 (by decide), fN.trans rf4.F, by rw [e9]; exact rd4'⟩
    refine e_iconst (v := 0) dX3_readRing_99 (by decide) ?_
    refine e_istore dX3_readRing_100 (by decide) rfl rfl ?_
    refine e_iload dX3_readRing_102 rfl ?_
    refine e_iload_n dX3_readRing_104 rfl rfl ?_
    refine e_icmp_ge (tgt := 153) dX3_readRing_105 (by decide) (fun hz => ?_) (fun hz => ?_)
    · exact out _
    · refine e_aload_n dX3_readRing_108 rfl rfl ?_
      refine e_getI dX3_readRing_109 fRX3_26 (by exact ok4.sh rfl) (fun _ => rfl) ?_
      refine e_if_ne (tgt := 153) dX3_readRing_112 (by decide) (fun hz2 => ?_) (fun hz2 => ?_)
      · exact out _
      · exact absurd hz2 rd4'.k
  -- the ring is read
  have fin : ∀ N e l (t4 : Option Value), Tx N T n → Fr 6 12 M N → Rd N n (.inr e) → RdS N s → Rg N l → RgOk s.1 l → 2 ≤ l.length → l.length ≤ 12 → pring T n s p = (match pend T n e with
      | .inl f => .inl f
      | .inr e2 => .inr (e2, s.1, (rgl l l.length 0 (s.1, s.2.1, fun _ => none)).2.1, s.2.2)) → Ev B mX3_readRing 4 0 0 (StP T n M (pring T n s p)) 95 [some (.ref 11), some (.ref 6), some (.int (nI (gof l 0))), some (.int (nI l.length)), t4] [] N := by
    intro N e l t4 tN fN rdN sN rg hl hl2 hl12 e8
    have okN : OkM N := ok.fr fN
    refine e_aload_n dX3_readRing_95 rfl rfl ?_
    refine e_callV1 [] dX3_readRing_96 mvmX3_takeEnd lkRX3_66 (by exact okN.sh rfl) ⟨by decide, rfl⟩ rfl rfl (Nat.le_of_ble_eq_true rfl) (by decide) (c_takeEnd okN tN rdN) (fun u N4 h4 => ?_)
    obtain ⟨hu, rd4, rf4⟩ := h4
    subst hu
    have ok4 : OkM N4 := okN.fr rf4.1
    have t4' := tN.rf rf4 (by decide)
    have s4 := sN.rf rf4 (by decide)
    have rg4 := rg.rf rf4
    simp only [bd_r] at rd4
    cases hpe : pend T n e with
    | inl f =>
      rw [hpe] at e8 rd4
      have rd4' : Rd N4 n (.inl f) := rd4
      refine e_iconst (v := 0) dX3_readRing_99 (by decide) ?_
      refine e_istore dX3_readRing_100 (by decide) rfl rfl ?_
      refine e_iload dX3_readRing_102 rfl ?_
      refine e_iload_n dX3_readRing_104 rfl rfl ?_
      refine e_icmp_ge (tgt := 153) dX3_readRing_105 (by decide) (fun hz => ?_) (fun hz => ?_)
      · exact e_vret dX3_readRing_153 rfl ⟨none, rfl, rfl, t4', fN.trans rf4.F, by rw [e8]; exact rd4'⟩
      · refine e_aload_n dX3_readRing_108 rfl rfl ?_
        refine e_getI dX3_readRing_109 fRX3_26 (by exact ok4.sh rfl) (fun _ => rfl) ?_
        refine e_if_ne (tgt := 153) dX3_readRing_112 (by decide) (fun hz2 => ?_) (fun hz2 => ?_)
        · exact e_vret dX3_readRing_153 rfl ⟨none, rfl, rfl, t4', fN.trans rf4.F, by rw [e8]; exact rd4'⟩
        · exact absurd hz2 rd4'.k
    | inr e2 =>
      rw [hpe] at e8 rd4
      have rd4' : Rd N4 n (.inr e2) := rd4
      have hm : rgl l l.length 0 (s.1, s.2.1, (pmt s.2.2).1) = (s.1, (rgl l l.length 0 (s.1, s.2.1, fun _ => none)).2.1, (pmt s.2.2).1) := rgl_m l s.1 _ _ _ _ _
      refine e_iconst (v := 0) dX3_readRing_99 (by decide) ?_
      refine e_istore dX3_readRing_100 (by decide) rfl rfl ?_
      have loop : ∀ j i K g, i + j = l.length → Fr 6 9 N4 K → NetRep K 6 g → Wfn g → g.1 = s.1 → rgl l j i g = rgl l l.length 0 (s.1, s.2.1, (pmt s.2.2).1) → Ev B mX3_readRing 4 0 0 (StP T n M (pring T n s p)) 102 [some (.ref 11), some (.ref 6), some (.int (nI (gof l 0))), some (.int (nI l.length)), some (.int (nI i))] [] K := by
        intro j
        induction j with
        | zero =>
          intro i K g hij hf hg wf hg1 hr
          have hr' : g = rgl l l.length 0 (s.1, s.2.1, (pmt s.2.2).1) := hr
          rw [hm] at hr'
          refine e_iload dX3_readRing_102 rfl ?_
          refine e_iload_n dX3_readRing_104 rfl rfl ?_
          refine e_icmp_ge (tgt := 153) dX3_readRing_105 (by decide) (fun hz => ?_) (fun hz => ?_)
          · refine e_vret dX3_readRing_153 rfl ⟨none, rfl, rfl, t4'.fr hf, (fN.trans rf4.F).trans (hf.wide (by decide) (by decide)), ?_⟩
            rw [e8]
            refine ⟨rd4'.fr hf, ?_, by rw [hf.2.2 11 (by omega)]; exact s4.2.1, ?_, s4.2.2.2⟩
            · rw [hr'] at hg; exact hg
            · rw [hr'] at wf; exact wf
          · exact absurd (nI_le (by omega) (by omega)) hz
        | succ j ih =>
          intro i K g hij hf hg wf hg1 hr
          have okK : OkM K := ok4.fr hf
          have e11 := hf.2.2 11 (by omega)
          have e12 := hf.2.2 12 (by omega)
          have hil : i < l.length := by omega
          have g1 : l[i]? = some l[i] := List.getElem?_eq_getElem hil
          have hx1 := hl.1 l[i] (List.getElem_mem hil)
          have d1 : l.getD i 0 = l[i] := by rw [List.getD_eq_getElem?_getD, g1]; rfl
          have k0 : K.2.1 11 0 = 0 := by rw [e11]; exact rd4'.2.1
          have r1 := rg4 i _ g1
          rw [← e12] at r1
          refine e_iload dX3_readRing_102 rfl ?_
          refine e_iload_n dX3_readRing_104 rfl rfl ?_
          refine e_icmp_ge (tgt := 153) dX3_readRing_105 (by decide) (fun hz => ?_) (fun hz => ?_)
          · exact absurd hz (nI_ge hil (by omega))
          · refine e_aload_n dX3_readRing_108 rfl rfl ?_
            refine e_getI dX3_readRing_109 fRX3_26 (by exact okK.sh rfl) (fun _ => rfl) ?_
            refine e_if_ne (tgt := 153) dX3_readRing_112 (by decide) (fun hz2 => ?_) (fun hz2 => ?_)
            · exact absurd k0 hz2
            · refine e_aload_n dX3_readRing_115 rfl rfl ?_
              refine e_aload_n dX3_readRing_116 rfl rfl ?_
              refine e_getR dX3_readRing_117 fRX3_9 (by exact okK.sh rfl) (by exact okK.rf rfl) (fun _ => rfl) ?_
              refine e_iload dX3_readRing_120 rfl ?_
              refine e_iaload dX3_readRing_122 (by exact okK.sh rfl) (by first | exact vp_in_nI (show i < 12 by omega) (by decide) | exact vp_in_nI (show i + 1 < 12 by omega) (by decide) | exact vp_in_nI (n := 0) (N := 12) (by decide) (by decide)) ?_
              rw [nI_clamp (by omega), r1]
              refine e_aload_n dX3_readRing_123 rfl rfl ?_
              refine e_getR dX3_readRing_124 fRX3_9 (by exact okK.sh rfl) (by exact okK.rf rfl) (fun _ => rfl) ?_
              refine e_iload dX3_readRing_127 rfl ?_
              refine e_iconst (v := 1) dX3_readRing_129 (by decide) ?_
              refine e_iadd dX3_readRing_130 ?_
              rw [nI_1]
              refine e_iload_n dX3_readRing_131 rfl rfl ?_
              have go : ∀ i2, i2 < l.length → i2 ≠ i → (if i + 1 < l.length then i + 1 else 0) = i2 → Ev B mX3_readRing 4 0 0 (StP T n M (pring T n s p)) 143 [some (.ref 11), some (.ref 6), some (.int (nI (gof l 0))), some (.int (nI l.length)), some (.int (nI i))] [.int (nI i2), .ref 12, .int (nI l[i]), .ref 6] K := by
                intro i2 hi2 hne hif
                have g2 : l[i2]? = some l[i2] := List.getElem?_eq_getElem hi2
                have hx2 := hl.1 l[i2] (List.getElem_mem hi2)
                have d2 : l.getD i2 0 = l[i2] := by rw [List.getD_eq_getElem?_getD, g2]; rfl
                have r2 := rg4 i2 _ g2
                rw [← e12] at r2
                have hne2 : l[i] ≠ l[i2] := by
                  rcases Nat.lt_trichotomy i i2 with q | q | q
                  · exact List.pairwise_iff_getElem.mp hl.2 i i2 hil hi2 q
                  · exact absurd q.symm hne
                  · exact fun z => List.pairwise_iff_getElem.mp hl.2 i2 i hi2 hil q z.symm
                refine e_iaload dX3_readRing_143 (by exact okK.sh rfl) (by exact vp_in_nI (show i2 < 12 by omega) (by decide)) ?_
                rw [nI_clamp (by omega), r2]
                refine e_callV1 [_, _] dX3_readRing_144 mvmX1_putLineIfNone lkRX3_111 (by exact okK.sh rfl) ⟨by decide, rfl⟩ rfl rfl (Nat.le_of_ble_eq_true rfl) (by decide) (c_putLineIfNone hg wf.2.1 (by omega) (by omega) hne2) (fun u K2 h2 => ?_)
                obtain ⟨hu, q1, q2⟩ := h2
                subst hu
                have q1' : NetRep K2 6 (pIN g l[i] l[i2]) := q1
                obtain ⟨w1, w2, w3⟩ := pIN_wf wf (by omega : l[i] < g.1) (by omega : l[i2] < g.1) hne2
                refine e_iinc (v := nI (i + 1)) dX3_readRing_147 rfl (nI_1 i) (by decide) rfl rfl ?_
                refine e_goto (tgt := 102) dX3_readRing_150 (by decide) ?_
                refine ih (i + 1) K2 (pIN g l[i] l[i2]) (by omega) (hf.trans q2) q1' w1 (w2.trans hg1) ?_
                rw [← hr]
                show _ = rgl l j (i + 1) (pIN g (l.getD i 0) (l.getD (if i + 1 < l.length then i + 1 else 0) 0))
                rw [hif, d1, d2]
              refine e_icmp_ge (tgt := 142) dX3_readRing_132 (by decide) (fun hz3 => ?_) (fun hz3 => ?_)
              · have hge : ¬ i + 1 < l.length := fun q => absurd hz3 (nI_ge q (by omega))
                refine e_iconst (v := 0) dX3_readRing_142 (by decide) ?_
                exact go 0 (by omega) (by omega) (if_neg hge)
              · have hlt : i + 1 < l.length := Classical.byContradiction (fun q => hz3 (nI_le (by omega) (by omega)))
                refine e_iload dX3_readRing_135 rfl ?_
                refine e_iconst (v := 1) dX3_readRing_137 (by decide) ?_
                refine e_iadd dX3_readRing_138 ?_
                rw [nI_1]
                refine e_goto (tgt := 143) dX3_readRing_139 (by decide) ?_
                exact go (i + 1) hlt (by omega) (if_pos hlt)
      exact loop l.length 0 N4 (s.1, s.2.1, (pmt s.2.2).1) (by omega) Fr.rf s4.1 s4.2.2.1 rfl rfl
  -- reading
  have loop : ∀ f l q N (t4 : Option Value), f + l.length = 12 → Tx N T n → Fr 6 12 M N → Rd N n (.inr q) → RdS N s → Rg N l → RgOk s.1 l → prng T n (s.1 - 1) f l q = prng T n (s.1 - 1) 12 [] p → Ev B mX3_readRing 4 0 0 (StP T n M (pring T n s p)) 4 [some (.ref 11), some (.ref 6), some (.int (nI (gof l 0))), some (.int (nI l.length)), t4] [] N := by
    intro f
    induction f with
    | zero =>
      intro l q N t4 hfl tN fN rdN sN rg hl hpr
      have okN : OkM N := ok.fr fN
      have hp' : prng T n (s.1 - 1) 12 [] p = .inr (q, l) := hpr.symm
      refine e_iload_n dX3_readRing_4 rfl rfl ?_
      refine e_bipush (v := 12) dX3_readRing_5 (by decide) ?_
      refine e_icmp_ge (tgt := 95) dX3_readRing_7 (by decide) (fun hz => ?_) (fun hz => ?_)
      · refine fin N q l _ tN fN rdN sN rg hl (by omega) (by omega) ?_
        unfold pring
        rw [hp']; rfl
      · exact absurd (nI_le (a := 12) (by omega) (by omega)) hz
    | succ f ih =>
      intro l q N t4 hfl tN fN rdN sN rg hl hpr
      have okN : OkM N := ok.fr fN
      have hgl := gof_lt hg1'.2 hl.1
      refine e_iload_n dX3_readRing_4 rfl rfl ?_
      refine e_bipush (v := 12) dX3_readRing_5 (by decide) ?_
      refine e_icmp_ge (tgt := 95) dX3_readRing_7 (by decide) (fun hz => ?_) (fun hz => ?_)
      · exact absurd hz (nI_ge (b := 12) (by omega) (by decide))
      · refine e_aload_n dX3_readRing_10 rfl rfl ?_
        refine e_getI dX3_readRing_11 fRX3_26 (by exact okN.sh rfl) (fun _ => rfl) ?_
        refine e_if_ne (tgt := 95) dX3_readRing_14 (by decide) (fun hz2 => ?_) (fun hz2 => ?_)
        · exact absurd rdN.2.1 hz2
        · -- one number more
          have more : ∀ K q2, Tx K T n → Fr 6 12 M K → Rd K n (.inr q2) → RdS K s → Rg K l → pnum T n 0 (s.1 - 1) q2 = pnum T n 0 (s.1 - 1) q → (l.length < 2 ∨ ahd T n q = true) → Ev B mX3_readRing 4 0 0 (StP T n M (pring T n s p)) 29 [some (.ref 11), some (.ref 6), some (.int (nI (gof l 0))), some (.int (nI l.length)), t4] [] K := by
            intro K q2 tK fK rdK sK rgK hqq hc
            have okK : OkM K := ok.fr fK
            have hpr2 : (match pnum T n 0 (s.1 - 1) q with
                | .inl e => .inl e
                | .inr (e, v, q) => if v ∈ l then .inl (2, q) else prng T n (s.1 - 1) f (l ++ [v]) e) = prng T n (s.1 - 1) 12 [] p := by
              rw [← hpr]
              show _ = (if l.length < 2 ∨ ahd T n q = true then _ else _)
              rw [if_pos hc]
              rfl
            refine e_aload_n dX3_readRing_29 rfl rfl ?_
            refine e_iconst (v := 0) dX3_readRing_30 (by decide) ?_
            refine e_aload_n dX3_readRing_31 rfl rfl ?_
            refine e_getI dX3_readRing_32 fRX3_92 (by exact okK.sh rfl) (fun _ => rfl) ?_
            rw [sK.1.2.1]
            refine e_iconst (v := 1) dX3_readRing_35 (by decide) ?_
            refine e_isub dX3_readRing_36 ?_
            rw [nI_m1 hg1'.1]
            refine e_callV1 [_, _] dX3_readRing_37 mvmX3_takeNumber lkRX3_62 (by exact okK.sh rfl) ⟨by decide, rfl⟩ rfl rfl (Nat.le_of_ble_eq_true rfl) (by decide) (c_takeNumber (lo := 0) (hi := s.1 - 1) okK tK rdK (by decide) (by omega)) (fun u K1 h1 => ?_)
            obtain ⟨r1, hu, rd1, rf1, v1⟩ := h1
            subst hu
            have ok1 : OkM K1 := okK.fr rf1.1
            have t1 := tK.rf rf1 (by decide)
            have s1 := sK.rf rf1 (by decide)
            have rg1 := rgK.rf rf1
            have f1 := fK.trans rf1.F
            simp only [bd_r] at rd1
            rw [hqq] at rd1
            -- behind a fault
            have bad : ∀ K2 (fa : Fl) (t2 : Option Value), Tx K2 T n → Fr 6 12 M K2 → Rd K2 n (.inl fa) → prng T n (s.1 - 1) 12 [] p = .inl fa → Ev B mX3_readRing 4 0 0 (StP T n M (pring T n s p)) 67 [some (.ref 11), some (.ref 6), some (.int (nI (gof l 0))), some (.int (nI l.length)), t2] [] K2 := by
              intro K2 fa t2 tK2 fK2 rdK2 e9
              have okK2 : OkM K2 := ok.fr fK2
              have e10 : pring T n s p = .inl fa := by unfold pring; rw [e9]
              refine e_aload_n dX3_readRing_67 rfl rfl ?_
              refine e_getI dX3_readRing_68 fRX3_26 (by exact okK2.sh rfl) (fun _ => rfl) ?_
              refine e_if_ne (tgt := 89) dX3_readRing_71 (by decide) (fun hz4 => ?_) (fun hz4 => ?_)
              · refine e_iinc (v := nI (l.length + 1)) dX3_readRing_89 rfl (nI_1 _) (by decide) rfl rfl ?_
                refine e_goto (tgt := 4) dX3_readRing_92 (by decide) ?_
                refine e_iload_n dX3_readRing_4 rfl rfl ?_
                refine e_bipush (v := 12) dX3_readRing_5 (by decide) ?_
                refine e_icmp_ge (tgt := 95) dX3_readRing_7 (by decide) (fun hz5 => ?_) (fun hz5 => ?_)
                · exact flt K2 fa _ _ _ tK2 fK2 rdK2 e10 (by omega)
                · refine e_aload_n dX3_readRing_10 rfl rfl ?_
                  refine e_getI dX3_readRing_11 fRX3_26 (by exact okK2.sh rfl) (fun _ => rfl) ?_
                  refine e_if_ne (tgt := 95) dX3_readRing_14 (by decide) (fun hz6 => ?_) (fun hz6 => ?_)
                  · exact flt K2 fa _ _ _ tK2 fK2 rdK2 e10 (by omega)
                  · exact absurd hz6 rdK2.k
              · exact absurd hz4 rdK2.k
            cases hp3 : pnum T n 0 (s.1 - 1) q with
            | inl fa =>
              rw [hp3] at rd1 hpr2
              have rd1' : Rd K1 n (.inl fa) := rd1
              refine e_istore dX3_readRing_40 (by decide) rfl rfl ?_
              refine e_aload_n dX3_readRing_42 rfl rfl ?_
              refine e_getI dX3_readRing_43 fRX3_26 (by exact ok1.sh rfl) (fun _ => rfl) ?_
              refine e_if_ne (tgt := 67) dX3_readRing_46 (by decide) (fun hz3 => ?_) (fun hz3 => ?_)
              · exact bad K1 fa _ t1 f1 rd1' hpr2.symm
              · exact absurd hz3 rd1'.k
            | inr w =>
              obtain ⟨e1, v, q1⟩ := w
              have ho := pnum_ok rdN.1 hp3
              rw [hp3] at rd1 hpr2
              dsimp only at hpr2
              have rd1' : Rd K1 n (.inr e1) := rd1
              obtain ⟨vv, n5⟩ := v1 q2 e1 v q1 rfl (by rw [hqq]; exact hp3)
              rw [vv]
              refine e_istore dX3_readRing_40 (by decide) rfl rfl ?_
              refine e_aload_n dX3_readRing_42 rfl rfl ?_
              refine e_getI dX3_readRing_43 fRX3_26 (by exact ok1.sh rfl) (fun _ => rfl) ?_
              refine e_if_ne (tgt := 67) dX3_readRing_46 (by decide) (fun hz3 => ?_) (fun hz3 => ?_)
              · exact absurd rd1'.2.1 hz3
              · refine e_iload_n dX3_readRing_49 rfl rfl ?_
                refine e_iload dX3_readRing_50 rfl ?_
                refine e_callN0i [_, _] dX3_readRing_52 msmX5_hasBit nest_3 rfl rfl (Nat.le_of_ble_eq_true rfl) (by decide) (c_hasBit (k := gof l 0) (j := v) (by omega) (by omega)) ?_
                have hgb := gof_bit v l 0
                by_cases hv : v ∈ l
                · rw [if_pos hv] at hpr2
                  rw [if_pos (hgb.mpr (Or.inr hv))]
                  refine e_if_eq (tgt := 67) dX3_readRing_55 (by decide) (fun hz4 => ?_) (fun hz4 => ?_)
                  · exact absurd hz4 (by decide)
                  · refine e_aload_n dX3_readRing_58 rfl rfl ?_
                    refine e_iconst (v := 2) dX3_readRing_59 (by decide) ?_
                    refine e_aload_n dX3_readRing_60 rfl rfl ?_
                    refine e_getI dX3_readRing_61 fRX3_108 (by exact ok1.sh rfl) (fun _ => rfl) ?_
                    rw [n5]
                    refine e_callV0v [_, _] dX3_readRing_64 mvmX3_fail lkRX3_52 (by exact ok1.sh rfl) ⟨by decide, rfl⟩ rfl rfl (Nat.le_of_ble_eq_true rfl) (by decide) (c_fail ok1) ?_
                    rw [if_pos rd1'.2.1]
                    have rff : RF [0, 1] K1 (sI (sI K1 11 0 2) 11 1 (nI q1)) := (RF.rf.s (by decide)).s (by decide)
                    exact bad _ (2, q1) _ (t1.rf rff (by decide)) (f1.trans rff.F) (Rd.fl rd1'.1 rd1'.2.2.2 ⟨by decide, by decide, ho.2.2.2.1⟩ rfl) hpr2.symm
                · rw [if_neg hv] at hpr2
                  rw [if_neg (fun q => hv (by
                    rcases hgb.mp q with q | q
                    · simp at q
                    · exact q))]
                  refine e_if_eq (tgt := 67) dX3_readRing_55 (by decide) (fun hz4 => ?_) (fun hz4 => ?_)
                  · refine e_aload_n dX3_readRing_67 rfl rfl ?_
                    refine e_getI dX3_readRing_68 fRX3_26 (by exact ok1.sh rfl) (fun _ => rfl) ?_
                    refine e_if_ne (tgt := 89) dX3_readRing_71 (by decide) (fun hz5 => ?_) (fun hz5 => ?_)
                    · exact absurd rd1'.2.1 hz5
                    · refine e_iload_n dX3_readRing_74 rfl rfl ?_
                      refine e_iconst (v := 1) dX3_readRing_75 (by decide) ?_
                      refine e_iload dX3_readRing_76 rfl ?_
                      refine e_ishl dX3_readRing_78 ?_
                      rw [shl_1 (by omega)]
                      refine e_ior dX3_readRing_79 ?_
                      rw [fa_or, ← gof_ap]
                      refine e_istore_n dX3_readRing_80 rfl (by decide) rfl rfl ?_
                      refine e_aload_n dX3_readRing_81 rfl rfl ?_
                      refine e_getR dX3_readRing_82 fRX3_9 (by exact ok1.sh rfl) (by exact ok1.rf rfl) (fun _ => rfl) ?_
                      refine e_iload_n dX3_readRing_85 rfl rfl ?_
                      refine e_iload dX3_readRing_86 rfl ?_
                      refine e_iastore dX3_readRing_88 (by exact ok1.sh rfl) (by exact vp_in_nI (show l.length < 12 by omega) (by decide)) ?_
                      rw [nI_clamp (by omega)]
                      generalize hK2 : sI K1 12 l.length (nI v) = K2
                      have f2 : Fr 12 12 K1 K2 := by rw [← hK2]; exact Fr.rf.sI (by decide) (by decide)
                      have e11 := f2.2.2 11 (by omega)
                      refine e_iinc (v := nI (l ++ [v]).length) dX3_readRing_89 rfl (by rw [List.length_append]; exact nI_1 l.length) (by decide) rfl rfl ?_
                      refine e_goto (tgt := 4) dX3_readRing_92 (by decide) ?_
                      refine ih (l ++ [v]) e1 K2 _ (by rw [List.length_append]; show f + (l.length + 1) = 12; omega) ?_ (f1.trans (f2.wide (by decide) (by decide))) ?_ ?_ ?_ ?_ hpr2
                      · obtain ⟨a, b, c, d, e⟩ := t1
                        exact ⟨by rw [f2.2.1]; exact a, by rw [e11]; exact b, c, d, fun i hi => by rw [f2.2.2 1 (by omega)]; exact e i hi⟩
                      · unfold Rd; rw [e11]; exact rd1'
                      · exact ⟨s1.1.fr f2 (by omega), by rw [e11]; exact s1.2.1, s1.2.2⟩
                      · intro i x hi
                        rw [← hK2]
                        rcases Nat.lt_trichotomy i l.length with h1 | h1 | h1
                        · rw [List.getElem?_append_left h1] at hi
                          rw [rd_ni (by omega)]; exact rg1 i x hi
                        · subst h1
                          rw [List.getElem?_append_right (Nat.le_refl _), Nat.sub_self] at hi
                          have : x = v := (Option.some.inj hi).symm
                          rw [this, rd_self]
                        · rw [List.getElem?_eq_none (by simp; omega)] at hi; cases hi
                      · refine ⟨fun x hx => ?_, ?_⟩
                        · rw [List.mem_append, List.mem_singleton] at hx
                          rcases hx with hx | hx
                          · exact hl.1 x hx
                          · omega
                        · rw [List.pairwise_append]
                          refine ⟨hl.2, List.pairwise_singleton _ _, fun x hx y hy => ?_⟩
                          rw [List.mem_singleton.mp hy]
                          exact fun q => hv (by rw [← q]; exact hx)
                  · exact absurd rfl hz4
          refine e_iload_n dX3_readRing_17 rfl rfl ?_
          refine e_iconst (v := 2) dX3_readRing_18 (by decide) ?_
          refine e_icmp_lt (tgt := 29) dX3_readRing_19 (by decide) (fun hz3 => ?_) (fun hz3 => ?_)
          · have hlt := (nI_lt_iff (b := 2) (by omega) (by decide)).mp hz3
            exact more N q tN fN rdN sN rg rfl (Or.inl hlt)
          · have hge : ¬ l.length < 2 := fun q => hz3 ((nI_lt_iff (b := 2) (by omega) (by decide)).mpr q)
            refine e_aload_n dX3_readRing_22 rfl rfl ?_
            refine e_callV1 [] dX3_readRing_23 mvmX3_isNumberAhead lkRX3_97 (by exact okN.sh rfl) ⟨by decide, rfl⟩ rfl rfl (Nat.le_of_ble_eq_true rfl) (by decide) (c_isNumberAhead okN tN rdN.2.2.2 rdN.1) (fun u N2 h2 => ?_)
            obtain ⟨hu, a2, rf2⟩ := h2
            subst hu
            have t2 := tN.rf rf2 (by decide)
            have s2 := sN.rf rf2 (by decide)
            have rd2 : Rd N2 n (.inr (sk T n q)) := rdN.go (rf2.wide (by decide)) (sk_le rdN.1) a2
            by_cases ha : ahd T n q = true
            · rw [if_pos ha]
              refine e_if_eq (tgt := 95) dX3_readRing_26 (by decide) (fun hz4 => ?_) (fun hz4 => ?_)
              · exact absurd hz4 (by decide)
              · exact more N2 (sk T n q) t2 (fN.trans rf2.F) rd2 s2 (rg.rf rf2) (pnum_sk _ _ _ _ _) (Or.inr ha)
            · rw [if_neg ha]
              have hp' : prng T n (s.1 - 1) 12 [] p = .inr (sk T n q, l) := by
                rw [← hpr]
                show (if l.length < 2 ∨ ahd T n q = true then _ else _) = _
                rw [if_neg (fun z => z.elim hge ha)]
              refine e_if_eq (tgt := 95) dX3_readRing_26 (by decide) (fun hz4 => ?_) (fun hz4 => ?_)
              · refine fin N2 (sk T n q) l _ t2 (fN.trans rf2.F) rd2 s2 (rg.rf rf2) hl (by omega) (by omega) ?_
                unfold pring
                rw [hp']; rfl
              · exact absurd rfl hz4
  refine e_iconst (v := 0) dX3_readRing_0 (by decide) ?_
  refine e_istore_n dX3_readRing_1 rfl (by decide) rfl rfl ?_
  refine e_iconst (v := 0) dX3_readRing_2 (by decide) ?_
  refine e_istore_n dX3_readRing_3 rfl (by decide) rfl rfl ?_
  exact loop 12 [] p M none rfl h Fr.rf hx hs (fun i x hi => by simp at hi) ⟨fun x hx => by simp at hx, List.Pairwise.nil⟩ rfl

