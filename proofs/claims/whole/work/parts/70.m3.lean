/-! the Model reads statements -/
theorem pnb_0 (T : Nat → Nat) (n lo hi p : Nat) : pnb T n lo hi 0 p = pnum T n lo hi p := by
  unfold pnb
  cases pnum T n lo hi p with
  | inl f => rfl
  | inr w =>
    obtain ⟨e, v, q⟩ := w
    show (if v < 12 ∧ Nat.testBit 0 v = true then _ else _) = _
    rw [if_neg (by simp)]
theorem pnb_2 {T : Nat → Nat} {n hi a p : Nat} (hh : hi < 12) (hp : p ≤ n) : pnb T n 0 hi (2 ^ a) p = (match pnum T n 0 hi p with
    | .inl e => .inl e
    | .inr (e, b, q) => if a = b then .inl (2, q) else .inr (e, b, q)) := by
  unfold pnb
  cases hq : pnum T n 0 hi p with
  | inl f => rfl
  | inr w =>
    obtain ⟨e, v, q⟩ := w
    have ho := pnum_ok hp hq
    show (if v < 12 ∧ (2 ^ a).testBit v = true then _ else _) = (if a = v then _ else _)
    rw [Nat.testBit_two_pow]
    by_cases h : a = v
    · rw [if_pos h, if_pos ⟨by omega, decide_eq_true h⟩]
    · rw [if_neg h, if_neg (fun z => h (of_decide_eq_true z.2))]
theorem pnb_l {T : Nat → Nat} {n hi p : Nat} {l : List Nat} (hh : hi < 12) (hp : p ≤ n) : pnb T n 0 hi (gof l 0) p = (match pnum T n 0 hi p with
    | .inl e => .inl e
    | .inr (e, b, q) => if b ∈ l then .inl (2, q) else .inr (e, b, q)) := by
  unfold pnb
  cases hq : pnum T n 0 hi p with
  | inl f => rfl
  | inr w =>
    obtain ⟨e, v, q⟩ := w
    have ho := pnum_ok hp hq
    have hg : (gof l 0).testBit v = true ↔ v ∈ l := by rw [gof_bit]; simp
    show (if v < 12 ∧ (gof l 0).testBit v = true then _ else _) = (if v ∈ l then _ else _)
    by_cases h : v ∈ l
    · rw [if_pos h, if_pos ⟨by omega, hg.mpr h⟩]
    · rw [if_neg h, if_neg (fun z => h (hg.mp z.2))]
/-- lines from node to node along a list -/
def conn (g : Nw) : List Nat → Nw
  | x :: y :: l => conn (pIN g x y) (y :: l)
  | _ => g
def lastD (l : List Nat) : Nat := l.getLastD 0
theorem conn_ap : ∀ (l : List Nat) (g : Nw) (v : Nat), l ≠ [] → conn g (l ++ [v]) = pIN (conn g l) (lastD l) v
  | [], _, _, h => absurd rfl h
  | [x], g, v, _ => rfl
  | x :: y :: l, g, v, _ => by
    show conn (pIN g x y) ((y :: l) ++ [v]) = pIN (conn (pIN g x y) (y :: l)) _ v
    rw [conn_ap (y :: l) (pIN g x y) v (by simp)]
    congr 1
theorem rgl_conn (l : List Nat) : ∀ k i g, i + k = l.length → 0 < k → rgl l k i g = pIN (conn g (l.drop i)) (lastD l) (l.getD 0 0) := by
  intro k
  induction k with
  | zero => intro i g _ h; omega
  | succ k ih =>
    intro i g hik _
    have hil : i < l.length := by omega
    have d1 : l.getD i 0 = l[i] := by rw [List.getD_eq_getElem?_getD, List.getElem?_eq_getElem hil]; rfl
    by_cases hk : k = 0
    · subst hk
      have hi1 : i + 1 = l.length := by omega
      show rgl l 0 (i + 1) (pIN g (l.getD i 0) (l.getD (if i + 1 < l.length then i + 1 else 0) 0)) = _
      rw [if_neg (by omega)]
      show pIN g (l.getD i 0) (l.getD 0 0) = _
      rw [List.drop_eq_getElem_cons hil, List.drop_eq_nil_of_le (by omega)]
      show _ = pIN g (lastD l) (l.getD 0 0)
      congr 1
      unfold lastD
      rw [List.getLastD_eq_getLast?, List.getLast?_eq_getElem?, show l.length - 1 = i by omega, List.getD_eq_getElem?_getD]
    · have hil2 : i + 1 < l.length := by omega
      have d2 : l.getD (i + 1) 0 = l[i + 1] := by rw [List.getD_eq_getElem?_getD, List.getElem?_eq_getElem hil2]; rfl
      show rgl l k (i + 1) (pIN g (l.getD i 0) (l.getD (if i + 1 < l.length then i + 1 else 0) 0)) = _
      rw [if_pos hil2, ih (i + 1) _ (by omega) (by omega)]
      congr 1
      rw [List.drop_eq_getElem_cons hil, List.drop_eq_getElem_cons hil2, d1, d2]
      rfl
theorem conn_wf {n : Nat} : ∀ (l : List Nat) (g : Nw), Wfn g → g.1 = n → RgOk n l → Wfn (conn g l) ∧ (conn g l).1 = n ∧ (conn g l).2.2 = g.2.2
  | [], g, h, hn, _ => ⟨h, hn, rfl⟩
  | [x], g, h, hn, _ => ⟨h, hn, rfl⟩
  | x :: y :: l, g, h, hn, hl => by
    have hx := hl.1 x (by simp)
    have hy := hl.1 y (by simp)
    have hp := hl.2
    rw [List.pairwise_cons] at hp
    have hxy : x ≠ y := hp.1 y (by simp)
    obtain ⟨w1, w2, w3⟩ := pIN_wf h (by omega : x < g.1) (by omega : y < g.1) hxy
    obtain ⟨c1, c2, c3⟩ := conn_wf (y :: l) (pIN g x y) w1 (w2.trans hn) ⟨fun z hz => hl.1 z (List.mem_cons_of_mem _ hz), hp.2⟩
    exact ⟨c1, c2, c3.trans w3⟩
theorem lastD_ap (l : List Nat) (v : Nat) : lastD (l ++ [v]) = v := by
  unfold lastD
  rw [List.getLastD_eq_getLast?, List.getLast?_append]
  simp
theorem lastD_mem {l : List Nat} (h : l ≠ []) : lastD l ∈ l := by
  unfold lastD
  rw [List.getLastD_eq_getLast?, List.getLast?_eq_some_getLast h]
  exact List.getLast_mem h
theorem headD_mem {l : List Nat} (h : l ≠ []) : l.getD 0 0 ∈ l := by
  cases l with
  | nil => exact absurd rfl h
  | cons x l => exact List.mem_cons_self ..
/-- what reading a ring leaves -/
def RgP (T : Nat → Nat) (n : Nat) (s : Ps) (p : Nat) (M : Mm) : Ot → Mm → Prop := Rt (fun u N => u = none ∧ MT N T n ∧ Fr 60 64 M N ∧ (∀ j, j ∉ [4, 6, 7] → N.2.1 60 j = M.2.1 60 j) ∧ (∀ b, b ≠ 60 → b ≠ 64 → N.2.1 b = M.2.1 b) ∧ match prng T n (s.1 - 1) 12 [] p with
  | .inl f => Mrd N n (.inl f)
  | .inr (e, l) => (∃ f, Mrd N n (.inl f) ∧ pend T n e = .inl f) ∨ (∃ e2, Mrd N n (.inr e2) ∧ pend T n e2 = pend T n e ∧ NowR N 64 (s.1, (rgl l l.length 0 (s.1, s.2.1, fun _ => none)).2.1, fun _ => none)))
theorem c_readsRing {B : Bd} {M : Mm} {T : Nat → Nat} {n p : Nat} {s : Ps} (ok : OkM M) (h : MT M T n) (hx : Mrd M n (.inr p)) (hs : MS M s) : Ct B mX6_readsRing 4 0 0 [.ref 60] M (RgP T n s p M) := by
  have hn := h.2.1
  have wf0 : Wfn (s.1, s.2.1, (pmt s.2.2).1) := hs.2.2.2.2.1
  have wf : Wfn (s.1, s.2.1, fun _ => none) := ⟨wf0.1, wf0.2.1, wf0.2.2.1, wf0.2.2.2.1, fun a b h => by cases h⟩
  have hg1' : 1 ≤ s.1 ∧ s.1 ≤ 12 := wf.1
  have hg12 : s.1 ≤ 12 := hg1'.2
  refine Ct.of (by decide) rfl rfl (Nat.le_of_ble_eq_true rfl) ?_
  refine e_aload_n dX6_readsRing_0 rfl rfl ?_
  refine e_iconst (v := 0) dX6_readsRing_1 (by decide) ?_
  refine e_callV1 [_] dX6_readsRing_2 mvmX6_nodeTold lkRX6_131 (by exact ok.sh rfl) ⟨by decide, rfl⟩ rfl rfl (Nat.le_of_ble_eq_true rfl) (by decide) (c_nodeTold (bt := 0) ok h hx hs (by decide)) (fun u N1 h1 => ?_)
  obtain ⟨r1, hu, rd1, mf1, v1⟩ := h1
  subst hu
  have ok1 : OkM N1 := ok.fr mf1.1
  have t1 := h.rf mf1 (by decide)
  have s1 := hs.rf mf1 (by decide)
  simp only [bd_r, pnb_0] at rd1
  have e12 : prng T n (s.1 - 1) 12 [] p = (match pnum T n 0 (s.1 - 1) p with
      | .inl e => .inl e
      | .inr (e, v, q) => if v ∈ ([] : List Nat) then .inl (2, q) else prng T n (s.1 - 1) 11 ([] ++ [v]) e) := by
    show (if ([] : List Nat).length < 2 ∨ ahd T n p = true then _ else _) = _
    rw [if_pos (Or.inl (by decide))]; rfl
  -- a fault
  have bad : ∀ K f (L : Lc), MT K T n → Fr 60 64 M K → (∀ j, j ∉ [4, 6, 7] → K.2.1 60 j = M.2.1 60 j) → (∀ b, b ≠ 60 → b ≠ 64 → K.2.1 b = M.2.1 b) → Mrd K n (.inl f) → (prng T n (s.1 - 1) 12 [] p = .inl f ∨ ∃ e l, prng T n (s.1 - 1) 12 [] p = .inr (e, l) ∧ pend T n e = .inl f) → RgP T n s p M (.inl none) K := by
    intro K f L tK fK jK k64 rdK hp
    refine ⟨none, rfl, rfl, tK, fK, jK, k64, ?_⟩
    rcases hp with hp | ⟨e, l, hp, hq⟩
    · rw [hp]; exact rdK
    · rw [hp]; exact Or.inl ⟨f, rdK, hq⟩
  cases hp1 : pnum T n 0 (s.1 - 1) p with
  | inl f =>
    rw [hp1] at rd1 e12
    have rd1' : Mrd N1 n (.inl f) := rd1
    have hpr : prng T n (s.1 - 1) 12 [] p = .inl f := e12
    refine e_istore_n dX6_readsRing_5 rfl (by decide) rfl rfl ?_
    refine e_iload_n dX6_readsRing_6 rfl rfl ?_
    refine e_istore_n dX6_readsRing_7 rfl (by decide) rfl rfl ?_
    refine e_aload_n dX6_readsRing_8 rfl rfl ?_
    refine e_callV0i [] dX6_readsRing_9 mvmX6_fine lkRX6_94 (by exact ok1.sh rfl) ⟨by decide, rfl⟩ rfl rfl (Nat.le_of_ble_eq_true rfl) (by decide) (c_fine ok1 rd1') ?_
    refine e_if_eq (tgt := 21) dX6_readsRing_12 (by decide) (fun _ => ?_) (fun hz => absurd rfl hz)
    refine e_iconst (v := 0) dX6_readsRing_21 (by decide) ?_
    refine e_istore_n dX6_readsRing_22 rfl (by decide) rfl rfl ?_
    refine e_iconst (v := 1) dX6_readsRing_23 (by decide) ?_
    refine e_istore dX6_readsRing_24 (by decide) rfl rfl ?_
    refine e_aload_n dX6_readsRing_26 rfl rfl ?_
    refine e_callV0i [] dX6_readsRing_27 mvmX6_fine lkRX6_94 (by exact ok1.sh rfl) ⟨by decide, rfl⟩ rfl rfl (Nat.le_of_ble_eq_true rfl) (by decide) (c_fine ok1 rd1') ?_
    refine e_if_eq (tgt := 103) dX6_readsRing_30 (by decide) (fun _ => ?_) (fun hz => absurd rfl hz)
    refine e_aload_n dX6_readsRing_103 rfl rfl ?_
    refine e_callV0i [] dX6_readsRing_104 mvmX6_fine lkRX6_94 (by exact ok1.sh rfl) ⟨by decide, rfl⟩ rfl rfl (Nat.le_of_ble_eq_true rfl) (by decide) (c_fine ok1 rd1') ?_
    refine e_if_eq (tgt := 116) dX6_readsRing_107 (by decide) (fun _ => ?_) (fun hz => absurd rfl hz)
    exact e_vret dX6_readsRing_116 rfl (bad N1 f [] t1 (mf1.1.wide (by decide) (by decide)) mf1.2 (fun b h1 h2 => mf1.1.2.2 b (by omega)) rd1' (Or.inl hpr))
  | inr w =>
    obtain ⟨e1, a, q1⟩ := w
    have ho1 := pnum_ok hx.1 hp1
    have ha : a < s.1 := by omega
    have va := v1 p e1 a q1 rfl (by rw [pnb_0]; exact hp1)
    subst va
    rw [hp1] at rd1 e12
    have rd1' : Mrd N1 n (.inr e1) := rd1
    have e11 : prng T n (s.1 - 1) 12 [] p = prng T n (s.1 - 1) 11 [a] e1 := by
      rw [e12]
      show (if a ∈ ([] : List Nat) then _ else _) = _
      rw [if_neg (by simp)]; rfl
    refine e_istore_n dX6_readsRing_5 rfl (by decide) rfl rfl ?_
    refine e_iload_n dX6_readsRing_6 rfl rfl ?_
    refine e_istore_n dX6_readsRing_7 rfl (by decide) rfl rfl ?_
    refine e_aload_n dX6_readsRing_8 rfl rfl ?_
    refine e_callV0i [] dX6_readsRing_9 mvmX6_fine lkRX6_94 (by exact ok1.sh rfl) ⟨by decide, rfl⟩ rfl rfl (Nat.le_of_ble_eq_true rfl) (by decide) (c_fine ok1 rd1') ?_
    refine e_if_eq (tgt := 21) dX6_readsRing_12 (by decide) (fun hz => absurd hz (fin01_r e1)) (fun _ => ?_)
    refine e_iconst (v := 1) dX6_readsRing_15 (by decide) ?_
    refine e_iload_n dX6_readsRing_16 rfl rfl ?_
    refine e_ishl dX6_readsRing_17 ?_
    rw [shl_1 (by omega)]
    refine e_goto (tgt := 22) dX6_readsRing_18 (by decide) ?_
    refine e_istore_n dX6_readsRing_22 rfl (by decide) rfl rfl ?_
    refine e_iconst (v := 1) dX6_readsRing_23 (by decide) ?_
    refine e_istore dX6_readsRing_24 (by decide) rfl rfl ?_
    have loop : ∀ f l q N (t5 : Option Value), f + l.length = 12 → l ≠ [] → RgOk s.1 l → MT N T n → Fr 60 64 M N → (∀ j, j ∉ [4, 6, 7] → N.2.1 60 j = M.2.1 60 j) → (∀ b, b ≠ 60 → b ≠ 64 → N.2.1 b = M.2.1 b) → Mrd N n (.inr q) → NowR N 64 (conn (s.1, s.2.1, fun _ => none) l) → prng T n (s.1 - 1) f l q = prng T n (s.1 - 1) 12 [] p → Ev B mX6_readsRing 4 0 0 (RgP T n s p M) 26 [some (.ref 60), some (.int (nI (l.getD 0 0))), some (.int (nI (lastD l))), some (.int (nI (gof l 0))), some (.int (nI l.length)), t5] [] N := by
      intro f
      induction f with
      | zero =>
        intro l q N t5 hfl hl0 hl tN fN jN n64 rdN hnow hpr
        have okN : OkM N := ok.fr fN
        have hpr' : prng T n (s.1 - 1) 12 [] p = .inr (q, l) := hpr.symm
        have hsk := sk_le (T := T) rdN.1
        obtain ⟨cw1, cw2, cw3⟩ := conn_wf l _ wf rfl hl
        refine e_aload_n dX6_readsRing_26 rfl rfl ?_
        refine e_callV0i [] dX6_readsRing_27 mvmX6_fine lkRX6_94 (by exact okN.sh rfl) ⟨by decide, rfl⟩ rfl rfl (Nat.le_of_ble_eq_true rfl) (by decide) (c_fine okN rdN) ?_
        refine e_if_eq (tgt := 103) dX6_readsRing_30 (by decide) (fun hz => absurd hz (fin01_r q)) (fun _ => ?_)
        refine e_iload dX6_readsRing_33 rfl ?_
        refine e_iconst (v := 2) dX6_readsRing_35 (by decide) ?_
        refine e_icmp_lt (tgt := 49) dX6_readsRing_36 (by decide) (fun hz => ?_) (fun _ => ?_)
        · have := (nI_lt_iff (b := 2) (by omega) (by decide)).mp hz; omega
        · refine e_aload_n dX6_readsRing_39 rfl rfl ?_
          refine e_callV1 [] dX6_readsRing_40 mvmX6_here lkRX6_98 (by exact okN.sh rfl) ⟨by decide, rfl⟩ rfl rfl (Nat.le_of_ble_eq_true rfl) (by decide) (c_here okN tN rdN.2.2.2 rdN.1) (fun u N2 h2 => ?_)
          obtain ⟨hu, a2, mf2⟩ := h2
          subst hu
          have ok2 : OkM N2 := okN.fr mf2.1
          have t2 := tN.rf mf2 (by decide)
          have rd2 := rdN.go mf2 hsk a2
          show Ev _ _ _ _ _ _ 43 _ [.int (byA T n (sk T n q))] _
          refine e_callS0i [_] dX6_readsRing_43 msmX6_isDigit lkRX6_119 rfl rfl (Nat.le_of_ble_eq_true rfl) (by decide) (c_mdig (n := n) (t2.2.2.1 (sk T n q))) ?_
          have hah : (sk T n q < n ∧ isD T (sk T n q) = true) ↔ ahd T n q = true := by unfold ahd; simp
          have f2 := fN.trans (show Fr 60 64 _ _ from mf2.1.wide (by decide) (by decide))
          have j2 : ∀ j, j ∉ [4, 6, 7] → N2.2.1 60 j = M.2.1 60 j := fun j hj => (mf2.2 j (fun z => hj (by rw [List.mem_singleton.mp z]; decide))).trans (jN j hj)
          have n2 : (∀ b, b ≠ 60 → b ≠ 64 → N2.2.1 b = M.2.1 b) := fun b h1 h2 => (mf2.1.2.2 b (by omega)).trans (n64 b h1 h2)
          by_cases hd : ahd T n q = true
          · rw [if_pos (hah.mpr hd)]
            have hpe : pend T n q = .inl (1, sk T n q) := by
              unfold pend
              rw [if_neg]
              intro z
              have := (hah.mpr hd).2
              unfold isD at this
              rw [z.2] at this
              exact absurd this (by decide)
            refine e_if_eq (tgt := 103) dX6_readsRing_46 (by decide) (fun hz => absurd hz (by decide)) (fun _ => ?_)
            refine e_iload dX6_readsRing_49 rfl ?_
            refine e_bipush (v := 12) dX6_readsRing_51 (by decide) ?_
            have h12 : l.length = 12 := by omega
            refine e_icmp_ne (tgt := 65) dX6_readsRing_53 (by decide) (fun hz => absurd (by rw [h12]; rfl) hz) (fun _ => ?_)
            refine e_aload_n dX6_readsRing_56 rfl rfl ?_
            refine e_iconst (v := 1) dX6_readsRing_57 (by decide) ?_
            refine e_aload_n dX6_readsRing_58 rfl rfl ?_
            refine e_getI dX6_readsRing_59 fRX6_81 (by exact ok2.sh rfl) (fun _ => rfl) ?_
            rw [a2]
            refine e_callV0v [_, _] dX6_readsRing_62 mvmX6_wrong lkRX6_115 (by exact ok2.sh rfl) ⟨by decide, rfl⟩ rfl rfl (Nat.le_of_ble_eq_true rfl) (by decide) (c_wrong ok2) ?_
            rw [if_pos rd2.2.1]
            generalize hK : sI (sI N2 60 6 1) 60 7 (nI (sk T n q)) = K
            have mfK : MF [6, 7] N2 K := by rw [← hK]; exact (MF.rf.s (by decide)).s (by decide)
            have okK : OkM K := ok2.fr mfK.1
            have tK := t2.rf mfK (by decide)
            have rdK : Mrd K n (.inl (1, sk T n q)) := Mrd.fl ⟨by decide, by decide, hsk⟩ hK.symm
            have sK : MS K s → True := fun _ => trivial
            have nowK : NowR K 64 (conn (s.1, s.2.1, fun _ => none) l) := (hnow.fr mf2.1 (by omega)).fr mfK.1 (by omega)
            -- the node behind it: nothing is read
            have ms9 : K.2.1 64 0 = nI s.1 := by rw [nowK.1, cw2]
            refine e_aload_n dX6_readsRing_65 rfl rfl ?_
            refine e_iload_n dX6_readsRing_66 rfl rfl ?_
            have hgl := gof_lt hg12 hl.1
            have cn : Ct B mX6_nodeTold 3 0 0 [.ref 60, .int (nI (gof l 0))] K (Rt (fun u N => (∃ r, u = some (.int r)) ∧ N = K)) := by
              refine Ct.of (by decide) rfl rfl (Nat.le_of_ble_eq_true rfl) ?_
              refine e_aload_n dX6_nodeTold_0 rfl rfl ?_
              refine e_iconst (v := 0) dX6_nodeTold_1 (by decide) ?_
              refine e_aload_n dX6_nodeTold_2 rfl rfl ?_
              refine e_getR dX6_nodeTold_3 fRX6_23 (by exact okK.sh rfl) (by exact okK.rf rfl) (fun _ => rfl) ?_
              refine e_iconst (v := 0) dX6_nodeTold_6 (by decide) ?_
              refine e_iaload dX6_nodeTold_7 (by exact okK.sh rfl) (by exact vp_in_nI (n := 0) (N := 157) (by decide) (by decide)) ?_
              have e0 : K.2.1 64 (0 : Int32).toNatClampNeg = nI s.1 := ms9
              rw [e0]
              refine e_iconst (v := 1) dX6_nodeTold_8 (by decide) ?_
              refine e_isub dX6_nodeTold_9 ?_
              rw [nI_m1 hg1'.1]
              refine e_iload_n dX6_nodeTold_10 rfl rfl ?_
              have hnum : Ct B mX6_number 2 0 0 [.ref 60, .int 0, .int (nI (s.1 - 1)), .int (nI (gof l 0))] K (Is (some (.int 0)) K) := by
                refine Ct.of (by decide) rfl rfl (Nat.le_of_ble_eq_true rfl) ?_
                refine e_aload_n dX6_number_0 rfl rfl ?_
                refine e_callV0i [] dX6_number_1 mvmX6_fine lkRX6_94 (by exact okK.sh rfl) ⟨by decide, rfl⟩ rfl rfl (Nat.le_of_ble_eq_true rfl) (by decide) (c_fine okK rdK) ?_
                refine e_if_ne (tgt := 9) dX6_number_4 (by decide) (fun hz => absurd rfl hz) (fun _ => ?_)
                refine e_iconst (v := 0) dX6_number_7 (by decide) ?_
                exact e_iret dX6_number_8 rfl rfl ⟨rfl, rfl⟩
              refine e_callV0i [_, _, _] dX6_nodeTold_11 mvmX6_number lkRX6_128 (by exact okK.sh rfl) ⟨by decide, rfl⟩ rfl rfl (Nat.le_of_ble_eq_true rfl) (by decide) (hnum) ?_
              exact e_iret dX6_nodeTold_14 rfl rfl ⟨_, rfl, ⟨_, rfl⟩, rfl⟩
            refine e_callV1 [_] dX6_readsRing_67 mvmX6_nodeTold lkRX6_131 (by exact okK.sh rfl) ⟨by decide, rfl⟩ rfl rfl (Nat.le_of_ble_eq_true rfl) (by decide) (cn) (fun u K2 h3 => ?_)
            obtain ⟨⟨r, hu⟩, hK2⟩ := h3
            subst hu hK2
            refine e_istore dX6_readsRing_70 (by decide) rfl rfl ?_
            refine e_aload_n dX6_readsRing_72 rfl rfl ?_
            refine e_callV0i [] dX6_readsRing_73 mvmX6_fine lkRX6_94 (by exact okK.sh rfl) ⟨by decide, rfl⟩ rfl rfl (Nat.le_of_ble_eq_true rfl) (by decide) (c_fine okK rdK) ?_
            refine e_if_ne (tgt := 80) dX6_readsRing_76 (by decide) (fun hz => absurd rfl hz) (fun _ => ?_)
            refine e_vret dX6_readsRing_79 rfl (bad _ (1, sk T n q) [] tK (f2.trans (mfK.1.wide (by decide) (by decide))) (fun j hj => ?_) ?_ rdK (Or.inr ⟨q, l, hpr', hpe⟩))
            · rw [mfK.2 j (fun z => hj (by
                rcases List.mem_cons.mp z with z | z
                · rw [z]; decide
                · rw [List.mem_singleton.mp z]; decide))]
              exact j2 j hj
            · exact fun b h1 h2 => (mfK.1.2.2 b (by omega)).trans (n2 b h1 h2)
          · rw [if_neg (fun z => hd (hah.mp z))]
            refine e_if_eq (tgt := 103) dX6_readsRing_46 (by decide) (fun _ => ?_) (fun hz => absurd rfl hz)
            refine e_aload_n dX6_readsRing_103 rfl rfl ?_
            refine e_callV0i [] dX6_readsRing_104 mvmX6_fine lkRX6_94 (by exact ok2.sh rfl) ⟨by decide, rfl⟩ rfl rfl (Nat.le_of_ble_eq_true rfl) (by decide) (c_fine ok2 rd2) ?_
            refine e_if_eq (tgt := 116) dX6_readsRing_107 (by decide) (fun hz => absurd hz (fin01_r _)) (fun _ => ?_)
            refine e_aload_n dX6_readsRing_110 rfl rfl ?_
            refine e_iload_n dX6_readsRing_111 rfl rfl ?_
            refine e_iload_n dX6_readsRing_112 rfl rfl ?_
            have hla := hl.1 _ (lastD_mem hl0)
            have hfi := hl.1 _ (headD_mem hl0)
            refine e_callV1 [_, _] dX6_readsRing_113 mvmX6_comes lkRX6_134 (by exact ok2.sh rfl) ⟨by decide, rfl⟩ rfl rfl (Nat.le_of_ble_eq_true rfl) (by decide) (c_comes ok2 rd2 (hnow.fr mf2.1 (by omega)) (fun k hk => by have := (cw1.2.2.2.1 _ _ k hk).2.2; omega) (by omega) (by omega)) (fun u K h3 => ?_)
            obtain ⟨hu, k1, k2⟩ := h3
            subst hu
            have e62 := k2.2.2 60 (by omega)
            refine e_vret dX6_readsRing_116 rfl ⟨none, rfl, rfl, ?_, f2.trans (k2.wide (by decide) (by decide)), fun j hj => by rw [e62]; exact j2 j hj, fun b h1 h2 => (k2.2.2 b (by omega)).trans (n2 b h1 h2), ?_⟩
            · obtain ⟨z1, z2, z3, z4⟩ := t2
              exact ⟨by rw [e62]; exact z1, z2, z3, fun i hi => by rw [k2.2.2 62 (by omega)]; exact z4 i hi⟩
            · rw [hpr']
              refine Or.inr ⟨sk T n q, ?_, pend_sk T n q, ?_⟩
              · unfold Mrd; rw [e62]; exact rd2
              · have hrc := rgl_conn l l.length 0 (s.1, s.2.1, fun _ => none) (by omega) (List.length_pos_iff.mpr hl0)
                rw [List.drop_zero] at hrc
                have hrm := rgl_m l s.1 (fun _ => none) (fun _ => none) l.length 0 s.2.1
                rw [← hrc, hrm] at k1
                exact k1
      | succ f ih =>
        intro l q N t5 hfl hl0 hl tN fN jN n64 rdN hnow hpr
        have okN : OkM N := ok.fr fN
        have hsk := sk_le (T := T) rdN.1
        have hll : 0 < l.length := List.length_pos_iff.mpr hl0
        obtain ⟨cw1, cw2, cw3⟩ := conn_wf l _ wf rfl hl
        have hgl := gof_lt hg12 hl.1
        -- one number more
        have more : ∀ K q2, MT K T n → Fr 60 64 M K → (∀ j, j ∉ [4, 6, 7] → K.2.1 60 j = M.2.1 60 j) → (∀ b, b ≠ 60 → b ≠ 64 → K.2.1 b = M.2.1 b) → Mrd K n (.inr q2) → NowR K 64 (conn (s.1, s.2.1, fun _ => none) l) → pnum T n 0 (s.1 - 1) q2 = pnum T n 0 (s.1 - 1) q → (l.length < 2 ∨ ahd T n q = true) → Ev B mX6_readsRing 4 0 0 (RgP T n s p M) 49 [some (.ref 60), some (.int (nI (l.getD 0 0))), some (.int (nI (lastD l))), some (.int (nI (gof l 0))), some (.int (nI l.length)), t5] [] K := by
          intro K q2 tK fK jK k64 rdK nowK hqq hc
          have okK : OkM K := ok.fr fK
          have hpr2 : (match pnum T n 0 (s.1 - 1) q with
              | .inl e => .inl e
              | .inr (e, v, q) => if v ∈ l then .inl (2, q) else prng T n (s.1 - 1) f (l ++ [v]) e) = prng T n (s.1 - 1) 12 [] p := by
            rw [← hpr]
            show _ = (if l.length < 2 ∨ ahd T n q = true then _ else _)
            rw [if_pos hc]
            rfl
          refine e_iload dX6_readsRing_49 rfl ?_
          refine e_bipush (v := 12) dX6_readsRing_51 (by decide) ?_
          refine e_icmp_ne (tgt := 65) dX6_readsRing_53 (by decide) (fun _ => ?_) (fun hz => ?_)
          · have msK : MS K s → True := fun _ => trivial
            refine e_aload_n dX6_readsRing_65 rfl rfl ?_
            refine e_iload_n dX6_readsRing_66 rfl rfl ?_
            -- like nodeTold, of the lines that stand now
            have cn : Ct B mX6_nodeTold 3 0 0 [.ref 60, .int (nI (gof l 0))] K (MnP T n 0 (s.1 - 1) (gof l 0) (.inr q2) K) := by
              refine Ct.of (by decide) rfl rfl (Nat.le_of_ble_eq_true rfl) ?_
              refine e_aload_n dX6_nodeTold_0 rfl rfl ?_
              refine e_iconst (v := 0) dX6_nodeTold_1 (by decide) ?_
              refine e_aload_n dX6_nodeTold_2 rfl rfl ?_
              refine e_getR dX6_nodeTold_3 fRX6_23 (by exact okK.sh rfl) (by exact okK.rf rfl) (fun _ => rfl) ?_
              refine e_iconst (v := 0) dX6_nodeTold_6 (by decide) ?_
              refine e_iaload dX6_nodeTold_7 (by exact okK.sh rfl) (by exact vp_in_nI (n := 0) (N := 157) (by decide) (by decide)) ?_
              have e0 : K.2.1 64 (0 : Int32).toNatClampNeg = nI s.1 := by rw [← cw2]; exact nowK.1
              rw [e0]
              refine e_iconst (v := 1) dX6_nodeTold_8 (by decide) ?_
              refine e_isub dX6_nodeTold_9 ?_
              rw [nI_m1 hg1'.1]
              refine e_iload_n dX6_nodeTold_10 rfl rfl ?_
              refine e_callV1 [_, _, _] dX6_nodeTold_11 mvmX6_number lkRX6_128 (by exact okK.sh rfl) ⟨by decide, rfl⟩ rfl rfl (Nat.le_of_ble_eq_true rfl) (by decide) (c_number (lo := 0) (hi := s.1 - 1) (bt := gof l 0) okK tK rdK (by decide) (by omega) hgl) (fun u N h1 => ?_)
              obtain ⟨r, hu, q1, q2, q3⟩ := h1
              subst hu
              exact e_iret dX6_nodeTold_14 rfl rfl ⟨_, rfl, r, rfl, q1, q2, q3⟩
            refine e_callV1 [_] dX6_readsRing_67 mvmX6_nodeTold lkRX6_131 (by exact okK.sh rfl) ⟨by decide, rfl⟩ rfl rfl (Nat.le_of_ble_eq_true rfl) (by decide) (cn) (fun u K1 h3 => ?_)
            obtain ⟨r2, hu, rd2, mf2, v2⟩ := h3
            subst hu
            have ok2 : OkM K1 := okK.fr mf2.1
            have t2 := tK.rf mf2 (by decide)
            have f2 := fK.trans (show Fr 60 64 _ _ from mf2.1.wide (by decide) (by decide))
            have j2 : ∀ j, j ∉ [4, 6, 7] → K1.2.1 60 j = M.2.1 60 j := fun j hj => (mf2.2 j hj).trans (jK j hj)
            have n2 : (∀ b, b ≠ 60 → b ≠ 64 → K1.2.1 b = M.2.1 b) := fun b h1 h2 => (mf2.1.2.2 b (by omega)).trans (k64 b h1 h2)
            have hpb := pnb_l (T := T) (n := n) (hi := s.1 - 1) (p := q2) (l := l) (by omega) rdK.1
            rw [hqq] at hpb
            simp only [bd_r] at rd2
            refine e_istore dX6_readsRing_70 (by decide) rfl rfl ?_
            refine e_aload_n dX6_readsRing_72 rfl rfl ?_
            cases hp3 : pnum T n 0 (s.1 - 1) q with
            | inl fa =>
              rw [hp3] at hpb hpr2
              rw [hpb] at rd2
              have rd2' : Mrd K1 n (.inl fa) := rd2
              refine e_callV0i [] dX6_readsRing_73 mvmX6_fine lkRX6_94 (by exact ok2.sh rfl) ⟨by decide, rfl⟩ rfl rfl (Nat.le_of_ble_eq_true rfl) (by decide) (c_fine ok2 rd2') ?_
              refine e_if_ne (tgt := 80) dX6_readsRing_76 (by decide) (fun hz => absurd rfl hz) (fun _ => ?_)
              exact e_vret dX6_readsRing_79 rfl (bad K1 fa [] t2 f2 j2 n2 rd2' (Or.inl hpr2.symm))
            | inr w =>
              obtain ⟨e2, v, q3⟩ := w
              have ho := pnum_ok rdN.1 hp3
              rw [hp3] at hpb hpr2
              dsimp only at hpb hpr2
              by_cases hv : v ∈ l
              · rw [if_pos hv] at hpb hpr2
                rw [hpb] at rd2
                have rd2' : Mrd K1 n (.inl (2, q3)) := rd2
                refine e_callV0i [] dX6_readsRing_73 mvmX6_fine lkRX6_94 (by exact ok2.sh rfl) ⟨by decide, rfl⟩ rfl rfl (Nat.le_of_ble_eq_true rfl) (by decide) (c_fine ok2 rd2') ?_
                refine e_if_ne (tgt := 80) dX6_readsRing_76 (by decide) (fun hz => absurd rfl hz) (fun _ => ?_)
                exact e_vret dX6_readsRing_79 rfl (bad K1 (2, q3) [] t2 f2 j2 n2 rd2' (Or.inl hpr2.symm))
              · rw [if_neg hv] at hpb hpr2
                have vv := v2 q2 e2 v q3 rfl hpb
                subst vv
                rw [hpb] at rd2
                have rd2' : Mrd K1 n (.inr e2) := rd2
                have hv12 : v < s.1 := by omega
                have hla := hl.1 _ (lastD_mem hl0)
                refine e_callV0i [] dX6_readsRing_73 mvmX6_fine lkRX6_94 (by exact ok2.sh rfl) ⟨by decide, rfl⟩ rfl rfl (Nat.le_of_ble_eq_true rfl) (by decide) (c_fine ok2 rd2') ?_
                refine e_if_ne (tgt := 80) dX6_readsRing_76 (by decide) (fun _ => ?_) (fun hz => absurd hz (fin01_r e2))
                refine e_aload_n dX6_readsRing_80 rfl rfl ?_
                refine e_iload_n dX6_readsRing_81 rfl rfl ?_
                refine e_iload dX6_readsRing_82 rfl ?_
                refine e_callV1 [_, _] dX6_readsRing_84 mvmX6_comes lkRX6_134 (by exact ok2.sh rfl) ⟨by decide, rfl⟩ rfl rfl (Nat.le_of_ble_eq_true rfl) (by decide) (c_comes ok2 rd2' (nowK.fr mf2.1 (by omega)) (fun k hk => by have := (cw1.2.2.2.1 _ _ k hk).2.2; omega) (by omega : lastD l < 12) (by omega : v < 12)) (fun u J h4 => ?_)
                obtain ⟨hu, k1, k2⟩ := h4
                subst hu
                rw [← conn_ap l _ v hl0] at k1
                have e62 := k2.2.2 60 (by omega)
                refine e_iload_n dX6_readsRing_87 rfl rfl ?_
                refine e_iconst (v := 1) dX6_readsRing_88 (by decide) ?_
                refine e_iload dX6_readsRing_89 rfl ?_
                refine e_ishl dX6_readsRing_91 ?_
                rw [shl_1 (by omega)]
                refine e_ior dX6_readsRing_92 ?_
                rw [fa_or, ← gof_ap]
                refine e_istore_n dX6_readsRing_93 rfl (by decide) rfl rfl ?_
                refine e_iload dX6_readsRing_94 rfl ?_
                refine e_istore_n dX6_readsRing_96 rfl (by decide) rfl rfl ?_
                refine e_iinc (v := nI (l ++ [v]).length) dX6_readsRing_97 rfl (by rw [List.length_append]; exact nI_1 l.length) (by decide) rfl rfl ?_
                refine e_goto (tgt := 26) dX6_readsRing_100 (by decide) ?_
                have hgo := ih (l ++ [v]) e2 J (some (.int (nI v))) (by rw [List.length_append]; show f + (l.length + 1) = 12; omega) (by simp) ⟨fun x hx => by
                  rw [List.mem_append, List.mem_singleton] at hx
                  rcases hx with hx | hx
                  · exact hl.1 x hx
                  · omega, by
                  rw [List.pairwise_append]
                  refine ⟨hl.2, List.pairwise_singleton _ _, fun x hx y hy => ?_⟩
                  rw [List.mem_singleton.mp hy]
                  exact fun q => hv (by rw [← q]; exact hx)⟩ (by
                  obtain ⟨z1, z2, z3, z4⟩ := t2
                  exact ⟨by rw [e62]; exact z1, z2, z3, fun i hi => by rw [k2.2.2 62 (by omega)]; exact z4 i hi⟩) (f2.trans (k2.wide (by decide) (by decide))) (fun j hj => by rw [e62]; exact j2 j hj) (fun b h1 h2 => (k2.2.2 b (by omega)).trans (n2 b h1 h2)) (by unfold Mrd; rw [e62]; exact rd2') k1 hpr2
                rw [lastD_ap] at hgo
                have hd0 : (l ++ [v]).getD 0 0 = l.getD 0 0 := by
                  cases l with
                  | nil => exact absurd rfl hl0
                  | cons x l => rfl
                rw [hd0] at hgo
                exact hgo
          · exact absurd ((nI_eq (b := 12) (by omega) (by decide)).mp hz) (by omega)
        refine e_aload_n dX6_readsRing_26 rfl rfl ?_
        refine e_callV0i [] dX6_readsRing_27 mvmX6_fine lkRX6_94 (by exact okN.sh rfl) ⟨by decide, rfl⟩ rfl rfl (Nat.le_of_ble_eq_true rfl) (by decide) (c_fine okN rdN) ?_
        refine e_if_eq (tgt := 103) dX6_readsRing_30 (by decide) (fun hz => absurd hz (fin01_r q)) (fun _ => ?_)
        refine e_iload dX6_readsRing_33 rfl ?_
        refine e_iconst (v := 2) dX6_readsRing_35 (by decide) ?_
        refine e_icmp_lt (tgt := 49) dX6_readsRing_36 (by decide) (fun hz => ?_) (fun hz => ?_)
        · have hlt := (nI_lt_iff (b := 2) (by omega) (by decide)).mp hz
          exact more N q tN fN jN n64 rdN hnow rfl (Or.inl hlt)
        · have hge : ¬ l.length < 2 := fun z => hz ((nI_lt_iff (b := 2) (by omega) (by decide)).mpr z)
          refine e_aload_n dX6_readsRing_39 rfl rfl ?_
          refine e_callV1 [] dX6_readsRing_40 mvmX6_here lkRX6_98 (by exact okN.sh rfl) ⟨by decide, rfl⟩ rfl rfl (Nat.le_of_ble_eq_true rfl) (by decide) (c_here okN tN rdN.2.2.2 rdN.1) (fun u N2 h2 => ?_)
          obtain ⟨hu, a2, mf2⟩ := h2
          subst hu
          have ok2 : OkM N2 := okN.fr mf2.1
          have t2 := tN.rf mf2 (by decide)
          have rd2 := rdN.go mf2 hsk a2
          show Ev _ _ _ _ _ _ 43 _ [.int (byA T n (sk T n q))] _
          refine e_callS0i [_] dX6_readsRing_43 msmX6_isDigit lkRX6_119 rfl rfl (Nat.le_of_ble_eq_true rfl) (by decide) (c_mdig (n := n) (t2.2.2.1 (sk T n q))) ?_
          have hah : (sk T n q < n ∧ isD T (sk T n q) = true) ↔ ahd T n q = true := by unfold ahd; simp
          have f2 := fN.trans (show Fr 60 64 _ _ from mf2.1.wide (by decide) (by decide))
          have j2 : ∀ j, j ∉ [4, 6, 7] → N2.2.1 60 j = M.2.1 60 j := fun j hj => (mf2.2 j (fun z => hj (by rw [List.mem_singleton.mp z]; decide))).trans (jN j hj)
          have n2 : (∀ b, b ≠ 60 → b ≠ 64 → N2.2.1 b = M.2.1 b) := fun b h1 h2 => (mf2.1.2.2 b (by omega)).trans (n64 b h1 h2)
          by_cases hd : ahd T n q = true
          · rw [if_pos (hah.mpr hd)]
            refine e_if_eq (tgt := 103) dX6_readsRing_46 (by decide) (fun hz => absurd hz (by decide)) (fun _ => ?_)
            exact more N2 (sk T n q) t2 f2 j2 n2 rd2 (hnow.fr mf2.1 (by omega)) (pnum_sk _ _ _ _ _) (Or.inr hd)
          · rw [if_neg (fun z => hd (hah.mp z))]
            have hpr' : prng T n (s.1 - 1) 12 [] p = .inr (sk T n q, l) := by
              rw [← hpr]
              show (if l.length < 2 ∨ ahd T n q = true then _ else _) = _
              rw [if_neg (fun z => z.elim hge hd)]
            refine e_if_eq (tgt := 103) dX6_readsRing_46 (by decide) (fun _ => ?_) (fun hz => absurd rfl hz)
            refine e_aload_n dX6_readsRing_103 rfl rfl ?_
            refine e_callV0i [] dX6_readsRing_104 mvmX6_fine lkRX6_94 (by exact ok2.sh rfl) ⟨by decide, rfl⟩ rfl rfl (Nat.le_of_ble_eq_true rfl) (by decide) (c_fine ok2 rd2) ?_
            refine e_if_eq (tgt := 116) dX6_readsRing_107 (by decide) (fun hz => absurd hz (fin01_r _)) (fun _ => ?_)
            refine e_aload_n dX6_readsRing_110 rfl rfl ?_
            refine e_iload_n dX6_readsRing_111 rfl rfl ?_
            refine e_iload_n dX6_readsRing_112 rfl rfl ?_
            have hla := hl.1 _ (lastD_mem hl0)
            have hfi := hl.1 _ (headD_mem hl0)
            refine e_callV1 [_, _] dX6_readsRing_113 mvmX6_comes lkRX6_134 (by exact ok2.sh rfl) ⟨by decide, rfl⟩ rfl rfl (Nat.le_of_ble_eq_true rfl) (by decide) (c_comes ok2 rd2 (hnow.fr mf2.1 (by omega)) (fun k hk => by have := (cw1.2.2.2.1 _ _ k hk).2.2; omega) (by omega) (by omega)) (fun u K h3 => ?_)
            obtain ⟨hu, k1, k2⟩ := h3
            subst hu
            have e62 := k2.2.2 60 (by omega)
            refine e_vret dX6_readsRing_116 rfl ⟨none, rfl, rfl, ?_, f2.trans (k2.wide (by decide) (by decide)), fun j hj => by rw [e62]; exact j2 j hj, fun b h1 h2 => (k2.2.2 b (by omega)).trans (n2 b h1 h2), ?_⟩
            · obtain ⟨z1, z2, z3, z4⟩ := t2
              exact ⟨by rw [e62]; exact z1, z2, z3, fun i hi => by rw [k2.2.2 62 (by omega)]; exact z4 i hi⟩
            · rw [hpr']
              refine Or.inr ⟨sk T n q, ?_, rfl, ?_⟩
              · unfold Mrd; rw [e62]; exact rd2
              · have hrc := rgl_conn l l.length 0 (s.1, s.2.1, fun _ => none) (by omega) (List.length_pos_iff.mpr hl0)
                rw [List.drop_zero] at hrc
                have hrm := rgl_m l s.1 (fun _ => none) (fun _ => none) l.length 0 s.2.1
                rw [← hrc, hrm] at k1
                exact k1
    have h0 := loop 11 [a] e1 N1 none rfl (by simp) ⟨fun x hx => by rw [List.mem_singleton.mp hx]; exact ha, List.pairwise_singleton _ _⟩ t1 (mf1.1.wide (by decide) (by decide)) mf1.2 (fun b h1 h2 => mf1.1.2.2 b (by omega)) rd1' (hs.1.fr mf1.1 (by omega)) e11.symm
    have hg1 : gof [a] 0 = 2 ^ a := Nat.zero_or _
    rw [hg1] at h0
    exact h0

