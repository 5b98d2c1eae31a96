/-! the Model: paths and rings found -/
def RowP (N : Mm) (l : List Nat) : Prop := N.2.1 60 25 = nI l.length ∧ ∀ i x, l[i]? = some x → N.2.1 81 i = nI x
theorem RwM.P {N : Mm} {l : Rw} (h : RwM N l) (h25 : N.2.1 60 25 = nI l.length) : RowP N l.reverse := ⟨by rw [List.length_reverse]; exact h25, h⟩
/-- where the found row stands -/
def FdP (o : Option (List Nat)) (M : Mm) : Ot → Mm → Prop := Rt (fun u N => u = some (.int (if o.isSome = true then 1 else 0)) ∧ MZ M N ∧ ∀ l, o = some l → RowP N l)
theorem Zp_len {g : Nw} {a K : Nat} {l : Rw} (h : fcx g (Zp g a) K [a] = some l) : l.length = 2 * K + 2 := by
  obtain ⟨r, h1, h2⟩ := fcx_k h
  unfold Zp at h2
  cases hf : fbs g a r with
  | none => rw [hf] at h2; cases h2
  | some e =>
    rw [hf] at h2
    have : e :: r = l := Option.some.inj h2
    rw [← this, List.length_cons, Vr_len h1]
theorem Zr_len {g : Nw} {a K : Nat} {l : Rw} (h : fcx g (Zr g a) K [a] = some l) : l.length = 2 * K + 1 := by
  obtain ⟨r, h1, h2⟩ := fcx_k h
  unfold Zr at h2
  by_cases hc : (g.2.1 (hd r) a).isSome = true
  · rw [if_pos hc] at h2
    have : r = l := Option.some.inj h2
    rw [← this, Vr_len h1]
  · rw [if_neg hc] at h2; cases h2
theorem c_findsPath {B : Bd} {M : Mm} {g : Nw} {a : Nat} (ok : OkM M) (hnow : NowR M 63 g) (gd : Gd g) (ha : a < g.1) : Ct B mX6_findsPath 20 0 0 [.ref 60, .int (nI a)] M (FdP (pth g a) M) := by
  have wf := gd.1
  have hg12 := wf.1.2
  refine Ct.of (by decide) rfl rfl (Nat.le_of_ble_eq_true rfl) ?_
  refine e_aload_n dX6_findsPath_0 rfl rfl ?_
  refine e_getR dX6_findsPath_1 fRX6_55 (by exact ok.sh rfl) (by exact ok.rf rfl) (fun _ => rfl) ?_
  refine e_iconst (v := 0) dX6_findsPath_4 (by decide) ?_
  refine e_iload_n dX6_findsPath_5 rfl rfl ?_
  refine e_iastore dX6_findsPath_6 (by exact ok.sh rfl) (by exact vp_in_nI (n := 0) (N := 13) (by decide) (by decide)) ?_
  generalize hM1 : sI M 81 (0 : Int32).toNatClampNeg (nI a) = M1
  have f1 : Fr 81 81 M M1 := by rw [← hM1]; exact Fr.rf.sI (by decide) (by decide)
  have ok1 : OkM M1 := ok.fr f1
  have now1 : NowR M1 63 g := hnow.fr f1 (by omega)
  have r0 : M1.2.1 81 0 = nI a := by rw [← hM1]; exact rd_self _ _ _ _
  refine e_aload_n dX6_findsPath_7 rfl rfl ?_
  refine e_iload_n dX6_findsPath_8 rfl rfl ?_
  refine e_callV0i [_] dX6_findsPath_9 mvmX6_mate lkRX6_206 (by exact ok1.sh rfl) ⟨by decide, rfl⟩ rfl rfl (Nat.le_of_ble_eq_true rfl) (by decide) (c_mate ok1 now1 (by omega)) ?_
  refine e_iconst (v := (-1)) dX6_findsPath_12 (by decide) ?_
  have hn := wI_none (wf.mb a)
  refine e_icmp_eq (tgt := 18) dX6_findsPath_13 (by decide) (fun hz => ?_) (fun hz => ?_)
  · have hma := hn.mp hz
    have hp := pth_fso wf ha hma
    refine e_aload_n dX6_findsPath_18 rfl rfl ?_
    refine e_iconst (v := 2) dX6_findsPath_19 (by decide) ?_
    refine e_putI dX6_findsPath_20 fRX6_236 (by exact ok1.sh rfl) rfl rfl rfl (fun _ _ => rfl) ?_
    have loop : ∀ j K N, K + j = 6 → MZ M N → N.2.1 60 25 = nI (2 * K + 2) → N.2.1 81 0 = nI a → fso (fun K => fcx g (Zp g a) K [a]) (6 - K) K = fso (fun K => fcx g (Zp g a) K [a]) 6 0 → Ev B mX6_findsPath 20 0 0 (FdP (pth g a) M) 23 [some (.ref 60), some (.int (nI a))] [] N := by
      intro j
      induction j with
      | zero =>
        intro K N hK zN h25 h0 hF
        have hK6 : K = 6 := by omega
        subst hK6
        have okN : OkM N := zN.ok ok
        have nowN : NowR N 63 g := hnow.at (zN.2.2.2 63 (by decide))
        have hnone : pth g a = none := by rw [hp, ← hF]; rfl
        refine e_aload_n dX6_findsPath_23 rfl rfl ?_
        refine e_getI dX6_findsPath_24 fRX6_236 (by exact okN.sh rfl) (fun _ => rfl) ?_
        rw [h25]
        refine e_aload_n dX6_findsPath_27 rfl rfl ?_
        refine e_callV0i [] dX6_findsPath_28 mvmX6_nodes lkRX6_181 (by exact okN.sh rfl) ⟨by decide, rfl⟩ rfl rfl (Nat.le_of_ble_eq_true rfl) (by decide) (c_nodes okN nowN) ?_
        refine e_icmp_gt (tgt := 64) dX6_findsPath_31 (by decide) (fun _ => ?_) (fun hz => absurd (nI_lt (by omega) (by omega)) hz)
        refine e_iconst (v := 0) dX6_findsPath_64 (by decide) ?_
        exact e_iret dX6_findsPath_65 rfl rfl ⟨_, rfl, by rw [hnone]; rfl, zN, fun l hl => by rw [hnone] at hl; cases hl⟩
      | succ j ih =>
        intro K N hK zN h25 h0 hF
        have okN : OkM N := zN.ok ok
        have nowN : NowR N 63 g := hnow.at (zN.2.2.2 63 (by decide))
        rw [show 6 - K = (6 - (K + 1)) + 1 by omega] at hF
        refine e_aload_n dX6_findsPath_23 rfl rfl ?_
        refine e_getI dX6_findsPath_24 fRX6_236 (by exact okN.sh rfl) (fun _ => rfl) ?_
        rw [h25]
        refine e_aload_n dX6_findsPath_27 rfl rfl ?_
        refine e_callV0i [] dX6_findsPath_28 mvmX6_nodes lkRX6_181 (by exact okN.sh rfl) ⟨by decide, rfl⟩ rfl rfl (Nat.le_of_ble_eq_true rfl) (by decide) (c_nodes okN nowN) ?_
        by_cases hle : 2 * K + 2 ≤ g.1
        · refine e_icmp_gt (tgt := 64) dX6_findsPath_31 (by decide) (fun hz => absurd hz (nI_nlt hle (by omega))) (fun _ => ?_)
          have rw0 : RwM N [a] := fun i x hi => by
            cases i with
            | zero =>
              have : a = x := Option.some.inj hi
              rw [h0, this]
            | succ i => simp at hi
          have call := c_betters (B := B) gd ha hma K 0 N a [] okN nowN rfl rw0 (by omega)
          rw [show 2 * 0 + 2 + 2 * K = 2 * K + 2 by omega, show 2 * 0 + 1 = 1 by omega, so_1] at call
          refine e_aload_n dX6_findsPath_34 rfl rfl ?_
          refine e_iconst (v := 1) dX6_findsPath_35 (by decide) ?_
          refine e_aload_n dX6_findsPath_36 rfl rfl ?_
          refine e_getI dX6_findsPath_37 fRX6_236 (by exact okN.sh rfl) (fun _ => rfl) ?_
          rw [h25]
          refine e_iconst (v := 1) dX6_findsPath_40 (by decide) ?_
          refine e_iload_n dX6_findsPath_41 rfl rfl ?_
          refine e_ishl dX6_findsPath_42 ?_
          rw [shl_1 (by omega)]
          show Ev _ _ _ _ _ _ 43 _ [.int (nI (2 ^ a)), .int (nI (2 * K + 2)), .int (nI 1), .ref 60] _
          refine e_callV1 [_, _, _] dX6_findsPath_43 mvmX6_betters lkRX6_233 (by exact okN.sh rfl) ⟨by decide, rfl⟩ rfl rfl (Nat.le_of_ble_eq_true rfl) (by omega) (call) (fun u N2 hq => ?_)
          obtain ⟨hu, f2, k2, r2⟩ := hq
          subst hu
          have z2 : MZ M N2 := zN.trans (f2.Z (by decide))
          have h25' : N2.2.1 60 25 = nI (2 * K + 2) := by rw [f2.2.2 60 (by omega)]; exact h25
          cases hG : fcx g (Zp g a) K [a] with
          | none =>
            have ok2 : OkM N2 := z2.ok ok
            refine e_if_eq (tgt := 51) dX6_findsPath_46 (by decide) (fun _ => ?_) (fun hz => absurd rfl hz)
            refine e_aload_n dX6_findsPath_51 rfl rfl ?_
            refine e_dup dX6_findsPath_52 rfl ?_
            refine e_getI dX6_findsPath_53 fRX6_236 (by exact ok2.sh rfl) (fun _ => rfl) ?_
            rw [h25']
            refine e_iconst (v := 2) dX6_findsPath_56 (by decide) ?_
            refine e_iadd dX6_findsPath_57 ?_
            rw [show nI (2 * K + 2) + 2 = nI (2 * (K + 1) + 2) from by rw [show (2 : Int32) = nI 2 from rfl, nI_add]; congr 1]
            refine e_putI dX6_findsPath_58 fRX6_236 (by exact ok2.sh rfl) rfl rfl rfl (fun _ _ => rfl) ?_
            refine e_goto (tgt := 23) dX6_findsPath_61 (by decide) ?_
            refine ih (K + 1) _ (by omega) (z2.f (by decide)) (by rw [rd_self]) (by rw [rd_na (by decide), k2 0 (by omega)]; exact h0) ?_
            rw [fso_f hG] at hF
            exact hF
          | some l =>
            rw [fso_t hG] at hF
            have hpl : pth g a = some l.reverse := by rw [hp, ← hF]; rfl
            refine e_if_eq (tgt := 51) dX6_findsPath_46 (by decide) (fun hz => absurd hz (by show ¬ (1 : Int32) = 0; decide)) (fun _ => ?_)
            refine e_iconst (v := 1) dX6_findsPath_49 (by decide) ?_
            refine e_iret dX6_findsPath_50 rfl rfl ⟨_, rfl, by rw [hpl]; rfl, z2, fun l' hl' => ?_⟩
            rw [hpl] at hl'
            have : l.reverse = l' := Option.some.inj hl'
            rw [← this]
            exact (r2 l hG).P (by rw [h25', Zp_len hG])
        · have hnone : pth g a = none := by
            rw [hp, ← hF]
            have : ∀ k lo, K ≤ lo → fso (fun K => fcx g (Zp g a) K [a]) k lo = none := by
              intro k
              induction k with
              | zero => intro lo _; rfl
              | succ k ihk =>
                intro lo hlo
                rw [fso_f (by
                  cases hq : fcx g (Zp g a) lo [a] with
                  | none => rfl
                  | some l => have := fcx_p wf ha hq; omega)]
                exact ihk (lo + 1) (by omega)
            rw [this _ _ (Nat.le_refl _)]; rfl
          refine e_icmp_gt (tgt := 64) dX6_findsPath_31 (by decide) (fun _ => ?_) (fun hz => absurd (nI_lt (by omega) (by omega)) hz)
          refine e_iconst (v := 0) dX6_findsPath_64 (by decide) ?_
          exact e_iret dX6_findsPath_65 rfl rfl ⟨_, rfl, by rw [hnone]; rfl, zN, fun l hl => by rw [hnone] at hl; cases hl⟩
    exact loop 6 0 _ (by omega) ((f1.Z (by decide)).f (by decide)) (by rw [rd_self]; rfl) (by rw [rd_na (by decide)]; exact r0) rfl
  · have hnone : pth g a = none := by
      unfold pth
      rw [if_pos]
      cases hq : g.2.2 a with
      | none => exact absurd (hn.mpr hq) hz
      | some c => rfl
    refine e_iconst (v := 0) dX6_findsPath_16 (by decide) ?_
    exact e_iret dX6_findsPath_17 rfl rfl ⟨_, rfl, by rw [hnone]; rfl, f1.Z (by decide), fun l hl => by rw [hnone] at hl; cases hl⟩
theorem c_rings {B : Bd} {g : Nw} {a : Nat} (gd : Gd g) (ha : a < g.1) : ∀ m k M x q, OkM M → NowR M 63 g → Vr g a k (x :: q) → RwM M (x :: q) → M.2.1 81 0 = nI a → 2 * k + 1 + 2 * m ≤ g.1 → Ct B mX6_rings (m + 1) 0 0 [.ref 60, .int (nI (2 * k + 1)), .int (nI (2 * k + 1 + 2 * m)), .int (nI (so (x :: q)))] M (BtP (fcx g (Zr g a) m (x :: q)) (2 * k + 1) M) := by
  have wf := gd.1
  have hg12 := wf.1.2
  intro m
  induction m with
  | zero =>
    intro k M x q ok hnow hv hr h0 hk
    have hlen : (x :: q).length = 2 * k + 1 := Vr_len hv
    have hql : q.length = 2 * k := by have : q.length + 1 = 2 * k + 1 := hlen; omega
    have hx12 : x < 12 := by have := Vr_in wf ha hv x (List.mem_cons_self ..); omega
    have hlast : M.2.1 81 (2 * k) = nI x := by rw [← hql]; exact hr.last
    have hF : fcx g (Zr g a) 0 (x :: q) = if (g.2.1 x a).isSome = true then some (x :: q) else none := rfl
    rw [hF]
    refine Ct.of (by decide) rfl rfl (Nat.le_of_ble_eq_true rfl) ?_
    refine e_aload_n dX6_rings_0 rfl rfl ?_
    refine e_getR dX6_rings_1 fRX6_55 (by exact ok.sh rfl) (by exact ok.rf rfl) (fun _ => rfl) ?_
    refine e_iload_n dX6_rings_4 rfl rfl ?_
    refine e_iconst (v := 1) dX6_rings_5 (by decide) ?_
    refine e_isub dX6_rings_6 ?_
    rw [nI_m1 (by omega), show 2 * k + 1 - 1 = 2 * k by omega]
    refine e_iaload dX6_rings_7 (by exact ok.sh rfl) (by exact vp_in_nI (show 2 * k < 13 by omega) (by decide)) ?_
    rw [nI_clamp (by omega), hlast]
    refine e_istore dX6_rings_8 (by decide) rfl rfl ?_
    refine e_iload_n dX6_rings_10 rfl rfl ?_
    refine e_iload_n dX6_rings_11 rfl rfl ?_
    refine e_icmp_ne (tgt := 37) dX6_rings_12 (by decide) (fun hz => absurd rfl hz) (fun _ => ?_)
    refine e_aload_n dX6_rings_15 rfl rfl ?_
    refine e_iload dX6_rings_16 rfl ?_
    refine e_aload_n dX6_rings_18 rfl rfl ?_
    refine e_getR dX6_rings_19 fRX6_55 (by exact ok.sh rfl) (by exact ok.rf rfl) (fun _ => rfl) ?_
    refine e_iconst (v := 0) dX6_rings_22 (by decide) ?_
    refine e_iaload dX6_rings_23 (by exact ok.sh rfl) (by exact vp_in_nI (n := 0) (N := 13) (by decide) (by decide)) ?_
    have h0' : M.2.1 81 (0 : Int32).toNatClampNeg = nI a := h0
    rw [h0']
    refine e_callV0i [_, _] dX6_rings_24 mvmX6_weight lkRX6_203 (by exact ok.sh rfl) ⟨by decide, rfl⟩ rfl rfl (Nat.le_of_ble_eq_true rfl) (by omega) (c_weight ok hnow hx12 (by omega)) ?_
    refine e_iconst (v := (-1)) dX6_rings_27 (by decide) ?_
    have hn := wI_none (wf.wb x a)
    refine e_icmp_eq (tgt := 35) dX6_rings_28 (by decide) (fun hz => ?_) (fun hz => ?_)
    · refine e_iconst (v := 0) dX6_rings_35 (by decide) ?_
      have e : g.2.1 x a = none := hn.mp hz
      rw [e]
      exact e_iret dX6_rings_36 rfl rfl ⟨_, rfl, rfl, Fr.rf, fun _ _ => rfl, fun l hl => by cases hl⟩
    · refine e_iconst (v := 1) dX6_rings_31 (by decide) ?_
      refine e_goto (tgt := 36) dX6_rings_32 (by decide) ?_
      have e : (g.2.1 x a).isSome = true := by
        cases hq : g.2.1 x a with
        | none => exact absurd (hn.mpr hq) hz
        | some c => rfl
      rw [if_pos e]
      exact e_iret dX6_rings_36 rfl rfl ⟨_, rfl, rfl, Fr.rf, fun _ _ => rfl, fun l hl => by cases hl; exact hr⟩
  | succ m ih =>
    intro k M x q ok hnow hv hr h0 hk
    have hlen : (x :: q).length = 2 * k + 1 := Vr_len hv
    have hql : q.length = 2 * k := by have : q.length + 1 = 2 * k + 1 := hlen; omega
    have hx12 : x < 12 := by have := Vr_in wf ha hv x (List.mem_cons_self ..); omega
    have hS4 := Vr_lt wf ha hv
    generalize hr0 : x :: q = r at *
    have hhd : hd r = x := by rw [← hr0]; rfl
    have hlast : M.2.1 81 (2 * k) = nI x := by rw [← hql]; rw [← hr0] at hr; exact hr.last
    generalize hFd : (fun b => (cand g r b).bind (fcx g (Zr g a) m)) = F
    have hFe : fcx g (Zr g a) (m + 1) r = fso F g.1 0 := by rw [← hFd]; rfl
    rw [hFe]
    refine Ct.of (by decide) rfl rfl (Nat.le_of_ble_eq_true rfl) ?_
    refine e_aload_n dX6_rings_0 rfl rfl ?_
    refine e_getR dX6_rings_1 fRX6_55 (by exact ok.sh rfl) (by exact ok.rf rfl) (fun _ => rfl) ?_
    refine e_iload_n dX6_rings_4 rfl rfl ?_
    refine e_iconst (v := 1) dX6_rings_5 (by decide) ?_
    refine e_isub dX6_rings_6 ?_
    rw [nI_m1 (by omega), show 2 * k + 1 - 1 = 2 * k by omega]
    refine e_iaload dX6_rings_7 (by exact ok.sh rfl) (by exact vp_in_nI (show 2 * k < 13 by omega) (by decide)) ?_
    rw [nI_clamp (by omega), hlast]
    refine e_istore dX6_rings_8 (by decide) rfl rfl ?_
    refine e_iload_n dX6_rings_10 rfl rfl ?_
    refine e_iload_n dX6_rings_11 rfl rfl ?_
    refine e_icmp_ne (tgt := 37) dX6_rings_12 (by decide) (fun _ => ?_) (fun hz => absurd ((nI_eq (by omega) (by omega)).mp hz) (by omega))
    refine e_iconst (v := 0) dX6_rings_37 (by decide) ?_
    refine e_istore dX6_rings_38 (by decide) rfl rfl ?_
    have loop : ∀ j b N, b + j = g.1 → Fr 81 81 M N → (∀ i, i < 2 * k + 1 → N.2.1 81 i = M.2.1 81 i) → fso F (g.1 - b) b = fso F g.1 0 → Ev B mX6_rings (m + 1 + 1) 0 0 (BtP (fso F g.1 0) (2 * k + 1) M) 40 [some (.ref 60), some (.int (nI (2 * k + 1))), some (.int (nI (2 * k + 1 + 2 * (m + 1)))), some (.int (nI (so r))), some (.int (nI x)), some (.int (nI b))] [] N := by
      intro j
      induction j with
      | zero =>
        intro b N hb fN kN hF
        have okN : OkM N := ok.fr fN
        have nowN : NowR N 63 g := hnow.fr fN (by omega)
        rw [show g.1 - b = 0 by omega] at hF
        have hnone : fso F g.1 0 = none := hF.symm
        refine e_iload dX6_rings_40 rfl ?_
        refine e_aload_n dX6_rings_42 rfl rfl ?_
        refine e_callV0i [] dX6_rings_43 mvmX6_nodes lkRX6_181 (by exact okN.sh rfl) ⟨by decide, rfl⟩ rfl rfl (Nat.le_of_ble_eq_true rfl) (by omega) (c_nodes okN nowN) ?_
        refine e_icmp_ge (tgt := 152) dX6_rings_46 (by decide) (fun _ => ?_) (fun hz => absurd (nI_le (by omega) (by omega)) hz)
        refine e_iconst (v := 0) dX6_rings_152 (by decide) ?_
        exact e_iret dX6_rings_153 rfl rfl ⟨_, rfl, by rw [hnone]; rfl, fN, kN, fun l hl => by rw [hnone] at hl; cases hl⟩
      | succ j ih2 =>
        intro b N hb fN kN hF
        have okN : OkM N := ok.fr fN
        have nowN : NowR N 63 g := hnow.fr fN (by omega)
        have hFb : F b = (cand g r b).bind (fcx g (Zr g a) m) := by rw [← hFd]
        rw [show g.1 - b = (g.1 - (b + 1)) + 1 by omega] at hF
        -- not this one
        have skip : F b = none → ∀ K, Fr 81 81 M K → (∀ i, i < 2 * k + 1 → K.2.1 81 i = M.2.1 81 i) → Ev B mX6_rings (m + 1 + 1) 0 0 (BtP (fso F g.1 0) (2 * k + 1) M) 146 [some (.ref 60), some (.int (nI (2 * k + 1))), some (.int (nI (2 * k + 1 + 2 * (m + 1)))), some (.int (nI (so r))), some (.int (nI x)), some (.int (nI b))] [] K := by
          intro hn K fK kK
          refine e_iinc (v := nI (b + 1)) dX6_rings_146 rfl (nI_1 b) (by decide) rfl rfl ?_
          refine e_goto (tgt := 40) dX6_rings_149 (by decide) ?_
          refine ih2 (b + 1) K (by omega) fK kK ?_
          rw [fso_f hn] at hF
          exact hF
        have skc : cand g r b = none → F b = none := fun h => by rw [hFb, h]; rfl
        have cn : ∀ (P : Prop), (∀ c, (so r).testBit b = false → (g.2.1 x b).isSome = true → g.2.2 b = some c → (so r).testBit c = false → False) → cand g r b = none := fun _ h => by
          cases hcd : cand g r b with
          | none => rfl
          | some r' =>
            obtain ⟨c, e1, e2, e3, e4, e5⟩ := cand_some.mp hcd
            rw [hhd] at e3
            exact absurd (h c e2 e3 e4 e5) (fun z => z)
        refine e_iload dX6_rings_40 rfl ?_
        refine e_aload_n dX6_rings_42 rfl rfl ?_
        refine e_callV0i [] dX6_rings_43 mvmX6_nodes lkRX6_181 (by exact okN.sh rfl) ⟨by decide, rfl⟩ rfl rfl (Nat.le_of_ble_eq_true rfl) (by omega) (c_nodes okN nowN) ?_
        refine e_icmp_ge (tgt := 152) dX6_rings_46 (by decide) (fun hz => absurd hz (nI_ge (by omega) (by omega))) (fun _ => ?_)
        refine e_iload_n dX6_rings_49 rfl rfl ?_
        refine e_iload dX6_rings_50 rfl ?_
        refine e_callS0i [_, _] dX6_rings_52 msmX6_has lkRX6_183 rfl rfl (Nat.le_of_ble_eq_true rfl) (by omega) (c_has (by omega) (by omega)) ?_
        by_cases h1 : (so r).testBit b = true
        · rw [if_pos h1]
          refine e_if_ne (tgt := 146) dX6_rings_55 (by decide) (fun _ => ?_) (fun hz => absurd hz (by decide))
          exact skip (skc (cn True (fun c e2 _ _ _ => by rw [h1] at e2; cases e2))) N fN kN
        · rw [if_neg h1]
          have h1' : (so r).testBit b = false := by simpa using h1
          refine e_if_ne (tgt := 146) dX6_rings_55 (by decide) (fun hz => absurd rfl hz) (fun _ => ?_)
          refine e_aload_n dX6_rings_58 rfl rfl ?_
          refine e_iload dX6_rings_59 rfl ?_
          refine e_iload dX6_rings_61 rfl ?_
          refine e_callV0i [_, _] dX6_rings_63 mvmX6_weight lkRX6_203 (by exact okN.sh rfl) ⟨by decide, rfl⟩ rfl rfl (Nat.le_of_ble_eq_true rfl) (by omega) (c_weight okN nowN hx12 (by omega)) ?_
          refine e_iconst (v := (-1)) dX6_rings_66 (by decide) ?_
          have hn := wI_none (wf.wb x b)
          refine e_icmp_eq (tgt := 146) dX6_rings_67 (by decide) (fun hz => skip (skc (cn True (fun c _ e3 _ _ => by rw [hn.mp hz] at e3; cases e3))) N fN kN) (fun hz => ?_)
          have hw : (g.2.1 x b).isSome = true := by
            cases hq : g.2.1 x b with
            | none => exact absurd (hn.mpr hq) hz
            | some c => rfl
          refine e_aload_n dX6_rings_70 rfl rfl ?_
          refine e_iload dX6_rings_71 rfl ?_
          refine e_callV0i [_] dX6_rings_73 mvmX6_mate lkRX6_206 (by exact okN.sh rfl) ⟨by decide, rfl⟩ rfl rfl (Nat.le_of_ble_eq_true rfl) (by omega) (c_mate okN nowN (by omega)) ?_
          refine e_iconst (v := (-1)) dX6_rings_76 (by decide) ?_
          have hnm := wI_none (wf.mb b)
          refine e_icmp_eq (tgt := 146) dX6_rings_77 (by decide) (fun hz => skip (skc (cn True (fun c _ _ e4 _ => by rw [hnm.mp hz] at e4; cases e4))) N fN kN) (fun hz => ?_)
          cases hbc : g.2.2 b with
          | none => exact absurd (hnm.mpr hbc) hz
          | some c =>
            have hc12 := wf.m b c hbc
            refine e_iload_n dX6_rings_80 rfl rfl ?_
            refine e_aload_n dX6_rings_81 rfl rfl ?_
            refine e_iload dX6_rings_82 rfl ?_
            refine e_callV0i [_] dX6_rings_84 mvmX6_mate lkRX6_206 (by exact okN.sh rfl) ⟨by decide, rfl⟩ rfl rfl (Nat.le_of_ble_eq_true rfl) (by omega) (c_mate okN nowN (by omega)) ?_
            rw [hbc]
            show Ev _ _ _ _ _ _ 87 _ [.int (nI c), .int (nI (so r))] _
            refine e_callS0i [_, _] dX6_rings_87 msmX6_has lkRX6_183 rfl rfl (Nat.le_of_ble_eq_true rfl) (by omega) (c_has (by omega) (by omega)) ?_
            by_cases h2 : (so r).testBit c = true
            · rw [if_pos h2]
              refine e_if_eq (tgt := 96) dX6_rings_90 (by decide) (fun hz => absurd hz (by decide)) (fun _ => ?_)
              refine e_goto (tgt := 146) dX6_rings_93 (by decide) ?_
              exact skip (skc (cn True (fun c' _ _ e4 e5 => by rw [hbc] at e4; rw [← Option.some.inj e4, h2] at e5; cases e5))) N fN kN
            · rw [if_neg h2]
              have h2' : (so r).testBit c = false := by simpa using h2
              have hcd : cand g r b = some (c :: b :: r) := cand_some.mpr ⟨c, rfl, h1', by rw [hhd]; exact hw, hbc, h2'⟩
              have hFb2 : F b = fcx g (Zr g a) m (c :: b :: r) := by rw [hFb, hcd]; rfl
              refine e_if_eq (tgt := 96) dX6_rings_90 (by decide) (fun _ => ?_) (fun hz => absurd rfl hz)
              refine e_aload_n dX6_rings_96 rfl rfl ?_
              refine e_getR dX6_rings_97 fRX6_55 (by exact okN.sh rfl) (by exact okN.rf rfl) (fun _ => rfl) ?_
              refine e_iload_n dX6_rings_100 rfl rfl ?_
              refine e_iload dX6_rings_101 rfl ?_
              refine e_iastore dX6_rings_103 (by exact okN.sh rfl) (by exact vp_in_nI (show 2 * k + 1 < 13 by omega) (by decide)) ?_
              rw [nI_clamp (by omega)]
              generalize hN1 : sI N 81 (2 * k + 1) (nI b) = N1
              have f1 : Fr 81 81 N N1 := by rw [← hN1]; exact Fr.rf.sI (by decide) (by decide)
              have ok1 : OkM N1 := okN.fr f1
              have now1 : NowR N1 63 g := nowN.fr f1 (by omega)
              refine e_aload_n dX6_rings_104 rfl rfl ?_
              refine e_getR dX6_rings_105 fRX6_55 (by exact ok1.sh rfl) (by exact ok1.rf rfl) (fun _ => rfl) ?_
              refine e_iload_n dX6_rings_108 rfl rfl ?_
              refine e_iconst (v := 1) dX6_rings_109 (by decide) ?_
              refine e_iadd dX6_rings_110 ?_
              rw [nI_1]
              refine e_aload_n dX6_rings_111 rfl rfl ?_
              refine e_iload dX6_rings_112 rfl ?_
              refine e_callV0i [_] dX6_rings_114 mvmX6_mate lkRX6_206 (by exact ok1.sh rfl) ⟨by decide, rfl⟩ rfl rfl (Nat.le_of_ble_eq_true rfl) (by omega) (c_mate ok1 now1 (by omega)) ?_
              rw [hbc]
              show Ev _ _ _ _ _ _ 117 _ [.int (nI c), .int (nI (2 * k + 1 + 1)), .ref 81] _
              refine e_iastore (n := 13) dX6_rings_117 (ok1.sh rfl) (vp_in_nI (show 2 * k + 1 + 1 < 13 by omega) (by decide)) ?_
              rw [nI_clamp (by omega)]
              generalize hN2 : sI N1 81 (2 * k + 1 + 1) (nI c) = N2
              have f2 : Fr 81 81 N1 N2 := by rw [← hN2]; exact Fr.rf.sI (by decide) (by decide)
              have ok2 : OkM N2 := ok1.fr f2
              have now2 : NowR N2 63 g := now1.fr f2 (by omega)
              have k2 : ∀ i, i < 2 * k + 1 → N2.2.1 81 i = M.2.1 81 i := fun i hi => by rw [← hN2, rd_ni (by omega), ← hN1, rd_ni (by omega)]; exact kN i hi
              have r1 : RwM N1 (b :: r) := (hr.keep (fun i hi => kN i (by omega))).cons (by rw [hlen]; exact hN1.symm)
              have r2 : RwM N2 (c :: b :: r) := r1.cons (by rw [List.length_cons, hlen]; exact hN2.symm)
              have hv3 : Vr g a (k + 1) (c :: b :: r) := ⟨b, c, r, hv, rfl, h1', by rw [hhd]; exact hw, hbc, h2'⟩
              have h02 : N2.2.1 81 0 = nI a := by rw [k2 0 (by omega)]; exact h0
              have call := ih (k + 1) N2 c (b :: r) ok2 now2 hv3 r2 h02 (by omega)
              have eso : so (c :: b :: r) = so r ||| 2 ^ b ||| 2 ^ c := rfl
              rw [show 2 * (k + 1) + 1 + 2 * m = 2 * k + 1 + 2 * (m + 1) by omega, eso, ← hFb2] at call
              refine e_aload_n dX6_rings_118 rfl rfl ?_
              refine e_iload_n dX6_rings_119 rfl rfl ?_
              refine e_iconst (v := 2) dX6_rings_120 (by decide) ?_
              refine e_iadd dX6_rings_121 ?_
              rw [show nI (2 * k + 1) + 2 = nI (2 * (k + 1) + 1) from by rw [show (2 : Int32) = nI 2 from rfl, nI_add]; congr 1]
              refine e_iload_n dX6_rings_122 rfl rfl ?_
              refine e_iload_n dX6_rings_123 rfl rfl ?_
              refine e_iconst (v := 1) dX6_rings_124 (by decide) ?_
              refine e_iload dX6_rings_125 rfl ?_
              refine e_ishl dX6_rings_127 ?_
              rw [shl_1 (by omega)]
              refine e_ior dX6_rings_128 ?_
              rw [fa_or]
              refine e_iconst (v := 1) dX6_rings_129 (by decide) ?_
              refine e_aload_n dX6_rings_130 rfl rfl ?_
              refine e_iload dX6_rings_131 rfl ?_
              refine e_callV0i [_] dX6_rings_133 mvmX6_mate lkRX6_206 (by exact ok2.sh rfl) ⟨by decide, rfl⟩ rfl rfl (Nat.le_of_ble_eq_true rfl) (by omega) (c_mate ok2 now2 (by omega)) ?_
              rw [hbc]
              show Ev _ _ _ _ _ _ 136 _ [.int (nI c), .int 1, .int (nI (so r ||| 2 ^ b)), _, _, _] _
              refine e_ishl dX6_rings_136 ?_
              rw [shl_1 (by omega)]
              refine e_ior dX6_rings_137 ?_
              rw [fa_or]
              refine e_callV1 [_, _, _] dX6_rings_138 mvmX6_rings lkRX6_239 (by exact ok2.sh rfl) ⟨by decide, rfl⟩ rfl rfl (Nat.le_of_ble_eq_true rfl) (by omega) (call) (fun u K hK => ?_)
              obtain ⟨hu, fK, kK, rK⟩ := hK
              subst hu
              have fMK := ((fN.trans f1).trans f2).trans fK
              have kMK : ∀ i, i < 2 * k + 1 → K.2.1 81 i = M.2.1 81 i := fun i hi => by rw [kK i (by omega)]; exact k2 i hi
              cases hGq : F b with
              | none =>
                refine e_if_eq (tgt := 146) dX6_rings_141 (by decide) (fun _ => ?_) (fun hz => absurd rfl hz)
                exact skip hGq K fMK kMK
              | some l0 =>
                rw [fso_t hGq] at hF
                refine e_if_eq (tgt := 146) dX6_rings_141 (by decide) (fun hz => absurd hz (by show ¬ (1 : Int32) = 0; decide)) (fun _ => ?_)
                refine e_iconst (v := 1) dX6_rings_144 (by decide) ?_
                refine e_iret dX6_rings_145 rfl rfl ⟨_, rfl, by rw [← hF]; rfl, fMK, kMK, fun l hl => ?_⟩
                rw [← hF] at hl
                exact rK l (by rw [hGq]; exact hl)
    exact loop g.1 0 M (by omega) Fr.rf (fun _ _ => rfl) rfl
theorem c_findsFlower {B : Bd} {M : Mm} {g : Nw} {a : Nat} (ok : OkM M) (hnow : NowR M 63 g) (gd : Gd g) (ha : a < g.1) : Ct B mX6_findsFlower 20 0 0 [.ref 60, .int (nI a)] M (FdP (flw g a) M) := by
  have wf := gd.1
  have hg12 := wf.1.2
  have hp := flw_fso wf ha
  have h00 : fcx g (Zr g a) 0 [a] = none := by
    show (if (g.2.1 a a).isSome = true then some [a] else none) = none
    rw [wf.2.2.1 a]; rfl
  rw [fso_f h00] at hp
  refine Ct.of (by decide) rfl rfl (Nat.le_of_ble_eq_true rfl) ?_
  refine e_aload_n dX6_findsFlower_0 rfl rfl ?_
  refine e_getR dX6_findsFlower_1 fRX6_55 (by exact ok.sh rfl) (by exact ok.rf rfl) (fun _ => rfl) ?_
  refine e_iconst (v := 0) dX6_findsFlower_4 (by decide) ?_
  refine e_iload_n dX6_findsFlower_5 rfl rfl ?_
  refine e_iastore dX6_findsFlower_6 (by exact ok.sh rfl) (by exact vp_in_nI (n := 0) (N := 13) (by decide) (by decide)) ?_
  generalize hM1 : sI M 81 (0 : Int32).toNatClampNeg (nI a) = M1
  have f1 : Fr 81 81 M M1 := by rw [← hM1]; exact Fr.rf.sI (by decide) (by decide)
  have ok1 : OkM M1 := ok.fr f1
  have r0 : M1.2.1 81 0 = nI a := by rw [← hM1]; exact rd_self _ _ _ _
  refine e_aload_n dX6_findsFlower_7 rfl rfl ?_
  refine e_iconst (v := 3) dX6_findsFlower_8 (by decide) ?_
  refine e_putI dX6_findsFlower_9 fRX6_236 (by exact ok1.sh rfl) rfl rfl rfl (fun _ _ => rfl) ?_
  have loop : ∀ j K N, K + j = 6 → MZ M N → N.2.1 60 25 = nI (2 * K + 1) → N.2.1 81 0 = nI a → fso (fun K => fcx g (Zr g a) K [a]) (6 - K) K = fso (fun K => fcx g (Zr g a) K [a]) 5 1 → Ev B mX6_findsFlower 20 0 0 (FdP (flw g a) M) 12 [some (.ref 60), some (.int (nI a))] [] N := by
    intro j
    induction j with
    | zero =>
      intro K N hK zN h25 h0 hF
      have hK6 : K = 6 := by omega
      subst hK6
      have okN : OkM N := zN.ok ok
      have nowN : NowR N 63 g := hnow.at (zN.2.2.2 63 (by decide))
      have hnone : flw g a = none := by rw [hp, ← hF]; rfl
      refine e_aload_n dX6_findsFlower_12 rfl rfl ?_
      refine e_getI dX6_findsFlower_13 fRX6_236 (by exact okN.sh rfl) (fun _ => rfl) ?_
      rw [h25]
      refine e_aload_n dX6_findsFlower_16 rfl rfl ?_
      refine e_callV0i [] dX6_findsFlower_17 mvmX6_nodes lkRX6_181 (by exact okN.sh rfl) ⟨by decide, rfl⟩ rfl rfl (Nat.le_of_ble_eq_true rfl) (by omega) (c_nodes okN nowN) ?_
      refine e_icmp_gt (tgt := 53) dX6_findsFlower_20 (by decide) (fun _ => ?_) (fun hz => absurd (nI_lt (by omega) (by omega)) hz)
      refine e_iconst (v := 0) dX6_findsFlower_53 (by decide) ?_
      exact e_iret dX6_findsFlower_54 rfl rfl ⟨_, rfl, by rw [hnone]; rfl, zN, fun l hl => by rw [hnone] at hl; cases hl⟩
    | succ j ih =>
      intro K N hK zN h25 h0 hF
      have okN : OkM N := zN.ok ok
      have nowN : NowR N 63 g := hnow.at (zN.2.2.2 63 (by decide))
      rw [show 6 - K = (6 - (K + 1)) + 1 by omega] at hF
      refine e_aload_n dX6_findsFlower_12 rfl rfl ?_
      refine e_getI dX6_findsFlower_13 fRX6_236 (by exact okN.sh rfl) (fun _ => rfl) ?_
      rw [h25]
      refine e_aload_n dX6_findsFlower_16 rfl rfl ?_
      refine e_callV0i [] dX6_findsFlower_17 mvmX6_nodes lkRX6_181 (by exact okN.sh rfl) ⟨by decide, rfl⟩ rfl rfl (Nat.le_of_ble_eq_true rfl) (by omega) (c_nodes okN nowN) ?_
      by_cases hle : 2 * K + 1 ≤ g.1
      · refine e_icmp_gt (tgt := 53) dX6_findsFlower_20 (by decide) (fun hz => absurd hz (nI_nlt hle (by omega))) (fun _ => ?_)
        have rw0 : RwM N [a] := fun i x hi => by
          cases i with
          | zero =>
            have : a = x := Option.some.inj hi
            rw [h0, this]
          | succ i => simp at hi
        have call := c_rings (B := B) gd ha K 0 N a [] okN nowN rfl rw0 h0 (by omega)
        rw [show 2 * 0 + 1 + 2 * K = 2 * K + 1 by omega, show 2 * 0 + 1 = 1 by omega, so_1] at call
        refine e_aload_n dX6_findsFlower_23 rfl rfl ?_
        refine e_iconst (v := 1) dX6_findsFlower_24 (by decide) ?_
        refine e_aload_n dX6_findsFlower_25 rfl rfl ?_
        refine e_getI dX6_findsFlower_26 fRX6_236 (by exact okN.sh rfl) (fun _ => rfl) ?_
        rw [h25]
        refine e_iconst (v := 1) dX6_findsFlower_29 (by decide) ?_
        refine e_iload_n dX6_findsFlower_30 rfl rfl ?_
        refine e_ishl dX6_findsFlower_31 ?_
        rw [shl_1 (by omega)]
        show Ev _ _ _ _ _ _ 32 _ [.int (nI (2 ^ a)), .int (nI (2 * K + 1)), .int (nI 1), .ref 60] _
        refine e_callV1 [_, _, _] dX6_findsFlower_32 mvmX6_rings lkRX6_239 (by exact okN.sh rfl) ⟨by decide, rfl⟩ rfl rfl (Nat.le_of_ble_eq_true rfl) (by omega) (call) (fun u N2 hq => ?_)
        obtain ⟨hu, f2, k2, r2⟩ := hq
        subst hu
        have z2 : MZ M N2 := zN.trans (f2.Z (by decide))
        have h25' : N2.2.1 60 25 = nI (2 * K + 1) := by rw [f2.2.2 60 (by omega)]; exact h25
        cases hG : fcx g (Zr g a) K [a] with
        | none =>
          have ok2 : OkM N2 := z2.ok ok
          refine e_if_eq (tgt := 40) dX6_findsFlower_35 (by decide) (fun _ => ?_) (fun hz => absurd rfl hz)
          refine e_aload_n dX6_findsFlower_40 rfl rfl ?_
          refine e_dup dX6_findsFlower_41 rfl ?_
          refine e_getI dX6_findsFlower_42 fRX6_236 (by exact ok2.sh rfl) (fun _ => rfl) ?_
          rw [h25']
          refine e_iconst (v := 2) dX6_findsFlower_45 (by decide) ?_
          refine e_iadd dX6_findsFlower_46 ?_
          rw [show nI (2 * K + 1) + 2 = nI (2 * (K + 1) + 1) from by rw [show (2 : Int32) = nI 2 from rfl, nI_add]; congr 1]
          refine e_putI dX6_findsFlower_47 fRX6_236 (by exact ok2.sh rfl) rfl rfl rfl (fun _ _ => rfl) ?_
          refine e_goto (tgt := 12) dX6_findsFlower_50 (by decide) ?_
          refine ih (K + 1) _ (by omega) (z2.f (by decide)) (by rw [rd_self]) (by rw [rd_na (by decide), k2 0 (by omega)]; exact h0) ?_
          rw [fso_f hG] at hF
          exact hF
        | some l =>
          rw [fso_t hG] at hF
          have hpl : flw g a = some l.reverse := by rw [hp, ← hF]; rfl
          refine e_if_eq (tgt := 40) dX6_findsFlower_35 (by decide) (fun hz => absurd hz (by show ¬ (1 : Int32) = 0; decide)) (fun _ => ?_)
          refine e_iconst (v := 1) dX6_findsFlower_38 (by decide) ?_
          refine e_iret dX6_findsFlower_39 rfl rfl ⟨_, rfl, by rw [hpl]; rfl, z2, fun l' hl' => ?_⟩
          rw [hpl] at hl'
          have : l.reverse = l' := Option.some.inj hl'
          rw [← this]
          exact (r2 l hG).P (by rw [h25', Zr_len hG])
      · have hnone : flw g a = none := by
          rw [hp, ← hF]
          have : ∀ k lo, K ≤ lo → fso (fun K => fcx g (Zr g a) K [a]) k lo = none := by
            intro k
            induction k with
            | zero => intro lo _; rfl
            | succ k ihk =>
              intro lo hlo
              rw [fso_f (by
                cases hq : fcx g (Zr g a) lo [a] with
                | none => rfl
                | some l => have := fcx_r wf ha hq; omega)]
              exact ihk (lo + 1) (by omega)
          rw [this _ _ (Nat.le_refl _)]; rfl
        refine e_icmp_gt (tgt := 53) dX6_findsFlower_20 (by decide) (fun _ => ?_) (fun hz => absurd (nI_lt (by omega) (by omega)) hz)
        refine e_iconst (v := 0) dX6_findsFlower_53 (by decide) ?_
        exact e_iret dX6_findsFlower_54 rfl rfl ⟨_, rfl, by rw [hnone]; rfl, zN, fun l hl => by rw [hnone] at hl; cases hl⟩
  exact loop 5 1 _ (by omega) ((f1.Z (by decide)).f (by decide)) (by rw [rd_self]; rfl) (by rw [rd_na (by decide)]; exact r0) rfl

