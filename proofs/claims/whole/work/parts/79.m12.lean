/-! the Model: the path that betters -/
theorem hd_c (x : Nat) (r : Rw) : hd (x :: r) = x := rfl
theorem c_betters {B : Bd} {g : Nw} {a : Nat} (gd : Gd g) (ha : a < g.1) (hma : g.2.2 a = none) : ∀ m k M x q, OkM M → NowR M 63 g → Vr g a k (x :: q) → RwM M (x :: q) → 2 * k + 2 + 2 * m ≤ g.1 → Ct B mX6_betters (2 * m + 2) 0 0 [.ref 60, .int (nI (2 * k + 1)), .int (nI (2 * k + 2 + 2 * m)), .int (nI (so (x :: q)))] M (BtP (fcx g (Zp g a) m (x :: q)) (2 * k + 1) M) := by
  have wf := gd.1
  have hg12 := wf.1.2
  intro m
  induction m with
  | zero =>
    intro k M x q ok hnow hv hr hk
    have hlen : (x :: q).length = 2 * k + 1 := Vr_len hv
    have hql : q.length = 2 * k := by have : q.length + 1 = 2 * k + 1 := hlen; omega
    have hx12 : x < 12 := by have := Vr_in wf ha hv x (List.mem_cons_self ..); omega
    have hS4 := Vr_lt wf ha hv
    generalize hr0 : x :: q = r at *
    have hhd : hd r = x := by rw [← hr0]; rfl
    have hlast : M.2.1 81 (2 * k) = nI x := by rw [← hql]; rw [← hr0] at hr; exact hr.last
    rw [fcx_G]
    refine Ct.of (by decide) rfl rfl (Nat.le_of_ble_eq_true rfl) ?_
    refine e_aload_n dX6_betters_0 rfl rfl ?_
    refine e_getR dX6_betters_1 fRX6_55 (by exact ok.sh rfl) (by exact ok.rf rfl) (fun _ => rfl) ?_
    refine e_iload_n dX6_betters_4 rfl rfl ?_
    refine e_iconst (v := 1) dX6_betters_5 (by decide) ?_
    refine e_isub dX6_betters_6 ?_
    rw [nI_m1 (by omega), show 2 * k + 1 - 1 = 2 * k by omega]
    refine e_iaload dX6_betters_7 (by exact ok.sh rfl) (by exact vp_in_nI (show 2 * k < 13 by omega) (by decide)) ?_
    rw [nI_clamp (by omega), hlast]
    refine e_istore dX6_betters_8 (by decide) rfl rfl ?_
    refine e_iload_n dX6_betters_10 rfl rfl ?_
    refine e_iload_n dX6_betters_11 rfl rfl ?_
    refine e_icmp_ne (tgt := 31) dX6_betters_12 (by decide) (fun _ => ?_) (fun hz => absurd ((nI_eq (by omega) (by omega)).mp hz) (by omega))
    refine e_iconst (v := 0) dX6_betters_31 (by decide) ?_
    refine e_istore dX6_betters_32 (by decide) rfl rfl ?_
    refine betters_loop (F := Gp2 g a 0 r) wf (by omega) ok hnow hx12 hS4 (by omega) (fun b hb hc => ?_) (fun N fN kN hF => ⟨_, rfl, by rw [hF]; rfl, fN, kN, fun l hl => by rw [hF] at hl; cases hl⟩) (fun N b fN kN hb hSb hw hpar hF skip => ?_)
    · show (if pfr g a (hd r) b = true then some (b :: r) else none) = none
      rw [if_neg]
      intro hp
      unfold pfr at hp
      simp only [Bool.and_eq_true, decide_eq_true_eq] at hp
      obtain ⟨p1, p2, p3⟩ := hp
      have p3' : g.2.2 b = none := by
        cases hq : g.2.2 b with
        | none => rfl
        | some c => rw [hq] at p3; cases p3
      rcases hc with c1 | c1 | c1
      · obtain ⟨y, hy, -⟩ := Vr_mate wf hv b ((so_bit r b).mp c1) p1
        rw [p3'] at hy; cases hy
      · rw [hhd, c1] at p2; cases p2
      · have hmx := c1.mpr (by omega)
        have := (wf.2.2.2.2 x b hmx).1
        rw [p3'] at this; cases this
    · have hba : b ≠ a := fun e => by
        rw [e] at hSb
        rw [(so_bit r a).mpr (Vr_a hv)] at hSb; cases hSb
      have okN : OkM N := ok.fr fN
      refine e_aload_n dX6_betters_98 rfl rfl ?_
      refine e_getR dX6_betters_99 fRX6_55 (by exact okN.sh rfl) (by exact okN.rf rfl) (fun _ => rfl) ?_
      refine e_iload_n dX6_betters_102 rfl rfl ?_
      refine e_iload dX6_betters_103 rfl ?_
      refine e_iastore dX6_betters_105 (by exact okN.sh rfl) (by exact vp_in_nI (show 2 * k + 1 < 13 by omega) (by decide)) ?_
      rw [nI_clamp (by omega)]
      generalize hN1 : sI N 81 (2 * k + 1) (nI b) = N1
      have f1 : Fr 81 81 N N1 := by rw [← hN1]; exact Fr.rf.sI (by decide) (by decide)
      have ok1 : OkM N1 := okN.fr f1
      have k1 : ∀ i, i < 2 * k + 1 → N1.2.1 81 i = M.2.1 81 i := fun i hi => by rw [← hN1, rd_ni (by omega)]; exact kN i hi
      have r1 : RwM N1 (b :: r) := (hr.keep (fun i hi => kN i (by omega))).cons (by rw [hlen]; exact hN1.symm)
      have now1 : NowR N1 63 g := (hnow.fr fN (by omega)).fr f1 (by omega)
      refine e_aload_n dX6_betters_106 rfl rfl ?_
      refine e_iload_n dX6_betters_107 rfl rfl ?_
      refine e_iconst (v := 1) dX6_betters_108 (by decide) ?_
      refine e_iadd dX6_betters_109 ?_
      rw [nI_1]
      refine e_iload_n dX6_betters_110 rfl rfl ?_
      refine e_iload_n dX6_betters_111 rfl rfl ?_
      refine e_iconst (v := 1) dX6_betters_112 (by decide) ?_
      refine e_iload dX6_betters_113 rfl ?_
      refine e_ishl dX6_betters_115 ?_
      rw [shl_1 (by omega)]
      refine e_ior dX6_betters_116 ?_
      rw [fa_or]
      -- the last node
      have sub : Ct B mX6_betters 1 0 0 [.ref 60, .int (nI (2 * k + 1 + 1)), .int (nI (2 * k + 2 + 2 * 0)), .int (nI (so r ||| 2 ^ b))] N1 (Is (some (.int (if g.2.2 b = none then 1 else 0))) N1) := by
        have hl1 : N1.2.1 81 (2 * k + 1) = nI b := by rw [← hN1, rd_self]
        refine Ct.of (by decide) rfl rfl (Nat.le_of_ble_eq_true rfl) ?_
        refine e_aload_n dX6_betters_0 rfl rfl ?_
        refine e_getR dX6_betters_1 fRX6_55 (by exact ok1.sh rfl) (by exact ok1.rf rfl) (fun _ => rfl) ?_
        refine e_iload_n dX6_betters_4 rfl rfl ?_
        refine e_iconst (v := 1) dX6_betters_5 (by decide) ?_
        refine e_isub dX6_betters_6 ?_
        rw [nI_m1 (by omega), show 2 * k + 1 + 1 - 1 = 2 * k + 1 by omega]
        refine e_iaload dX6_betters_7 (by exact ok1.sh rfl) (by exact vp_in_nI (show 2 * k + 1 < 13 by omega) (by decide)) ?_
        rw [nI_clamp (by omega), hl1]
        refine e_istore dX6_betters_8 (by decide) rfl rfl ?_
        refine e_iload_n dX6_betters_10 rfl rfl ?_
        refine e_iload_n dX6_betters_11 rfl rfl ?_
        refine e_icmp_ne (tgt := 31) dX6_betters_12 (by decide) (fun hz => absurd rfl hz) (fun _ => ?_)
        refine e_aload_n dX6_betters_15 rfl rfl ?_
        refine e_iload dX6_betters_16 rfl ?_
        refine e_callV0i [_] dX6_betters_18 mvmX6_mate lkRX6_206 (by exact ok1.sh rfl) ⟨by decide, rfl⟩ rfl rfl (Nat.le_of_ble_eq_true rfl) (by omega) (c_mate ok1 now1 (by omega)) ?_
        refine e_iconst (v := (-1)) dX6_betters_21 (by decide) ?_
        have hn := wI_none (wf.mb b)
        refine e_icmp_ne (tgt := 29) dX6_betters_22 (by decide) (fun hz => ?_) (fun hz => ?_)
        · refine e_iconst (v := 0) dX6_betters_29 (by decide) ?_
          rw [if_neg (fun q => hz (hn.mpr q))]
          exact e_iret dX6_betters_30 rfl rfl ⟨rfl, rfl⟩
        · refine e_iconst (v := 1) dX6_betters_25 (by decide) ?_
          refine e_goto (tgt := 30) dX6_betters_26 (by decide) ?_
          rw [if_pos (hn.mp hz)]
          exact e_iret dX6_betters_30 rfl rfl ⟨rfl, rfl⟩
      refine e_callV0i [_, _, _] dX6_betters_117 mvmX6_betters lkRX6_233 (by exact ok1.sh rfl) ⟨by decide, rfl⟩ rfl rfl (Nat.le_of_ble_eq_true rfl) (by omega) (sub) ?_
      by_cases hmb : g.2.2 b = none
      · rw [if_pos hmb]
        have hG : Gp2 g a 0 r b = some (b :: r) := by
          show (if pfr g a (hd r) b = true then some (b :: r) else none) = _
          rw [if_pos]
          unfold pfr
          rw [decide_eq_true hba, hhd, hw, hmb]; rfl
        have hfs : fso (Gp2 g a 0 r) g.1 0 = some (b :: r) := by
          rw [← hF, show g.1 - b = (g.1 - (b + 1)) + 1 by omega, fso_t hG]
        refine e_if_eq (tgt := 125) dX6_betters_120 (by decide) (fun hz => absurd hz (by decide)) (fun _ => ?_)
        refine e_iconst (v := 1) dX6_betters_123 (by decide) ?_
        refine e_iret dX6_betters_124 rfl rfl ⟨_, rfl, by rw [hfs]; rfl, fN.trans f1, k1, fun l hl => ?_⟩
        rw [hfs] at hl
        cases hl
        exact r1
      · rw [if_neg hmb]
        have hG : Gp2 g a 0 r b = none := by
          show (if pfr g a (hd r) b = true then some (b :: r) else none) = _
          rw [if_neg]
          intro hp
          unfold pfr at hp
          simp only [Bool.and_eq_true, decide_eq_true_eq] at hp
          cases hq : g.2.2 b with
          | none => exact hmb hq
          | some c => rw [hq] at hp; cases hp.2.2
        refine e_if_eq (tgt := 125) dX6_betters_120 (by decide) (fun _ => ?_) (fun hz => absurd rfl hz)
        exact skip hG N1 (fN.trans f1) k1
  | succ m ih =>
    intro k M x q ok hnow hv hr hk
    have hlen : (x :: q).length = 2 * k + 1 := Vr_len hv
    have hql : q.length = 2 * k := by have : q.length + 1 = 2 * k + 1 := hlen; omega
    have hx12 : x < 12 := by have := Vr_in wf ha hv x (List.mem_cons_self ..); omega
    have hS4 := Vr_lt wf ha hv
    generalize hr0 : x :: q = r at *
    have hhd : hd r = x := by rw [← hr0]; rfl
    have hlast : M.2.1 81 (2 * k) = nI x := by rw [← hql]; rw [← hr0] at hr; exact hr.last
    rw [fcx_G]
    refine Ct.of (by decide) rfl rfl (Nat.le_of_ble_eq_true rfl) ?_
    refine e_aload_n dX6_betters_0 rfl rfl ?_
    refine e_getR dX6_betters_1 fRX6_55 (by exact ok.sh rfl) (by exact ok.rf rfl) (fun _ => rfl) ?_
    refine e_iload_n dX6_betters_4 rfl rfl ?_
    refine e_iconst (v := 1) dX6_betters_5 (by decide) ?_
    refine e_isub dX6_betters_6 ?_
    rw [nI_m1 (by omega), show 2 * k + 1 - 1 = 2 * k by omega]
    refine e_iaload dX6_betters_7 (by exact ok.sh rfl) (by exact vp_in_nI (show 2 * k < 13 by omega) (by decide)) ?_
    rw [nI_clamp (by omega), hlast]
    refine e_istore dX6_betters_8 (by decide) rfl rfl ?_
    refine e_iload_n dX6_betters_10 rfl rfl ?_
    refine e_iload_n dX6_betters_11 rfl rfl ?_
    refine e_icmp_ne (tgt := 31) dX6_betters_12 (by decide) (fun _ => ?_) (fun hz => absurd ((nI_eq (by omega) (by omega)).mp hz) (by omega))
    refine e_iconst (v := 0) dX6_betters_31 (by decide) ?_
    refine e_istore dX6_betters_32 (by decide) rfl rfl ?_
    refine betters_loop (F := Gp2 g a (m + 1) r) wf (by omega) ok hnow hx12 hS4 (by omega) (fun b hb hc => ?_) (fun N fN kN hF => ⟨_, rfl, by rw [hF]; rfl, fN, kN, fun l hl => by rw [hF] at hl; cases hl⟩) (fun N b fN kN hb hSb hw hpar hF skip => ?_)
    · show (cand g r b).bind (fcx g (Zp g a) m) = none
      have hcn : cand g r b = none := by
        cases hcd : cand g r b with
        | none => rfl
        | some r' =>
          obtain ⟨c, e1, e2, e3, e4, e5⟩ := cand_some.mp hcd
          rcases hc with c1 | c1 | c1
          · rw [c1] at e2; cases e2
          · rw [hhd, c1] at e3; cases e3
          · have hmx := c1.mpr (by omega)
            have h1 := (wf.2.2.2.2 x b hmx).1
            rw [e4] at h1
            have hcx : c = x := Option.some.inj h1
            rw [hcx, (so_bit r x).mpr (by rw [← hr0]; exact List.mem_cons_self ..)] at e5
            cases e5
      rw [hcn]; rfl
    · have okN : OkM N := ok.fr fN
      refine e_aload_n dX6_betters_98 rfl rfl ?_
      refine e_getR dX6_betters_99 fRX6_55 (by exact okN.sh rfl) (by exact okN.rf rfl) (fun _ => rfl) ?_
      refine e_iload_n dX6_betters_102 rfl rfl ?_
      refine e_iload dX6_betters_103 rfl ?_
      refine e_iastore dX6_betters_105 (by exact okN.sh rfl) (by exact vp_in_nI (show 2 * k + 1 < 13 by omega) (by decide)) ?_
      rw [nI_clamp (by omega)]
      generalize hN1 : sI N 81 (2 * k + 1) (nI b) = N1
      have f1 : Fr 81 81 N N1 := by rw [← hN1]; exact Fr.rf.sI (by decide) (by decide)
      have ok1 : OkM N1 := okN.fr f1
      have k1 : ∀ i, i < 2 * k + 1 → N1.2.1 81 i = M.2.1 81 i := fun i hi => by rw [← hN1, rd_ni (by omega)]; exact kN i hi
      have r1 : RwM N1 (b :: r) := (hr.keep (fun i hi => kN i (by omega))).cons (by rw [hlen]; exact hN1.symm)
      have now1 : NowR N1 63 g := (hnow.fr fN (by omega)).fr f1 (by omega)
      have hbr : b ∉ r := fun z => by rw [(so_bit r b).mpr z] at hSb; cases hSb
      have hS1 : so r ||| 2 ^ b < 4096 := by rw [← so_c]; exact lt_of_bits (n := 12) (fun i hi => by
        cases hq : (so (b :: r)).testBit i with
        | false => rfl
        | true =>
          rcases List.mem_cons.mp ((so_bit (b :: r) i).mp hq) with z | z
          · omega
          · have := Vr_in wf ha hv i z; omega)
      refine e_aload_n dX6_betters_106 rfl rfl ?_
      refine e_iload_n dX6_betters_107 rfl rfl ?_
      refine e_iconst (v := 1) dX6_betters_108 (by decide) ?_
      refine e_iadd dX6_betters_109 ?_
      rw [nI_1]
      refine e_iload_n dX6_betters_110 rfl rfl ?_
      refine e_iload_n dX6_betters_111 rfl rfl ?_
      refine e_iconst (v := 1) dX6_betters_112 (by decide) ?_
      refine e_iload dX6_betters_113 rfl ?_
      refine e_ishl dX6_betters_115 ?_
      rw [shl_1 (by omega)]
      refine e_ior dX6_betters_116 ?_
      rw [fa_or]
      -- the node and its mate
      have sub : Ct B mX6_betters (2 * m + 3) 0 0 [.ref 60, .int (nI (2 * k + 1 + 1)), .int (nI (2 * k + 2 + 2 * (m + 1))), .int (nI (so r ||| 2 ^ b))] N1 (BtP (Gp2 g a (m + 1) r b) (2 * k + 2) N1) := by
        have hl1 : N1.2.1 81 (2 * k + 1) = nI b := by rw [← hN1, rd_self]
        have hG : Gp2 g a (m + 1) r b = (cand g r b).bind (fcx g (Zp g a) m) := rfl
        refine Ct.of (by decide) rfl rfl (Nat.le_of_ble_eq_true rfl) ?_
        refine e_aload_n dX6_betters_0 rfl rfl ?_
        refine e_getR dX6_betters_1 fRX6_55 (by exact ok1.sh rfl) (by exact ok1.rf rfl) (fun _ => rfl) ?_
        refine e_iload_n dX6_betters_4 rfl rfl ?_
        refine e_iconst (v := 1) dX6_betters_5 (by decide) ?_
        refine e_isub dX6_betters_6 ?_
        rw [nI_m1 (by omega), show 2 * k + 1 + 1 - 1 = 2 * k + 1 by omega]
        refine e_iaload dX6_betters_7 (by exact ok1.sh rfl) (by exact vp_in_nI (show 2 * k + 1 < 13 by omega) (by decide)) ?_
        rw [nI_clamp (by omega), hl1]
        refine e_istore dX6_betters_8 (by decide) rfl rfl ?_
        refine e_iload_n dX6_betters_10 rfl rfl ?_
        refine e_iload_n dX6_betters_11 rfl rfl ?_
        refine e_icmp_ne (tgt := 31) dX6_betters_12 (by decide) (fun _ => ?_) (fun hz => absurd ((nI_eq (by omega) (by omega)).mp hz) (by omega))
        refine e_iconst (v := 0) dX6_betters_31 (by decide) ?_
        refine e_istore dX6_betters_32 (by decide) rfl rfl ?_
        refine betters_loop (F := fun c => if g.2.2 b = some c then Gp2 g a (m + 1) r b else none) wf (by omega) ok1 now1 (by omega) hS1 (by omega) (fun c hc hcc => ?_) (fun N fN kN hF => ?_) (fun N c fN kN hc hSc hwc hpar2 hF2 skip2 => ?_)
        · by_cases hbc : g.2.2 b = some c
          · rw [if_pos hbc, hG]
            rcases hcc with c1 | c1 | c1
            · have hcr : (so r).testBit c = true := by
                rw [Nat.testBit_or, Nat.testBit_two_pow, Bool.or_eq_true, decide_eq_true_eq] at c1
                rcases c1 with z | z
                · exact z
                · exact absurd z (wf.2.2.2.2 b c hbc).2.2.2
              have hcn : cand g r b = none := by
                cases hcd : cand g r b with
                | none => rfl
                | some r' =>
                  obtain ⟨c', e1, e2, e3, e4, e5⟩ := cand_some.mp hcd
                  rw [hbc] at e4
                  rw [← Option.some.inj e4, hcr] at e5; cases e5
              rw [hcn]; rfl
            · have := gd.2 b c hbc
              rw [c1] at this; cases this
            · have := c1.mp hbc
              omega
          · rw [if_neg hbc]
        · refine ⟨_, rfl, ?_, fN, kN, fun l hl => ?_⟩
          all_goals
            have hGn : Gp2 g a (m + 1) r b = none := by
              cases hbm : g.2.2 b with
              | none =>
                rw [hG]
                have hcn : cand g r b = none := by
                  cases hcd : cand g r b with
                  | none => rfl
                  | some r' =>
                    obtain ⟨c', e1, e2, e3, e4, e5⟩ := cand_some.mp hcd
                    rw [hbm] at e4; cases e4
                rw [hcn]; rfl
              | some c =>
                cases hGq : Gp2 g a (m + 1) r b with
                | none => rfl
                | some l0 =>
                  have hcg := (wf.2.2.2.2 b c hbm).2.2.1
                  have : ∀ k lo, lo ≤ c → c < lo + k → fso (fun c => if g.2.2 b = some c then Gp2 g a (m + 1) r b else none) k lo = some l0 := by
                    intro k
                    induction k with
                    | zero => intro lo h1 h2; omega
                    | succ k ihk =>
                      intro lo h1 h2
                      by_cases hlc : lo = c
                      · exact fso_t (by rw [if_pos (by rw [hlc]; exact hbm)]; exact hGq)
                      · rw [fso_f (by rw [if_neg (fun z => hlc (by rw [hbm] at z; exact (Option.some.inj z).symm))])]
                        exact ihk (lo + 1) (by omega) (by omega)
                  have h9 := this g.1 0 (by omega) (by omega)
                  rw [hF] at h9; cases h9
          · rw [hGn]; rfl
          · rw [hGn] at hl; cases hl
        · have hbc : g.2.2 b = some c := Classical.byContradiction (fun z => hpar2 ⟨fun w => absurd w z, fun w => by omega⟩)
          have hcr : (so r).testBit c = false := by
            rw [Nat.testBit_or] at hSc
            cases hq : (so r).testBit c with
            | false => rfl
            | true => rw [hq] at hSc; cases hSc
          have hcd : cand g r b = some (c :: b :: r) := cand_some.mpr ⟨c, rfl, hSb, by rw [hhd]; exact hw, hbc, hcr⟩
          have hG2 : Gp2 g a (m + 1) r b = fcx g (Zp g a) m (c :: b :: r) := by rw [hG, hcd]; rfl
          have okN2 : OkM N := ok1.fr fN
          refine e_aload_n dX6_betters_98 rfl rfl ?_
          refine e_getR dX6_betters_99 fRX6_55 (by exact okN2.sh rfl) (by exact okN2.rf rfl) (fun _ => rfl) ?_
          refine e_iload_n dX6_betters_102 rfl rfl ?_
          refine e_iload dX6_betters_103 rfl ?_
          refine e_iastore dX6_betters_105 (by exact okN2.sh rfl) (by exact vp_in_nI (show 2 * k + 1 + 1 < 13 by omega) (by decide)) ?_
          rw [nI_clamp (by omega)]
          generalize hN3 : sI N 81 (2 * k + 1 + 1) (nI c) = N3
          have f3 : Fr 81 81 N N3 := by rw [← hN3]; exact Fr.rf.sI (by decide) (by decide)
          have ok3 : OkM N3 := okN2.fr f3
          have k3 : ∀ i, i < 2 * k + 2 → N3.2.1 81 i = N1.2.1 81 i := fun i hi => by rw [← hN3, rd_ni (by omega)]; exact kN i (by omega)
          have r3 : RwM N3 (c :: b :: r) := (r1.keep (fun i hi => kN i (by
            have : (b :: r).length = 2 * k + 1 + 1 := by rw [List.length_cons, hlen]
            omega))).cons (by rw [List.length_cons, hlen]; exact hN3.symm)
          have now3 : NowR N3 63 g := (now1.fr fN (by omega)).fr f3 (by omega)
          have hv3 : Vr g a (k + 1) (c :: b :: r) := ⟨b, c, r, hv, rfl, hSb, by rw [hhd]; exact hw, hbc, hcr⟩
          refine e_aload_n dX6_betters_106 rfl rfl ?_
          refine e_iload_n dX6_betters_107 rfl rfl ?_
          refine e_iconst (v := 1) dX6_betters_108 (by decide) ?_
          refine e_iadd dX6_betters_109 ?_
          rw [nI_1]
          refine e_iload_n dX6_betters_110 rfl rfl ?_
          refine e_iload_n dX6_betters_111 rfl rfl ?_
          refine e_iconst (v := 1) dX6_betters_112 (by decide) ?_
          refine e_iload dX6_betters_113 rfl ?_
          refine e_ishl dX6_betters_115 ?_
          rw [shl_1 (by omega)]
          refine e_ior dX6_betters_116 ?_
          rw [fa_or]
          have call := ih (k + 1) N3 c (b :: r) ok3 now3 hv3 r3 (by omega)
          rw [show 2 * (k + 1) + 1 = 2 * k + 1 + 1 + 1 by omega, show 2 * (k + 1) + 2 + 2 * m = 2 * k + 2 + 2 * (m + 1) by omega] at call
          have eso : so (c :: b :: r) = so r ||| 2 ^ b ||| 2 ^ c := rfl
          rw [eso, ← hG2] at call
          refine e_callV1 [_, _, _] dX6_betters_117 mvmX6_betters lkRX6_233 (by exact ok3.sh rfl) ⟨by decide, rfl⟩ rfl rfl (Nat.le_of_ble_eq_true rfl) (by omega) (call) (fun u K hK => ?_)
          obtain ⟨hu, fK, kK, rK⟩ := hK
          subst hu
          cases hGq : Gp2 g a (m + 1) r b with
          | none =>
            refine e_if_eq (tgt := 125) dX6_betters_120 (by decide) (fun _ => ?_) (fun hz => absurd rfl hz)
            have s2 := skip2 (by rw [if_pos hbc]; exact hGq) K ((fN.trans f3).trans fK) (fun i hi => by
              rw [kK i (by omega)]
              exact k3 i (by omega))
            rw [hGq] at s2
            exact s2
          | some l0 =>
            refine e_if_eq (tgt := 125) dX6_betters_120 (by decide) (fun hz => absurd hz (by show ¬ (1 : Int32) = 0; decide)) (fun _ => ?_)
            refine e_iconst (v := 1) dX6_betters_123 (by decide) ?_
            refine e_iret dX6_betters_124 rfl rfl ⟨_, rfl, rfl, (fN.trans f3).trans fK, fun i hi => ?_, fun l hl => rK l (by rw [hGq]; exact hl)⟩
            rw [kK i (by omega)]
            exact k3 i (by omega)
      refine e_callV1 [_, _, _] dX6_betters_117 mvmX6_betters lkRX6_233 (by exact ok1.sh rfl) ⟨by decide, rfl⟩ rfl rfl (Nat.le_of_ble_eq_true rfl) (by omega) (sub) (fun u K hK => ?_)
      obtain ⟨hu, fK, kK, rK⟩ := hK
      subst hu
      cases hGq : Gp2 g a (m + 1) r b with
      | none =>
        refine e_if_eq (tgt := 125) dX6_betters_120 (by decide) (fun _ => ?_) (fun hz => absurd rfl hz)
        refine skip hGq K ((fN.trans f1).trans fK) (fun i hi => ?_)
        rw [kK i (by omega)]
        exact k1 i hi
      | some l0 =>
        have hfs : fso (Gp2 g a (m + 1) r) g.1 0 = some l0 := by
          rw [← hF, show g.1 - b = (g.1 - (b + 1)) + 1 by omega, fso_t hGq]
        refine e_if_eq (tgt := 125) dX6_betters_120 (by decide) (fun hz => absurd hz (by show ¬ (1 : Int32) = 0; decide)) (fun _ => ?_)
        refine e_iconst (v := 1) dX6_betters_123 (by decide) ?_
        refine e_iret dX6_betters_124 rfl rfl ⟨_, rfl, by rw [hfs]; rfl, (fN.trans f1).trans fK, fun i hi => ?_, fun l hl => ?_⟩
        · rw [kK i (by omega)]
          exact k1 i hi
        · rw [hfs] at hl
          exact rK l (by rw [hGq]; exact hl)

