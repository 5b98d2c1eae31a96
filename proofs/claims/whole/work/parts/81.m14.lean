/-! the Model: labels -/
def bn (M : Mm) (S x : Nat) : Prop := M.2.1 80 (12 * S + x) = 1
def Gsd (g : Nw) (T y : Nat) : Prop := ∃ a k r, a < g.1 ∧ g.2.2 a = none ∧ Vr g a k r ∧ ((T = so r ∧ y = hd r) ∨ (T = so r ||| 2 ^ y ∧ (so r).testBit y = false ∧ (g.2.1 (hd r) y).isSome = true))
def stp (g : Nw) (S x b : Nat) : Prop := b < g.1 ∧ S.testBit b = false ∧ (g.2.1 x b).isSome = true ∧ ¬ (g.2.2 x = some b ↔ pop S % 2 = 1)
theorem ln12 {g : Nw} (wf : Wfn g) {x y : Nat} (h : (g.2.1 x y).isSome = true) : x < g.1 ∧ y < g.1 := by
  obtain ⟨k, hk⟩ := Option.isSome_iff_exists.mp h
  have := wf.2.2.2.1 x y k hk
  exact ⟨this.1, this.2.1⟩
theorem Gsd_pop {g : Nw} (wf : Wfn g) {a k : Nat} {r : Rw} {y : Nat} (ha : a < g.1) (hv : Vr g a k r) (h1 : (so r).testBit y = false) (h2 : (g.2.1 (hd r) y).isSome = true) : pop (so r ||| 2 ^ y) = 2 * k + 2 := by
  have := (ln12 wf h2).2
  have h12 := wf.1.2
  rw [pop_or1 (Vr_lt wf ha hv) (by omega) h1, pop_so wf ha hv]
theorem Gsd_step {g : Nw} (wf : Wfn g) {S x b : Nat} (h : Gsd g S x) (hs : stp g S x b) : Gsd g (S ||| 2 ^ b) b := by
  obtain ⟨a, k, r, ha, hma, hv, h1 | h1⟩ := h
  · obtain ⟨e1, e2⟩ := h1
    subst e1 e2
    exact ⟨a, k, r, ha, hma, hv, Or.inr ⟨rfl, hs.2.1, hs.2.2.1⟩⟩
  · obtain ⟨e1, e2, e3⟩ := h1
    subst e1
    have hp := Gsd_pop wf ha hv e2 e3
    have hm : g.2.2 x = some b := Classical.byContradiction (fun z => hs.2.2.2 ⟨fun w => absurd w z, fun w => by omega⟩)
    have hb : (so r).testBit b = false := by
      have := hs.2.1
      rw [Nat.testBit_or] at this
      cases hq : (so r).testBit b with
      | false => rfl
      | true => rw [hq] at this; cases this
    exact ⟨a, k + 1, b :: x :: r, ha, hma, ⟨x, b, r, hv, rfl, e2, e3, hm, hb⟩, Or.inl ⟨rfl, rfl⟩⟩
theorem Gsd_lt {g : Nw} (wf : Wfn g) {S x b : Nat} (hS : S < 4096) (hs : stp g S x b) : (S ||| 2 ^ b) < 4096 ∧ b < 12 ∧ pop (S ||| 2 ^ b) = pop S + 1 := by
  have h12 := wf.1.2
  have hb := hs.1
  refine ⟨lt_of_bits (n := 12) (fun i hi => ?_), by omega, pop_or1 hS (by omega) hs.2.1⟩
  rw [Nat.testBit_or, Nat.testBit_two_pow]
  cases hq : S.testBit i with
  | true => have := in12 hS hq; omega
  | false => simp; omega
theorem hd_mate {g : Nw} (wf : Wfn g) {a k : Nat} {r : Rw} (hma : g.2.2 a = none) (hv : Vr g a k r) {y : Nat} (hy : (so r).testBit y = false) : ¬ g.2.2 (hd r) = some y := by
  intro hm
  by_cases hh : hd r = a
  · rw [hh, hma] at hm; cases hm
  · obtain ⟨z, h1, h2, -⟩ := Vr_mate wf hv (hd r) (Vr_hd hv) hh
    rw [hm] at h1
    rw [Option.some.inj h1, (so_bit r z).mpr h2] at hy; cases hy
/-- a closed set of states with all starts has all walks -/
theorem all_in {g : Nw} (gd : Gd g) {V : Nat → Nat → Prop} (h0 : ∀ a, a < g.1 → g.2.2 a = none → V (2 ^ a) a) (hs : ∀ T y, T < 4096 → y < 12 → V T y → ∀ b, stp g T y b → V (T ||| 2 ^ b) b) {a : Nat} (ha : a < g.1) (hma : g.2.2 a = none) : ∀ k r, Vr g a k r → V (so r) (hd r) := by
  have wf := gd.1
  have h12 := wf.1.2
  intro k
  induction k with
  | zero =>
    intro r hr
    have : r = [a] := hr
    subst this
    rw [so_1]
    exact h0 a ha hma
  | succ k ih =>
    intro r hr
    obtain ⟨b, c, q, hq, rfl, hb, hw, hbc, hc⟩ := hr
    have v1 := ih q hq
    have hq12 : hd q < 12 := by have := Vr_in wf ha hq _ (Vr_hd hq); omega
    have s1 : stp g (so q) (hd q) b := ⟨(ln12 wf hw).2, hb, hw, fun z => hd_mate wf hma hq hb (z.mpr (by rw [pop_so wf ha hq]; omega))⟩
    have v2 := hs _ _ (Vr_lt wf ha hq) hq12 v1 b s1
    have l2 := Gsd_lt wf (Vr_lt wf ha hq) s1
    have hcb := wf.2.2.2.2 b c hbc
    have s2 : stp g (so q ||| 2 ^ b) b c := ⟨hcb.2.2.1, by
      rw [Nat.testBit_or, hc, Nat.testBit_two_pow]
      have : ¬ b = c := hcb.2.2.2
      simp [this], gd.2 b c hbc, fun z => by
      have h9 := z.mp hbc
      rw [l2.2.2, pop_so wf ha hq] at h9
      omega⟩
    exact hs _ _ l2.1 l2.2.1 v2 c s2
def LIv (g : Nw) (M : Mm) : Prop := ∃ E O, M.2.1 60 22 = nI E ∧ M.2.1 60 23 = nI O ∧ (∀ y, E.testBit y = true ↔ ∃ T, T < 4096 ∧ y < 12 ∧ bn M T y ∧ pop T % 2 = 1) ∧ (∀ y, O.testBit y = true ↔ ∃ T, T < 4096 ∧ y < 12 ∧ bn M T y ∧ pop T % 2 = 0) ∧ (∀ T y, T < 4096 → y < 12 → bn M T y → Gsd g T y) ∧ ∀ i, i < 49152 → M.2.1 80 i = 0 ∨ M.2.1 80 i = 1
def LFr (M N : Mm) : Prop := N.1 = M.1 ∧ N.2.2 = M.2.2 ∧ (∀ j, j ≠ 22 → j ≠ 23 → N.2.1 60 j = M.2.1 60 j) ∧ ∀ b, b ≠ 60 → b ≠ 80 → N.2.1 b = M.2.1 b
theorem LFr.rf {M : Mm} : LFr M M := ⟨rfl, rfl, fun _ _ _ => rfl, fun _ _ _ => rfl⟩
theorem LFr.trans {M N K : Mm} (h1 : LFr M N) (h2 : LFr N K) : LFr M K := ⟨h2.1.trans h1.1, h2.2.1.trans h1.2.1, fun j a b => (h2.2.2.1 j a b).trans (h1.2.2.1 j a b), fun b x y => (h2.2.2.2 b x y).trans (h1.2.2.2 b x y)⟩
theorem LFr.Z {M N : Mm} (h : LFr M N) : MZ M N := ⟨h.1, h.2.1, fun j hj => h.2.2.1 j (fun q => hj (by rw [q]; decide)) (fun q => hj (by rw [q]; decide)), fun b hb => h.2.2.2 b (fun q => hb (by rw [q]; decide)) (fun q => hb (by rw [q]; decide))⟩
theorem LFr.s {M N : Mm} (h : LFr M N) {i : Nat} {v : Int32} : LFr M (sI N 80 i v) := ⟨h.1, h.2.1, fun j a b => by rw [rd_na (by decide)]; exact h.2.2.1 j a b, fun b x y => (sI_row y).trans (h.2.2.2 b x y)⟩
theorem LFr.f {M N : Mm} (h : LFr M N) {i : Nat} {v : Int32} (hi : i = 22 ∨ i = 23) : LFr M (sI N 60 i v) := ⟨h.1, h.2.1, fun j a b => by rw [rd_ni (by omega)]; exact h.2.2.1 j a b, fun b x y => (sI_row x).trans (h.2.2.2 b x y)⟩
def GoP (g : Nw) (S x : Nat) (M : Mm) : Ot → Mm → Prop := Rt (fun u N => u = none ∧ LIv g N ∧ LFr M N ∧ bn N S x ∧ (∀ T y, T < 4096 → y < 12 → bn M T y → bn N T y) ∧ ∀ T y, T < 4096 → y < 12 → bn N T y → ¬ bn M T y → ∀ b, stp g T y b → bn N (T ||| 2 ^ b) b)
theorem e12b (a b : Nat) : 12 * nI a + nI b = nI (12 * a + b) := by
  rw [show (12 : Int32) = nI 12 from rfl, pk_mul, nI_add]
theorem goes_body {B : Bd} {g : Nw} (gd : Gd g) {d S x : Nat} {M : Mm} (hS : S < 4096) (hx : x < 12) (ok : OkM M) (hnow : NowR M 63 g) (hL : LIv g M) (hG : Gsd g S x) (hrec : ∀ b K, stp g S x b → OkM K → NowR K 63 g → LIv g K → Ct B mX6_goes d 0 0 [.ref 60, .int (nI (S ||| 2 ^ b)), .int (nI b)] K (GoP g (S ||| 2 ^ b) b K)) : Ct B mX6_goes (d + 1) 0 0 [.ref 60, .int (nI S), .int (nI x)] M (GoP g S x M) := by
  have wf := gd.1
  have hg12 := wf.1.2
  obtain ⟨E, O, hE, hO, bE, bO, bG, bz⟩ := id hL
  have hi : 12 * S + x < 49152 := by omega
  have hpS := pop_le S
  refine Ct.of (by decide) rfl rfl (Nat.le_of_ble_eq_true rfl) ?_
  refine e_aload_n dX6_goes_0 rfl rfl ?_
  refine e_getR dX6_goes_1 fRX6_51 (by exact ok.sh rfl) (by exact ok.rf rfl) (fun _ => rfl) ?_
  refine e_bipush (v := 12) dX6_goes_4 (by decide) ?_
  refine e_iload_n dX6_goes_6 rfl rfl ?_
  refine e_imul dX6_goes_7 ?_
  refine e_iload_n dX6_goes_8 rfl rfl ?_
  refine e_iadd dX6_goes_9 ?_
  rw [e12b]
  refine e_baloadZ dX6_goes_10 (by exact ok.sh rfl) (by exact vp_in_nI (show 12 * S + x < 49152 by omega) (by decide)) ?_
  rw [nI_clamp (by omega)]
  rcases bz _ hi with hb0 | hb1
  · rw [hb0]
    refine e_if_eq (tgt := 15) dX6_goes_11 (by decide) (fun _ => ?_) (fun hz => absurd rfl hz)
    refine e_aload_n dX6_goes_15 rfl rfl ?_
    refine e_getR dX6_goes_16 fRX6_51 (by exact ok.sh rfl) (by exact ok.rf rfl) (fun _ => rfl) ?_
    refine e_bipush (v := 12) dX6_goes_19 (by decide) ?_
    refine e_iload_n dX6_goes_21 rfl rfl ?_
    refine e_imul dX6_goes_22 ?_
    refine e_iload_n dX6_goes_23 rfl rfl ?_
    refine e_iadd dX6_goes_24 ?_
    rw [e12b]
    refine e_iconst (v := 1) dX6_goes_25 (by decide) ?_
    refine e_bastoreZ dX6_goes_26 (by exact ok.lo) (by exact ok.sh rfl) (by exact vp_in_nI (show 12 * S + x < 49152 by omega) (by decide)) ?_
    rw [nI_clamp (by omega), show vp_nar .boolean 1 = (1 : Int32) from rfl]
    generalize hM1 : sI M 80 (12 * S + x) 1 = M1
    have l1 : LFr M M1 := by rw [← hM1]; exact LFr.rf.s
    have ok1 : OkM M1 := ok.of l1.1 l1.2.1
    have b1 : ∀ T y, T < 4096 → y < 12 → (bn M1 T y ↔ bn M T y ∨ (T = S ∧ y = x)) := by
      intro T y hT hy
      unfold bn
      rw [← hM1]
      by_cases he : 12 * T + y = 12 * S + x
      · rw [he, rd_self]
        exact ⟨fun _ => Or.inr (by omega), fun _ => rfl⟩
      · rw [rd_ni he]
        exact ⟨Or.inl, fun z => z.elim id (fun w => absurd (by rw [w.1, w.2]) he)⟩
    have z1 : ∀ i, i < 49152 → M1.2.1 80 i = 0 ∨ M1.2.1 80 i = 1 := fun i hi => by
      rw [← hM1]
      by_cases he : i = 12 * S + x
      · rw [he, rd_self]; exact Or.inr rfl
      · rw [rd_ni he]; exact bz i hi
    have e22 : M1.2.1 60 22 = nI E := by rw [← hM1, rd_na (by decide)]; exact hE
    have e23 : M1.2.1 60 23 = nI O := by rw [← hM1, rd_na (by decide)]; exact hO
    -- the loop over the next nodes
    have rest : ∀ N2 (v : Int32), (v = 1 ∧ pop S % 2 = 1) ∨ (v = 0 ∧ pop S % 2 = 0) → LIv g N2 → LFr M N2 → N2.2.1 80 = M1.2.1 80 → Ev B mX6_goes (d + 1) 0 0 (GoP g S x M) 74 [some (.ref 60), some (.int (nI S)), some (.int (nI x)), some (.int v), none] [] N2 := by
      intro N2 v hv L2 l2 e82
      have b2 : ∀ T y, bn N2 T y ↔ bn M1 T y := fun T y => by unfold bn; rw [e82]
      have loop : ∀ j b K, b + j = g.1 → LIv g K → LFr M K → (∀ T y, T < 4096 → y < 12 → bn N2 T y → bn K T y) → (∀ T y, T < 4096 → y < 12 → bn K T y → ¬ bn N2 T y → ∀ c, stp g T y c → bn K (T ||| 2 ^ c) c) → (∀ c, c < b → stp g S x c → bn K (S ||| 2 ^ c) c) → Ev B mX6_goes (d + 1) 0 0 (GoP g S x M) 77 [some (.ref 60), some (.int (nI S)), some (.int (nI x)), some (.int v), some (.int (nI b))] [] K := by
        intro j
        induction j with
        | zero =>
          intro b K hb LK lK sub clo done
          have okK : OkM K := ok.of lK.1 lK.2.1
          have nowK : NowR K 63 g := hnow.at (lK.2.2.2 63 (by decide) (by decide))
          refine e_iload dX6_goes_77 rfl ?_
          refine e_aload_n dX6_goes_79 rfl rfl ?_
          refine e_callV0i [] dX6_goes_80 mvmX6_nodes lkRX6_181 (by exact okK.sh rfl) ⟨by decide, rfl⟩ rfl rfl (Nat.le_of_ble_eq_true rfl) (by omega) (c_nodes okK nowK) ?_
          refine e_icmp_ge (tgt := 146) dX6_goes_83 (by decide) (fun _ => ?_) (fun hz => absurd (nI_le (by omega) (by omega)) hz)
          refine e_vret dX6_goes_146 rfl ⟨none, rfl, rfl, LK, lK, ?_, ?_, ?_⟩
          · exact sub S x hS hx ((b2 S x).mpr ((b1 S x hS hx).mpr (Or.inr ⟨rfl, rfl⟩)))
          · exact fun T y hT hy h => sub T y hT hy ((b2 T y).mpr ((b1 T y hT hy).mpr (Or.inl h)))
          · intro T y hT hy h hno c hc
            by_cases hN : bn N2 T y
            · rcases (b1 T y hT hy).mp ((b2 T y).mp hN) with q | ⟨q1, q2⟩
              · exact absurd q hno
              · subst q1 q2
                exact done c (by have := hc.1; omega) hc
            · exact clo T y hT hy h hN c hc
        | succ j ih =>
          intro b K hb LK lK sub clo done
          have okK : OkM K := ok.of lK.1 lK.2.1
          have nowK : NowR K 63 g := hnow.at (lK.2.2.2 63 (by decide) (by decide))
          -- no step there
          have skip : ¬ stp g S x b → Ev B mX6_goes (d + 1) 0 0 (GoP g S x M) 140 [some (.ref 60), some (.int (nI S)), some (.int (nI x)), some (.int v), some (.int (nI b))] [] K := by
            intro hno
            refine e_iinc (v := nI (b + 1)) dX6_goes_140 rfl (nI_1 b) (by decide) rfl rfl ?_
            refine e_goto (tgt := 77) dX6_goes_143 (by decide) ?_
            refine ih (b + 1) K (by omega) LK lK sub clo (fun c hc hs => ?_)
            by_cases hcb : c = b
            · rw [hcb] at hs; exact absurd hs hno
            · exact done c (by omega) hs
          refine e_iload dX6_goes_77 rfl ?_
          refine e_aload_n dX6_goes_79 rfl rfl ?_
          refine e_callV0i [] dX6_goes_80 mvmX6_nodes lkRX6_181 (by exact okK.sh rfl) ⟨by decide, rfl⟩ rfl rfl (Nat.le_of_ble_eq_true rfl) (by omega) (c_nodes okK nowK) ?_
          refine e_icmp_ge (tgt := 146) dX6_goes_83 (by decide) (fun hz => absurd hz (nI_ge (by omega) (by omega))) (fun _ => ?_)
          refine e_iload_n dX6_goes_86 rfl rfl ?_
          refine e_iload dX6_goes_87 rfl ?_
          refine e_callS0i [_, _] dX6_goes_89 msmX6_has lkRX6_183 rfl rfl (Nat.le_of_ble_eq_true rfl) (by omega) (c_has (by omega) (by omega)) ?_
          by_cases h1 : S.testBit b = true
          · rw [if_pos h1]
            refine e_if_ne (tgt := 140) dX6_goes_92 (by decide) (fun _ => skip (fun q => by have := q.2.1; rw [h1] at this; cases this)) (fun hz => absurd hz (by decide))
          · rw [if_neg h1]
            have h1' : S.testBit b = false := by simpa using h1
            refine e_if_ne (tgt := 140) dX6_goes_92 (by decide) (fun hz => absurd rfl hz) (fun _ => ?_)
            refine e_aload_n dX6_goes_95 rfl rfl ?_
            refine e_iload_n dX6_goes_96 rfl rfl ?_
            refine e_iload dX6_goes_97 rfl ?_
            refine e_callV0i [_, _] dX6_goes_99 mvmX6_weight lkRX6_203 (by exact okK.sh rfl) ⟨by decide, rfl⟩ rfl rfl (Nat.le_of_ble_eq_true rfl) (by omega) (c_weight okK nowK (by omega) (by omega)) ?_
            refine e_iconst (v := (-1)) dX6_goes_102 (by decide) ?_
            have hn := wI_none (wf.wb x b)
            refine e_icmp_eq (tgt := 140) dX6_goes_103 (by decide) (fun hz => skip (fun q => by have := q.2.2.1; rw [hn.mp hz] at this; cases this)) (fun hz => ?_)
            have hw : (g.2.1 x b).isSome = true := by
              cases hq : g.2.1 x b with
              | none => exact absurd (hn.mpr hq) hz
              | some c => rfl
            -- a step
            have go : stp g S x b → Ev B mX6_goes (d + 1) 0 0 (GoP g S x M) 128 [some (.ref 60), some (.int (nI S)), some (.int (nI x)), some (.int v), some (.int (nI b))] [] K := by
              intro hst
              have hl := Gsd_lt wf hS hst
              refine e_aload_n dX6_goes_128 rfl rfl ?_
              refine e_iload_n dX6_goes_129 rfl rfl ?_
              refine e_iconst (v := 1) dX6_goes_130 (by decide) ?_
              refine e_iload dX6_goes_131 rfl ?_
              refine e_ishl dX6_goes_133 ?_
              rw [shl_1 (by omega)]
              refine e_ior dX6_goes_134 ?_
              rw [fa_or]
              refine e_iload dX6_goes_135 rfl ?_
              refine e_callV1 [_, _] dX6_goes_137 mvmX6_goes lkRX6_230 (by exact okK.sh rfl) ⟨by decide, rfl⟩ rfl rfl (Nat.le_of_ble_eq_true rfl) (by omega) (hrec b K hst okK nowK LK) (fun u K2 hq => ?_)
              obtain ⟨hu, LK2, lK2, g1, g2, g3⟩ := hq
              subst hu
              refine e_iinc (v := nI (b + 1)) dX6_goes_140 rfl (nI_1 b) (by decide) rfl rfl ?_
              refine e_goto (tgt := 77) dX6_goes_143 (by decide) ?_
              refine ih (b + 1) K2 (by omega) LK2 (lK.trans lK2) (fun T y hT hy h => g2 T y hT hy (sub T y hT hy h)) (fun T y hT hy h hno c hc => ?_) (fun c hc hs => ?_)
              · by_cases hK : bn K T y
                · have hlc := Gsd_lt wf hT hc
                  exact g2 _ _ hlc.1 hlc.2.1 (clo T y hT hy hK hno c hc)
                · exact g3 T y hT hy h hK c hc
              · by_cases hcb : c = b
                · rw [hcb]; exact g1
                · have hlc := Gsd_lt wf hS hs
                  exact g2 _ _ hlc.1 hlc.2.1 (done c (by omega) hs)
            have hwm := wI_some (b := b) (wf.mb x) (by omega)
            refine e_aload_n dX6_goes_106 rfl rfl ?_
            refine e_iload_n dX6_goes_107 rfl rfl ?_
            refine e_callV0i [_] dX6_goes_108 mvmX6_mate lkRX6_206 (by exact okK.sh rfl) ⟨by decide, rfl⟩ rfl rfl (Nat.le_of_ble_eq_true rfl) (by omega) (c_mate okK nowK (by omega)) ?_
            refine e_iload dX6_goes_111 rfl ?_
            refine e_icmp_ne (tgt := 120) dX6_goes_113 (by decide) (fun hz2 => ?_) (fun hz2 => ?_)
            · have hnm : ¬ g.2.2 x = some b := fun q => hz2 (hwm.mpr q)
              refine e_iconst (v := 0) dX6_goes_120 (by decide) ?_
              refine e_iload_n dX6_goes_121 rfl rfl ?_
              rcases hv with ⟨v1, v2⟩ | ⟨v1, v2⟩
              · subst v1
                refine e_icmp_ne (tgt := 128) dX6_goes_122 (by decide) (fun _ => go ⟨by omega, h1', hw, fun q => hnm (q.mpr v2)⟩) (fun hz => absurd hz (by decide))
              · subst v1
                refine e_icmp_ne (tgt := 128) dX6_goes_122 (by decide) (fun hz => absurd rfl hz) (fun _ => ?_)
                refine e_goto (tgt := 140) dX6_goes_125 (by decide) ?_
                exact skip (fun q => q.2.2.2 ⟨fun z => absurd z hnm, fun z => by omega⟩)
            · have hm : g.2.2 x = some b := hwm.mp hz2
              refine e_iconst (v := 1) dX6_goes_116 (by decide) ?_
              refine e_goto (tgt := 121) dX6_goes_117 (by decide) ?_
              refine e_iload_n dX6_goes_121 rfl rfl ?_
              rcases hv with ⟨v1, v2⟩ | ⟨v1, v2⟩
              · subst v1
                refine e_icmp_ne (tgt := 128) dX6_goes_122 (by decide) (fun hz => absurd rfl hz) (fun _ => ?_)
                refine e_goto (tgt := 140) dX6_goes_125 (by decide) ?_
                exact skip (fun q => q.2.2.2 ⟨fun _ => v2, fun _ => hm⟩)
              · subst v1
                refine e_icmp_ne (tgt := 128) dX6_goes_122 (by decide) (fun _ => go ⟨by omega, h1', hw, fun q => by have := q.mp hm; omega⟩) (fun hz => absurd hz (by decide))
      refine e_iconst (v := 0) dX6_goes_74 (by decide) ?_
      refine e_istore dX6_goes_75 (by decide) rfl rfl ?_
      exact loop g.1 0 N2 (by omega) L2 l2 (fun _ _ _ _ h => h) (fun _ _ _ _ h hno => absurd h hno) (fun c hc => by omega)
    refine e_iload_n dX6_goes_27 rfl rfl ?_
    refine e_callS0i [_] dX6_goes_28 msmX6_bits lkRX6_221 rfl rfl (Nat.le_of_ble_eq_true rfl) (by omega) (c_bits hS) ?_
    refine e_iconst (v := 2) dX6_goes_31 (by decide) ?_
    refine e_irem dX6_goes_32 (by decide) ?_
    have er : nI (pop S) - nI (pop S) / 2 * 2 = nI (pop S % 2) := fa_rem (k := 1) (by omega) (by decide)
    rw [er]
    refine e_iconst (v := 1) dX6_goes_33 (by decide) ?_
    rcases Nat.mod_two_eq_zero_or_one (pop S) with h0 | h0
    · rw [h0]
      refine e_icmp_ne (tgt := 41) dX6_goes_34 (by decide) (fun _ => ?_) (fun hz => absurd hz (by decide))
      refine e_iconst (v := 0) dX6_goes_41 (by decide) ?_
      refine e_istore_n dX6_goes_42 rfl (by decide) rfl rfl ?_
      refine e_iload_n dX6_goes_43 rfl rfl ?_
      refine e_if_eq (tgt := 62) dX6_goes_44 (by decide) (fun _ => ?_) (fun hz => absurd rfl hz)
      refine e_aload_n dX6_goes_62 rfl rfl ?_
      refine e_dup dX6_goes_63 rfl ?_
      refine e_getI dX6_goes_64 fRX6_227 (by exact ok1.sh rfl) (fun _ => rfl) ?_
      rw [e23]
      refine e_iconst (v := 1) dX6_goes_67 (by decide) ?_
      refine e_iload_n dX6_goes_68 rfl rfl ?_
      refine e_ishl dX6_goes_69 ?_
      rw [shl_1 (by omega)]
      refine e_ior dX6_goes_70 ?_
      rw [fa_or]
      refine e_putI dX6_goes_71 fRX6_227 (by exact ok1.sh rfl) rfl rfl rfl (fun _ _ => rfl) ?_
      refine rest _ 0 (Or.inr ⟨rfl, h0⟩) ?_ (l1.f (Or.inr rfl)) (sI_row (by decide))
      have eb : ∀ T y, bn (sI M1 60 23 (nI (O ||| 2 ^ x))) T y ↔ bn M1 T y := fun T y => by unfold bn; rw [rd_na (by decide)]
      refine ⟨E, O ||| 2 ^ x, by rw [rd_ni (by decide)]; exact e22, by rw [rd_self], fun y => ?_, fun y => ?_, fun T y hT hy h => ?_, fun i hi => by rw [rd_na (by decide)]; exact z1 i hi⟩
      · rw [bE y]
        constructor
        · rintro ⟨T, q1, q2, q3, q4⟩
          exact ⟨T, q1, q2, (eb T y).mpr ((b1 T y q1 q2).mpr (Or.inl q3)), q4⟩
        · rintro ⟨T, q1, q2, q3, q4⟩
          rcases (b1 T y q1 q2).mp ((eb T y).mp q3) with z | ⟨z1, z2⟩
          · exact ⟨T, q1, q2, z, q4⟩
          · rw [z1] at q4; omega
      · rw [Nat.testBit_or, Bool.or_eq_true, bO y, Nat.testBit_two_pow, decide_eq_true_eq]
        constructor
        · rintro (⟨T, q1, q2, q3, q4⟩ | q)
          · exact ⟨T, q1, q2, (eb T y).mpr ((b1 T y q1 q2).mpr (Or.inl q3)), q4⟩
          · subst q
            exact ⟨S, hS, hx, (eb S x).mpr ((b1 S x hS hx).mpr (Or.inr ⟨rfl, rfl⟩)), h0⟩
        · rintro ⟨T, q1, q2, q3, q4⟩
          rcases (b1 T y q1 q2).mp ((eb T y).mp q3) with z | ⟨z1, z2⟩
          · exact Or.inl ⟨T, q1, q2, z, q4⟩
          · exact Or.inr z2.symm
      · rcases (b1 T y hT hy).mp ((eb T y).mp h) with z | ⟨z1, z2⟩
        · exact bG T y hT hy z
        · rw [z1, z2]; exact hG
    · rw [h0]
      refine e_icmp_ne (tgt := 41) dX6_goes_34 (by decide) (fun hz => absurd rfl hz) (fun _ => ?_)
      refine e_iconst (v := 1) dX6_goes_37 (by decide) ?_
      refine e_goto (tgt := 42) dX6_goes_38 (by decide) ?_
      refine e_istore_n dX6_goes_42 rfl (by decide) rfl rfl ?_
      refine e_iload_n dX6_goes_43 rfl rfl ?_
      refine e_if_eq (tgt := 62) dX6_goes_44 (by decide) (fun hz => absurd hz (by decide)) (fun _ => ?_)
      refine e_aload_n dX6_goes_47 rfl rfl ?_
      refine e_dup dX6_goes_48 rfl ?_
      refine e_getI dX6_goes_49 fRX6_224 (by exact ok1.sh rfl) (fun _ => rfl) ?_
      rw [e22]
      refine e_iconst (v := 1) dX6_goes_52 (by decide) ?_
      refine e_iload_n dX6_goes_53 rfl rfl ?_
      refine e_ishl dX6_goes_54 ?_
      rw [shl_1 (by omega)]
      refine e_ior dX6_goes_55 ?_
      rw [fa_or]
      refine e_putI dX6_goes_56 fRX6_224 (by exact ok1.sh rfl) rfl rfl rfl (fun _ _ => rfl) ?_
      refine e_goto (tgt := 74) dX6_goes_59 (by decide) ?_
      refine rest _ 1 (Or.inl ⟨rfl, h0⟩) ?_ (l1.f (Or.inl rfl)) (sI_row (by decide))
      have eb : ∀ T y, bn (sI M1 60 22 (nI (E ||| 2 ^ x))) T y ↔ bn M1 T y := fun T y => by unfold bn; rw [rd_na (by decide)]
      refine ⟨E ||| 2 ^ x, O, by rw [rd_self], by rw [rd_ni (by decide)]; exact e23, fun y => ?_, fun y => ?_, fun T y hT hy h => ?_, fun i hi => by rw [rd_na (by decide)]; exact z1 i hi⟩
      · rw [Nat.testBit_or, Bool.or_eq_true, bE y, Nat.testBit_two_pow, decide_eq_true_eq]
        constructor
        · rintro (⟨T, q1, q2, q3, q4⟩ | q)
          · exact ⟨T, q1, q2, (eb T y).mpr ((b1 T y q1 q2).mpr (Or.inl q3)), q4⟩
          · subst q
            exact ⟨S, hS, hx, (eb S x).mpr ((b1 S x hS hx).mpr (Or.inr ⟨rfl, rfl⟩)), h0⟩
        · rintro ⟨T, q1, q2, q3, q4⟩
          rcases (b1 T y q1 q2).mp ((eb T y).mp q3) with z | ⟨z1, z2⟩
          · exact Or.inl ⟨T, q1, q2, z, q4⟩
          · exact Or.inr z2.symm
      · rw [bO y]
        constructor
        · rintro ⟨T, q1, q2, q3, q4⟩
          exact ⟨T, q1, q2, (eb T y).mpr ((b1 T y q1 q2).mpr (Or.inl q3)), q4⟩
        · rintro ⟨T, q1, q2, q3, q4⟩
          rcases (b1 T y q1 q2).mp ((eb T y).mp q3) with z | ⟨z1, z2⟩
          · exact ⟨T, q1, q2, z, q4⟩
          · rw [z1] at q4; omega
      · rcases (b1 T y hT hy).mp ((eb T y).mp h) with z | ⟨z1, z2⟩
        · exact bG T y hT hy z
        · rw [z1, z2]; exact hG
  · rw [hb1]
    refine e_if_eq (tgt := 15) dX6_goes_11 (by decide) (fun hz => absurd hz (by decide)) (fun _ => ?_)
    exact e_vret dX6_goes_14 rfl ⟨none, rfl, rfl, hL, LFr.rf, hb1, fun _ _ _ _ h => h, fun _ _ _ _ h hno => absurd h hno⟩
theorem c_goes {B : Bd} {g : Nw} (gd : Gd g) : ∀ f S x M, 12 ≤ f + pop S → S < 4096 → x < 12 → OkM M → NowR M 63 g → LIv g M → Gsd g S x → Ct B mX6_goes (f + 1) 0 0 [.ref 60, .int (nI S), .int (nI x)] M (GoP g S x M) := by
  intro f
  induction f with
  | zero =>
    intro S x M hf hS hx ok hnow hL hG
    refine goes_body gd hS hx ok hnow hL hG (fun b K hs => ?_)
    have h1 := (Gsd_lt gd.1 hS hs).2.2
    have h2 := pop_le (S ||| 2 ^ b)
    omega
  | succ f ih =>
    intro S x M hf hS hx ok hnow hL hG
    refine goes_body gd hS hx ok hnow hL hG (fun b K hs okK nowK LK => ?_)
    have h1 := Gsd_lt gd.1 hS hs
    exact ih (S ||| 2 ^ b) b K (by omega) h1.1 h1.2.1 okK nowK LK (Gsd_step gd.1 hG hs)
theorem Vr_rws {g : Nw} (wf : Wfn g) {a : Nat} : ∀ {k r}, Vr g a k r → r ∈ rws g a k := by
  intro k
  induction k with
  | zero => intro r h; exact List.mem_singleton.mpr h
  | succ k ih =>
    intro r h
    obtain ⟨b, c, q, hq, rfl, hb, hw, hbc, hc⟩ := h
    show c :: b :: q ∈ (rws g a k).flatMap (extw g)
    rw [List.mem_flatMap]
    refine ⟨q, ih hq, ?_⟩
    unfold extw
    rw [List.mem_filterMap]
    exact ⟨b, List.mem_range.mpr (ln12 wf hw).2, cand_some.mpr ⟨c, rfl, hb, hw, hbc, hc⟩⟩
theorem wlk_has {g : Nw} (wf : Wfn g) {a k : Nat} {r : Rw} (ha : a < g.1) (h : Vr g a k r) : ∃ q, q ∈ wlk g a ∧ ky q = ky r := by
  rw [wlk_eq wf ha]
  have h1 := Vr_k wf ha h
  have h2 := wf.1.2
  exact adds_has (Or.inr (lev_mem.mpr ⟨k, by omega, Vr_rws wf h⟩))
theorem mE_bit (Q : List Rw) (y : Nat) : ∀ e, (Q.foldl mE e).testBit y = true ↔ e.testBit y = true ∨ ∃ r, r ∈ Q ∧ hd r = y := by
  induction Q with
  | nil => intro e; simp
  | cons q Q ih =>
    intro e
    show (Q.foldl mE (mE e q)).testBit y = true ↔ _
    rw [ih]
    unfold mE
    rw [Nat.testBit_or, Bool.or_eq_true, Nat.testBit_two_pow, decide_eq_true_eq]
    constructor
    · rintro ((h | h) | ⟨r, h1, h2⟩)
      · exact Or.inl h
      · exact Or.inr ⟨q, List.mem_cons_self .., h⟩
      · exact Or.inr ⟨r, List.mem_cons_of_mem _ h1, h2⟩
    · rintro (h | ⟨r, h1, h2⟩)
      · exact Or.inl (Or.inl h)
      · rcases List.mem_cons.mp h1 with h3 | h3
        · rw [h3] at h2; exact Or.inl (Or.inr h2)
        · exact Or.inr ⟨r, h3, h2⟩
theorem mL_bit (g : Nw) (Q : List Rw) (y : Nat) : ∀ l, (Q.foldl (mL g) l).testBit y = true ↔ l.testBit y = true ∨ ∃ r, r ∈ Q ∧ (y < 12 ∧ (g.2.1 (hd r) y).isSome = true) ∧ (so r).testBit y = false := by
  induction Q with
  | nil => intro l; simp
  | cons q Q ih =>
    intro l
    show (Q.foldl (mL g) (mL g l q)).testBit y = true ↔ _
    rw [ih]
    unfold mL
    rw [Nat.testBit_or, Bool.or_eq_true, dif_bit, nbr_bit]
    simp only [Bool.and_eq_true, decide_eq_true_eq, Bool.not_eq_true']
    constructor
    · rintro ((h | h) | ⟨r, h1, h2⟩)
      · exact Or.inl h
      · exact Or.inr ⟨q, List.mem_cons_self .., h⟩
      · exact Or.inr ⟨r, List.mem_cons_of_mem _ h1, h2⟩
    · rintro (h | ⟨r, h1, h2⟩)
      · exact Or.inl (Or.inl h)
      · rcases List.mem_cons.mp h1 with h3 | h3
        · rw [h3] at h2; exact Or.inl (Or.inr h2)
        · exact Or.inr ⟨r, h3, h2⟩
theorem lbE_bit (g : Nw) (y : Nat) : ∀ n, (lbE g n).testBit y = true ↔ ∃ a, a < n ∧ g.2.2 a = none ∧ ∃ r, r ∈ wlk g a ∧ hd r = y := by
  intro n
  induction n with
  | zero => exact ⟨fun h => by simp [lbE] at h, fun ⟨a, h, _⟩ => by omega⟩
  | succ n ih =>
    show (if g.2.2 n = none then (wlk g n).foldl mE (lbE g n) else lbE g n).testBit y = true ↔ _
    by_cases hn : g.2.2 n = none
    · rw [if_pos hn, mE_bit, ih]
      constructor
      · rintro (⟨a, h1, h2, h3⟩ | h)
        · exact ⟨a, by omega, h2, h3⟩
        · exact ⟨n, by omega, hn, h⟩
      · rintro ⟨a, h1, h2, h3⟩
        by_cases ha : a = n
        · rw [ha] at h3; exact Or.inr h3
        · exact Or.inl ⟨a, by omega, h2, h3⟩
    · rw [if_neg hn, ih]
      constructor
      · rintro ⟨a, h1, h2, h3⟩; exact ⟨a, by omega, h2, h3⟩
      · rintro ⟨a, h1, h2, h3⟩
        by_cases ha : a = n
        · rw [ha] at h2; exact absurd h2 hn
        · exact ⟨a, by omega, h2, h3⟩
theorem lbL_bit (g : Nw) (y : Nat) : ∀ n, (lbL g n).testBit y = true ↔ ∃ a, a < n ∧ g.2.2 a = none ∧ ∃ r, r ∈ wlk g a ∧ (y < 12 ∧ (g.2.1 (hd r) y).isSome = true) ∧ (so r).testBit y = false := by
  intro n
  induction n with
  | zero => exact ⟨fun h => by simp [lbL] at h, fun ⟨a, h, _⟩ => by omega⟩
  | succ n ih =>
    show (if g.2.2 n = none then (wlk g n).foldl (mL g) (lbL g n) else lbL g n).testBit y = true ↔ _
    by_cases hn : g.2.2 n = none
    · rw [if_pos hn, mL_bit, ih]
      constructor
      · rintro (⟨a, h1, h2, h3⟩ | h)
        · exact ⟨a, by omega, h2, h3⟩
        · exact ⟨n, by omega, hn, h⟩
      · rintro ⟨a, h1, h2, h3⟩
        by_cases ha : a = n
        · rw [ha] at h3; exact Or.inr h3
        · exact Or.inl ⟨a, by omega, h2, h3⟩
    · rw [if_neg hn, ih]
      constructor
      · rintro ⟨a, h1, h2, h3⟩; exact ⟨a, by omega, h2, h3⟩
      · rintro ⟨a, h1, h2, h3⟩
        by_cases ha : a = n
        · rw [ha] at h2; exact absurd h2 hn
        · exact ⟨a, by omega, h2, h3⟩
theorem bits_eq {x y : Nat} (h : ∀ i, x.testBit i = true ↔ y.testBit i = true) : x = y := Nat.eq_of_testBit_eq (fun i => by
  have := h i
  cases q1 : x.testBit i <;> cases q2 : y.testBit i
  · rfl
  · rw [this.mpr q2] at q1; cases q1
  · rw [this.mp q1] at q2; cases q2
  · rfl)
theorem lab_eq {g : Nw} (gd : Gd g) {M : Mm} (hL : LIv g M) (h0 : ∀ a, a < g.1 → g.2.2 a = none → bn M (2 ^ a) a) (hs : ∀ T y, T < 4096 → y < 12 → bn M T y → ∀ b, stp g T y b → bn M (T ||| 2 ^ b) b) : M.2.1 60 22 = nI (lbE g g.1) ∧ M.2.1 60 23 = nI (lbL g g.1) := by
  have wf := gd.1
  have h12 := wf.1.2
  obtain ⟨E, O, hE, hO, bE, bO, bG, bz⟩ := hL
  have eE : E = lbE g g.1 := bits_eq (fun y => by
    rw [bE y, lbE_bit]
    constructor
    · rintro ⟨T, q1, q2, q3, q4⟩
      obtain ⟨a, k, r, ha, hma, hv, z | z⟩ := bG T y q1 q2 q3
      · obtain ⟨q, w1, w2⟩ := wlk_has wf ha hv
        exact ⟨a, ha, hma, q, w1, by rw [z.2]; exact congrArg Prod.snd w2⟩
      · rw [z.1, Gsd_pop wf ha hv z.2.1 z.2.2] at q4; omega
    · rintro ⟨a, ha, hma, r, w1, w2⟩
      obtain ⟨k, hv⟩ := wlk_v wf ha w1
      have hy : y < 12 := by have := Vr_in wf ha hv _ (Vr_hd hv); omega
      refine ⟨so r, Vr_lt wf ha hv, hy, ?_, by rw [pop_so wf ha hv]; omega⟩
      rw [← w2]
      exact all_in gd h0 hs ha hma k r hv)
  have eO : O = lbL g g.1 := bits_eq (fun y => by
    rw [bO y, lbL_bit]
    constructor
    · rintro ⟨T, q1, q2, q3, q4⟩
      obtain ⟨a, k, r, ha, hma, hv, z | z⟩ := bG T y q1 q2 q3
      · rw [z.1, pop_so wf ha hv] at q4; omega
      · obtain ⟨q, w1, w2⟩ := wlk_has wf ha hv
        have e1 : so q = so r := congrArg Prod.fst w2
        have e2 : hd q = hd r := congrArg Prod.snd w2
        exact ⟨a, ha, hma, q, w1, ⟨q2, by rw [e2]; exact z.2.2⟩, by rw [e1]; exact z.2.1⟩
    · rintro ⟨a, ha, hma, r, w1, ⟨w2, w3⟩, w4⟩
      obtain ⟨k, hv⟩ := wlk_v wf ha w1
      have hx : hd r < 12 := by have := Vr_in wf ha hv _ (Vr_hd hv); omega
      have st : stp g (so r) (hd r) y := ⟨(ln12 wf w3).2, w4, w3, fun z => hd_mate wf hma hv w4 (z.mpr (by rw [pop_so wf ha hv]; omega))⟩
      refine ⟨so r ||| 2 ^ y, (Gsd_lt wf (Vr_lt wf ha hv) st).1, w2, ?_, by rw [Gsd_pop wf ha hv w4 w3]; omega⟩
      exact hs _ _ (Vr_lt wf ha hv) hx (all_in gd h0 hs ha hma k r hv) y st)
  rw [← eE, ← eO]
  exact ⟨hE, hO⟩
theorem c_labels {B : Bd} {M : Mm} {g : Nw} (ok : OkM M) (hnow : NowR M 63 g) (gd : Gd g) : Ct B mX6_labels 14 0 0 [.ref 60] M (Rt (fun u N => u = none ∧ MZ M N ∧ N.2.1 60 22 = nI (lbE g g.1) ∧ N.2.1 60 23 = nI (dif (lbL g g.1) (lbE g g.1)))) := by
  have wf := gd.1
  have hg12 := wf.1.2
  generalize hΦ : (Rt (fun u N => u = none ∧ MZ M N ∧ N.2.1 60 22 = nI (lbE g g.1) ∧ N.2.1 60 23 = nI (dif (lbL g g.1) (lbE g g.1)))) = Φ
  refine Ct.of (by decide) rfl rfl (Nat.le_of_ble_eq_true rfl) ?_
  have main : ∀ j a K, a + j = g.1 → LIv g K → LFr M K → (∀ T y, T < 4096 → y < 12 → bn K T y → ∀ b, stp g T y b → bn K (T ||| 2 ^ b) b) → (∀ c, c < a → g.2.2 c = none → bn K (2 ^ c) c) → Ev B mX6_labels 14 0 0 Φ 36 [some (.ref 60), some (.int (nI a))] [] K := by
    intro j
    induction j with
    | zero =>
      intro a K ha LK lK clo st
      have hag : a = g.1 := by omega
      subst hag
      have okK : OkM K := ok.of lK.1 lK.2.1
      have nowK : NowR K 63 g := hnow.at (lK.2.2.2 63 (by decide) (by decide))
      obtain ⟨e1, e2⟩ := lab_eq gd LK st clo
      refine e_iload_n dX6_labels_36 rfl rfl ?_
      refine e_aload_n dX6_labels_37 rfl rfl ?_
      refine e_callV0i [] dX6_labels_38 mvmX6_nodes lkRX6_181 (by exact okK.sh rfl) ⟨by decide, rfl⟩ rfl rfl (Nat.le_of_ble_eq_true rfl) (by omega) (c_nodes okK nowK) ?_
      refine e_icmp_ge (tgt := 67) dX6_labels_41 (by decide) (fun _ => ?_) (fun hz => absurd (nI_le (by omega) (by omega)) hz)
      refine e_aload_n dX6_labels_67 rfl rfl ?_
      refine e_dup dX6_labels_68 rfl ?_
      refine e_getI dX6_labels_69 fRX6_227 (by exact okK.sh rfl) (fun _ => rfl) ?_
      refine e_aload_n dX6_labels_72 rfl rfl ?_
      refine e_getI dX6_labels_73 fRX6_224 (by exact okK.sh rfl) (fun _ => rfl) ?_
      refine e_iconst (v := (-1)) dX6_labels_76 (by decide) ?_
      refine e_ixor dX6_labels_77 ?_
      refine e_iand dX6_labels_78 ?_
      rw [e1, e2, andn_nI]
      refine e_putI dX6_labels_79 fRX6_227 (by exact okK.sh rfl) rfl rfl rfl (fun _ _ => rfl) ?_
      refine e_vret dX6_labels_82 rfl ?_
      rw [← hΦ]
      exact ⟨none, rfl, rfl, lK.Z.f (by decide), by rw [rd_ni (by decide)]; exact e1, by rw [rd_self]⟩
    | succ j ih =>
      intro a K ha LK lK clo st
      have okK : OkM K := ok.of lK.1 lK.2.1
      have nowK : NowR K 63 g := hnow.at (lK.2.2.2 63 (by decide) (by decide))
      refine e_iload_n dX6_labels_36 rfl rfl ?_
      refine e_aload_n dX6_labels_37 rfl rfl ?_
      refine e_callV0i [] dX6_labels_38 mvmX6_nodes lkRX6_181 (by exact okK.sh rfl) ⟨by decide, rfl⟩ rfl rfl (Nat.le_of_ble_eq_true rfl) (by omega) (c_nodes okK nowK) ?_
      refine e_icmp_ge (tgt := 67) dX6_labels_41 (by decide) (fun hz => absurd hz (nI_ge (by omega) (by omega))) (fun _ => ?_)
      refine e_aload_n dX6_labels_44 rfl rfl ?_
      refine e_iload_n dX6_labels_45 rfl rfl ?_
      refine e_callV0i [_] dX6_labels_46 mvmX6_mate lkRX6_206 (by exact okK.sh rfl) ⟨by decide, rfl⟩ rfl rfl (Nat.le_of_ble_eq_true rfl) (by omega) (c_mate okK nowK (by omega)) ?_
      refine e_iconst (v := (-1)) dX6_labels_49 (by decide) ?_
      have hn := wI_none (wf.mb a)
      refine e_icmp_ne (tgt := 61) dX6_labels_50 (by decide) (fun hz => ?_) (fun hz => ?_)
      · refine e_iinc (v := nI (a + 1)) dX6_labels_61 rfl (nI_1 a) (by decide) rfl rfl ?_
        refine e_goto (tgt := 36) dX6_labels_64 (by decide) ?_
        refine ih (a + 1) K (by omega) LK lK clo (fun c hc hm => ?_)
        by_cases hca : c = a
        · rw [hca] at hm; exact absurd (hn.mpr hm) hz
        · exact st c (by omega) hm
      · have hma := hn.mp hz
        have hG : Gsd g (2 ^ a) a := ⟨a, 0, [a], by omega, hma, rfl, Or.inl ⟨(so_1 a).symm, rfl⟩⟩
        refine e_aload_n dX6_labels_53 rfl rfl ?_
        refine e_iconst (v := 1) dX6_labels_54 (by decide) ?_
        refine e_iload_n dX6_labels_55 rfl rfl ?_
        refine e_ishl dX6_labels_56 ?_
        rw [shl_1 (by omega)]
        refine e_iload_n dX6_labels_57 rfl rfl ?_
        refine e_callV1 [_, _] dX6_labels_58 mvmX6_goes lkRX6_230 (by exact okK.sh rfl) ⟨by decide, rfl⟩ rfl rfl (Nat.le_of_ble_eq_true rfl) (by omega) (c_goes gd 12 (2 ^ a) a K (by omega) (two_lt (by omega)) (by omega) okK nowK LK hG) (fun u K2 hq => ?_)
        obtain ⟨hu, LK2, lK2, g1, g2, g3⟩ := hq
        subst hu
        refine e_iinc (v := nI (a + 1)) dX6_labels_61 rfl (nI_1 a) (by decide) rfl rfl ?_
        refine e_goto (tgt := 36) dX6_labels_64 (by decide) ?_
        refine ih (a + 1) K2 (by omega) LK2 (lK.trans lK2) (fun T y hT hy h b hb => ?_) (fun c hc hm => ?_)
        · by_cases hK : bn K T y
          · have hl := Gsd_lt wf hT hb
            exact g2 _ _ hl.1 hl.2.1 (clo T y hT hy hK b hb)
          · exact g3 T y hT hy h hK b hb
        · by_cases hca : c = a
          · rw [hca]; exact g1
          · exact g2 _ _ (two_lt (by omega)) (by omega) (st c (by omega) hm)
  have clear : ∀ j k N, k + j = 49152 → LFr M N → (∀ i, i < k → N.2.1 80 i = 0) → Ev B mX6_labels 14 0 0 Φ 2 [some (.ref 60), some (.int (nI k))] [] N := by
    intro j
    induction j with
    | zero =>
      intro k N hk lN hz0
      have hk9 : k = 49152 := by omega
      have okN : OkM N := ok.of lN.1 lN.2.1
      refine e_iload_n dX6_labels_2 rfl rfl ?_
      refine e_aload_n dX6_labels_3 rfl rfl ?_
      refine e_getR dX6_labels_4 fRX6_51 (by exact okN.sh rfl) (by exact okN.rf rfl) (fun _ => rfl) ?_
      refine e_alen (t0 := 2) dX6_labels_7 (by exact okN.sh rfl) (fun _ => rfl) ?_
      refine e_icmp_ge (tgt := 24) dX6_labels_8 (by decide) (fun _ => ?_) (fun hz => absurd (nI_le (by omega) (by omega)) hz)
      refine e_aload_n dX6_labels_24 rfl rfl ?_
      refine e_iconst (v := 0) dX6_labels_25 (by decide) ?_
      refine e_putI dX6_labels_26 fRX6_224 (by exact okN.sh rfl) rfl rfl rfl (fun _ _ => rfl) ?_
      refine e_aload_n dX6_labels_29 rfl rfl ?_
      refine e_iconst (v := 0) dX6_labels_30 (by decide) ?_
      refine e_putI dX6_labels_31 fRX6_227 (by exact okN.sh rfl) rfl rfl rfl (fun _ _ => rfl) ?_
      refine e_iconst (v := 0) dX6_labels_34 (by decide) ?_
      refine e_istore_n dX6_labels_35 rfl (by decide) rfl rfl ?_
      have nb : ∀ T y, T < 4096 → y < 12 → ¬ bn (sI (sI N 60 22 0) 60 23 0) T y := fun T y hT hy h => by
        unfold bn at h
        rw [rd_na (by decide), rd_na (by decide), hz0 _ (by omega)] at h
        exact absurd h (by decide)
      refine main g.1 0 _ (by omega) ⟨0, 0, by rw [rd_ni (by decide), rd_self]; rfl, by rw [rd_self]; rfl, fun y => ⟨fun h => by simp at h, fun ⟨T, q1, q2, q3, _⟩ => absurd q3 (nb T y q1 q2)⟩, fun y => ⟨fun h => by simp at h, fun ⟨T, q1, q2, q3, _⟩ => absurd q3 (nb T y q1 q2)⟩, fun T y hT hy h => absurd h (nb T y hT hy), fun i hi => Or.inl ?_⟩ ((lN.f (Or.inl rfl)).f (Or.inr rfl)) (fun T y hT hy h => absurd h (nb T y hT hy)) (fun c hc => by omega)
      rw [rd_na (by decide), rd_na (by decide)]
      exact hz0 i (by omega)
    | succ j ih =>
      intro k N hk lN hz0
      have okN : OkM N := ok.of lN.1 lN.2.1
      refine e_iload_n dX6_labels_2 rfl rfl ?_
      refine e_aload_n dX6_labels_3 rfl rfl ?_
      refine e_getR dX6_labels_4 fRX6_51 (by exact okN.sh rfl) (by exact okN.rf rfl) (fun _ => rfl) ?_
      refine e_alen (t0 := 2) dX6_labels_7 (by exact okN.sh rfl) (fun _ => rfl) ?_
      refine e_icmp_ge (tgt := 24) dX6_labels_8 (by decide) (fun hz => absurd hz (nI_ge (by omega) (by omega))) (fun _ => ?_)
      refine e_aload_n dX6_labels_11 rfl rfl ?_
      refine e_getR dX6_labels_12 fRX6_51 (by exact okN.sh rfl) (by exact okN.rf rfl) (fun _ => rfl) ?_
      refine e_iload_n dX6_labels_15 rfl rfl ?_
      refine e_iconst (v := 0) dX6_labels_16 (by decide) ?_
      refine e_bastoreZ dX6_labels_17 (by exact okN.lo) (by exact okN.sh rfl) (by exact vp_in_nI (show k < 49152 by omega) (by decide)) ?_
      rw [nI_clamp (by omega), show vp_nar .boolean 0 = (0 : Int32) from rfl]
      refine e_iinc (v := nI (k + 1)) dX6_labels_18 rfl (nI_1 k) (by decide) rfl rfl ?_
      refine e_goto (tgt := 2) dX6_labels_21 (by decide) ?_
      refine ih (k + 1) _ (by omega) lN.s (fun i hi => ?_)
      by_cases hik : i = k
      · rw [hik, rd_self]
      · rw [rd_ni hik]; exact hz0 i (by omega)
  refine e_iconst (v := 0) dX6_labels_0 (by decide) ?_
  refine e_istore_n dX6_labels_1 rfl (by decide) rfl rfl ?_
  exact clear 49152 0 M (by omega) LFr.rf (fun i hi => by omega)

