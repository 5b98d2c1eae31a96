/-! the rest of Parts: barriers -/
def brs (ok : Nat → Bool) (lt : Nat → Nat → Bool) (n : Nat) : Option Nat → Option Nat
  | none => if ok n = true then some n else none
  | some b => if lt (pop n) (pop b) = true ∧ ok n = true then some n else some b
/-- the first best of the numbers below n -/
def brk (ok : Nat → Bool) (lt : Nat → Nat → Bool) : Nat → Option Nat
  | 0 => none
  | n + 1 => brs ok lt n (brk ok lt n)
def okB (g : Nw) (ms : Int32) (S : Nat) : Bool := decide (nI (od g.2.1 (dif (al g) S)) - nI (pop S) = ms)
theorem c_oddWithout {B : Bd} {M : Mm} {g : Nw} {S : Nat} (ok : OkM M) (wf : Wfn g) (hp : PAR M g) : Ct B mX2_oddWithout 1 0 0 [.ref 17, .int (nI S)] M (Is (some (.int (nI (od g.2.1 (dif (al g) S))))) M) := by
  have hp12 := p12 wf.1.2
  have hal := al_lt g
  have hd : dif (al g) S ≤ al g := dif_le _ _
  refine Ct.of (by decide) rfl rfl (Nat.le_of_ble_eq_true rfl) ?_
  refine e_aload_n dX2_oddWithout_0 rfl rfl ?_
  refine e_aload_n dX2_oddWithout_1 rfl rfl ?_
  refine e_getI dX2_oddWithout_2 fRX2_15 (by exact ok.sh rfl) (fun _ => rfl) ?_
  rw [hp.2]
  refine e_iload_n dX2_oddWithout_5 rfl rfl ?_
  refine e_iconst (v := (-1)) dX2_oddWithout_6 (by decide) ?_
  refine e_ixor dX2_oddWithout_7 ?_
  refine e_iand dX2_oddWithout_8 ?_
  rw [andn_nI]
  refine e_callV0i [_] dX2_oddWithout_9 mvmX2_oddIn lkRX2_46 (by exact ok.sh rfl) ⟨by decide, rfl⟩ rfl rfl (Nat.le_of_ble_eq_true rfl) (by decide) (c_oddIn ok (show dif (al g) S < 4096 by omega) (AR_lt g.2.1 (dif (al g) S)) (by have := od_le g.2.1 (dif (al g) S); omega) (hp.1 (dif (al g) S) (by omega))) ?_
  exact e_iret dX2_oddWithout_12 rfl rfl (⟨rfl, rfl⟩)
theorem c_isBarrier {B : Bd} {M : Mm} {g : Nw} {S : Nat} {ms : Int32} (ok : OkM M) (wf : Wfn g) (hp : PAR M g) (hS : S < 4096) : Ct B mX2_isBarrier 2 0 0 [.ref 17, .int (nI S), .int ms] M (Is (some (.int (if okB g ms S = true then 1 else 0))) M) := by
  refine Ct.of (by decide) rfl rfl (Nat.le_of_ble_eq_true rfl) ?_
  refine e_aload_n dX2_isBarrier_0 rfl rfl ?_
  refine e_iload_n dX2_isBarrier_1 rfl rfl ?_
  refine e_callV0i [_] dX2_isBarrier_2 mvmX2_oddWithout lkRX2_54 (by exact ok.sh rfl) ⟨by decide, rfl⟩ rfl rfl (Nat.le_of_ble_eq_true rfl) (by decide) (c_oddWithout (S := S) ok wf hp) ?_
  refine e_iload_n dX2_isBarrier_5 rfl rfl ?_
  refine e_callS0i [_] dX2_isBarrier_6 msmJ6_bitCount_0f7a4 lkRX2_49 rfl rfl (Nat.le_of_ble_eq_true rfl) (by decide) (c_bitCount hS) ?_
  refine e_isub dX2_isBarrier_9 ?_
  refine e_iload_n dX2_isBarrier_10 rfl rfl ?_
  refine e_icmp_ne (tgt := 18) dX2_isBarrier_11 (by decide) (fun hq => ?_) (fun hq => ?_)
  · refine e_iconst (v := 0) dX2_isBarrier_18 (by decide) ?_
    have e : okB g ms S = false := by
      unfold okB; exact decide_eq_false hq
    rw [if_neg (by rw [e]; decide)]
    exact e_iret dX2_isBarrier_19 rfl rfl (⟨rfl, rfl⟩)
  · refine e_iconst (v := 1) dX2_isBarrier_14 (by decide) ?_
    refine e_goto (tgt := 19) dX2_isBarrier_15 (by decide) ?_
    have e : okB g ms S = true := by
      unfold okB; exact decide_eq_true hq
    rw [if_pos e]
    exact e_iret dX2_isBarrier_19 rfl rfl (⟨rfl, rfl⟩)
def bv (o : Option Nat) : Nat := o.getD 0
def bf (o : Option Nat) : Int32 := match o with
  | none => nI 13
  | some b => nI (pop b)
def bm (o : Option Nat) : Int32 := match o with
  | none => -1
  | some b => nI (pop b)
def ltS (x y : Nat) : Bool := decide (x < y)
def ltG (x y : Nat) : Bool := decide (y < x)
theorem c_smallestBarrier {B : Bd} {M : Mm} {g : Nw} {ms : Int32} (ok : OkM M) (wf : Wfn g) (hp : PAR M g) : Ct B mX2_smallestBarrier 3 0 0 [.ref 17, .int ms] M (Is (some (.int (nI (bv (brk (okB g ms) ltS (2 ^ g.1)))))) M) := by
  have hp12 := p12 wf.1.2
  have hpos : 0 < 2 ^ g.1 := Nat.two_pow_pos _
  have hal : al g = 2 ^ g.1 - 1 := rfl
  refine Ct.of (by decide) rfl rfl (Nat.le_of_ble_eq_true rfl) ?_
  have loop : ∀ k i (t : Option Value), i + k = 2 ^ g.1 → Ev B mX2_smallestBarrier 3 0 0 (Is (some (.int (nI (bv (brk (okB g ms) ltS (2 ^ g.1)))))) M) 8 [some (.ref 17), some (.int ms), some (.int (nI (bv (brk (okB g ms) ltS i)))), some (.int (bf (brk (okB g ms) ltS i))), some (.int (nI i)), t] [] M := by
    intro k
    induction k with
    | zero =>
      intro i t hi
      have hi' : i = 2 ^ g.1 := by omega
      subst hi'
      refine e_iload dX2_smallestBarrier_8 rfl ?_
      refine e_aload_n dX2_smallestBarrier_10 rfl rfl ?_
      refine e_getI dX2_smallestBarrier_11 fRX2_15 (by exact ok.sh rfl) (fun _ => rfl) ?_
      rw [hp.2]
      refine e_icmp_gt (tgt := 52) dX2_smallestBarrier_14 (by decide) (fun hc => ?_) (fun hc => ?_)
      · refine e_iload_n dX2_smallestBarrier_52 rfl rfl ?_
        exact e_iret dX2_smallestBarrier_53 rfl rfl (⟨rfl, rfl⟩)
      · exact absurd (fa_of_nle (nI_ge (by omega) (by omega))) hc
    | succ k ih =>
      intro i t hi
      have hbt : i < 4096 := by omega
      refine e_iload dX2_smallestBarrier_8 rfl ?_
      refine e_aload_n dX2_smallestBarrier_10 rfl rfl ?_
      refine e_getI dX2_smallestBarrier_11 fRX2_15 (by exact ok.sh rfl) (fun _ => rfl) ?_
      rw [hp.2]
      refine e_icmp_gt (tgt := 52) dX2_smallestBarrier_14 (by decide) (fun hc => ?_) (fun hc => ?_)
      · exact absurd (nI_le (by omega) (by omega)) (fa_of_lt hc).2.1
      · refine e_iload dX2_smallestBarrier_17 rfl ?_
        refine e_callS0i [_] dX2_smallestBarrier_19 msmJ6_bitCount_0f7a4 lkRX2_49 rfl rfl (Nat.le_of_ble_eq_true rfl) (by decide) (c_bitCount hbt) ?_
        have hpl := pop_le i
        have hst : brk (okB g ms) ltS (i + 1) = brs (okB g ms) ltS i (brk (okB g ms) ltS i) := rfl
        have ih1 := ih (i + 1) (some (.int (nI (pop i)))) (by omega)
        rw [hst] at ih1
        generalize brk (okB g ms) ltS i = X at ih1 ⊢
        have hbo : bf X ≤ nI (pop i) ↔ ¬ (match X with | none => True | some b => ltS (pop i) (pop b) = true) := by
          cases X with
          | none =>
            have h13 : ¬ nI 13 ≤ nI (pop i) := nI_ge (by omega) (by decide)
            exact ⟨fun hh => absurd hh h13, fun hh => absurd trivial hh⟩
          | some b =>
            have hb := pop_le b
            show nI (pop b) ≤ nI (pop i) ↔ ¬ (decide (pop i < pop b) = true)
            rw [decide_eq_true_eq]
            by_cases hlt : pop i < pop b
            · exact ⟨fun hh => absurd hh (nI_ge hlt (by omega)), fun hh => absurd hlt hh⟩
            · exact ⟨fun _ => hlt, fun _ => nI_le (by omega) (by omega)⟩
        refine e_istore dX2_smallestBarrier_22 (by decide) rfl rfl ?_
        refine e_iload dX2_smallestBarrier_24 rfl ?_
        refine e_iload_n dX2_smallestBarrier_26 rfl rfl ?_
        refine e_icmp_ge (tgt := 46) dX2_smallestBarrier_27 (by decide) (fun hq => ?_) (fun hq => ?_)
        · have e : brs (okB g ms) ltS i X = X := by
            cases X with
            | none => exact absurd trivial (hbo.mp hq)
            | some b =>
              show (if _ then _ else _) = _
              rw [if_neg (fun hh => hbo.mp hq hh.1)]
          rw [e] at ih1
          refine e_iinc (v := nI (i + 1)) dX2_smallestBarrier_46 rfl (nI_1 i) (by decide) rfl rfl ?_
          refine e_goto (tgt := 8) dX2_smallestBarrier_49 (by decide) ?_
          exact ih1
        · refine e_aload_n dX2_smallestBarrier_30 rfl rfl ?_
          refine e_iload dX2_smallestBarrier_31 rfl ?_
          refine e_iload_n dX2_smallestBarrier_33 rfl rfl ?_
          refine e_callV0i [_, _] dX2_smallestBarrier_34 mvmX2_isBarrier lkRX2_57 (by exact ok.sh rfl) ⟨by decide, rfl⟩ rfl rfl (Nat.le_of_ble_eq_true rfl) (by decide) (c_isBarrier (S := i) (ms := ms) ok wf hp hbt) ?_
          refine e_if_eq (tgt := 46) dX2_smallestBarrier_37 (by decide) (fun hz => ?_) (fun hz => ?_)
          · have hz' : ¬ okB g ms i = true := by
              intro hh; rw [if_pos hh] at hz; exact absurd hz (by decide)
            have e : brs (okB g ms) ltS i X = X := by
              cases X with
              | none =>
                show (if _ then _ else _) = _
                rw [if_neg hz']
              | some b =>
                show (if _ then _ else _) = _
                rw [if_neg (fun hh => hz' hh.2)]
            rw [e] at ih1
            refine e_iinc (v := nI (i + 1)) dX2_smallestBarrier_46 rfl (nI_1 i) (by decide) rfl rfl ?_
            refine e_goto (tgt := 8) dX2_smallestBarrier_49 (by decide) ?_
            exact ih1
          · have hz' : okB g ms i = true := by
              cases hh : okB g ms i with
              | true => rfl
              | false => rw [hh] at hz; exact absurd rfl hz
            have e : brs (okB g ms) ltS i X = some i := by
              cases X with
              | none =>
                show (if _ then _ else _) = _
                rw [if_pos hz']
              | some b =>
                show (if _ then _ else _) = _
                rw [if_pos ⟨Classical.byContradiction (fun hh => hq (hbo.mpr hh)), hz'⟩]
            rw [e] at ih1
            refine e_iload dX2_smallestBarrier_40 rfl ?_
            refine e_istore_n dX2_smallestBarrier_42 rfl (by decide) rfl rfl ?_
            refine e_iload dX2_smallestBarrier_43 rfl ?_
            refine e_istore_n dX2_smallestBarrier_45 rfl (by decide) rfl rfl ?_
            refine e_iinc (v := nI (i + 1)) dX2_smallestBarrier_46 rfl (nI_1 i) (by decide) rfl rfl ?_
            refine e_goto (tgt := 8) dX2_smallestBarrier_49 (by decide) ?_
            exact ih1
  refine e_iconst (v := 0) dX2_smallestBarrier_0 (by decide) ?_
  refine e_istore_n dX2_smallestBarrier_1 rfl (by decide) rfl rfl ?_
  refine e_bipush (v := 13) dX2_smallestBarrier_2 (by decide) ?_
  refine e_istore_n dX2_smallestBarrier_4 rfl (by decide) rfl rfl ?_
  refine e_iconst (v := 0) dX2_smallestBarrier_5 (by decide) ?_
  refine e_istore dX2_smallestBarrier_6 (by decide) rfl rfl ?_
  exact loop (2 ^ g.1) 0 none (by omega)
theorem c_greatestBarrier {B : Bd} {M : Mm} {g : Nw} {ms : Int32} (ok : OkM M) (wf : Wfn g) (hp : PAR M g) : Ct B mX2_greatestBarrier 3 0 0 [.ref 17, .int ms] M (Is (some (.int (nI (bv (brk (okB g ms) ltG (2 ^ g.1)))))) M) := by
  have hp12 := p12 wf.1.2
  have hpos : 0 < 2 ^ g.1 := Nat.two_pow_pos _
  have hal : al g = 2 ^ g.1 - 1 := rfl
  refine Ct.of (by decide) rfl rfl (Nat.le_of_ble_eq_true rfl) ?_
  have loop : ∀ k i (t : Option Value), i + k = 2 ^ g.1 → Ev B mX2_greatestBarrier 3 0 0 (Is (some (.int (nI (bv (brk (okB g ms) ltG (2 ^ g.1)))))) M) 7 [some (.ref 17), some (.int ms), some (.int (nI (bv (brk (okB g ms) ltG i)))), some (.int (bm (brk (okB g ms) ltG i))), some (.int (nI i)), t] [] M := by
    intro k
    induction k with
    | zero =>
      intro i t hi
      have hi' : i = 2 ^ g.1 := by omega
      subst hi'
      refine e_iload dX2_greatestBarrier_7 rfl ?_
      refine e_aload_n dX2_greatestBarrier_9 rfl rfl ?_
      refine e_getI dX2_greatestBarrier_10 fRX2_15 (by exact ok.sh rfl) (fun _ => rfl) ?_
      rw [hp.2]
      refine e_icmp_gt (tgt := 51) dX2_greatestBarrier_13 (by decide) (fun hc => ?_) (fun hc => ?_)
      · refine e_iload_n dX2_greatestBarrier_51 rfl rfl ?_
        exact e_iret dX2_greatestBarrier_52 rfl rfl (⟨rfl, rfl⟩)
      · exact absurd (fa_of_nle (nI_ge (by omega) (by omega))) hc
    | succ k ih =>
      intro i t hi
      have hbt : i < 4096 := by omega
      refine e_iload dX2_greatestBarrier_7 rfl ?_
      refine e_aload_n dX2_greatestBarrier_9 rfl rfl ?_
      refine e_getI dX2_greatestBarrier_10 fRX2_15 (by exact ok.sh rfl) (fun _ => rfl) ?_
      rw [hp.2]
      refine e_icmp_gt (tgt := 51) dX2_greatestBarrier_13 (by decide) (fun hc => ?_) (fun hc => ?_)
      · exact absurd (nI_le (by omega) (by omega)) (fa_of_lt hc).2.1
      · refine e_iload dX2_greatestBarrier_16 rfl ?_
        refine e_callS0i [_] dX2_greatestBarrier_18 msmJ6_bitCount_0f7a4 lkRX2_49 rfl rfl (Nat.le_of_ble_eq_true rfl) (by decide) (c_bitCount hbt) ?_
        have hpl := pop_le i
        have hst : brk (okB g ms) ltG (i + 1) = brs (okB g ms) ltG i (brk (okB g ms) ltG i) := rfl
        have ih1 := ih (i + 1) (some (.int (nI (pop i)))) (by omega)
        rw [hst] at ih1
        generalize brk (okB g ms) ltG i = X at ih1 ⊢
        have hbo : nI (pop i) ≤ bm X ↔ ¬ (match X with | none => True | some b => ltG (pop i) (pop b) = true) := by
          cases X with
          | none =>
            have h13 : ¬ nI (pop i) ≤ -1 := by
              rw [fa_le, nI_toInt (by omega), show (-1 : Int32).toInt = -1 by decide]; omega
            exact ⟨fun hh => absurd hh h13, fun hh => absurd trivial hh⟩
          | some b =>
            have hb := pop_le b
            show nI (pop i) ≤ nI (pop b) ↔ ¬ (decide (pop b < pop i) = true)
            rw [decide_eq_true_eq]
            by_cases hlt : pop b < pop i
            · exact ⟨fun hh => absurd hh (nI_ge hlt (by omega)), fun hh => absurd hlt hh⟩
            · exact ⟨fun _ => hlt, fun _ => nI_le (by omega) (by omega)⟩
        refine e_istore dX2_greatestBarrier_21 (by decide) rfl rfl ?_
        refine e_iload dX2_greatestBarrier_23 rfl ?_
        refine e_iload_n dX2_greatestBarrier_25 rfl rfl ?_
        refine e_icmp_le (tgt := 45) dX2_greatestBarrier_26 (by decide) (fun hq => ?_) (fun hq => ?_)
        · have e : brs (okB g ms) ltG i X = X := by
            cases X with
            | none => exact absurd trivial (hbo.mp hq)
            | some b =>
              show (if _ then _ else _) = _
              rw [if_neg (fun hh => hbo.mp hq hh.1)]
          rw [e] at ih1
          refine e_iinc (v := nI (i + 1)) dX2_greatestBarrier_45 rfl (nI_1 i) (by decide) rfl rfl ?_
          refine e_goto (tgt := 7) dX2_greatestBarrier_48 (by decide) ?_
          exact ih1
        · refine e_aload_n dX2_greatestBarrier_29 rfl rfl ?_
          refine e_iload dX2_greatestBarrier_30 rfl ?_
          refine e_iload_n dX2_greatestBarrier_32 rfl rfl ?_
          refine e_callV0i [_, _] dX2_greatestBarrier_33 mvmX2_isBarrier lkRX2_57 (by exact ok.sh rfl) ⟨by decide, rfl⟩ rfl rfl (Nat.le_of_ble_eq_true rfl) (by decide) (c_isBarrier (S := i) (ms := ms) ok wf hp hbt) ?_
          refine e_if_eq (tgt := 45) dX2_greatestBarrier_36 (by decide) (fun hz => ?_) (fun hz => ?_)
          · have hz' : ¬ okB g ms i = true := by
              intro hh; rw [if_pos hh] at hz; exact absurd hz (by decide)
            have e : brs (okB g ms) ltG i X = X := by
              cases X with
              | none =>
                show (if _ then _ else _) = _
                rw [if_neg hz']
              | some b =>
                show (if _ then _ else _) = _
                rw [if_neg (fun hh => hz' hh.2)]
            rw [e] at ih1
            refine e_iinc (v := nI (i + 1)) dX2_greatestBarrier_45 rfl (nI_1 i) (by decide) rfl rfl ?_
            refine e_goto (tgt := 7) dX2_greatestBarrier_48 (by decide) ?_
            exact ih1
          · have hz' : okB g ms i = true := by
              cases hh : okB g ms i with
              | true => rfl
              | false => rw [hh] at hz; exact absurd rfl hz
            have e : brs (okB g ms) ltG i X = some i := by
              cases X with
              | none =>
                show (if _ then _ else _) = _
                rw [if_pos hz']
              | some b =>
                show (if _ then _ else _) = _
                rw [if_pos ⟨Classical.byContradiction (fun hh => hq (hbo.mpr hh)), hz'⟩]
            rw [e] at ih1
            refine e_iload dX2_greatestBarrier_39 rfl ?_
            refine e_istore_n dX2_greatestBarrier_41 rfl (by decide) rfl rfl ?_
            refine e_iload dX2_greatestBarrier_42 rfl ?_
            refine e_istore_n dX2_greatestBarrier_44 rfl (by decide) rfl rfl ?_
            refine e_iinc (v := nI (i + 1)) dX2_greatestBarrier_45 rfl (nI_1 i) (by decide) rfl rfl ?_
            refine e_goto (tgt := 7) dX2_greatestBarrier_48 (by decide) ?_
            exact ih1
  refine e_iconst (v := 0) dX2_greatestBarrier_0 (by decide) ?_
  refine e_istore_n dX2_greatestBarrier_1 rfl (by decide) rfl rfl ?_
  refine e_iconst (v := (-1)) dX2_greatestBarrier_2 (by decide) ?_
  refine e_istore_n dX2_greatestBarrier_3 rfl (by decide) rfl rfl ?_
  refine e_iconst (v := 0) dX2_greatestBarrier_4 (by decide) ?_
  refine e_istore dX2_greatestBarrier_5 (by decide) rfl rfl ?_
  exact loop (2 ^ g.1) 0 none (by omega)

