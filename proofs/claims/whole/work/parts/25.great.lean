theorem Tq_hi {w : Nat → Nat → Option Nat} {a S : Nat} (ha : a < 12) (hb : S.testBit a = true) (hS : S < 2 ^ (a + 1)) : Tq w S = fb (fun b => if (dif S (2 ^ a)).testBit b = true then (w a b).map (fun k => qsh k (Tq w (dif (dif S (2 ^ a)) (2 ^ b)))) else none) (Tq w (dif S (2 ^ a))) a := by
  have hlt : dif S (2 ^ a) < 2 ^ a := lt_of_bits (fun i hi => by
    rw [dif_bit]
    by_cases h : i = a
    · subst h; simp
    · rw [bit_hi hS (by omega)]; rfl)
  have hbit : ∀ i, i < a → S.testBit i = (dif S (2 ^ a)).testBit i := fun i hi => by
    rw [dif_bit, Nat.testBit_two_pow]
    simp; intro _; omega
  unfold Tq
  rw [FT_up hS (by omega : a + 1 ≤ 12), FT_s, if_pos hb]
  refine fb_cong ?_ (fun b hb2 => ?_)
  · rw [FT_up hlt (by omega : a ≤ 12)]
    exact FT_cong hbit
  · rw [hbit b hb2]
    by_cases h3 : (dif S (2 ^ a)).testBit b = true
    · rw [if_pos h3, if_pos h3]
      congr 1
      funext k
      rw [FT_up (w := w) (Nat.lt_of_le_of_lt (dif_le _ _) hlt) (by omega : a ≤ 12)]
      rw [FT_cong (S := dif S (2 ^ b)) (T := dif (dif S (2 ^ a)) (2 ^ b)) (fun i hi => by rw [dif_bit, dif_bit, hbit i hi])]
    · rw [if_neg h3, if_neg h3]
/-! bounds -/
def fct : Nat → Nat
  | 0 => 1
  | n + 1 => (n + 1) * fct n
def qle (n c h : Nat) (q : Qt) : Prop := q.1 ≤ n ∧ q.2.1 ≤ c ∧ q.2.2.1 ≤ h ∧ q.2.2.2 ≤ h
theorem qadd_le {n c1 c2 h : Nat} {x y : Qt} (hx : qle n c1 h x) (hy : qle n c2 h y) : qle n (c1 + c2) h (qadd x y) := by
  obtain ⟨a1, a2, a3, a4⟩ := hx
  obtain ⟨b1, b2, b3, b4⟩ := hy
  unfold qadd qle
  by_cases h1 : x.1 < y.1
  · rw [if_pos h1]; exact ⟨by omega, by omega, by omega, by omega⟩
  · by_cases h2 : y.1 < x.1
    · rw [if_neg h1, if_pos h2]; exact ⟨by omega, by omega, by omega, by omega⟩
    · rw [if_neg h1, if_neg h2]; exact ⟨by show x.1 ≤ n; omega, by show x.2.1 + y.2.1 ≤ _; omega, by show max _ _ ≤ h; omega, by show min _ _ ≤ h; omega⟩
theorem fb_le {f : Nat → Option Qt} {x : Qt} {n c h : Nat} (hx : qle n c h x) : ∀ m, (∀ b q, b < m → f b = some q → qle n c h q) → qle n ((m + 1) * c) h (fb f x m) := by
  intro m
  induction m with
  | zero =>
    intro _
    show qle n ((0 + 1) * c) h x
    rw [Nat.zero_add, Nat.one_mul]; exact hx
  | succ m ih =>
    intro hf
    have h1 := ih (fun b q hb => hf b q (by omega))
    have e : (m + 1 + 1) * c = (m + 1) * c + c := by rw [Nat.succ_mul (m + 1) c]
    rw [fb_s, e]
    cases hq : f m with
    | none =>
      obtain ⟨a1, a2, a3, a4⟩ := h1
      exact ⟨a1, by show (fb f x m).2.1 ≤ _; omega, a3, a4⟩
    | some q => exact qadd_le h1 (hf m q (by omega) hq)
theorem FT_le {w : Nat → Nat → Option Nat} (hw : ∀ a b k, w a b = some k → k ≤ 999) : ∀ n S, qle n (fct n) (999 * n) (FT w n S) := by
  intro n
  induction n with
  | zero => intro S; exact ⟨Nat.le_refl _, Nat.le_refl _, Nat.le_refl _, Nat.le_refl _⟩
  | succ n ih =>
    intro S
    rw [FT_s]
    have h0 : qle (n + 1) (fct n) (999 * (n + 1)) (FT w n S) := by
      obtain ⟨a1, a2, a3, a4⟩ := ih S
      exact ⟨by omega, a2, by omega, by omega⟩
    have hf : fct (n + 1) = (n + 1) * fct n := rfl
    by_cases hb : S.testBit n = true
    · rw [if_pos hb, hf]
      refine fb_le h0 n (fun b q hb2 hq => ?_)
      split at hq
      · cases hk : w n b with
        | none => rw [hk] at hq; cases hq
        | some k =>
          rw [hk] at hq
          simp only [Option.map_some, Option.some.injEq] at hq
          have hkk := hw n b k hk
          obtain ⟨a1, a2, a3, a4⟩ := ih (dif S (2 ^ b))
          rw [← hq]
          unfold qsh
          exact ⟨by show _ + 1 ≤ _; omega, a2, by show _ + k ≤ _; omega, by show _ + k ≤ _; omega⟩
      · cases hq
    · rw [if_neg hb]
      obtain ⟨a1, a2, a3, a4⟩ := h0
      exact ⟨a1, by rw [hf]; exact Nat.le_trans a2 (Nat.le_mul_of_pos_left _ (by omega)), a3, a4⟩
def qbd (q : Qt) : Prop := q.1 < 2 ^ 29 ∧ q.2.1 < 2 ^ 29 ∧ q.2.2.1 < 2 ^ 29 ∧ q.2.2.2 < 2 ^ 29
theorem fct12 : fct 12 < 2 ^ 29 := by decide
theorem Tq_bd {w : Nat → Nat → Option Nat} (hw : ∀ a b k, w a b = some k → k ≤ 999) (S : Nat) : qbd (Tq w S) := by
  obtain ⟨a1, a2, a3, a4⟩ := FT_le hw 12 S
  have := fct12
  exact ⟨Nat.lt_of_le_of_lt a1 (by decide), Nat.lt_of_le_of_lt a2 this, Nat.lt_of_le_of_lt a3 (by decide), Nat.lt_of_le_of_lt a4 (by decide)⟩
/-! how many matchings of one size there are at most: m nodes, k lines -/
def MM : Nat → Nat → Nat
  | _, 0 => 1
  | 0, _ + 1 => 0
  | 1, k + 1 => MM 0 (k + 1)
  | m + 2, k + 1 => MM (m + 1) (k + 1) + (m + 1) * MM m k
theorem MM_0 (m : Nat) : MM m 0 = 1 := by
  match m with
  | 0 => rfl
  | 1 => rfl
  | m + 2 => rfl
/-- m nodes and one more that has j others about it -/
def GG (m j : Nat) : Nat → Nat
  | 0 => 1
  | s + 1 => MM m (s + 1) + j * MM (m - 1) s
theorem GG_top (m s : Nat) : GG m m s = MM (m + 1) s := by
  match m, s with
  | 0, 0 => rfl
  | m + 1, 0 => rfl
  | 0, s + 1 =>
    show MM 0 (s + 1) + 0 * MM 0 s = MM 0 (s + 1)
    omega
  | m + 1, s + 1 => rfl
theorem GG_mono {m j k : Nat} (h : j ≤ k) (s : Nat) : GG m j s ≤ GG m k s := by
  match s with
  | 0 => exact Nat.le_refl _
  | s + 1 =>
    show MM m (s + 1) + j * MM (m - 1) s ≤ MM m (s + 1) + k * MM (m - 1) s
    have := Nat.mul_le_mul_right (MM (m - 1) s) h
    omega
def cb (S : Nat) (n : Nat) : Nat := sm (fun i => if S.testBit i = true then 1 else 0) n
theorem cb_s (S n : Nat) : cb S (n + 1) = cb S n + (if S.testBit n = true then 1 else 0) := rfl
theorem cb_le (S : Nat) : ∀ n, cb S n ≤ n := by
  intro n
  induction n with
  | zero => exact Nat.le_refl _
  | succ n ih =>
    rw [cb_s]
    split <;> omega
theorem cb_mono (S : Nat) {a b : Nat} (h : a ≤ b) : cb S a ≤ cb S b := by
  induction b with
  | zero =>
    have : a = 0 := by omega
    rw [this]; exact Nat.le_refl _
  | succ b ih =>
    by_cases hab : a = b + 1
    · rw [hab]; exact Nat.le_refl _
    · have := ih (by omega)
      rw [cb_s]; omega
theorem cb_dif {S b n : Nat} (hb : b < n) (h : S.testBit b = true) : cb (dif S (2 ^ b)) n + 1 = cb S n := by
  have := sm_at (f := fun i => if (dif S (2 ^ b)).testBit i = true then 1 else 0) (g := fun i => if S.testBit i = true then 1 else 0) (n := n) (i := b) hb (fun j hj hne => by
    rw [dif_bit, Nat.testBit_two_pow]
    have hbj : ¬ b = j := fun q => hne q.symm
    simp [hbj])
  rw [dif_bit, Nat.testBit_two_pow, h] at this
  simp at this
  unfold cb
  omega
theorem fb_cnt {f : Nat → Option Qt} {x : Qt} {m T : Nat} (hx : x.2.1 ≤ MM m x.1) {c : Nat} (hf : ∀ b q, b < c → f b = some q → T.testBit b = true ∧ ∃ s, q.1 = s + 1 ∧ q.2.1 ≤ MM (m - 1) s) : ∀ b, b ≤ c → (fb f x b).2.1 ≤ GG m (cb T b) (fb f x b).1 := by
  intro b
  induction b with
  | zero =>
    intro _
    show x.2.1 ≤ GG m 0 x.1
    cases h : x.1 with
    | zero => rw [h, MM_0] at hx; exact hx
    | succ s =>
      rw [h] at hx
      show x.2.1 ≤ MM m (s + 1) + 0 * MM (m - 1) s
      omega
  | succ b ih0 =>
    intro hbc
    have ih := ih0 (by omega)
    rw [fb_s]
    cases hq : f b with
    | none => exact Nat.le_trans ih (GG_mono (cb_mono T (by omega)) _)
    | some q =>
      obtain ⟨h1, s, h2, h3⟩ := hf b q (by omega) hq
      have e : cb T (b + 1) = cb T b + 1 := by rw [cb_s, if_pos h1]
      show (qadd (fb f x b) q).2.1 ≤ GG m (cb T (b + 1)) (qadd (fb f x b) q).1
      rw [e]
      unfold qadd
      by_cases c1 : (fb f x b).1 < q.1
      · rw [if_pos c1, h2]
        show q.2.1 ≤ MM m (s + 1) + (cb T b + 1) * MM (m - 1) s
        rw [Nat.add_mul, Nat.one_mul]; omega
      · by_cases c2 : q.1 < (fb f x b).1
        · rw [if_neg c1, if_pos c2]
          exact Nat.le_trans ih (GG_mono (by omega) _)
        · rw [if_neg c1, if_neg c2]
          have c3 : (fb f x b).1 = s + 1 := by omega
          show (fb f x b).2.1 + q.2.1 ≤ GG m (cb T b + 1) (fb f x b).1
          rw [c3] at ih ⊢
          have ih' : (fb f x b).2.1 ≤ MM m (s + 1) + cb T b * MM (m - 1) s := ih
          show _ ≤ MM m (s + 1) + (cb T b + 1) * MM (m - 1) s
          rw [Nat.add_mul, Nat.one_mul]; omega
theorem FT_cnt (w : Nat → Nat → Option Nat) : ∀ n S, (FT w n S).2.1 ≤ MM (cb S n) (FT w n S).1 := by
  intro n
  induction n with
  | zero => intro S; exact Nat.le_refl _
  | succ n ih =>
    intro S
    rw [FT_s]
    by_cases hb : S.testBit n = true
    · rw [if_pos hb, cb_s, if_pos hb, ← GG_top]
      refine fb_cnt (c := n) (ih S) (fun b q hbn hq => ?_) n (Nat.le_refl _)
      by_cases hs : S.testBit b = true
      · rw [if_pos hs] at hq
        refine ⟨hs, (FT w n (dif S (2 ^ b))).1, ?_⟩
        cases hk : w n b with
        | none => rw [hk] at hq; cases hq
        | some k =>
          rw [hk] at hq
          simp only [Option.map_some, Option.some.injEq] at hq
          rw [← hq]
          refine ⟨rfl, ?_⟩
          show (FT w n (dif S (2 ^ b))).2.1 ≤ _
          have h1 := ih (dif S (2 ^ b))
          have h2 := cb_dif hbn hs
          rw [show cb S n - 1 = cb (dif S (2 ^ b)) n by omega]
          exact h1
      · rw [if_neg hs] at hq; cases hq
    · rw [if_neg hb, cb_s, if_neg hb, Nat.add_zero]
      exact ih S
theorem MM_le : ∀ m, m ≤ 12 → ∀ s, s ≤ 12 → MM m s < 65536 := by decide +kernel
theorem Tq_Qb {w : Nat → Nat → Option Nat} (hw : ∀ a b k, w a b = some k → k ≤ 999) (S : Nat) : Qb (Tq w S) := by
  obtain ⟨a1, -, a3, a4⟩ := FT_le hw 12 S
  have h1 := FT_cnt w 12 S
  have h2 := MM_le _ (cb_le S 12) _ a1
  unfold Tq
  exact ⟨by omega, by omega, by omega, by omega⟩
/-! the small methods of Greatest -/
theorem c_pack {B : Bd} {M : Mm} {a b c d : Nat} (h : Qb (a, b, c, d)) : Ct B mX0_pack 0 0 0 [.int (nI a), .int (nI b), .int (nI c), .int (nI d)] M (Is (some (.long (pk (a, b, c, d)))) M) := by
  have h1 : a ≤ 16 := h.1
  have h2 : b < 65536 := h.2.1
  have h3 : c < 65536 := h.2.2.1
  have h4 : d < 65536 := h.2.2.2
  refine Ct.of (by decide) rfl rfl (Nat.le_of_ble_eq_true rfl) ?_
  refine e_iload_n dX0_pack_0 rfl rfl ?_
  refine e_i2l dX0_pack_1 ?_
  rw [nI_l (by omega)]
  refine e_bipush (v := 48) dX0_pack_2 (by decide) ?_
  refine e_lshl dX0_pack_4 ?_
  rw [lw48]
  refine e_iload_n dX0_pack_5 rfl rfl ?_
  refine e_i2l dX0_pack_6 ?_
  rw [nI_l (by omega)]
  refine e_bipush (v := 32) dX0_pack_7 (by decide) ?_
  refine e_lshl dX0_pack_9 ?_
  rw [lw32]
  refine e_lor dX0_pack_10 ?_
  refine e_iload_n dX0_pack_11 rfl rfl ?_
  refine e_i2l dX0_pack_12 ?_
  rw [nI_l (by omega)]
  refine e_bipush (v := 16) dX0_pack_13 (by decide) ?_
  refine e_lshl dX0_pack_15 ?_
  rw [lw16]
  refine e_lor dX0_pack_16 ?_
  refine e_iload_n dX0_pack_17 rfl rfl ?_
  refine e_i2l dX0_pack_18 ?_
  rw [nI_l (by omega)]
  refine e_lor dX0_pack_19 ?_
  rw [pk_pack h]
  exact e_lret dX0_pack_20 rfl (⟨rfl, rfl⟩)
theorem c_sizeIn {B : Bd} {M : Mm} {q : Qt} (h : Qb q) : Ct B mX0_sizeIn 0 0 0 [.long (pk q)] M (Is (some (.int (nI q.1))) M) := by
  refine Ct.ofJ (by decide) rfl (Nat.le_of_ble_eq_true rfl) ?_
  refine e_lload_n dX0_sizeIn_0 rfl rfl ?_
  refine e_bipush (v := 48) dX0_sizeIn_1 (by decide) ?_
  refine e_lshr dX0_sizeIn_3 ?_
  refine e_ldc2 dX0_sizeIn_4 kRX0_86 ?_
  refine e_land dX0_sizeIn_7 ?_
  refine e_l2i dX0_sizeIn_8 ?_
  rw [pk_sz h]
  exact e_iret dX0_sizeIn_9 rfl rfl (⟨rfl, rfl⟩)
theorem c_countIn {B : Bd} {M : Mm} {q : Qt} (h : Qb q) : Ct B mX0_countIn 0 0 0 [.long (pk q)] M (Is (some (.int (nI q.2.1))) M) := by
  refine Ct.ofJ (by decide) rfl (Nat.le_of_ble_eq_true rfl) ?_
  refine e_lload_n dX0_countIn_0 rfl rfl ?_
  refine e_bipush (v := 32) dX0_countIn_1 (by decide) ?_
  refine e_lshr dX0_countIn_3 ?_
  refine e_ldc2 dX0_countIn_4 kRX0_86 ?_
  refine e_land dX0_countIn_7 ?_
  refine e_l2i dX0_countIn_8 ?_
  rw [pk_ct h]
  exact e_iret dX0_countIn_9 rfl rfl (⟨rfl, rfl⟩)
theorem c_heaviestIn {B : Bd} {M : Mm} {q : Qt} (h : Qb q) : Ct B mX0_heaviestIn 0 0 0 [.long (pk q)] M (Is (some (.int (nI q.2.2.1))) M) := by
  refine Ct.ofJ (by decide) rfl (Nat.le_of_ble_eq_true rfl) ?_
  refine e_lload_n dX0_heaviestIn_0 rfl rfl ?_
  refine e_bipush (v := 16) dX0_heaviestIn_1 (by decide) ?_
  refine e_lshr dX0_heaviestIn_3 ?_
  refine e_ldc2 dX0_heaviestIn_4 kRX0_86 ?_
  refine e_land dX0_heaviestIn_7 ?_
  refine e_l2i dX0_heaviestIn_8 ?_
  rw [pk_hv h]
  exact e_iret dX0_heaviestIn_9 rfl rfl (⟨rfl, rfl⟩)
theorem c_lightestIn {B : Bd} {M : Mm} {q : Qt} (h : Qb q) : Ct B mX0_lightestIn 0 0 0 [.long (pk q)] M (Is (some (.int (nI q.2.2.2))) M) := by
  refine Ct.ofJ (by decide) rfl (Nat.le_of_ble_eq_true rfl) ?_
  refine e_lload_n dX0_lightestIn_0 rfl rfl ?_
  refine e_ldc2 dX0_lightestIn_1 kRX0_86 ?_
  refine e_land dX0_lightestIn_4 ?_
  refine e_l2i dX0_lightestIn_5 ?_
  rw [pk_lg h]
  exact e_iret dX0_lightestIn_6 rfl rfl (⟨rfl, rfl⟩)
theorem c_both {B : Bd} {M : Mm} {x y : Qt} (hx : Qb x) (hy : Qb y) (hxy : Qb (qadd x y)) : Ct B mX0_both 1 0 0 [.long (pk x), .long (pk y)] M (Is (some (.long (pk (qadd x y)))) M) := by
  have x1 := hx.1
  have y1 := hy.1
  have x3 := hx.2.2.1
  have y3 := hy.2.2.1
  have x4 := hx.2.2.2
  have y4 := hy.2.2.2
  refine Ct.ofJ (by decide) rfl (Nat.le_of_ble_eq_true rfl) ?_
  refine e_lload_n dX0_both_0 rfl rfl ?_
  refine e_callS0i [_] dX0_both_1 msmX0_sizeIn lkRX0_65 rfl rfl (Nat.le_of_ble_eq_true rfl) (by decide) (c_sizeIn hx) ?_
  refine e_lload_n dX0_both_4 rfl rfl ?_
  refine e_callS0i [_] dX0_both_5 msmX0_sizeIn lkRX0_65 rfl rfl (Nat.le_of_ble_eq_true rfl) (by decide) (c_sizeIn hy) ?_
  refine e_icmp_eq (tgt := 28) dX0_both_8 (by decide) (fun hq => ?_) (fun hq => ?_)
  · rw [nI_eq (by omega) (by omega)] at hq
    have e : qadd x y = (x.1, x.2.1 + y.2.1, max x.2.2.1 y.2.2.1, min x.2.2.2 y.2.2.2) := by
      unfold qadd
      rw [if_neg (by omega), if_neg (by omega)]
    rw [e] at hxy ⊢
    refine e_lload_n dX0_both_28 rfl rfl ?_
    refine e_callS0i [_] dX0_both_29 msmX0_sizeIn lkRX0_65 rfl rfl (Nat.le_of_ble_eq_true rfl) (by decide) (c_sizeIn hx) ?_
    refine e_lload_n dX0_both_32 rfl rfl ?_
    refine e_callS0i [_] dX0_both_33 msmX0_countIn lkRX0_69 rfl rfl (Nat.le_of_ble_eq_true rfl) (by decide) (c_countIn hx) ?_
    refine e_lload_n dX0_both_36 rfl rfl ?_
    refine e_callS0i [_] dX0_both_37 msmX0_countIn lkRX0_69 rfl rfl (Nat.le_of_ble_eq_true rfl) (by decide) (c_countIn hy) ?_
    refine e_iadd dX0_both_40 ?_
    rw [nI_add]
    refine e_lload_n dX0_both_41 rfl rfl ?_
    refine e_callS0i [_] dX0_both_42 msmX0_heaviestIn lkRX0_72 rfl rfl (Nat.le_of_ble_eq_true rfl) (by decide) (c_heaviestIn hx) ?_
    refine e_lload_n dX0_both_45 rfl rfl ?_
    refine e_callS0i [_] dX0_both_46 msmX0_heaviestIn lkRX0_72 rfl rfl (Nat.le_of_ble_eq_true rfl) (by decide) (c_heaviestIn hy) ?_
    refine e_mmaxN (by omega) (by omega) dX0_both_49 lkRX0_75 (Nat.le_of_ble_eq_true rfl) (by decide) ?_
    refine e_lload_n dX0_both_52 rfl rfl ?_
    refine e_callS0i [_] dX0_both_53 msmX0_lightestIn lkRX0_80 rfl rfl (Nat.le_of_ble_eq_true rfl) (by decide) (c_lightestIn hx) ?_
    refine e_lload_n dX0_both_56 rfl rfl ?_
    refine e_callS0i [_] dX0_both_57 msmX0_lightestIn lkRX0_80 rfl rfl (Nat.le_of_ble_eq_true rfl) (by decide) (c_lightestIn hy) ?_
    refine e_mminN (by omega) (by omega) dX0_both_60 lkRX0_83 (Nat.le_of_ble_eq_true rfl) (by decide) ?_
    refine e_callS0l [_, _, _, _] dX0_both_63 msmX0_pack lkRX0_43 rfl rfl (Nat.le_of_ble_eq_true rfl) (by decide) (c_pack hxy) ?_
    exact e_lret dX0_both_66 rfl (⟨rfl, rfl⟩)
  · rw [nI_eq (by omega) (by omega)] at hq
    refine e_lload_n dX0_both_11 rfl rfl ?_
    refine e_callS0i [_] dX0_both_12 msmX0_sizeIn lkRX0_65 rfl rfl (Nat.le_of_ble_eq_true rfl) (by decide) (c_sizeIn hx) ?_
    refine e_lload_n dX0_both_15 rfl rfl ?_
    refine e_callS0i [_] dX0_both_16 msmX0_sizeIn lkRX0_65 rfl rfl (Nat.le_of_ble_eq_true rfl) (by decide) (c_sizeIn hy) ?_
    refine e_icmp_le (tgt := 26) dX0_both_19 (by decide) (fun hq2 => ?_) (fun hq2 => ?_)
    · rw [nI_leI (by omega) (by omega)] at hq2
      have e : qadd x y = y := by
        unfold qadd
        rw [if_pos (by omega)]
      rw [e]
      refine e_lload_n dX0_both_26 rfl rfl ?_
      exact e_lret dX0_both_27 rfl (⟨rfl, rfl⟩)
    · rw [nI_leI (by omega) (by omega)] at hq2
      have e : qadd x y = x := by
        unfold qadd
        rw [if_neg (by omega), if_pos (by omega)]
      rw [e]
      refine e_lload_n dX0_both_22 rfl rfl ?_
      refine e_goto (tgt := 27) dX0_both_23 (by decide) ?_
      exact e_lret dX0_both_27 rfl (⟨rfl, rfl⟩)

