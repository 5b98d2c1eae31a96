/-! the cells behind the two constructors, by their order of making; references that stay -/
def SZ : List Kd := [.inl 5, .inr (.byte, 500), .inl 1, .inr (.int, 144), .inr (.int, 12), .inr (.int, 12), .inl 1, .inr (.int, 144), .inr (.int, 12), .inr (.int, 12), .inr (.object RX1, 8), .inl 3, .inr (.int, 12), .inr (.byte, 0), .inl 0, .inr (.int, 12), .inr (.long, 4096), .inl 2, .inr (.int, 4096), .inl 4, .inr (.int, 12), .inr (.int, 161), .inr (.int, 161), .inr (.int, 161), .inr (.int, 12), .inr (.int, 161), .inr (.int, 32), .inr (.int, 3), .inl 1, .inr (.int, 144), .inr (.int, 12), .inr (.int, 12), .inl 1, .inr (.int, 144), .inr (.int, 12), .inr (.int, 12), .inl 1, .inr (.int, 144), .inr (.int, 12), .inr (.int, 12), .inl 1, .inr (.int, 144), .inr (.int, 12), .inr (.int, 12), .inl 1, .inr (.int, 144), .inr (.int, 12), .inr (.int, 12), .inl 1, .inr (.int, 144), .inr (.int, 12), .inr (.int, 12), .inl 1, .inr (.int, 144), .inr (.int, 12), .inr (.int, 12), .inl 1, .inr (.int, 144), .inr (.int, 12), .inr (.int, 12), .inl 6, .inr (.int, 3), .inr (.int, 500), .inr (.int, 157), .inr (.int, 157), .inr (.array .int, 8), .inr (.int, 157), .inr (.int, 157), .inr (.int, 157), .inr (.int, 157), .inr (.int, 157), .inr (.int, 157), .inr (.int, 157), .inr (.int, 157), .inr (.int, 500), .inr (.int, 4096), .inr (.int, 4096), .inr (.int, 4096), .inr (.long, 4096), .inr (.int, 12), .inr (.boolean, 49152), .inr (.int, 13), .inr (.int, 12), .inr (.long, 1)]
def finL : List (Nat × Nat × Nat) := [(2, 2, 3), (2, 3, 4), (2, 4, 5), (6, 2, 7), (6, 3, 8), (6, 4, 9), (28, 2, 29), (28, 3, 30), (28, 4, 31), (32, 2, 33), (32, 3, 34), (32, 4, 35), (36, 2, 37), (36, 3, 38), (36, 4, 39), (40, 2, 41), (40, 3, 42), (40, 4, 43), (44, 2, 45), (44, 3, 46), (44, 4, 47), (48, 2, 49), (48, 3, 50), (48, 4, 51), (52, 2, 53), (52, 3, 54), (52, 4, 55), (56, 2, 57), (56, 3, 58), (56, 4, 59), (0, 0, 1), (0, 3, 2), (0, 4, 6), (0, 5, 10), (0, 7, 11), (0, 8, 14), (0, 9, 17), (0, 10, 19), (0, 11, 27), (11, 7, 12), (14, 1, 15), (14, 2, 2), (14, 3, 16), (17, 2, 18), (19, 0, 20), (19, 5, 21), (19, 6, 22), (19, 7, 23), (19, 8, 24), (19, 9, 25), (19, 10, 26), (60, 1, 61), (60, 8, 62), (60, 9, 63), (60, 10, 64), (60, 11, 65), (60, 13, 74), (60, 15, 75), (60, 16, 76), (60, 17, 77), (60, 18, 78), (60, 20, 79), (60, 21, 80), (60, 24, 81), (60, 26, 82), (65, 0, 66), (65, 1, 67), (65, 2, 68), (65, 3, 69), (65, 4, 70), (65, 5, 71), (65, 6, 72), (65, 7, 73)]
def finz (a k : Nat) : Option Nat := (finL.find? (fun e => e.1 == a && e.2.1 == k)).map (fun e => e.2.2)
def OkM (M : Mm) : Prop := M.1 = (SZ, false) ∧ ∀ a k b, finz a k = some b → M.2.2.2 a k = some b
theorem OkM.sh {M : Mm} (h : OkM M) {k : Nat} {kd : Kd} (hk : SZ[k]? = some kd) : M.1.1[k]? = some kd := by rw [h.1]; exact hk
theorem OkM.rf {M : Mm} (h : OkM M) {a k b : Nat} (hf : finz a k = some b) : M.2.2.2 a k = some b := h.2 a k b hf
theorem OkM.lo {M : Mm} (h : OkM M) : M.1.2 = false := by rw [h.1]
theorem OkM.of {M N : Mm} (h : OkM M) (h1 : N.1 = M.1) (h2 : N.2.2 = M.2.2) : OkM N := by unfold OkM; rw [h1, h2]; exact h
theorem OkM.fr {M N : Mm} {lo hi : Nat} (h : OkM M) (hf : Fr lo hi M N) : OkM N := h.of hf.1 hf.2.1
theorem ok_try {M : Mm} (h : OkM M) : M.1.1[14]? = some (.inl 0) ∧ M.2.2.2 14 3 = some 16 ∧ M.1.1[58]? = some (.inr (.int, 12)) := ⟨h.sh rfl, h.rf rfl, h.sh rfl⟩
/-! ===== size, count, most and least weight of the greatest matchings of a set: an algebra ===== -/
abbrev Qt : Type := Nat × Nat × Nat × Nat
def qadd (x y : Qt) : Qt := if x.1 < y.1 then y else if y.1 < x.1 then x else (x.1, x.2.1 + y.2.1, max x.2.2.1 y.2.2.1, min x.2.2.2 y.2.2.2)
def qsh (k : Nat) (x : Qt) : Qt := (x.1 + 1, x.2.1, x.2.2.1 + k, x.2.2.2 + k)
theorem qadd_comm (x y : Qt) : qadd x y = qadd y x := by
  unfold qadd
  by_cases h1 : x.1 < y.1
  · rw [if_pos h1, if_neg (by omega), if_pos h1]
  · by_cases h2 : y.1 < x.1
    · rw [if_neg h1, if_pos h2, if_pos h2]
    · have h3 : x.1 = y.1 := by omega
      rw [if_neg h1, if_neg h2, if_neg h2, if_neg h1, h3, Nat.add_comm x.2.1, Nat.max_comm x.2.2.1, Nat.min_comm x.2.2.2]
theorem qadd_assoc (x y z : Qt) : qadd (qadd x y) z = qadd x (qadd y z) := by
  obtain ⟨x1, x2, x3, x4⟩ := x
  obtain ⟨y1, y2, y3, y4⟩ := y
  obtain ⟨z1, z2, z3, z4⟩ := z
  unfold qadd
  dsimp only
  rcases Nat.lt_trichotomy x1 y1 with h | h | h <;> rcases Nat.lt_trichotomy y1 z1 with h' | h' | h' <;> rcases Nat.lt_trichotomy x1 z1 with h'' | h'' | h'' <;> (try omega) <;>
    simp [h, h', h'', Nat.not_lt_of_gt, Nat.lt_irrefl, Nat.add_assoc, Nat.max_assoc, Nat.min_assoc, Nat.lt_asymm, Nat.ne_of_lt] <;> (try omega)
theorem qsh_add (k : Nat) (x y : Qt) : qsh k (qadd x y) = qadd (qsh k x) (qsh k y) := by
  unfold qadd qsh
  by_cases h1 : x.1 < y.1
  · rw [if_pos h1, if_pos (by show x.1 + 1 < y.1 + 1; omega)]
  · by_cases h2 : y.1 < x.1
    · rw [if_neg h1, if_pos h2, if_neg (by show ¬ x.1 + 1 < y.1 + 1; omega), if_pos (by show y.1 + 1 < x.1 + 1; omega)]
    · rw [if_neg h1, if_neg h2, if_neg (by show ¬ x.1 + 1 < y.1 + 1; omega), if_neg (by show ¬ y.1 + 1 < x.1 + 1; omega)]
      show (x.1 + 1, x.2.1 + y.2.1, max x.2.2.1 y.2.2.1 + k, min x.2.2.2 y.2.2.2 + k) = (x.1 + 1, x.2.1 + y.2.1, max (x.2.2.1 + k) (y.2.2.1 + k), min (x.2.2.2 + k) (y.2.2.2 + k))
      rw [Nat.add_max_add_right, Nat.add_min_add_right]
theorem qsh_comm (j k : Nat) (x : Qt) : qsh j (qsh k x) = qsh k (qsh j x) := by
  unfold qsh
  dsimp only
  rw [Nat.add_right_comm x.2.2.1, Nat.add_right_comm x.2.2.2]
/-- b by b from below: what f adds -/
def fb (f : Nat → Option Qt) (x : Qt) : Nat → Qt
  | 0 => x
  | b + 1 => match f b with
    | none => fb f x b
    | some q => qadd (fb f x b) q
/-- of the nodes below n in S: by the highest one -/
def FT (w : Nat → Nat → Option Nat) : Nat → Nat → Qt
  | 0, _ => (0, 1, 0, 0)
  | n + 1, S => if S.testBit n = true then fb (fun b => if S.testBit b = true then (w n b).map (fun k => qsh k (FT w n (dif S (2 ^ b)))) else none) (FT w n S) n else FT w n S
theorem FT_s (w : Nat → Nat → Option Nat) (n S : Nat) : FT w (n + 1) S = if S.testBit n = true then fb (fun b => if S.testBit b = true then (w n b).map (fun k => qsh k (FT w n (dif S (2 ^ b)))) else none) (FT w n S) n else FT w n S := rfl
theorem fb_s (f : Nat → Option Qt) (x : Qt) (b : Nat) : fb f x (b + 1) = match f b with | none => fb f x b | some q => qadd (fb f x b) q := rfl
theorem fb_cong {f g : Nat → Option Qt} {x y : Qt} {n : Nat} (hx : x = y) (h : ∀ b, b < n → f b = g b) : fb f x n = fb g y n := by
  induction n with
  | zero => exact hx
  | succ n ih =>
    unfold fb
    rw [ih (fun b hb => h b (by omega)), h n (by omega)]
theorem FT_cong {w : Nat → Nat → Option Nat} {n : Nat} : ∀ {S T : Nat}, (∀ i, i < n → S.testBit i = T.testBit i) → FT w n S = FT w n T := by
  induction n with
  | zero => intro S T _; rfl
  | succ n ih =>
    intro S T h
    rw [FT_s, FT_s, h n (by omega), ih (fun i hi => h i (by omega))]
    by_cases ht : T.testBit n = true
    · rw [if_pos ht, if_pos ht]
      refine fb_cong rfl (fun b hb => ?_)
      rw [h b (by omega)]
      by_cases hb2 : T.testBit b = true
      · rw [if_pos hb2, if_pos hb2]
        congr 1
        funext k
        rw [ih (S := dif S (2 ^ b)) (T := dif T (2 ^ b)) (fun i hi => by rw [dif_bit, dif_bit, h i (by omega)])]
      · rw [if_neg hb2, if_neg hb2]
    · rw [if_neg ht, if_neg ht]
theorem bit_hi {S n i : Nat} (h : S < 2 ^ n) (hi : n ≤ i) : S.testBit i = false := Nat.testBit_lt_two_pow (Nat.lt_of_lt_of_le h (Nat.pow_le_pow_right (by decide) hi))
theorem FT_up {w : Nat → Nat → Option Nat} {n m S : Nat} (h : S < 2 ^ n) (hm : n ≤ m) : FT w m S = FT w n S := by
  induction m with
  | zero =>
    have : n = 0 := by omega
    subst this; rfl
  | succ m ih =>
    by_cases hnm : n = m + 1
    · subst hnm; rfl
    · have h1 := bit_hi h (show n ≤ m by omega)
      rw [FT_s, h1, if_neg (by decide)]
      exact ih (by omega)
def Tq (w : Nat → Nat → Option Nat) (S : Nat) : Qt := FT w 12 S
theorem dif_le (a b : Nat) : dif a b ≤ a := by
  refine Nat.le_of_testBit ?_
  intro i hi
  rw [dif_bit] at hi
  simp at hi
  exact hi.1
theorem Tq_0 (w : Nat → Nat → Option Nat) : Tq w 0 = (0, 1, 0, 0) := FT_up (n := 0) (by decide) (by decide)
