/-! ===== what hangs together: pure ===== -/
def pop (S : Nat) : Nat := sm (fun i => if S.testBit i = true then 1 else 0) 12
/-- the nodes with a line to one of P -/
def ar (w : Nat → Nat → Option Nat) : Nat → Nat → Nat
  | 0, _ => 0
  | n + 1, P => if P.testBit n = true then ar w n P ||| nbr w n else ar w n P
def AR (w : Nat → Nat → Option Nat) (P : Nat) : Nat := ar w 12 P
theorem ar_bit (w : Nat → Nat → Option Nat) (n P j : Nat) : (ar w n P).testBit j = true ↔ ∃ a, a < n ∧ P.testBit a = true ∧ j < 12 ∧ (w a j).isSome = true := by
  induction n with
  | zero => simp [ar]
  | succ n ih =>
    have e : ar w (n + 1) P = if P.testBit n = true then ar w n P ||| nbr w n else ar w n P := rfl
    rw [e]
    constructor
    · intro h
      by_cases hp : P.testBit n = true
      · rw [if_pos hp, Nat.testBit_or, Bool.or_eq_true] at h
        rcases h with h | h
        · obtain ⟨a, h1, h2⟩ := ih.mp h
          exact ⟨a, by omega, h2⟩
        · rw [nbr_bit, Bool.and_eq_true] at h
          exact ⟨n, by omega, hp, by simpa using h.1, h.2⟩
      · rw [if_neg hp] at h
        obtain ⟨a, h1, h2⟩ := ih.mp h
        exact ⟨a, by omega, h2⟩
    · rintro ⟨a, h1, h2, h3, h4⟩
      by_cases hp : P.testBit n = true
      · rw [if_pos hp, Nat.testBit_or, Bool.or_eq_true]
        by_cases han : a = n
        · subst han
          right
          rw [nbr_bit, Bool.and_eq_true]
          exact ⟨by simpa using h3, h4⟩
        · left
          exact ih.mpr ⟨a, by omega, h2, h3, h4⟩
      · rw [if_neg hp]
        by_cases han : a = n
        · subst han; exact absurd h2 hp
        · exact ih.mpr ⟨a, by omega, h2, h3, h4⟩
theorem AR_bit {w : Nat → Nat → Option Nat} {P j : Nat} : (AR w P).testBit j = true ↔ ∃ a, a < 12 ∧ P.testBit a = true ∧ j < 12 ∧ (w a j).isSome = true := ar_bit w 12 P j
theorem ar_cong {w : Nat → Nat → Option Nat} {n P Q : Nat} (h : ∀ i, i < n → P.testBit i = Q.testBit i) : ar w n P = ar w n Q := by
  induction n with
  | zero => rfl
  | succ n ih =>
    have e : ∀ X, ar w (n + 1) X = if X.testBit n = true then ar w n X ||| nbr w n else ar w n X := fun _ => rfl
    rw [e, e, h n (by omega), ih (fun i hi => h i (by omega))]
theorem AR_hi {w : Nat → Nat → Option Nat} {a S : Nat} (ha : a < 12) (hb : S.testBit a = true) (hS : S < 2 ^ (a + 1)) : AR w S = AR w (dif S (2 ^ a)) ||| nbr w a := by
  apply Nat.eq_of_testBit_eq
  intro j
  rw [Bool.eq_iff_iff, Nat.testBit_or, Bool.or_eq_true, AR_bit, AR_bit, nbr_bit, Bool.and_eq_true]
  constructor
  · rintro ⟨x, h1, h2, h3, h4⟩
    by_cases hx : x = a
    · subst hx
      exact Or.inr ⟨by simpa using h3, h4⟩
    · refine Or.inl ⟨x, h1, ?_, h3, h4⟩
      rw [dif_bit, h2, Nat.testBit_two_pow]
      simp; omega
  · rintro (⟨x, h1, h2, h3, h4⟩ | ⟨h3, h4⟩)
    · refine ⟨x, h1, ?_, h3, h4⟩
      rw [dif_bit, Bool.and_eq_true] at h2
      exact h2.1
    · exact ⟨a, ha, hb, by simpa using h3, h4⟩
theorem AR_0 (w : Nat → Nat → Option Nat) : AR w 0 = 0 := by
  apply Nat.eq_of_testBit_eq
  intro j
  rw [Bool.eq_iff_iff, AR_bit]
  simp
def cst (w : Nat → Nat → Option Nat) (S P : Nat) : Nat := P ||| (AR w P &&& S)
def itr (w : Nat → Nat → Option Nat) (S : Nat) : Nat → Nat → Nat
  | 0, P => P
  | k + 1, P => itr w S k (cst w S P)
def cmp (w : Nat → Nat → Option Nat) (S a : Nat) : Nat := itr w S 12 (2 ^ a)
theorem itr_fix {w : Nat → Nat → Option Nat} {S P : Nat} (h : cst w S P = P) : ∀ k, itr w S k P = P := by
  intro k
  induction k with
  | zero => rfl
  | succ k ih =>
    show itr w S k (cst w S P) = P
    rw [h]; exact ih
theorem cst_bit {w : Nat → Nat → Option Nat} {S P j : Nat} : (cst w S P).testBit j = true ↔ P.testBit j = true ∨ (S.testBit j = true ∧ ∃ a, a < 12 ∧ P.testBit a = true ∧ j < 12 ∧ (w a j).isSome = true) := by
  unfold cst
  rw [Nat.testBit_or, Bool.or_eq_true, Nat.testBit_and, Bool.and_eq_true, AR_bit]
  constructor
  · rintro (h | ⟨h1, h2⟩)
    · exact Or.inl h
    · exact Or.inr ⟨h2, h1⟩
  · rintro (h | ⟨h1, h2⟩)
    · exact Or.inl h
    · exact Or.inr ⟨h2, h1⟩
/-- P holds, with a node, all of S that it has lines to -/
def clo (w : Nat → Nat → Option Nat) (S P : Nat) : Prop := ∀ x y, P.testBit x = true → S.testBit y = true → (w x y).isSome = true → P.testBit y = true
theorem cst_in {w : Nat → Nat → Option Nat} {S P Q : Nat} (hS : S < 4096) (hc : clo w S Q) (h : ∀ i, P.testBit i = true → Q.testBit i = true) : ∀ i, (cst w S P).testBit i = true → Q.testBit i = true := by
  intro i hi
  rcases cst_bit.mp hi with h1 | ⟨h1, a, h2, h3, h4, h5⟩
  · exact h i h1
  · exact hc a i (h a h3) h1 h5
theorem itr_in {w : Nat → Nat → Option Nat} {S Q : Nat} (hS : S < 4096) (hc : clo w S Q) : ∀ k P, (∀ i, P.testBit i = true → Q.testBit i = true) → ∀ i, (itr w S k P).testBit i = true → Q.testBit i = true := by
  intro k
  induction k with
  | zero => intro P h i hi; exact h i hi
  | succ k ih => intro P h; exact ih (cst w S P) (cst_in hS hc h)
theorem itr_sup {w : Nat → Nat → Option Nat} {S : Nat} : ∀ k P i, P.testBit i = true → (itr w S k P).testBit i = true := by
  intro k
  induction k with
  | zero => intro P i h; exact h
  | succ k ih => intro P i h; exact ih (cst w S P) i (cst_bit.mpr (Or.inl h))
theorem itr_sub {w : Nat → Nat → Option Nat} {S : Nat} : ∀ k P, (∀ i, P.testBit i = true → S.testBit i = true) → ∀ i, (itr w S k P).testBit i = true → S.testBit i = true := by
  intro k
  induction k with
  | zero => intro P h i hi; exact h i hi
  | succ k ih =>
    intro P h
    refine ih (cst w S P) (fun i hi => ?_)
    rcases cst_bit.mp hi with h1 | ⟨h1, -⟩
    · exact h i h1
    · exact h1
theorem pop_lt {P Q : Nat} (h : ∀ i, P.testBit i = true → Q.testBit i = true) (hne : P ≠ Q) (hQ : Q < 4096) : pop P < pop Q := by
  have hex : ∃ j, Q.testBit j = true ∧ P.testBit j = false := by
    by_cases hx : ∃ j, Q.testBit j = true ∧ P.testBit j = false
    · exact hx
    · exfalso
      apply hne
      apply Nat.eq_of_testBit_eq
      intro i
      rw [Bool.eq_iff_iff]
      constructor
      · exact h i
      · intro hq
        cases hp : P.testBit i with
        | true => rfl
        | false => exact absurd ⟨i, hq, hp⟩ hx
  obtain ⟨j, hj1, hj2⟩ := hex
  have hj12 : j < 12 := by
    rcases Nat.lt_or_ge j 12 with q | q
    · exact q
    · rw [bit_hi (n := 12) hQ q] at hj1; cases hj1
  have mono : ∀ n, sm (fun i => if P.testBit i = true then 1 else 0) n ≤ sm (fun i => if Q.testBit i = true then 1 else 0) n := by
    intro n
    induction n with
    | zero => exact Nat.le_refl _
    | succ n ih =>
      show sm _ n + (if P.testBit n = true then 1 else 0) ≤ sm _ n + (if Q.testBit n = true then 1 else 0)
      by_cases hp : P.testBit n = true
      · rw [if_pos hp, if_pos (h n hp)]; omega
      · rw [if_neg hp]; omega
  have strict : ∀ n, j < n → sm (fun i => if P.testBit i = true then 1 else 0) n < sm (fun i => if Q.testBit i = true then 1 else 0) n := by
    intro n
    induction n with
    | zero => intro h; omega
    | succ n ih =>
      intro hjn
      show sm _ n + (if P.testBit n = true then 1 else 0) < sm _ n + (if Q.testBit n = true then 1 else 0)
      by_cases hn : j = n
      · subst hn
        have := mono j
        rw [hj2, hj1]; simp; omega
      · have h1 := ih (by omega)
        by_cases hp : P.testBit n = true
        · rw [if_pos hp, if_pos (h n hp)]; omega
        · rw [if_neg hp]; omega
  exact strict 12 hj12
theorem pop_le (P : Nat) : pop P ≤ 12 := by
  have := sm_le (f := fun i => if P.testBit i = true then 1 else 0) (n := 12) 1 (fun i _ => by show (if _ then 1 else 0) ≤ 1; split <;> omega)
  unfold pop; omega
theorem cst_lt {w : Nat → Nat → Option Nat} {S P : Nat} (hS : S < 4096) (hP : P < 4096) : cst w S P < 4096 := by
  refine lt_of_bits (n := 12) (fun i hi => ?_)
  cases hc : (cst w S P).testBit i with
  | false => rfl
  | true =>
    rcases cst_bit.mp hc with h1 | ⟨h1, -⟩
    · rw [bit_hi (n := 12) hP hi] at h1; cases h1
    · rw [bit_hi (n := 12) hS hi] at h1; cases h1
theorem itr_end {w : Nat → Nat → Option Nat} {S : Nat} (hS : S < 4096) : ∀ k P, P < 4096 → cst w S (itr w S k P) = itr w S k P ∨ pop P + k + 1 ≤ pop (cst w S (itr w S k P)) := by
  intro k
  induction k with
  | zero =>
    intro P hP
    by_cases h : cst w S P = P
    · exact Or.inl h
    · exact Or.inr (pop_lt (fun i hi => cst_bit.mpr (Or.inl hi)) (fun q => h q.symm) (cst_lt hS hP))
  | succ k ih =>
    intro P hP
    show cst w S (itr w S k (cst w S P)) = itr w S k (cst w S P) ∨ _ ≤ pop (cst w S (itr w S k (cst w S P)))
    by_cases h : cst w S P = P
    · left
      rw [h, itr_fix h]; exact h
    · have h1 : pop P < pop (cst w S P) := pop_lt (fun i hi => cst_bit.mpr (Or.inl hi)) (fun q => h q.symm) (cst_lt hS hP)
      rcases ih (cst w S P) (cst_lt hS hP) with h2 | h2
      · exact Or.inl h2
      · exact Or.inr (by omega)
theorem two_lt {a : Nat} (ha : a < 12) : 2 ^ a < 4096 := by
  have h := Nat.pow_lt_pow_right (a := 2) (by decide) ha
  exact h
theorem cmp_fix {w : Nat → Nat → Option Nat} {S a : Nat} (hS : S < 4096) (ha : a < 12) : cst w S (cmp w S a) = cmp w S a := by
  rcases itr_end (w := w) hS 12 (2 ^ a) (two_lt ha) with h | h
  · exact h
  · have := pop_le (cst w S (itr w S 12 (2 ^ a)))
    omega
theorem cmp_clo {w : Nat → Nat → Option Nat} {S a : Nat} (hS : S < 4096) (ha : a < 12) : clo w S (cmp w S a) := by
  intro x y hx hy hw
  have h := cmp_fix (w := w) hS ha
  rw [← h]
  have hy12 : y < 12 := by
    rcases Nat.lt_or_ge y 12 with q | q
    · exact q
    · rw [bit_hi (n := 12) hS q] at hy; cases hy
  have hx12 : x < 12 := by
    rcases Nat.lt_or_ge x 12 with q | q
    · exact q
    · exfalso
      have hlt : cmp w S a < 4096 := by
        have : ∀ k P, P < 4096 → itr w S k P < 4096 := by
          intro k
          induction k with
          | zero => intro P hP; exact hP
          | succ k ih => intro P hP; exact ih _ (cst_lt hS hP)
        exact this 12 _ (two_lt ha)
      rw [bit_hi (n := 12) hlt q] at hx; cases hx
  exact cst_bit.mpr (Or.inr ⟨hy, x, hx12, hx, hy12, hw⟩)
theorem cmp_self (w : Nat → Nat → Option Nat) (S a : Nat) : (cmp w S a).testBit a = true := itr_sup 12 (2 ^ a) a (by rw [Nat.testBit_two_pow]; simp)
theorem cmp_min {w : Nat → Nat → Option Nat} {S a Q : Nat} (hS : S < 4096) (hc : clo w S Q) (ha : Q.testBit a = true) : ∀ i, (cmp w S a).testBit i = true → Q.testBit i = true := itr_in hS hc 12 (2 ^ a) (fun i hi => by
  rw [Nat.testBit_two_pow] at hi
  have : a = i := by simpa using hi
  rw [← this]; exact ha)
theorem cmp_sub {w : Nat → Nat → Option Nat} {S a : Nat} (ha : S.testBit a = true) : ∀ i, (cmp w S a).testBit i = true → S.testBit i = true := itr_sub 12 (2 ^ a) (fun i hi => by
  rw [Nat.testBit_two_pow] at hi
  have : a = i := by simpa using hi
  rw [← this]; exact ha)
theorem cmp_lt {w : Nat → Nat → Option Nat} {S a : Nat} (hS : S < 4096) (ha : S.testBit a = true) : cmp w S a < 4096 := lt_of_bits (n := 12) (fun i hi => by
  cases hc : (cmp w S a).testBit i with
  | false => rfl
  | true =>
    have := cmp_sub ha i hc
    rw [bit_hi (n := 12) hS hi] at this; cases this)
theorem in12 {S a : Nat} (hS : S < 4096) (ha : S.testBit a = true) : a < 12 := by
  rcases Nat.lt_or_ge a 12 with q | q
  · exact q
  · rw [bit_hi (n := 12) hS q] at ha; cases ha
theorem cmp_eq {w : Nat → Nat → Option Nat} (hs : ∀ x y, w x y = w y x) {S a b : Nat} (hS : S < 4096) (ha : S.testBit a = true) (hb : (cmp w S a).testBit b = true) : cmp w S b = cmp w S a := by
  have ha12 := in12 hS ha
  have hbS := cmp_sub ha b hb
  have hb12 := in12 hS hbS
  have h1 := cmp_min hS (cmp_clo (w := w) hS ha12) hb
  have h2 : (cmp w S b).testBit a = true := by
    cases hab : (cmp w S b).testBit a with
    | true => rfl
    | false =>
      exfalso
      have hQ : clo w S (dif (cmp w S a) (cmp w S b)) := by
        intro x y hx hy hw
        rw [dif_bit, Bool.and_eq_true] at hx ⊢
        have hx2 : (cmp w S b).testBit x = false := by simpa using hx.2
        refine ⟨cmp_clo hS ha12 x y hx.1 hy hw, ?_⟩
        cases hyb : (cmp w S b).testBit y with
        | false => rfl
        | true =>
          have := cmp_clo (w := w) hS hb12 y x hyb (cmp_sub ha x hx.1) (by rw [hs y x]; exact hw)
          rw [hx2] at this; cases this
      have h3 := cmp_min hS hQ (by rw [dif_bit, cmp_self, hab]; rfl) b hb
      rw [dif_bit, cmp_self] at h3
      simp at h3
  have h4 := cmp_min hS (cmp_clo (w := w) hS hb12) h2
  apply Nat.eq_of_testBit_eq
  intro i
  rw [Bool.eq_iff_iff]
  exact ⟨h1 i, h4 i⟩
theorem cmp_out {w : Nat → Nat → Option Nat} (hs : ∀ x y, w x y = w y x) {S a u : Nat} (hS : S < 4096) (ha : S.testBit a = true) (hu : S.testBit u = true) (hn : (cmp w S a).testBit u = false) : cmp w (dif S (cmp w S a)) u = cmp w S u := by
  have ha12 := in12 hS ha
  have hu12 := in12 hS hu
  have hSP : dif S (cmp w S a) < 4096 := Nat.lt_of_le_of_lt (dif_le _ _) hS
  have huP : (dif S (cmp w S a)).testBit u = true := by rw [dif_bit, hu, hn]; rfl
  have hdis : ∀ i, (cmp w S u).testBit i = true → (cmp w S a).testBit i = false := by
    intro i hi
    cases hia : (cmp w S a).testBit i with
    | false => rfl
    | true =>
      have e1 := cmp_eq hs hS ha hia
      have e2 := cmp_eq hs hS hu hi
      rw [e1] at e2
      rw [e2, cmp_self] at hn; cases hn
  apply Nat.eq_of_testBit_eq
  intro i
  rw [Bool.eq_iff_iff]
  constructor
  · refine cmp_min hSP (fun x y hx hy hw => ?_) (cmp_self w S u) i
    rw [dif_bit, Bool.and_eq_true] at hy
    exact cmp_clo hS hu12 x y hx hy.1 hw
  · refine cmp_min hS (fun x y hx hy hw => ?_) (cmp_self w _ u) i
    have hxS := cmp_sub huP x hx
    rw [dif_bit, Bool.and_eq_true] at hxS
    have hxn : (cmp w S a).testBit x = false := by simpa using hxS.2
    refine cmp_clo hSP hu12 x y hx ?_ hw
    rw [dif_bit, hy]
    cases hya : (cmp w S a).testBit y with
    | false => rfl
    | true =>
      have := cmp_clo (w := w) hS ha12 y x hya hxS.1 (by rw [hs y x]; exact hw)
      rw [hxn] at this; cases this
/-- how many parts with an odd number of nodes: each by its least one -/
def odt (w : Nat → Nat → Option Nat) (S v : Nat) : Nat := if S.testBit v = true ∧ (∀ u, u < v → (cmp w S v).testBit u = false) then pop (cmp w S v) % 2 else 0
def od (w : Nat → Nat → Option Nat) (S : Nat) : Nat := sm (odt w S) 12
theorem od_0 (w : Nat → Nat → Option Nat) : od w 0 = 0 := by
  unfold od
  have : ∀ n, sm (odt w 0) n = 0 := by
    intro n
    induction n with
    | zero => rfl
    | succ n ih =>
      show sm (odt w 0) n + odt w 0 n = 0
      rw [ih]
      unfold odt
      simp
  exact this 12
theorem od_step {w : Nat → Nat → Option Nat} (hs : ∀ x y, w x y = w y x) {S a : Nat} (hS : S < 4096) (ha : S.testBit a = true) : od w S = od w (dif S (cmp w S a)) + pop (cmp w S a) % 2 := by
  obtain ⟨l, hl1, hl2⟩ := pk_least (fun k => (cmp w S a).testBit k = true) ⟨a, cmp_self w S a⟩
  have hlS := cmp_sub ha l hl1
  have hl12 := in12 hS hlS
  have hle := cmp_eq hs hS ha hl1
  have h := sm_at (f := odt w S) (g := odt w (dif S (cmp w S a))) (n := 12) (i := l) hl12 (fun j hj hne => by
    by_cases hjS : S.testBit j = true
    · by_cases hjP : (cmp w S a).testBit j = true
      · have e := cmp_eq hs hS ha hjP
        have h1 : odt w S j = 0 := by
          unfold odt
          rw [if_neg]
          rintro ⟨-, h2⟩
          rw [e] at h2
          rcases Nat.lt_or_gt_of_ne hne with q | q
          · exact hl2 j q hjP
          · have := h2 l q
            rw [hl1] at this; cases this
        have h2 : odt w (dif S (cmp w S a)) j = 0 := by
          unfold odt
          rw [if_neg]
          rintro ⟨h3, -⟩
          rw [dif_bit, hjP] at h3
          simp at h3
        rw [h1, h2]
      · have hjn : (cmp w S a).testBit j = false := by simpa using hjP
        have e := cmp_out hs hS ha hjS hjn
        have hd : (dif S (cmp w S a)).testBit j = true := by rw [dif_bit, hjS, hjn]; rfl
        unfold odt
        rw [e, hjS, hd]
    · have hd : ¬ (dif S (cmp w S a)).testBit j = true := by
        rw [dif_bit]
        simp [hjS]
      unfold odt
      rw [if_neg (fun q => hjS q.1), if_neg (fun q => hd q.1)])
  have h1 : odt w S l = pop (cmp w S a) % 2 := by
    unfold odt
    rw [hle, if_pos ⟨hlS, fun u hu => by
      cases hc : (cmp w S a).testBit u with
      | false => rfl
      | true => exact absurd hc (hl2 u hu)⟩]
  have h2 : odt w (dif S (cmp w S a)) l = 0 := by
    unfold odt
    rw [if_neg]
    rintro ⟨h3, -⟩
    rw [dif_bit, hl1] at h3
    simp at h3
  unfold od
  omega
theorem od_le (w : Nat → Nat → Option Nat) (S : Nat) : od w S ≤ 12 := by
  have := sm_le (f := odt w S) (n := 12) 1 (fun i _ => by unfold odt; split <;> omega)
  unfold od; omega
