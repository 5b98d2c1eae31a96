/-! ===== pure nets ===== -/
theorem rd_sI (M : Mm) (a i : Nat) (v : Int32) (b j : Nat) : (sI M a i v).2.1 b j = if b = a ∧ j = i then v else M.2.1 b j := by
  show u2 M.2.1 a i v b j = _
  unfold u2
  by_cases h : b = a
  · by_cases h2 : j = i
    · simp [h, h2]
    · simp [h, h2]
  · simp [h]
theorem rd_self (M : Mm) (a i : Nat) (v : Int32) : (sI M a i v).2.1 a i = v := by rw [rd_sI]; simp
theorem rd_na {M : Mm} {a i b j : Nat} {v : Int32} (h : b ≠ a) : (sI M a i v).2.1 b j = M.2.1 b j := by rw [rd_sI, if_neg (fun q => h q.1)]
theorem rd_ni {M : Mm} {a i b j : Nat} {v : Int32} (h : j ≠ i) : (sI M a i v).2.1 b j = M.2.1 b j := by rw [rd_sI, if_neg (fun q => h q.2)]
def mask (p : Nat → Bool) : Nat → Nat
  | 0 => 0
  | k + 1 => mask p k ||| (if p k = true then 2 ^ k else 0)
theorem mask_bit (p : Nat → Bool) (n j : Nat) : (mask p n).testBit j = (decide (j < n) && p j) := by
  induction n with
  | zero => simp [mask]
  | succ n ih =>
    unfold mask
    rw [Nat.testBit_or, ih]
    by_cases hj : j = n
    · subst hj
      by_cases hp : p j = true
      · simp [hp]
      · simp [hp]
    · have h1 : (if p n = true then 2 ^ n else 0).testBit j = false := by
        by_cases hp : p n = true
        · rw [if_pos hp, Nat.testBit_two_pow]; simp; omega
        · rw [if_neg hp]; simp
      rw [h1]
      by_cases h2 : j < n
      · simp [h2, show j < n + 1 by omega]
      · simp [h2, show ¬ j < n + 1 by omega]
theorem lt_of_bits {x n : Nat} (h : ∀ i, n ≤ i → x.testBit i = false) : x < 2 ^ n := Nat.lt_pow_two_of_testBit x h
theorem mask_lt (p : Nat → Bool) (n : Nat) : mask p n < 2 ^ n := lt_of_bits (fun i hi => by rw [mask_bit]; simp; omega)
theorem mask_eq {p : Nat → Bool} {n x : Nat} (h : ∀ j, x.testBit j = (decide (j < n) && p j)) : x = mask p n := Nat.eq_of_testBit_eq (fun j => by rw [h j, mask_bit])
def sm (f : Nat → Nat) : Nat → Nat
  | 0 => 0
  | n + 1 => sm f n + f n
theorem sm_cong {f g : Nat → Nat} {n : Nat} (h : ∀ i, i < n → f i = g i) : sm f n = sm g n := by
  induction n with
  | zero => rfl
  | succ n ih =>
    unfold sm
    rw [ih (fun i hi => h i (by omega)), h n (by omega)]
theorem sm_at {f g : Nat → Nat} {n i : Nat} (hi : i < n) (h : ∀ j, j < n → j ≠ i → f j = g j) : sm f n + g i = sm g n + f i := by
  induction n with
  | zero => omega
  | succ n ih =>
    unfold sm
    by_cases hn : i = n
    · subst hn
      have := sm_cong (f := f) (g := g) (n := i) (fun j hj => h j (by omega) (by omega))
      omega
    · have h1 := ih (by omega) (fun j hj hne => h j (by omega) hne)
      have h2 := h n (by omega) (fun q => hn q.symm)
      omega
theorem sm_le {f : Nat → Nat} {n : Nat} (c : Nat) (h : ∀ i, i < n → f i ≤ c) : sm f n ≤ c * n := by
  induction n with
  | zero => simp [sm]
  | succ n ih =>
    have h1 := ih (fun i hi => h i (by omega))
    have h2 := h n (by omega)
    unfold sm
    rw [Nat.mul_succ]; omega
-- nodes, weights of lines, mates
abbrev Nw : Type := Nat × (Nat → Nat → Option Nat) × (Nat → Option Nat)
def wI (o : Option Nat) : Int32 := match o with
  | none => -1
  | some k => nI k
theorem wI_none {o : Option Nat} (h : ∀ k, o = some k → k < 2 ^ 31) : wI o = -1 ↔ o = none := by
  cases o with
  | none => simp [wI]
  | some k =>
    have hk := h k rfl
    constructor
    · intro q
      have h1 : nI k = -1 := q
      have h2 := nI_pos' hk
      rw [h1] at h2
      exact absurd h2 (by decide)
    · intro q; cases q
theorem wI_some {o : Option Nat} {b : Nat} (h : ∀ k, o = some k → k < 2 ^ 31) (hb : b < 2 ^ 31) : wI o = nI b ↔ o = some b := by
  cases o with
  | none =>
    constructor
    · intro q
      have h1 : -1 = nI b := q
      have h2 := nI_pos' hb
      rw [← h1] at h2
      exact absurd h2 (by decide)
    · intro q; cases q
  | some k =>
    have hk := h k rfl
    constructor
    · intro q
      have h1 : nI k = nI b := q
      rw [nI_eq hk hb] at h1
      rw [h1]
    · intro q; cases q; rfl
def w2 (w : Nat → Nat → Option Nat) (a b : Nat) (v : Option Nat) : Nat → Nat → Option Nat := fun x y => if (x = a ∧ y = b) ∨ (x = b ∧ y = a) then v else w x y
def m2 (m : Nat → Option Nat) (a : Nat) (v : Option Nat) : Nat → Option Nat := fun x => if x = a then v else m x
def nbr (w : Nat → Nat → Option Nat) (a : Nat) : Nat := mask (fun b => (w a b).isSome) 12
def one (o : Option Nat) : Nat := if o.isSome = true then 1 else 0
def lnc (w : Nat → Nat → Option Nat) : Nat := sm (fun a => sm (fun b => one (w a b)) a) 12
theorem nbr_bit (w : Nat → Nat → Option Nat) (a j : Nat) : (nbr w a).testBit j = (decide (j < 12) && (w a j).isSome) := mask_bit _ _ _
theorem nbr_lt (w : Nat → Nat → Option Nat) (a : Nat) : nbr w a < 4096 := mask_lt _ 12
theorem w2_a (w : Nat → Nat → Option Nat) (a b : Nat) (v : Option Nat) : w2 w a b v a b = v := by simp [w2]
theorem w2_b (w : Nat → Nat → Option Nat) (a b : Nat) (v : Option Nat) : w2 w a b v b a = v := by simp [w2]
theorem nbr_or {w : Nat → Nat → Option Nat} {a b k : Nat} (hab : a ≠ b) (hb : b < 12) : nbr (w2 w a b (some k)) a = nbr w a ||| 2 ^ b := by
  apply Nat.eq_of_testBit_eq
  intro j
  rw [nbr_bit, Nat.testBit_or, nbr_bit, Nat.testBit_two_pow]
  unfold w2
  by_cases hj : j = b
  · subst hj; simp [hb]
  · have h1 : ¬ b = j := fun q => hj q.symm
    simp [hj, h1, hab]
theorem nbr_dif {w : Nat → Nat → Option Nat} {a b : Nat} (hab : a ≠ b) : nbr (w2 w a b none) a = dif (nbr w a) (2 ^ b) := by
  apply Nat.eq_of_testBit_eq
  intro j
  rw [nbr_bit, dif_bit, nbr_bit, Nat.testBit_two_pow]
  unfold w2
  by_cases hj : j = b
  · subst hj; simp
  · have h1 : ¬ b = j := fun q => hj q.symm
    simp [hj, h1, hab]
theorem w2_comm (w : Nat → Nat → Option Nat) (a b : Nat) (v : Option Nat) : w2 w a b v = w2 w b a v := by
  funext x y
  unfold w2
  by_cases h : (x = a ∧ y = b) ∨ (x = b ∧ y = a)
  · rw [if_pos h, if_pos (Or.comm.mp h)]
  · rw [if_neg h, if_neg (fun q => h (Or.comm.mp q))]
theorem nbr_ne {w : Nat → Nat → Option Nat} {a b x : Nat} {v : Option Nat} (h1 : x ≠ a) (h2 : x ≠ b) : nbr (w2 w a b v) x = nbr w x := by
  apply Nat.eq_of_testBit_eq
  intro j
  rw [nbr_bit, nbr_bit]
  unfold w2
  simp [h1, h2]
theorem lnc_w2 {w : Nat → Nat → Option Nat} {a b : Nat} {v : Option Nat} (hab : a ≠ b) (ha : a < 12) (hb : b < 12) (hs : ∀ x y, w x y = w y x) : lnc (w2 w a b v) + one (w a b) = lnc w + one v := by
  rcases Nat.lt_or_gt_of_ne hab with h | h
  · have h1 : sm (fun y => one (w2 w a b v b y)) b + one (w b a) = sm (fun y => one (w b y)) b + one v := by
      have := sm_at (f := fun y => one (w2 w a b v b y)) (g := fun y => one (w b y)) (n := b) (i := a) h (fun j hj hne => by
        show one (w2 w a b v b j) = one (w b j)
        unfold w2
        rw [if_neg (by omega)])
      simp only [w2_b] at this
      exact this
    have h2 := sm_at (f := fun x => sm (fun y => one (w2 w a b v x y)) x) (g := fun x => sm (fun y => one (w x y)) x) (n := 12) (i := b) hb (fun x hx hne => sm_cong (fun y hy => by
      show one (w2 w a b v x y) = one (w x y)
      unfold w2
      rw [if_neg (by omega)]))
    have h3 : lnc (w2 w a b v) = sm (fun x => sm (fun y => one (w2 w a b v x y)) x) 12 := rfl
    have h4 : lnc w = sm (fun x => sm (fun y => one (w x y)) x) 12 := rfl
    rw [hs a b]
    omega
  · have h1 : sm (fun y => one (w2 w a b v a y)) a + one (w a b) = sm (fun y => one (w a y)) a + one v := by
      have := sm_at (f := fun y => one (w2 w a b v a y)) (g := fun y => one (w a y)) (n := a) (i := b) h (fun j hj hne => by
        show one (w2 w a b v a j) = one (w a j)
        unfold w2
        rw [if_neg (by omega)])
      simp only [w2_a] at this
      exact this
    have h2 := sm_at (f := fun x => sm (fun y => one (w2 w a b v x y)) x) (g := fun x => sm (fun y => one (w x y)) x) (n := 12) (i := a) ha (fun x hx hne => sm_cong (fun y hy => by
      show one (w2 w a b v x y) = one (w x y)
      unfold w2
      rw [if_neg (by omega)]))
    have h3 : lnc (w2 w a b v) = sm (fun x => sm (fun y => one (w2 w a b v x y)) x) 12 := rfl
    have h4 : lnc w = sm (fun x => sm (fun y => one (w x y)) x) 12 := rfl
    omega
theorem lnc_le (w : Nat → Nat → Option Nat) : lnc w ≤ 144 := by
  have h := sm_le (f := fun a => sm (fun b => one (w a b)) a) (n := 12) 12 (fun a ha => by
    have h1 := sm_le (f := fun b => one (w a b)) (n := a) 1 (fun b hb => by show one (w a b) ≤ 1; unfold one; split <;> omega)
    show sm (fun b => one (w a b)) a ≤ 12
    omega)
  exact h
/-- the cells at n hold the net g -/
def NetRep (M : Mm) (n : Nat) (g : Nw) : Prop := NetAt M n ∧ M.2.1 n 0 = nI g.1 ∧ M.2.1 n 1 = nI (lnc g.2.1) ∧ (∀ a b, a < 12 → b < 12 → M.2.1 (n + 1) (a * 12 + b) = wI (g.2.1 a b)) ∧ (∀ a, a < 12 → M.2.1 (n + 2) a = nI (nbr g.2.1 a)) ∧ (∀ a, a < 12 → M.2.1 (n + 3) a = wI (g.2.2 a))
theorem NetRep.fr {M N : Mm} {n lo hi : Nat} {g : Nw} (h : NetRep M n g) (hf : Fr lo hi M N) (ho : n + 3 < lo ∨ hi < n) : NetRep N n g := by
  obtain ⟨h1, h2, h3, h4, h5, h6⟩ := h
  have e : ∀ k, k ≤ 3 → N.2.1 (n + k) = M.2.1 (n + k) := fun k hk => hf.2.2 _ (by omega)
  have e0 := e 0 (by omega)
  rw [Nat.add_zero] at e0
  refine ⟨h1.fr hf, ?_, ?_, fun a b ha hb => ?_, fun a ha => ?_, fun a ha => ?_⟩
  · rw [e0]; exact h2
  · rw [e0]; exact h3
  · rw [e 1 (by omega)]; exact h4 a b ha hb
  · rw [e 2 (by omega)]; exact h5 a ha
  · rw [e 3 (by omega)]; exact h6 a ha
theorem e12 (a b : Nat) : nI a * 12 + nI b = nI (a * 12 + b) := by
  have h : (12 : Int32) = nI 12 := by decide
  rw [h, pk_mul, nI_add]
