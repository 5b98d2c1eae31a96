def SL (g : Nw) (G f : Nat) (P : Nat → Nat → Prop) (W : Nat → Nat → Option Nat) : Prop := (∀ i j, W i j = W j i) ∧ (∀ x y, P x y → nmz G f x ≠ nmz G f y → ole (g.2.1 x y) (W (nmz G f x) (nmz G f y))) ∧ (∀ i j k, W i j = some k → ∃ x y, x < g.1 ∧ y < g.1 ∧ nmz G f x = i ∧ nmz G f y = j ∧ i ≠ j ∧ g.2.1 x y = some k)
def SM (g : Nw) (G f : Nat) (P : Nat → Nat → Prop) (m : Nat → Option Nat) : Prop := (∀ x y, P x y → g.2.2 x = some y → nmz G f x ≠ nmz G f y → m (nmz G f x) = some (nmz G f y) ∧ m (nmz G f y) = some (nmz G f x)) ∧ (∀ i j, m i = some j → ∃ x y, g.2.2 x = some y ∧ nmz G f x = i ∧ nmz G f y = j ∧ i ≠ j)
def omk (o : Option Nat) (k : Nat) : Nat := match o with
  | none => k
  | some j => max j k
theorem SL_step {g : Nw} (wf : Wfn g) {G f a b k : Nat} {P : Nat → Nat → Prop} {W : Nat → Nat → Option Nat} (h : SL g G f P W) (hne : nmz G f a ≠ nmz G f b) (ha : a < g.1) (hb : b < g.1) (hw : g.2.1 a b = some k) : SL g G f (fun x y => P x y ∨ (x = a ∧ y = b)) (w2 W (nmz G f a) (nmz G f b) (some (omk (W (nmz G f a) (nmz G f b)) k))) := by
  generalize hA : nmz G f a = A at *
  generalize hB : nmz G f b = C at *
  refine ⟨fun i j => ?_, fun x y hp hxy => ?_, fun i j k' hk => ?_⟩
  · unfold w2
    by_cases h1 : (i = A ∧ j = C) ∨ (i = C ∧ j = A)
    · rw [if_pos h1, if_pos (h1.elim (fun q => Or.inr ⟨q.2, q.1⟩) (fun q => Or.inl ⟨q.2, q.1⟩))]
    · rw [if_neg h1, if_neg (fun q => h1 (q.elim (fun q => Or.inr ⟨q.2, q.1⟩) (fun q => Or.inl ⟨q.2, q.1⟩)))]
      exact h.1 i j
  · intro k' hk'
    unfold w2
    by_cases h1 : (nmz G f x = A ∧ nmz G f y = C) ∨ (nmz G f x = C ∧ nmz G f y = A)
    · rw [if_pos h1]
      refine ⟨_, rfl, ?_⟩
      rcases hp with hp | ⟨e1, e2⟩
      · obtain ⟨j, e1, e2⟩ := h.2.1 x y hp hxy k' hk'
        have e3 : W A C = some j := by
          rcases h1 with h1 | h1
          · rw [← h1.1, ← h1.2]; exact e1
          · rw [h.1 A C, ← h1.1, ← h1.2]; exact e1
        rw [e3]
        show k' ≤ max j k
        omega
      · rw [e1, e2, hw] at hk'
        have := Option.some.inj hk'
        cases W A C with
        | none => show k' ≤ k; omega
        | some j => show k' ≤ max j k; omega
    · rw [if_neg h1]
      rcases hp with hp | ⟨e1, e2⟩
      · exact h.2.1 x y hp hxy k' hk'
      · subst e1 e2; exact absurd (Or.inl ⟨hA, hB⟩) h1
  · unfold w2 at hk
    by_cases h1 : (i = A ∧ j = C) ∨ (i = C ∧ j = A)
    · rw [if_pos h1] at hk
      have hk2 := Option.some.inj hk
      have base : ∃ x y, x < g.1 ∧ y < g.1 ∧ nmz G f x = A ∧ nmz G f y = C ∧ A ≠ C ∧ g.2.1 x y = some k' := by
        cases hW : W A C with
        | none =>
          rw [hW] at hk2
          have : k = k' := hk2
          exact ⟨a, b, ha, hb, hA, hB, hne, by rw [hw, this]⟩
        | some j' =>
          rw [hW] at hk2
          have hk3 : max j' k = k' := hk2
          by_cases hjk : j' ≤ k
          · exact ⟨a, b, ha, hb, hA, hB, hne, by rw [hw]; congr 1; omega⟩
          · obtain ⟨x, y, e1, e2, e3, e4, e5, e6⟩ := h.2.2 A C j' hW
            exact ⟨x, y, e1, e2, e3, e4, e5, by rw [e6]; congr 1; omega⟩
      obtain ⟨x, y, e1, e2, e3, e4, e5, e6⟩ := base
      rcases h1 with ⟨h1, h2⟩ | ⟨h1, h2⟩
      · exact ⟨x, y, e1, e2, by rw [h1]; exact e3, by rw [h2]; exact e4, by rw [h1, h2]; exact e5, e6⟩
      · exact ⟨y, x, e2, e1, by rw [h1]; exact e4, by rw [h2]; exact e3, by rw [h1, h2]; exact fun q => e5 q.symm, by rw [wf.2.1]; exact e6⟩
    · rw [if_neg h1] at hk
      exact h.2.2 i j k' hk
theorem SL_skip {g : Nw} {G f a b : Nat} {P : Nat → Nat → Prop} {W : Nat → Nat → Option Nat} (h : SL g G f P W) (hne : nmz G f a = nmz G f b ∨ g.2.1 a b = none) : SL g G f (fun x y => P x y ∨ (x = a ∧ y = b)) W := by
  refine ⟨h.1, fun x y hp hxy => ?_, h.2.2⟩
  rcases hp with hp | ⟨e1, e2⟩
  · exact h.2.1 x y hp hxy
  · subst e1 e2
    rcases hne with q | q
    · exact absurd q hxy
    · intro k hk; rw [q] at hk; cases hk
theorem SM_skip {g : Nw} {G f a b : Nat} {P : Nat → Nat → Prop} {m : Nat → Option Nat} (h : SM g G f P m) (hne : nmz G f a = nmz G f b ∨ g.2.2 a ≠ some b) : SM g G f (fun x y => P x y ∨ (x = a ∧ y = b)) m := by
  refine ⟨fun x y hp hm hxy => ?_, h.2⟩
  rcases hp with hp | ⟨e1, e2⟩
  · exact h.1 x y hp hm hxy
  · subst e1 e2
    rcases hne with q | q
    · exact absurd q hxy
    · exact absurd hm q
/-- the gone ones are paired among each other -/
def Gp (g : Nw) (G : Nat) : Prop := ∀ x y, g.2.2 x = some y → G.testBit x = true → G.testBit y = true
theorem Gp_ng {g : Nw} (wf : Wfn g) {G f x y : Nat} (hG : Gp g G) (hm : g.2.2 x = some y) (hne : nmz G f x ≠ nmz G f y) : G.testBit x = false ∧ G.testBit y = false := by
  have h2 := (wf.2.2.2.2 x y hm).1
  cases hx : G.testBit x with
  | true =>
    have hy := hG x y hm hx
    exfalso; apply hne
    unfold nmz; rw [hx, hy]; rfl
  | false =>
    refine ⟨rfl, ?_⟩
    cases hy : G.testBit y with
    | false => rfl
    | true =>
      have := hG y x h2 hy
      rw [hx] at this; cases this
theorem nmz_ng {G f x : Nat} (h : G.testBit x = false) : nmz G f x = nus G x := by unfold nmz; rw [h]; rfl
theorem SM_step {g : Nw} (wf : Wfn g) {G f a b : Nat} {P : Nat → Nat → Prop} {m : Nat → Option Nat} (hG : Gp g G) (h : SM g G f P m) (hne : nmz G f a ≠ nmz G f b) (hm : g.2.2 a = some b) : SM g G f (fun x y => P x y ∨ (x = a ∧ y = b)) (m2 (m2 m (nmz G f a) (some (nmz G f b))) (nmz G f b) (some (nmz G f a))) := by
  have hab := Gp_ng wf hG hm hne
  have hba := (wf.2.2.2.2 a b hm).1
  have inj : ∀ x y, G.testBit x = false → G.testBit y = false → nmz G f x = nmz G f y → x = y := by
    intro x y hx hy e
    rw [nmz_ng hx, nmz_ng hy] at e
    exact nus_inj hx hy e
  have val : ∀ x y, G.testBit x = false → G.testBit y = false → g.2.2 x = some y → m (nmz G f x) = some (nmz G f y) ∨ (x = a ∧ y = b) ∨ (x = b ∧ y = a) → (m2 (m2 m (nmz G f a) (some (nmz G f b))) (nmz G f b) (some (nmz G f a))) (nmz G f x) = some (nmz G f y) := by
    intro x y hx hy hxy hv
    unfold m2
    by_cases h1 : nmz G f x = nmz G f b
    · have e := inj x b hx hab.2 h1
      subst e
      rw [hba] at hxy
      rw [if_pos rfl, Option.some.inj hxy]
    · rw [if_neg h1]
      by_cases h2 : nmz G f x = nmz G f a
      · have e := inj x a hx hab.1 h2
        subst e
        rw [hm] at hxy
        rw [if_pos rfl, Option.some.inj hxy]
      · rw [if_neg h2]
        rcases hv with hv | ⟨e, -⟩ | ⟨e, -⟩
        · exact hv
        · exact absurd (by rw [e]) h2
        · exact absurd (by rw [e]) h1
  refine ⟨fun x y hp hxy hne2 => ?_, fun i j hij => ?_⟩
  · have hng := Gp_ng wf hG hxy hne2
    have hyx := (wf.2.2.2.2 x y hxy).1
    rcases hp with hp | ⟨e1, e2⟩
    · obtain ⟨v1, v2⟩ := h.1 x y hp hxy hne2
      exact ⟨val x y hng.1 hng.2 hxy (Or.inl v1), val y x hng.2 hng.1 hyx (Or.inl v2)⟩
    · exact ⟨val x y hng.1 hng.2 hxy (Or.inr (Or.inl ⟨e1, e2⟩)), val y x hng.2 hng.1 hyx (Or.inr (Or.inr ⟨e2, e1⟩))⟩
  · unfold m2 at hij
    by_cases h1 : i = nmz G f b
    · rw [if_pos h1] at hij
      exact ⟨b, a, hba, h1.symm, Option.some.inj hij, by rw [h1, ← Option.some.inj hij]; exact fun q => hne q.symm⟩
    · rw [if_neg h1] at hij
      by_cases h2 : i = nmz G f a
      · rw [if_pos h2] at hij
        exact ⟨a, b, hm, h2.symm, Option.some.inj hij, by rw [h2, ← Option.some.inj hij]; exact hne⟩
      · rw [if_neg h2] at hij
        exact h.2 i j hij
theorem SL_cong {g : Nw} {G f : Nat} {P R : Nat → Nat → Prop} {W : Nat → Nat → Option Nat} (h : SL g G f P W) (hp : ∀ x y, R x y → P x y) : SL g G f R W := ⟨h.1, fun x y hr => h.2.1 x y (hp x y hr), h.2.2⟩
theorem SM_cong {g : Nw} {G f : Nat} {P R : Nat → Nat → Prop} {m : Nat → Option Nat} (h : SM g G f P m) (hp : ∀ x y, R x y → P x y) : SM g G f R m := ⟨fun x y hr => h.1 x y (hp x y hr), h.2⟩
def Pd (n a b x y : Nat) : Prop := x < y ∧ y < n ∧ (x < a ∨ (x = a ∧ y < b))
theorem Shr_end {g : Nw} (wf : Wfn g) {G f L n' : Nat} {W : Nat → Nat → Option Nat} {m : Nat → Option Nat} (hn : n' = g.1 - L + 1) (h1 : SL g G f (Pd g.1 g.1 0) W) (h2 : SM g G f (Pd g.1 g.1 0) m) : ShrOf g G f L (n', W, m) := by
  refine ⟨hn, fun x y hx hy hne => ?_, h1.2.2, fun x y hm hne => ?_, h2.2⟩
  · rcases Nat.lt_trichotomy x y with h | h | h
    · exact h1.2.1 x y ⟨h, hy, Or.inl hx⟩ hne
    · subst h; exact absurd rfl hne
    · have := h1.2.1 y x ⟨h, hx, Or.inl hy⟩ (fun q => hne q.symm)
      show ole (g.2.1 x y) (W _ _)
      rw [wf.2.1 x y, h1.1]; exact this
  · have hh := wf.2.2.2.2 x y hm
    rcases Nat.lt_trichotomy x y with h | h | h
    · exact (h2.1 x y ⟨h, hh.2.2.1, Or.inl hh.2.1⟩ hm hne).1
    · subst h; exact absurd rfl hne
    · exact (h2.1 y x ⟨h, hh.2.1, Or.inl hh.2.2.1⟩ hh.1 (fun q => hne q.symm)).2
def gof (l : List Nat) (m : Nat) : Nat := l.foldl (fun m x => m ||| 2 ^ x) m
theorem gof_bit (i : Nat) : ∀ (l : List Nat) (m : Nat), (gof l m).testBit i = true ↔ m.testBit i = true ∨ i ∈ l := by
  intro l
  induction l with
  | nil => intro m; simp [gof]
  | cons x l ih =>
    intro m
    show (gof l (m ||| 2 ^ x)).testBit i = true ↔ _
    rw [ih, Nat.testBit_or, Bool.or_eq_true, Nat.testBit_two_pow, decide_eq_true_eq, List.mem_cons]
    constructor
    · rintro ((h | h) | h)
      · exact Or.inl h
      · exact Or.inr (Or.inl h.symm)
      · exact Or.inr (Or.inr h)
    · rintro (h | h | h)
      · exact Or.inl (Or.inl h)
      · exact Or.inl (Or.inr h.symm)
      · exact Or.inr h
theorem gof_row {g : Nw} {a k : Nat} {r : Rw} (hv : Vr g a k r) : gof (r.reverse.drop 1) 0 = ex (so r) a ∧ r.reverse[0]? = some a := by
  obtain ⟨q, h1, h2⟩ := Vr_split hv
  have e : r.reverse = a :: q.reverse := by rw [h1]; simp
  refine ⟨?_, by rw [e]; rfl⟩
  rw [e]
  apply Nat.eq_of_testBit_eq
  intro i
  rw [Bool.eq_iff_iff, gof_bit, ex_in, so_bit, h1]
  simp
  constructor
  · intro h; exact ⟨Or.inl h, fun q => by subst q; exact h2 h⟩
  · rintro ⟨h | h, h'⟩
    · exact h
    · exact absurd h.symm h'
theorem Gp_row {g : Nw} (wf : Wfn g) {a k : Nat} {r : Rw} (hv : Vr g a k r) : Gp g (ex (so r) a) := by
  intro x y hm hx
  obtain ⟨h1, h2⟩ := ex_in.mp hx
  obtain ⟨z, z1, z2, z3⟩ := Vr_mate wf hv x ((so_bit r x).mp h1) (fun q => h2 q.symm)
  rw [hm] at z1
  rw [Option.some.inj z1]
  exact ex_in.mpr ⟨(so_bit r z).mpr z2, fun q => z3 q.symm⟩
theorem wI_max {o : Option Nat} {k : Nat} (ho : ∀ j, o = some j → j < 2 ^ 31) (hk : k < 2 ^ 31) : (if wI o < nI k then nI k else wI o) = nI (omk o k) := by
  cases o with
  | none =>
    have : wI none < nI k := by
      show (-1 : Int32) < nI k
      rw [fa_lt, nI_toInt hk, show (-1 : Int32).toInt = -1 by decide]; omega
    rw [if_pos this]; rfl
  | some j =>
    have hj := ho j rfl
    show (if nI j < nI k then nI k else nI j) = nI (max j k)
    by_cases h : j < k
    · rw [if_pos (nI_lt h hk), Nat.max_eq_right (by omega)]
    · rw [if_neg (nI_nlt (by omega) hj), Nat.max_eq_left (by omega)]

