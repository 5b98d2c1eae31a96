/-! ===== reading a text: pure ===== -/
def ruf (c : Nat → Bool) (n : Nat) : Nat → Nat → Nat
  | 0, p => p
  | f + 1, p => if p < n ∧ c p = true then ruf c n f (p + 1) else p
/-- the first place from p on, below n, that c doesn't hold for; else n -/
def ru (c : Nat → Bool) (n p : Nat) : Nat := ruf c n (n - p) p
theorem ru_t {c : Nat → Bool} {n p : Nat} (h : p < n) (hc : c p = true) : ru c n p = ru c n (p + 1) := by
  unfold ru
  rw [show n - p = (n - (p + 1)) + 1 by omega]
  show (if p < n ∧ c p = true then _ else _) = _
  rw [if_pos ⟨h, hc⟩]
theorem ru_f {c : Nat → Bool} {n p : Nat} (h : ¬ (p < n ∧ c p = true)) : ru c n p = p := by
  unfold ru
  cases n - p with
  | zero => rfl
  | succ f =>
    show (if p < n ∧ c p = true then _ else _) = _
    rw [if_neg h]
theorem ru_spec {c : Nat → Bool} {n : Nat} : ∀ k p, n - p = k → p ≤ ru c n p ∧ (p ≤ n → ru c n p ≤ n) ∧ ¬ (ru c n p < n ∧ c (ru c n p) = true) ∧ ∀ q, p ≤ q → q < ru c n p → c q = true := by
  intro k
  induction k with
  | zero =>
    intro p hp
    rw [ru_f (by omega)]
    exact ⟨Nat.le_refl _, fun h => h, by omega, fun q _ _ => by omega⟩
  | succ k ih =>
    intro p hp
    by_cases h : p < n ∧ c p = true
    · rw [ru_t h.1 h.2]
      obtain ⟨h1, h2, h3, h4⟩ := ih (p + 1) (by omega)
      refine ⟨by omega, fun _ => h2 (by omega), h3, fun q hq hq2 => ?_⟩
      by_cases hqp : q = p
      · rw [hqp]; exact h.2
      · exact h4 q (by omega) hq2
    · rw [ru_f h]
      exact ⟨Nat.le_refl _, fun h => h, h, fun q _ _ => by omega⟩
theorem ru_ge (c : Nat → Bool) (n p : Nat) : p ≤ ru c n p := (ru_spec _ p rfl).1
theorem ru_le {c : Nat → Bool} {n p : Nat} (h : p ≤ n) : ru c n p ≤ n := (ru_spec _ p rfl).2.1 h
theorem ru_end (c : Nat → Bool) (n p : Nat) : ¬ (ru c n p < n ∧ c (ru c n p) = true) := (ru_spec _ p rfl).2.2.1
theorem ru_all {c : Nat → Bool} {n p q : Nat} (h1 : p ≤ q) (h2 : q < ru c n p) : c q = true := (ru_spec _ p rfl).2.2.2 q h1 h2
theorem ru_fix (c : Nat → Bool) (n p : Nat) : ru c n (ru c n p) = ru c n p := ru_f (ru_end c n p)
def isB (T : Nat → Nat) (i : Nat) : Bool := decide (T i = 32)
def isD (T : Nat → Nat) (i : Nat) : Bool := decide (48 ≤ T i) && decide (T i ≤ 57)
def isL (T : Nat → Nat) (i : Nat) : Bool := decide (97 ≤ T i) && decide (T i ≤ 122)
def sk (T : Nat → Nat) (n p : Nat) : Nat := ru (isB T) n p
/-- digits told from p on, k of them -/
def nvf (T : Nat → Nat) : Nat → Nat → Nat → Nat
  | 0, _, v => v
  | k + 1, p, v => nvf T k (p + 1) (10 * v + (T p - 48))
abbrev Fl : Type := Nat × Nat
/-- is there a number ahead -/
def ahd (T : Nat → Nat) (n p : Nat) : Bool := decide (sk T n p < n) && isD T (sk T n p)
def nval (T : Nat → Nat) (n p : Nat) : Nat := nvf T (ru (isD T) n (sk T n p) - sk T n p) (sk T n p) 0
/-- a number: where it ends, what it tells, where it begins -/
def pnum (T : Nat → Nat) (n lo hi p : Nat) : Fl ⊕ (Nat × Nat × Nat) := if ahd T n p = true then (if lo ≤ nval T n p ∧ nval T n p ≤ hi then .inr (ru (isD T) n (sk T n p), nval T n p, sk T n p) else .inl (2, sk T n p)) else .inl (1, sk T n p)
def pend (T : Nat → Nat) (n p : Nat) : Fl ⊕ Nat := if sk T n p < n ∧ T (sk T n p) = 59 then .inr (sk T n p + 1) else .inl (1, sk T n p)
/-- a word at p: the letters that stand there are just these -/
def pwd (T : Nat → Nat) (n : Nat) (w : List Nat) (p : Nat) : Bool := decide (ru (isL T) n (sk T n p) = sk T n p + w.length) && (List.range w.length).all (fun i => decide (T (sk T n p + i) = w.getD i 0))
def prng (T : Nat → Nat) (n hi : Nat) : Nat → List Nat → Nat → Fl ⊕ (Nat × List Nat)
  | 0, l, p => .inr (p, l)
  | f + 1, l, p => if l.length < 2 ∨ ahd T n p = true then (match pnum T n 0 hi p with
      | .inl e => .inl e
      | .inr (e, v, q) => if v ∈ l then .inl (2, q) else prng T n hi f (l ++ [v]) e) else .inr (sk T n p, l)
def pIN (g : Nw) (a b : Nat) : Nw := if (g.2.1 a b).isSome = true then g else gPut g a b (some 1)
/-- the lines of a ring from its i-th node on -/
def rgl (l : List Nat) : Nat → Nat → Nw → Nw
  | 0, _, g => g
  | k + 1, i, g => rgl l k (i + 1) (pIN g (l.getD i 0) (l.getD (if i + 1 < l.length then i + 1 else 0) 0))
def allw (n : Nat) (w : Nat → Nat → Option Nat) : Nat → Nat → Option Nat := fun x y => if x ≠ y ∧ x < n ∧ y < n then some ((w x y).getD 1) else w x y
/-- a pair told: if both are free it stands, else they clash -/
def ptl (q : (Nat → Option Nat) × Bool) (a b : Nat) : (Nat → Option Nat) × Bool := if q.1 a = none ∧ q.1 b = none then (m2 (m2 q.1 a (some b)) b (some a), q.2) else (q.1, true)
abbrev Ps : Type := Nat × (Nat → Nat → Option Nat) × List (Nat × Nat)
/-- two nodes that aren't one -/
def ptwo (T : Nat → Nat) (n hi p : Nat) : Fl ⊕ (Nat × Nat × Nat) := match pnum T n 0 hi p with
  | .inl e => .inl e
  | .inr (e1, a, _) => match pnum T n 0 hi e1 with
    | .inl e => .inl e
    | .inr (e2, b, q) => if a = b then .inl (2, q) else .inr (e2, a, b)
def pline (T : Nat → Nat) (n : Nat) (s : Ps) (p : Nat) : Fl ⊕ (Nat × Ps) := match ptwo T n (s.1 - 1) p with
  | .inl e => .inl e
  | .inr (e, a, b) => match (if ahd T n e = true then pnum T n 0 999 e else .inr (sk T n e, 1, 0)) with
    | .inl f => .inl f
    | .inr (e2, k, _) => match pend T n e2 with
      | .inl f => .inl f
      | .inr e3 => .inr (e3, s.1, w2 s.2.1 a b (some k), s.2.2)
def pring (T : Nat → Nat) (n : Nat) (s : Ps) (p : Nat) : Fl ⊕ (Nat × Ps) := match prng T n (s.1 - 1) 12 [] p with
  | .inl e => .inl e
  | .inr (e, l) => match pend T n e with
    | .inl f => .inl f
    | .inr e2 => .inr (e2, s.1, (rgl l l.length 0 (s.1, s.2.1, fun _ => none)).2.1, s.2.2)
def pall (T : Nat → Nat) (n : Nat) (s : Ps) (p : Nat) : Fl ⊕ (Nat × Ps) := match pend T n p with
  | .inl f => .inl f
  | .inr e => .inr (e, s.1, allw s.1 s.2.1, s.2.2)
def ppair (T : Nat → Nat) (n : Nat) (s : Ps) (p : Nat) : Fl ⊕ (Nat × Ps) := match ptwo T n (s.1 - 1) p with
  | .inl e => .inl e
  | .inr (e, a, b) => match pend T n e with
    | .inl f => .inl f
    | .inr e3 => .inr (e3, s.1, s.2.1, s.2.2 ++ [(a, b)])
def wLine : List Nat := [108, 105, 110, 101]
def wRing : List Nat := [114, 105, 110, 103]
def wAll : List Nat := [97, 108, 108]
def wPair : List Nat := [112, 97, 105, 114]
def wNodes : List Nat := [110, 111, 100, 101, 115]
def pstm (T : Nat → Nat) (n : Nat) (s : Ps) (p : Nat) : Fl ⊕ (Nat × Ps) :=
  if pwd T n wLine p = true then pline T n s (sk T n p + 4) else if pwd T n wRing p = true then pring T n s (sk T n p + 4) else if pwd T n wAll p = true then pall T n s (sk T n p + 3) else if pwd T n wPair p = true then ppair T n s (sk T n p + 4) else .inl (1, sk T n p)
def ploop (T : Nat → Nat) (n : Nat) : Nat → Ps → Nat → Fl ⊕ Ps
  | 0, s, _ => .inr s
  | f + 1, s, p => if sk T n p < n then (match pstm T n s p with
      | .inl e => .inl e
      | .inr (e, s') => ploop T n f s' e) else .inr s
def pnds (T : Nat → Nat) (n : Nat) : Fl ⊕ (Nat × Nat) := if pwd T n wNodes 0 = true then (match pnum T n 1 12 (sk T n 0 + 5) with
    | .inl e => .inl e
    | .inr (e, v, _) => match pend T n e with
      | .inl f => .inl f
      | .inr e2 => .inr (e2, v)) else .inl (1, sk T n 0)
def pmt (ps : List (Nat × Nat)) : (Nat → Option Nat) × Bool := ps.foldl (fun q ab => ptl q ab.1 ab.2) (fun _ => none, false)
def pfin (n : Nat) (s : Ps) : Fl ⊕ Nw := if (pmt s.2.2).2 = false ∧ ∀ ab, ab ∈ s.2.2 → (s.2.1 ab.1 ab.2).isSome = true then .inr (s.1, s.2.1, (pmt s.2.2).1) else .inl (3, n)
/-- the whole text -/
def ptx (T : Nat → Nat) (n : Nat) : Fl ⊕ Nw := match pnds T n with
  | .inl e => .inl e
  | .inr (e, v) => match ploop T n 500 (v, fun _ _ => none, []) e with
    | .inl f => .inl f
    | .inr s => pfin n s
/-- a byte as the class holds it -/
def sb (t : Nat) : Int32 := (nI t).toInt8.toInt32
theorem sb_32 : ∀ t, t < 256 → (sb t = 32 ↔ t = 32) := by decide +kernel
theorem sb_59 : ∀ t, t < 256 → (sb t = 59 ↔ t = 59) := by decide +kernel
theorem sb_lt48 : ∀ t, t < 256 → (¬ sb t < 48 ∧ ¬ 57 < sb t ↔ 48 ≤ t ∧ t ≤ 57) := by decide +kernel
theorem sb_97 : ∀ t, t < 256 → (¬ sb t < 97 ∧ ¬ 122 < sb t ↔ 97 ≤ t ∧ t ≤ 122) := by decide +kernel
theorem sb_D : ∀ t, t < 256 → 48 ≤ t ∧ t ≤ 57 → sb t = nI t := by decide +kernel
theorem sb_L : ∀ t, t < 256 → 97 ≤ t ∧ t ≤ 122 → sb t = nI t := by decide +kernel
