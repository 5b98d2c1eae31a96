/-! ===== there is a barrier: pure ===== -/
theorem sm_s (f : Nat → Nat) (n : Nat) : sm f (n + 1) = sm f n + f n := rfl
theorem sm_mono {f g : Nat → Nat} {n : Nat} (h : ∀ i, i < n → f i ≤ g i) : sm f n ≤ sm g n := by
  induction n with
  | zero => exact Nat.le_refl _
  | succ n ih =>
    rw [sm_s, sm_s]
    exact Nat.add_le_add (ih (fun i hi => h i (by omega))) (h n (by omega))
theorem sm_add (f g : Nat → Nat) (n : Nat) : sm (fun i => f i + g i) n = sm f n + sm g n := by
  induction n with
  | zero => rfl
  | succ n ih => rw [sm_s, sm_s, sm_s, ih]; omega
theorem sm_zero {f : Nat → Nat} {n : Nat} (h : ∀ i, i < n → f i = 0) : sm f n = 0 := by
  induction n with
  | zero => rfl
  | succ n ih => rw [sm_s, ih (fun i hi => h i (by omega)), h n (by omega)]
/-- 1 at v -/
def at1 (v i : Nat) : Nat := if i = v then 1 else 0
theorem sm_at1 {v n : Nat} (h : v < n) : sm (at1 v) n = 1 := by
  induction n with
  | zero => omega
  | succ n ih =>
    rw [sm_s]
    by_cases hn : v = n
    · subst hn
      rw [sm_zero (f := at1 v) (fun i hi => if_neg (by omega))]; simp [at1]
    · rw [ih (by omega)]; simp [at1]; omega
def btS (S i : Nat) : Nat := if S.testBit i = true then 1 else 0
theorem pop_bt (S : Nat) : pop S = sm (btS S) 12 := rfl
/-- which of S has no mate -/
def fre (S : Nat) (m : Nat → Nat) (i : Nat) : Nat := if S.testBit i = true ∧ m i = i then 1 else 0
def un (S : Nat) (m : Nat → Nat) : Nat := sm (fre S m) 12
def Mat (w : Nat → Nat → Option Nat) (S : Nat) (m : Nat → Nat) : Prop := ∀ x, S.testBit x = true → S.testBit (m x) = true ∧ m (m x) = x ∧ (m x ≠ x → (w x (m x)).isSome = true)
def f1 (w : Nat → Nat → Option Nat) (S : Nat) : Nat := (Tq w S).1
theorem pop_ex {S x : Nat} (hS : S < 4096) (hx : S.testBit x = true) : pop S = pop (ex S x) + 1 := by
  have hx12 := in12 hS hx
  rw [pop_bt, pop_bt, ← sm_at1 hx12, ← sm_add]
  refine sm_cong (fun i _ => ?_)
  unfold btS at1
  rw [ex_bit]
  by_cases h : i = x
  · subst h; simp [hx]
  · have : ¬ x = i := fun q => h q.symm
    simp [h, this]
theorem un_free {S x : Nat} {m : Nat → Nat} (hS : S < 4096) (hx : S.testBit x = true) (hm : m x = x) : un S m = un (ex S x) m + 1 := by
  have hx12 := in12 hS hx
  unfold un
  rw [← sm_at1 hx12, ← sm_add]
  refine sm_cong (fun i _ => ?_)
  unfold fre at1
  rw [ex_bit]
  by_cases h : i = x
  · subst h; simp [hx, hm]
  · have : ¬ x = i := fun q => h q.symm
    simp [h, this]
theorem un_two {S x : Nat} {m : Nat → Nat} (hm : m x ≠ x) : un S m = un (ex S x) m := by
  unfold un
  refine sm_cong (fun i _ => ?_)
  unfold fre
  rw [ex_bit]
  by_cases h : i = x
  · subst h; simp [hm]
  · have : ¬ x = i := fun q => h q.symm
    simp [this]
theorem ex_4096 {S x : Nat} (hS : S < 4096) : ex S x < 4096 := Nat.lt_of_le_of_lt (dif_le _ _) hS
theorem Mat.free {w : Nat → Nat → Option Nat} {S x : Nat} {m : Nat → Nat} (h : Mat w S m) (hx : S.testBit x = true) (hm : m x = x) : Mat w (ex S x) m := by
  intro y hy
  have hy' := ex_in.mp hy
  obtain ⟨h1, h2, h3⟩ := h y hy'.1
  refine ⟨ex_in.mpr ⟨h1, fun q => ?_⟩, h2, h3⟩
  rw [← q, hm] at h2
  exact hy'.2 h2
theorem Mat.two {w : Nat → Nat → Option Nat} {S x : Nat} {m : Nat → Nat} (h : Mat w S m) (hx : S.testBit x = true) : Mat w (ex (ex S x) (m x)) m := by
  intro y hy
  have hy1 := ex_in.mp hy
  have hy' := ex_in.mp hy1.1
  obtain ⟨h1, h2, h3⟩ := h y hy'.1
  refine ⟨ex_in.mpr ⟨ex_in.mpr ⟨h1, fun q => ?_⟩, fun q => ?_⟩, h2, h3⟩
  · rw [← q] at h2; exact hy1.2 h2
  · rw [← q, (h x hx).2.1] at h2; exact hy'.2 h2
/-- the first of a sum of options: at least each, and one of them -/
def fo (x : Option Qt) : Option Nat := x.map (fun q => q.1)
theorem qadd_fst (x y : Qt) : (qadd x y).1 = max x.1 y.1 := by
  unfold qadd
  by_cases h1 : x.1 < y.1
  · rw [if_pos h1]; omega
  · rw [if_neg h1]
    by_cases h2 : y.1 < x.1
    · rw [if_pos h2]; omega
    · rw [if_neg h2]; show x.1 = _; omega
theorem fo_oq_ge {x y : Option Qt} {k : Nat} (h : fo x = some k ∨ fo y = some k) : ∃ j, fo (oq x y) = some j ∧ k ≤ j := by
  cases x with
  | none =>
    rcases h with h | h
    · exact absurd h (by intro q; cases q)
    · exact ⟨k, h, Nat.le_refl _⟩
  | some x =>
    cases y with
    | none =>
      rcases h with h | h
      · exact ⟨k, h, Nat.le_refl _⟩
      · exact absurd h (by intro q; cases q)
    | some y =>
      refine ⟨_, rfl, ?_⟩
      show k ≤ (qadd x y).1
      rw [qadd_fst]
      rcases h with h | h <;> (have := Option.some.inj h; dsimp only at this; omega)
theorem fo_oq_or {x y : Option Qt} {k : Nat} (h : fo (oq x y) = some k) : fo x = some k ∨ fo y = some k := by
  cases x with
  | none => exact Or.inr h
  | some x =>
    cases y with
    | none => exact Or.inl h
    | some y =>
      have h' : (qadd x y).1 = k := Option.some.inj h
      rw [qadd_fst] at h'
      by_cases hxy : x.1 ≤ y.1
      · exact Or.inr (congrArg some (by omega : y.1 = k))
      · exact Or.inl (congrArg some (by omega : x.1 = k))
theorem fo_osu_or {f : Nat → Option Qt} {k : Nat} : ∀ n, fo (osu f n) = some k → ∃ b, b < n ∧ fo (f b) = some k := by
  intro n
  induction n with
  | zero => intro h; cases h
  | succ n ih =>
    intro h
    rcases fo_oq_or h with h | h
    · obtain ⟨b, h1, h2⟩ := ih h
      exact ⟨b, by omega, h2⟩
    · exact ⟨n, by omega, h⟩
theorem fo_osu_ge {f : Nat → Option Qt} {k b : Nat} : ∀ n, b < n → fo (f b) = some k → ∃ j, fo (osu f n) = some j ∧ k ≤ j := by
  intro n
  induction n with
  | zero => intro h; omega
  | succ n ih =>
    intro hb h
    by_cases hbn : b = n
    · subst hbn
      exact fo_oq_ge (x := osu f b) (Or.inr h)
    · obtain ⟨j, h1, h2⟩ := ih (by omega) h
      obtain ⟨j2, h3, h4⟩ := fo_oq_ge (y := f n) (Or.inl h1)
      exact ⟨j2, h3, by omega⟩
theorem f1_ge {w : Nat → Nat → Option Nat} (hw : ∀ a b, w a b = w b a) {S v : Nat} (hS : S < 4096) (hv : S.testBit v = true) : f1 w (ex S v) ≤ f1 w S := by
  have h := XX_all hw S hS v (in12 hS hv) hv
  obtain ⟨j, h1, h2⟩ := fo_oq_ge (x := tt w (ex S v)) (y := osu (hb1 w v S) 12) (k := f1 w (ex S v)) (Or.inl rfl)
  have h3 : fo (tt w S) = some j := by rw [h]; exact h1
  have : f1 w S = j := Option.some.inj h3
  omega
theorem f1_ge2 {w : Nat → Nat → Option Nat} (hw : ∀ a b, w a b = w b a) {S v b : Nat} (hS : S < 4096) (hv : S.testBit v = true) (hb : S.testBit b = true) (hne : b ≠ v) (hl : (w v b).isSome = true) : f1 w (ex (ex S v) b) + 1 ≤ f1 w S := by
  have h := XX_all hw S hS v (in12 hS hv) hv
  have e : fo (hb1 w v S b) = some (f1 w (ex (ex S v) b) + 1) := by
    unfold hb1
    rw [if_pos ⟨hb, hne⟩]
    cases hwv : w v b with
    | none => rw [hwv] at hl; cases hl
    | some k => rfl
  obtain ⟨j0, h01, h02⟩ := fo_osu_ge 12 (in12 hS hb) e
  obtain ⟨j, h1, h2⟩ := fo_oq_ge (x := tt w (ex S v)) (y := osu (hb1 w v S) 12) (Or.inr h01)
  have h3 : fo (tt w S) = some j := by rw [h]; exact h1
  have : f1 w S = j := Option.some.inj h3
  omega
theorem f1_or {w : Nat → Nat → Option Nat} (hw : ∀ a b, w a b = w b a) {S v : Nat} (hS : S < 4096) (hv : S.testBit v = true) : f1 w S = f1 w (ex S v) ∨ ∃ b, S.testBit b = true ∧ b ≠ v ∧ (w v b).isSome = true ∧ f1 w S = f1 w (ex (ex S v) b) + 1 := by
  have h := XX_all hw S hS v (in12 hS hv) hv
  have h3 : fo (XX w v S) = some (f1 w S) := by rw [← h]; rfl
  rcases fo_oq_or h3 with h4 | h4
  · exact Or.inl (Option.some.inj h4).symm
  · obtain ⟨b, -, h5⟩ := fo_osu_or 12 h4
    unfold hb1 at h5
    by_cases hb : S.testBit b = true ∧ b ≠ v
    · rw [if_pos hb] at h5
      cases hwv : w v b with
      | none => rw [hwv] at h5; cases h5
      | some k =>
        rw [hwv] at h5
        exact Or.inr ⟨b, hb.1, hb.2, by rw [hwv]; rfl, (Option.some.inj h5).symm⟩
    · rw [if_neg hb] at h5; cases h5
theorem ex_some {S : Nat} (h : S ≠ 0) : ∃ v, S.testBit v = true := by
  refine Classical.byContradiction (fun hn => h ?_)
  apply Nat.eq_of_testBit_eq
  intro i
  rw [Nat.zero_testBit]
  cases hb : S.testBit i with
  | false => rfl
  | true => exact absurd ⟨i, hb⟩ hn
theorem un_0 (m : Nat → Nat) : un 0 m = 0 := sm_zero (fun i _ => if_neg (fun q => by simp at q))
theorem pop_0 : pop 0 = 0 := by decide
theorem Mat_up {w : Nat → Nat → Option Nat} (hw : ∀ a b, w a b = w b a) : ∀ S, S < 4096 → ∀ m, Mat w S m → pop S ≤ un S m + 2 * f1 w S ∧ pop S % 2 = un S m % 2 := by
  intro S
  induction S using Nat.strongRecOn with
  | ind S ih =>
    intro hS m hm
    by_cases h0 : S = 0
    · subst h0; rw [un_0, pop_0]; omega
    · obtain ⟨v, hv⟩ := ex_some h0
      have hlt := ex_lt hv
      have p1 := pop_ex hS hv
      by_cases hmv : m v = v
      · have h1 := ih (ex S v) hlt (ex_4096 hS) m (hm.free hv hmv)
        have h2 := un_free hS hv hmv
        have h3 := f1_ge hw hS hv
        omega
      · obtain ⟨a1, a2, a3⟩ := hm v hv
        have hb : (ex S v).testBit (m v) = true := ex_in.mpr ⟨a1, fun q => hmv q.symm⟩
        have p2 := pop_ex (ex_4096 hS) hb
        have hlt2 := ex_lt hb
        have h1 := ih (ex (ex S v) (m v)) (by omega) (ex_4096 (ex_4096 hS)) m (hm.two hv)
        have h2 := un_two (S := S) hmv
        have h2' := un_two (S := ex S v) (x := m v) (m := m) (by rw [a2]; exact fun q => hmv q.symm)
        have h3 := f1_ge2 hw hS hv a1 hmv (a3 hmv)
        omega
theorem Mat_ex {w : Nat → Nat → Option Nat} (hw : ∀ a b, w a b = w b a) : ∀ S, S < 4096 → ∃ m, Mat w S m ∧ un S m + 2 * f1 w S = pop S := by
  intro S
  induction S using Nat.strongRecOn with
  | ind S ih =>
    intro hS
    by_cases h0 : S = 0
    · subst h0
      refine ⟨id, fun x hx => by simp at hx, ?_⟩
      rw [un_0, pop_0]
      have : f1 w 0 = 0 := by unfold f1; rw [Tq_0]
      omega
    · obtain ⟨v, hv⟩ := ex_some h0
      have hlt := ex_lt hv
      have p1 := pop_ex hS hv
      rcases f1_or hw hS hv with hf | ⟨b, hb1, hb2, hb3, hf⟩
      · obtain ⟨m, h1, h2⟩ := ih (ex S v) hlt (ex_4096 hS)
        refine ⟨fun x => if x = v then v else m x, ?_, ?_⟩
        · intro x hx
          by_cases hxv : x = v
          · subst hxv; simp [hx]
          · obtain ⟨c1, c2, c3⟩ := h1 x (ex_in.mpr ⟨hx, fun q => hxv q.symm⟩)
            have c1' := ex_in.mp c1
            have : ¬ m x = v := fun q => c1'.2 q.symm
            simp only [hxv, this, if_false]
            exact ⟨c1'.1, c2, c3⟩
        · have e : un S (fun x => if x = v then v else m x) = un (ex S v) m + 1 := by
            rw [un_free hS hv (by simp)]
            congr 1
            refine sm_cong (fun i _ => ?_)
            unfold fre
            rw [ex_bit]
            by_cases hiv : i = v
            · subst hiv; simp
            · simp [hiv]
          omega
      · have hbb : (ex S v).testBit b = true := ex_in.mpr ⟨hb1, fun q => hb2 q.symm⟩
        have p2 := pop_ex (ex_4096 hS) hbb
        have hlt2 := ex_lt hbb
        obtain ⟨m, h1, h2⟩ := ih (ex (ex S v) b) (by omega) (ex_4096 (ex_4096 hS))
        have hvb : ¬ v = b := fun q => hb2 q.symm
        refine ⟨fun x => if x = v then b else if x = b then v else m x, ?_, ?_⟩
        · intro x hx
          by_cases hxv : x = v
          · subst hxv
            simp only [if_true, hb2, if_false]
            exact ⟨hb1, trivial, fun _ => hb3⟩
          · by_cases hxb : x = b
            · subst hxb
              simp only [hb2, if_true, if_false]
              exact ⟨hv, trivial, fun _ => by rw [hw]; exact hb3⟩
            · obtain ⟨c1, c2, c3⟩ := h1 x (ex_in.mpr ⟨ex_in.mpr ⟨hx, fun q => hxv q.symm⟩, fun q => hxb q.symm⟩)
              have c1' := ex_in.mp c1
              have c1'' := ex_in.mp c1'.1
              have n1 : ¬ m x = v := fun q => c1''.2 q.symm
              have n2 : ¬ m x = b := fun q => c1'.2 q.symm
              simp only [hxv, hxb, n1, n2, if_false]
              exact ⟨c1''.1, c2, c3⟩
        · have e : un S (fun x => if x = v then b else if x = b then v else m x) = un (ex (ex S v) b) m := by
            refine sm_cong (fun i _ => ?_)
            unfold fre
            rw [ex_bit, ex_bit]
            by_cases hiv : i = v
            · subst hiv; simp [hb2]
            · by_cases hib : i = b
              · subst hib; simp [hvb]
                intro _ q; exact hiv q
              · have : ¬ v = i := fun q => hiv q.symm
                have : ¬ b = i := fun q => hib q.symm
                simp [*]
          omega
/-- a greatest one -/
def Mx (w : Nat → Nat → Option Nat) (S : Nat) (m : Nat → Nat) : Prop := Mat w S m ∧ un S m + 2 * f1 w S = pop S
def rel (w : Nat → Nat → Option Nat) (S u v : Nat) : Prop := ∀ m, Mx w S m → m u = u → m v = v → u = v
def agr (S : Nat) (M N : Nat → Nat) (i : Nat) : Nat := if S.testBit i = true ∧ M i = N i then 1 else 0
theorem rel_step {w : Nat → Nat → Option Nat} (hw : ∀ a b, w a b = w b a) {S u t v : Nat} (hS : S < 4096) (hu : S.testBit u = true) (ht : S.testBit t = true) (hv : S.testBit v = true) (h1 : rel w S u t) (h2 : rel w S t v) {M : Nat → Nat} (hM : Mx w S M) (hMu : M u = u) (hMv : M v = v) (hne : u ≠ v) : ∀ k N, Mx w S N → N t = t → 12 < sm (agr S M N) 12 + k → False := by
  intro k
  induction k with
  | zero =>
    intro N _ _ h
    have : sm (agr S M N) 12 ≤ 1 * 12 := sm_le 1 (fun i _ => by unfold agr; split <;> omega)
    omega
  | succ k ih =>
    intro N hN hNt hk
    have hut : u ≠ t := fun q => by
      subst q
      exact hne (h2 M hM hMu hMv)
    have htv : t ≠ v := fun q => by
      subst q
      exact hne (h1 M hM hMu hMv)
    have hNu : N u ≠ u := fun q => hut (h1 N hN q hNt)
    have hNv : N v ≠ v := fun q => htv (h2 N hN hNt q)
    have hx : ∃ x, S.testBit x = true ∧ x ≠ t ∧ N x = x ∧ M x ≠ x := by
      refine Classical.byContradiction (fun hn => ?_)
      have hle : sm (fun i => fre S N i + at1 u i + at1 v i) 12 ≤ sm (fun i => fre S M i + at1 t i) 12 := sm_mono (fun i hi => by
        unfold fre at1
        by_cases hiu : i = u
        · subst hiu
          have : ¬ N i = i := hNu
          simp [this, hne, hu, hMu]
        · by_cases hiv : i = v
          · subst hiv
            have : ¬ N i = i := hNv
            simp [this, hiu, hv, hMv]
          · by_cases hit : i = t
            · subst hit; simp [hiu, hiv]; split <;> omega
            · simp only [hiu, hiv, hit, if_false, Nat.add_zero]
              by_cases hb : S.testBit i = true ∧ N i = i
              · have : M i = i := Classical.byContradiction (fun q => hn ⟨i, hb.1, hit, hb.2, q⟩)
                rw [if_pos hb, if_pos ⟨hb.1, this⟩]; exact Nat.le_refl _
              · rw [if_neg hb]; exact Nat.zero_le _)
      rw [sm_add, sm_add, sm_add, sm_at1 (in12 hS hu), sm_at1 (in12 hS hv), sm_at1 (in12 hS ht)] at hle
      have e1 : sm (fre S N) 12 + 2 * f1 w S = pop S := hN.2
      have e2 : sm (fre S M) 12 + 2 * f1 w S = pop S := hM.2
      omega
    obtain ⟨x, hxS, hxt, hNx, hMx⟩ := hx
    obtain ⟨y1, y2, y3⟩ := hM.1 x hxS
    generalize hy : M x = y at y1 y2 y3 hMx
    have hNy : N y ≠ y := by
      intro q
      -- then x y could be paired
      have hbb : (ex S x).testBit y = true := ex_in.mpr ⟨y1, fun r => hMx r.symm⟩
      have m1 := hN.1.free hxS hNx
      have m2 := m1.free hbb q
      have u1 := un_free hS hxS hNx
      have u2 := un_free (ex_4096 hS) hbb q
      have p1 := pop_ex hS hxS
      have p2 := pop_ex (ex_4096 hS) hbb
      have b1 := (Mat_up hw _ (ex_4096 (ex_4096 hS)) N m2).1
      have b2 := f1_ge2 hw hS hxS y1 hMx (y3 hMx)
      have := hN.2
      omega
    obtain ⟨z1, z2, z3⟩ := hN.1 y y1
    generalize hz : N y = z at z1 z2 z3 hNy
    have hzx : z ≠ x := fun q => by
      rw [q, hNx] at z2
      exact hMx z2.symm
    have hyt : y ≠ t := fun q => by
      subst q
      rw [hNt] at hz; exact hNy hz.symm
    have hzt : z ≠ t := fun q => by
      rw [q, hNt] at z2; exact hyt z2.symm
    have hxy : ¬ x = y := fun q => hMx q.symm
    have hyz : ¬ y = z := fun q => hNy q.symm
    have hxz : ¬ x = z := fun q => hzx q.symm
    refine ih (fun q => if q = x then y else if q = y then x else if q = z then z else N q) ⟨?_, ?_⟩ ?_ ?_
    · intro q hq
      by_cases q1 : q = x
      · subst q1
        simp only [if_true, hMx, if_false]
        exact ⟨y1, trivial, fun _ => y3 hMx⟩
      · by_cases q2 : q = y
        · subst q2
          simp only [q1, if_true, if_false]
          exact ⟨hxS, trivial, fun _ => by rw [hw]; exact y3 hMx⟩
        · by_cases q3 : q = z
          · subst q3
            simp only [q1, q2, if_true, if_false]
            exact ⟨z1, trivial, fun h => absurd rfl h⟩
          · obtain ⟨c1, c2, c3⟩ := hN.1 q hq
            have n1 : ¬ N q = x := fun r => by rw [r, hNx] at c2; exact q1 c2.symm
            have n2 : ¬ N q = y := fun r => by rw [r, hz] at c2; exact q3 c2.symm
            have n3 : ¬ N q = z := fun r => by rw [r, z2] at c2; exact q2 c2.symm
            simp only [q1, q2, q3, n1, n2, n3, if_false]
            exact ⟨c1, c2, c3⟩
    · have e : un S (fun q => if q = x then y else if q = y then x else if q = z then z else N q) + 1 = un S N + 1 := by
        have e1 : sm (fun i => fre S (fun q => if q = x then y else if q = y then x else if q = z then z else N q) i + at1 x i) 12 = sm (fun i => fre S N i + at1 z i) 12 := sm_cong (fun i _ => by
          unfold fre at1
          by_cases q1 : i = x
          · subst q1; simp [hMx, hNx, hxS, hxz]
          · by_cases q2 : i = y
            · subst q2
              have : ¬ x = i := fun q => q1 q.symm
              simp [q1, this, hz, hNy, hyz]
            · by_cases q3 : i = z
              · subst q3; simp [q1, q2, z1, z2]
                intro q; exact absurd q.symm q2
              · simp [q1, q2, q3])
        rw [sm_add, sm_add, sm_at1 (in12 hS hxS), sm_at1 (in12 hS z1)] at e1
        exact e1
      have := hN.2
      omega
    · have n1 : ¬ t = x := fun q => hxt q.symm
      have n2 : ¬ t = y := fun q => hyt q.symm
      have n3 : ¬ t = z := fun q => hzt q.symm
      simp only [n1, n2, n3, if_false]
      exact hNt
    · have e1 : sm (fun i => agr S M N i + at1 x i) 12 ≤ sm (agr S M (fun q => if q = x then y else if q = y then x else if q = z then z else N q)) 12 := sm_mono (fun i _ => by
        unfold agr at1
        by_cases q1 : i = x
        · subst q1; simp [hy, hxS, hNx, hMx]
        · by_cases q2 : i = y
          · subst q2
            have : ¬ x = z := hxz
            simp [q1, y2, hz, this]
          · by_cases q3 : i = z
            · subst q3
              have : ¬ M i = y := fun r => by
                have := (hM.1 i z1).2.1
                rw [r, y2] at this; exact q1 this.symm
              simp [q1, q2, z2, this]
            · simp [q1, q2, q3])
      rw [sm_add, sm_at1 (in12 hS hxS)] at e1
      omega

theorem rel_trans {w : Nat → Nat → Option Nat} (hw : ∀ a b, w a b = w b a) {S u t v : Nat} (hS : S < 4096) (hu : S.testBit u = true) (ht : S.testBit t = true) (hv : S.testBit v = true) (hall : ∃ N, Mx w S N ∧ N t = t) (h1 : rel w S u t) (h2 : rel w S t v) : rel w S u v := by
  intro M hM hMu hMv
  refine Classical.byContradiction (fun hne => ?_)
  obtain ⟨N, hN, hNt⟩ := hall
  exact rel_step hw hS hu ht hv h1 h2 hM hMu hMv hne 13 N hN hNt (by omega)
theorem rel_line {w : Nat → Nat → Option Nat} (hw : ∀ a b, w a b = w b a) {S x y : Nat} (hS : S < 4096) (hx : S.testBit x = true) (hy : S.testBit y = true) (hl : (w x y).isSome = true) : rel w S x y := by
  intro N hN hNx hNy
  refine Classical.byContradiction (fun hne => ?_)
  have hbb : (ex S x).testBit y = true := ex_in.mpr ⟨hy, hne⟩
  have m1 := hN.1.free hx hNx
  have m2 := m1.free hbb hNy
  have u1 := un_free hS hx hNx
  have u2 := un_free (ex_4096 hS) hbb hNy
  have p1 := pop_ex hS hx
  have p2 := pop_ex (ex_4096 hS) hbb
  have b1 := (Mat_up hw _ (ex_4096 (ex_4096 hS)) N m2).1
  have b2 := f1_ge2 hw hS hx hy (fun q => hne q.symm) hl
  have := hN.2
  omega
theorem missed_ex {w : Nat → Nat → Option Nat} (hw : ∀ a b, w a b = w b a) {S v : Nat} (hS : S < 4096) (hv : S.testBit v = true) (hf : f1 w (ex S v) = f1 w S) : ∃ N, Mx w S N ∧ N v = v := by
  obtain ⟨m, h1, h2⟩ := Mat_ex hw (ex S v) (ex_4096 hS)
  have p1 := pop_ex hS hv
  refine ⟨fun x => if x = v then v else m x, ⟨?_, ?_⟩, by simp⟩
  · intro x hx
    by_cases hxv : x = v
    · subst hxv; simp [hx]
    · obtain ⟨c1, c2, c3⟩ := h1 x (ex_in.mpr ⟨hx, fun q => hxv q.symm⟩)
      have c1' := ex_in.mp c1
      have : ¬ m x = v := fun q => c1'.2 q.symm
      simp only [hxv, this, if_false]
      exact ⟨c1'.1, c2, c3⟩
  · have e : un S (fun x => if x = v then v else m x) = un (ex S v) m + 1 := by
      rw [un_free hS hv (by simp)]
      congr 1
      refine sm_cong (fun i _ => ?_)
      unfold fre
      rw [ex_bit]
      by_cases hiv : i = v
      · subst hiv; simp
      · simp [hiv]
    omega
theorem un_split {T C : Nat} (m : Nat → Nat) (hC : ∀ i, C.testBit i = true → T.testBit i = true) : un T m = un (dif T C) m + un C m := by
  unfold un
  rw [← sm_add]
  refine sm_cong (fun i _ => ?_)
  unfold fre
  rw [dif_bit]
  cases h1 : T.testBit i <;> cases h2 : C.testBit i <;> simp
  have := hC i h2
  rw [h1] at this; cases this
theorem pop_or1 {U v : Nat} (hU : U < 4096) (hv : v < 12) (hn : U.testBit v = false) : pop (U ||| 2 ^ v) = pop U + 1 := by
  rw [pop_bt, pop_bt, ← sm_at1 hv, ← sm_add]
  refine sm_cong (fun i _ => ?_)
  unfold btS at1
  rw [Nat.testBit_or, Nat.testBit_two_pow]
  by_cases h : i = v
  · subst h; simp [hn]
  · have : ¬ v = i := fun q => h q.symm
    simp [h, this]
/-- where each node is missed by a greatest one: as many odd parts as are missed -/
theorem gallai {w : Nat → Nat → Option Nat} (hw : ∀ a b, w a b = w b a) {S : Nat} (hS : S < 4096) (hall : ∀ v, S.testBit v = true → f1 w (ex S v) = f1 w S) {m : Nat → Nat} (hm : Mx w S m) : ∀ T, (∀ i, T.testBit i = true → S.testBit i = true) → clo w S T → od w T = un T m := by
  intro T
  induction T using Nat.strongRecOn with
  | ind T ih =>
    intro hTS hcl
    have hT4 : T < 4096 := Nat.lt_of_le_of_lt (Nat.le_of_testBit hTS) hS
    by_cases h0 : T = 0
    · subst h0; rw [od_0, un_0]
    · obtain ⟨a, ha⟩ := ex_some h0
      have haS := hTS a ha
      have ha12 := in12 hS haS
      have hsub := cmp_sub (w := w) ha
      have hself := cmp_self w T a
      have hcc := cmp_clo (w := w) hT4 ha12
      -- all of the part are related to a
      have hrel : ∀ i, (cmp w T a).testBit i = true → rel w S a i := by
        classical
        have hQ : ∀ i, (mask (fun i => S.testBit i && decide (rel w S a i)) 12).testBit i = true ↔ (S.testBit i = true ∧ rel w S a i) := by
          intro i
          rw [mask_bit, Bool.and_eq_true, Bool.and_eq_true, decide_eq_true_eq, decide_eq_true_eq]
          exact ⟨fun h => h.2, fun h => ⟨in12 hS h.1, h⟩⟩
        intro i hi
        refine ((hQ i).mp (cmp_min hT4 ?_ ?_ i hi)).2
        · intro x y hx hy hxy
          have hx' := (hQ x).mp hx
          have hyS := hTS y hy
          exact (hQ y).mpr ⟨hyS, rel_trans hw hS haS hx'.1 hyS (missed_ex hw hS hx'.1 (hall x hx'.1)) hx'.2 (rel_line hw hS hx'.1 hyS hxy)⟩
        · exact (hQ a).mpr ⟨haS, fun _ _ _ _ => rfl⟩
      have hclS : clo w S (cmp w T a) := fun x y hx hy hxy => hcc x y hx (hcl x y (hsub x hx) hy hxy) hxy
      have hC4 := cmp_lt (w := w) hT4 ha
      have hmat : ∀ N, Mx w S N → Mat w (cmp w T a) N := by
        intro N hN x hx
        obtain ⟨c1, c2, c3⟩ := hN.1 x (hTS x (hsub x hx))
        refine ⟨?_, c2, c3⟩
        by_cases hq : N x = x
        · rw [hq]; exact hx
        · exact hclS x (N x) hx c1 (c3 hq)
      have hone : ∀ N, Mx w S N → un (cmp w T a) N ≤ 1 := by
        intro N hN
        by_cases hex : ∃ x, (cmp w T a).testBit x = true ∧ N x = x
        · obtain ⟨x, hx1, hx2⟩ := hex
          have hx12 := in12 hC4 hx1
          have hxS := hTS x (hsub x hx1)
          rw [← sm_at1 hx12]
          refine sm_mono (fun i _ => ?_)
          unfold fre at1
          by_cases hix : i = x
          · rw [if_pos hix]; split <;> omega
          · rw [if_neg hix, if_neg]
            · exact Nat.le_refl _
            · intro q
              have r1 := hrel x hx1
              have r2 := hrel i q.1
              have r1' : rel w S x a := fun M hM c1 c2 => (r1 M hM c2 c1).symm
              have r3 := rel_trans hw hS hxS haS (hTS i (hsub i q.1)) (missed_ex hw hS haS (hall a haS)) r1' r2
              exact hix (r3 N hN hx2 q.2).symm
        · have : un (cmp w T a) N = 0 := sm_zero (fun i _ => if_neg (fun q => hex ⟨i, q⟩))
          omega
      obtain ⟨N, hN, hNa⟩ := missed_ex hw hS haS (hall a haS)
      have hN1 := hone N hN
      have hN2 : 1 ≤ un (cmp w T a) N := by
        rw [un_free hC4 hself hNa]; omega
      have hp1 := (Mat_up hw _ hC4 N (hmat N hN)).2
      have hp2 := (Mat_up hw _ hC4 m (hmat m hm)).2
      have hm1 := hone m hm
      have hst := od_step hw hT4 ha
      have hsp := un_split m hsub
      have hlt : dif T (cmp w T a) < T := by
        have h1 : dif T (cmp w T a) ≤ T := dif_le _ _
        have h2 : dif T (cmp w T a) ≠ T := by
          intro q
          have : (dif T (cmp w T a)).testBit a = true := by rw [q]; exact ha
          rw [dif_bit, hself] at this
          simp at this
        omega
      have hih := ih (dif T (cmp w T a)) hlt (fun i hi => by
        rw [dif_bit, Bool.and_eq_true] at hi
        exact hTS i hi.1) (fun x y hx hy hxy => by
        rw [dif_bit, Bool.and_eq_true] at hx ⊢
        refine ⟨hcl x y hx.1 hy hxy, ?_⟩
        cases hyc : (cmp w T a).testBit y with
        | false => rfl
        | true =>
          have := hclS y x hyc (hTS x hx.1) (by rw [hw]; exact hxy)
          rw [this] at hx
          exact absurd hx.2 (by decide))
      omega
theorem tutte {w : Nat → Nat → Option Nat} (hw : ∀ a b, w a b = w b a) : ∀ S, S < 4096 → ∃ U, (∀ i, U.testBit i = true → S.testBit i = true) ∧ od w (dif S U) + 2 * f1 w S = pop U + pop S := by
  intro S
  induction S using Nat.strongRecOn with
  | ind S ih =>
    intro hS
    by_cases hex : ∃ v, S.testBit v = true ∧ f1 w (ex S v) ≠ f1 w S
    · obtain ⟨v, hv, hf⟩ := hex
      obtain ⟨U, h1, h2⟩ := ih (ex S v) (ex_lt hv) (ex_4096 hS)
      have hv12 := in12 hS hv
      have hge := f1_ge hw hS hv
      have hf1 : f1 w S = f1 w (ex S v) + 1 := by
        rcases f1_or hw hS hv with h | ⟨b, b1, b2, b3, b4⟩
        · omega
        · have := f1_ge hw (ex_4096 (x := v) hS) (v := b) (ex_in.mpr ⟨b1, fun q => b2 q.symm⟩)
          omega
      have hUv : U.testBit v = false := by
        cases hc : U.testBit v with
        | false => rfl
        | true => exact absurd rfl (ex_in.mp (h1 v hc)).2
      have hU4 : U < 4096 := Nat.lt_of_le_of_lt (Nat.le_of_testBit h1) (ex_4096 hS)
      refine ⟨U ||| 2 ^ v, fun i hi => ?_, ?_⟩
      · rw [Nat.testBit_or, Bool.or_eq_true, Nat.testBit_two_pow, decide_eq_true_eq] at hi
        rcases hi with hi | hi
        · exact (ex_in.mp (h1 i hi)).1
        · rw [← hi]; exact hv
      · have e : dif S (U ||| 2 ^ v) = dif (ex S v) U := by
          apply Nat.eq_of_testBit_eq
          intro i
          rw [dif_bit, dif_bit, ex_bit, Nat.testBit_or, Nat.testBit_two_pow]
          cases S.testBit i <;> cases U.testBit i <;> simp
        have p1 := pop_ex hS hv
        have p2 := pop_or1 hU4 hv12 hUv
        rw [e]
        omega
    · obtain ⟨m, hm⟩ := Mat_ex hw S hS
      have h := gallai hw hS (fun v hv => Classical.byContradiction (fun q => hex ⟨v, hv, q⟩)) (m := m) hm S (fun _ hi => hi) (fun x y _ hy _ => hy)
      refine ⟨0, fun i hi => by simp at hi, ?_⟩
      have e : dif S 0 = S := by
        apply Nat.eq_of_testBit_eq
        intro i
        rw [dif_bit]; simp
      rw [e, h, pop_0]
      have := hm.2
      omega
theorem brk_some {ok : Nat → Bool} {lt : Nat → Nat → Bool} {U : Nat} (h : ok U = true) : ∀ n, U < n → ∃ b, b < n ∧ brk ok lt n = some b := by
  intro n
  induction n with
  | zero => intro h; omega
  | succ n ih =>
    intro hn
    have hs : brk ok lt (n + 1) = brs ok lt n (brk ok lt n) := rfl
    rw [hs]
    by_cases hU : U = n
    · subst hU
      cases hb : brk ok lt U with
      | none => exact ⟨U, by omega, if_pos h⟩
      | some b =>
        have hlt : b < U + 1 := by
          have : ∀ n b, brk ok lt n = some b → b < n := by
            intro n
            induction n with
            | zero => intro b h; cases h
            | succ n ih2 =>
              intro b h
              have hs2 : brk ok lt (n + 1) = brs ok lt n (brk ok lt n) := rfl
              rw [hs2] at h
              cases hc : brk ok lt n with
              | none =>
                rw [hc] at h
                unfold brs at h
                dsimp only at h
                split at h
                · have := Option.some.inj h; omega
                · cases h
              | some c =>
                have := ih2 c hc
                rw [hc] at h
                unfold brs at h
                dsimp only at h
                split at h <;> (have := Option.some.inj h; omega)
          have := this U b hb
          omega
        by_cases hc : lt (pop U) (pop b) = true ∧ ok U = true
        · exact ⟨U, by omega, if_pos hc⟩
        · exact ⟨b, hlt, if_neg hc⟩
    · obtain ⟨b, hb1, hb2⟩ := ih (by omega)
      rw [hb2]
      by_cases hc : lt (pop n) (pop b) = true ∧ ok n = true
      · exact ⟨n, by omega, if_pos hc⟩
      · exact ⟨b, by omega, if_neg hc⟩
theorem pop_al {g : Nw} (hg : g.1 ≤ 12) : pop (al g) = g.1 := by
  have : ∀ n, n ≤ 12 → pop (2 ^ n - 1) = n := by decide
  exact this g.1 hg
def msI (g : Nw) : Int32 := nI g.1 - 2 * nI (mst g (al g))
theorem barrier_is {g : Nw} (wf : Wfn g) (lt : Nat → Nat → Bool) : ∃ b, b < 2 ^ g.1 ∧ brk (okB g (msI g)) lt (2 ^ g.1) = some b := by
  have hal := al_lt g
  have hp := p12 wf.1.2
  obtain ⟨U, h1, h2⟩ := tutte (w := g.2.1) wf.2.1 (al g) (by omega)
  have hU : U ≤ al g := Nat.le_of_testBit h1
  refine brk_some (U := U) ?_ _ (by omega)
  rw [pop_al wf.1.2] at h2
  have h3 : f1 g.2.1 (al g) = mst g (al g) := rfl
  rw [h3] at h2
  unfold okB msI
  refine decide_eq_true ?_
  have e1 : nI (od g.2.1 (dif (al g) U)) + nI 2 * nI (mst g (al g)) = nI (pop U) + nI g.1 := by
    rw [pk_mul, nI_add, nI_add, h2]
  have e2 : (2 : Int32) = nI 2 := rfl
  rw [e2]
  generalize nI (od g.2.1 (dif (al g) U)) = x at e1
  generalize nI 2 * nI (mst g (al g)) = y at e1
  generalize nI (pop U) = z at e1
  generalize nI g.1 = u at e1
  have e3 : x = z + u - y := by rw [← e1, Int32.add_sub_cancel]
  rw [e3]
  rw [Int32.sub_eq_add_neg, Int32.sub_eq_add_neg, Int32.sub_eq_add_neg, Int32.add_comm z u, Int32.add_assoc, Int32.add_assoc, Int32.add_comm (-y) (-z), ← Int32.add_assoc z, Int32.add_right_neg, Int32.zero_add]
