/-! Walks: a ring shrunk to its first node -/
theorem Vr_split {g : Nw} {a : Nat} : ∀ {k r}, Vr g a k r → ∃ q, r = q ++ [a] ∧ a ∉ q := by
  intro k
  induction k with
  | zero => intro r h; exact ⟨[], h, by simp⟩
  | succ k ih =>
    rintro r ⟨b, c, q, h1, h2, h3, h4, h5, h6⟩
    obtain ⟨p, e1, e2⟩ := ih h1
    have haq := (so_bit q a).mpr (Vr_a h1)
    refine ⟨c :: b :: p, by rw [h2, e1]; rfl, ?_⟩
    rw [List.mem_cons, List.mem_cons]
    rintro (e | e | e)
    · rw [e, h6] at haq; cases haq
    · rw [e, h3] at haq; cases haq
    · exact e2 e
theorem pc_le (X : Nat) : ∀ s, pc X s ≤ s := by
  intro s
  induction s with
  | zero => exact Nat.le_refl _
  | succ s ih =>
    show pc X s + btS X s ≤ s + 1
    have : btS X s ≤ 1 := by unfold btS; split <;> omega
    omega
theorem pc_pop (X : Nat) {s : Nat} (hs : s ≤ 12) : pop (X &&& (2 ^ s - 1)) = pc X s := by
  have h : ∀ n, sm (btS (X &&& (2 ^ s - 1))) n = pc X (min n s) := by
    intro n
    induction n with
    | zero => rw [Nat.zero_min]; rfl
    | succ n ih =>
      rw [sm_s, ih]
      by_cases hn : n < s
      · rw [show min n s = n by omega, show min (n + 1) s = n + 1 by omega]
        show _ = pc X n + btS X n
        congr 1
        unfold btS
        rw [Nat.testBit_and, Nat.testBit_two_pow_sub_one, decide_eq_true hn, Bool.and_true]
      · rw [show min n s = s by omega, show min (n + 1) s = s by omega]
        have : btS (X &&& (2 ^ s - 1)) n = 0 := by
          unfold btS
          rw [Nat.testBit_and, Nat.testBit_two_pow_sub_one, decide_eq_false hn, Bool.and_false]; rfl
        omega
  rw [pop_bt, h 12, show min 12 s = s by omega]
/-- the number of those below that stay -/
def nus (G s : Nat) : Nat := s - pc G s
def nmz (G f a : Nat) : Nat := nus G (if G.testBit a = true then f else a)
theorem nmz_lt {G f a n : Nat} (hf : f < n) (ha : a < n) : nmz G f a < n := by
  unfold nmz nus
  split <;> omega
theorem nus_mono {G : Nat} : ∀ {x y : Nat}, x < y → G.testBit x = false → nus G x < nus G y := by
  have step : ∀ s k, nus G s ≤ nus G (s + k) := by
    intro s k
    induction k with
    | zero => exact Nat.le_refl _
    | succ k ih =>
      refine Nat.le_trans ih ?_
      unfold nus
      show s + k - pc G (s + k) ≤ s + k + 1 - (pc G (s + k) + btS G (s + k))
      have : btS G (s + k) ≤ 1 := by unfold btS; split <;> omega
      omega
  intro x y hxy hx
  have h1 := step (x + 1) (y - (x + 1))
  rw [show x + 1 + (y - (x + 1)) = y by omega] at h1
  refine Nat.lt_of_lt_of_le ?_ h1
  unfold nus
  show x - pc G x < x + 1 - (pc G x + btS G x)
  have e : btS G x = 0 := by unfold btS; rw [hx]; rfl
  have := pc_le G x
  omega
theorem nus_inj {G x y : Nat} (hx : G.testBit x = false) (hy : G.testBit y = false) (h : nus G x = nus G y) : x = y := by
  rcases Nat.lt_trichotomy x y with h1 | h1 | h1
  · have := nus_mono h1 hx; omega
  · exact h1
  · have := nus_mono h1 hy; omega
theorem c_numberAnew {B : Bd} {M : Mm} {l : List Nat} {G f a : Nat} (ok : OkM M) (hr : RowAt M l) (hl : l[0]? = some f) (hG : G < 4096) (hf : f < 12) (ha : a < 12) : Ct B mX4_numberAnew 1 0 0 [.ref 19, .int (nI a), .int (nI G)] M (Is (some (.int (nI (nmz G f a)))) M) := by
  have f0 := hr.2 0 f hl
  refine Ct.of (by decide) rfl rfl (Nat.le_of_ble_eq_true rfl) ?_
  have tail : ∀ s t, s < 12 → Ev B mX4_numberAnew 1 0 0 (Is (some (.int (nI (nus G s)))) M) 18 [some (.ref 19), some (.int (nI a)), some (.int (nI G)), t] [.int (nI s)] M := by
    intro s t hs
    have hp2 := Nat.two_pow_pos s
    refine e_istore_n dX4_numberAnew_18 rfl (by decide) rfl rfl ?_
    refine e_iload_n dX4_numberAnew_19 rfl rfl ?_
    refine e_iload_n dX4_numberAnew_20 rfl rfl ?_
    refine e_iconst (v := 1) dX4_numberAnew_21 (by decide) ?_
    refine e_iload_n dX4_numberAnew_22 rfl rfl ?_
    refine e_ishl dX4_numberAnew_23 ?_
    rw [shl_1 (by omega)]
    refine e_iconst (v := 1) dX4_numberAnew_24 (by decide) ?_
    refine e_isub dX4_numberAnew_25 ?_
    have e1 : nI (2 ^ s) - 1 = nI (2 ^ s - 1) := by
      have : nI (2 ^ s - 1) + 1 = nI (2 ^ s) := by rw [nI_1]; congr 1; omega
      rw [← this, Int32.add_sub_cancel]
    rw [e1]
    refine e_iand dX4_numberAnew_26 ?_
    rw [fa_and]
    have hlt : G &&& (2 ^ s - 1) < 4096 := Nat.lt_of_le_of_lt Nat.and_le_left hG
    refine e_callS0i [_] dX4_numberAnew_27 msmJ6_bitCount_0f7a4 lkRX4_99 rfl rfl (Nat.le_of_ble_eq_true rfl) (by decide) (c_bitCount hlt) ?_
    rw [pc_pop G (by omega)]
    refine e_isub dX4_numberAnew_30 ?_
    have e2 : nI s - nI (pc G s) = nI (nus G s) := by
      have hle := pc_le G s
      have : nI (nus G s) + nI (pc G s) = nI s := by rw [nI_add]; congr 1; unfold nus; omega
      rw [← this, Int32.add_sub_cancel]
    rw [e2]
    exact e_iret dX4_numberAnew_31 rfl rfl (⟨rfl, rfl⟩)
  refine e_iload_n dX4_numberAnew_0 rfl rfl ?_
  refine e_iload_n dX4_numberAnew_1 rfl rfl ?_
  refine e_callN0i [_, _] dX4_numberAnew_2 msmX5_hasBit nest_4 rfl rfl (Nat.le_of_ble_eq_true rfl) (by decide) (c_hasBit (k := G) (j := a) (by omega) (by omega)) ?_
  unfold nmz
  by_cases hg : G.testBit a = true
  · rw [if_pos hg, if_pos hg]
    refine e_if_eq (tgt := 17) dX4_numberAnew_5 (by decide) (fun hz => ?_) (fun hz => ?_)
    · exact absurd hz (by decide)
    · refine e_aload_n dX4_numberAnew_8 rfl rfl ?_
      refine e_getR dX4_numberAnew_9 fRX4_9 (by exact ok.sh rfl) (by exact ok.rf rfl) (fun _ => rfl) ?_
      refine e_iconst (v := 0) dX4_numberAnew_12 (by decide) ?_
      refine e_iaload dX4_numberAnew_13 (by exact ok.sh rfl) (by exact vp_in_nI (n := 0) (N := 12) (by decide) (by decide)) ?_
      rw [show (0 : Int32).toNatClampNeg = 0 by decide, f0]
      refine e_goto (tgt := 18) dX4_numberAnew_14 (by decide) ?_
      exact tail f _ hf
  · rw [if_neg hg, if_neg hg]
    refine e_if_eq (tgt := 17) dX4_numberAnew_5 (by decide) (fun hz => ?_) (fun hz => ?_)
    · refine e_iload_n dX4_numberAnew_17 rfl rfl ?_
      exact tail a _ ha
    · exact absurd rfl hz
def ole (x y : Option Nat) : Prop := ∀ k, x = some k → ∃ j, y = some j ∧ k ≤ j
/-- what the ring's shrinking makes of a network -/
def ShrOf (g : Nw) (G f L : Nat) (g' : Nw) : Prop := g'.1 = g.1 - L + 1 ∧ (∀ x y, x < g.1 → y < g.1 → nmz G f x ≠ nmz G f y → ole (g.2.1 x y) (g'.2.1 (nmz G f x) (nmz G f y))) ∧ (∀ i j k, g'.2.1 i j = some k → ∃ x y, x < g.1 ∧ y < g.1 ∧ nmz G f x = i ∧ nmz G f y = j ∧ i ≠ j ∧ g.2.1 x y = some k) ∧ (∀ x y, g.2.2 x = some y → nmz G f x ≠ nmz G f y → g'.2.2 (nmz G f x) = some (nmz G f y)) ∧ (∀ i j, g'.2.2 i = some j → ∃ x y, g.2.2 x = some y ∧ nmz G f x = i ∧ nmz G f y = j ∧ i ≠ j)
theorem ShrOf.uniq {g g1 g2 : Nw} {G f L : Nat} (h1 : ShrOf g G f L g1) (h2 : ShrOf g G f L g2) : g1 = g2 := by
  obtain ⟨n1, w1, m1⟩ := g1
  obtain ⟨n2, w2', m2'⟩ := g2
  have hn : n1 = n2 := h1.1.trans h2.1.symm
  have hw : w1 = w2' := by
    have one : ∀ (u v : Nat → Nat → Option Nat), (∀ x y, x < g.1 → y < g.1 → nmz G f x ≠ nmz G f y → ole (g.2.1 x y) (v (nmz G f x) (nmz G f y))) → (∀ i j k, u i j = some k → ∃ x y, x < g.1 ∧ y < g.1 ∧ nmz G f x = i ∧ nmz G f y = j ∧ i ≠ j ∧ g.2.1 x y = some k) → ∀ i j, ole (u i j) (v i j) := by
      intro u v hv hu i j k hk
      obtain ⟨x, y, hx, hy, e1, e2, hne, e3⟩ := hu i j k hk
      have := hv x y hx hy (by rw [e1, e2]; exact hne) k e3
      rw [e1, e2] at this; exact this
    have a1 := one w1 w2' h2.2.1 h1.2.2.1
    have a2 := one w2' w1 h1.2.1 h2.2.2.1
    funext i j
    cases e1 : w1 i j with
    | none =>
      cases e2 : w2' i j with
      | none => rfl
      | some k =>
        obtain ⟨j', h3, -⟩ := a2 i j k e2
        rw [e1] at h3; cases h3
    | some k =>
      obtain ⟨k2, h3, h4⟩ := a1 i j k e1
      obtain ⟨k3, h5, h6⟩ := a2 i j k2 h3
      rw [e1] at h5
      have := Option.some.inj h5
      rw [h3]; congr 1; omega
  have hm : m1 = m2' := by
    have one : ∀ (u v : Nat → Option Nat), (∀ x y, g.2.2 x = some y → nmz G f x ≠ nmz G f y → v (nmz G f x) = some (nmz G f y)) → (∀ i j, u i = some j → ∃ x y, g.2.2 x = some y ∧ nmz G f x = i ∧ nmz G f y = j ∧ i ≠ j) → ∀ i j, u i = some j → v i = some j := by
      intro u v hv hu i j h
      obtain ⟨x, y, e0, e1, e2, hne⟩ := hu i j h
      have := hv x y e0 (by rw [e1, e2]; exact hne)
      rw [e1, e2] at this; exact this
    have a1 := one m1 m2' h2.2.2.2.1 h1.2.2.2.2
    have a2 := one m2' m1 h1.2.2.2.1 h2.2.2.2.2
    funext i
    cases e1 : m1 i with
    | none =>
      cases e2 : m2' i with
      | none => rfl
      | some k =>
        have := a2 i k e2
        rw [e1] at this; cases this
    | some k => rw [a1 i k e1]
  rw [hn, hw, hm]

