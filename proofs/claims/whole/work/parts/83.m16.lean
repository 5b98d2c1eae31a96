/-! the Model: shrink -/
def omx (x y : Option Nat) : Option Nat := match x, y with
  | none, y => y
  | some i, none => some i
  | some i, some j => some (max i j)
theorem ole_omx_l (x y : Option Nat) : ole x (omx x y) := fun k hk => by
  subst hk
  cases y with
  | none => exact ⟨k, rfl, Nat.le_refl _⟩
  | some j => exact ⟨max k j, rfl, Nat.le_max_left _ _⟩
theorem ole_omx_r (x y : Option Nat) : ole y (omx x y) := fun k hk => by
  subst hk
  cases x with
  | none => exact ⟨k, rfl, Nat.le_refl _⟩
  | some j => exact ⟨max j k, rfl, Nat.le_max_right _ _⟩
theorem omx_or {x y : Option Nat} {k : Nat} (h : omx x y = some k) : x = some k ∨ y = some k := by
  cases x with
  | none => exact Or.inr h
  | some i =>
    cases y with
    | none => exact Or.inl h
    | some j =>
      have e : max i j = k := Option.some.inj h
      rcases Nat.le_total i j with q | q
      · rw [Nat.max_eq_right q] at e; exact Or.inr (by rw [e])
      · rw [Nat.max_eq_left q] at e; exact Or.inl (by rw [e])
theorem ole_trans {x y z : Option Nat} (h1 : ole x y) (h2 : ole y z) : ole x z := fun k hk => by
  obtain ⟨j, e1, l1⟩ := h1 k hk
  obtain ⟨i, e2, l2⟩ := h2 j e1
  exact ⟨i, e2, by omega⟩
theorem ole_rf (x : Option Nat) : ole x x := fun k hk => ⟨k, hk, Nat.le_refl _⟩
def mxl (w : Nat → Nat → Option Nat) (b : Nat) (t : List Nat) (v : Option Nat) : Option Nat := t.foldl (fun v z => omx v (w z b)) v
theorem mxl_ge (w : Nat → Nat → Option Nat) (b : Nat) : ∀ (t : List Nat) v, ole v (mxl w b t v) ∧ ∀ z, z ∈ t → ole (w z b) (mxl w b t v) := by
  intro t
  induction t with
  | nil => intro v; exact ⟨ole_rf v, fun z h => by cases h⟩
  | cons x t ih =>
    intro v
    have h := ih (omx v (w x b))
    refine ⟨ole_trans (ole_omx_l _ _) h.1, fun z hz => ?_⟩
    rcases List.mem_cons.mp hz with q | q
    · rw [q]; exact ole_trans (ole_omx_r _ _) h.1
    · exact h.2 z q
theorem mxl_or (w : Nat → Nat → Option Nat) (b : Nat) : ∀ (t : List Nat) v k, mxl w b t v = some k → v = some k ∨ ∃ z, z ∈ t ∧ w z b = some k := by
  intro t
  induction t with
  | nil => intro v k h; exact Or.inl h
  | cons x t ih =>
    intro v k h
    rcases ih _ k h with q | ⟨z, q1, q2⟩
    · rcases omx_or q with q | q
      · exact Or.inl q
      · exact Or.inr ⟨x, List.mem_cons_self .., q⟩
    · exact Or.inr ⟨z, List.mem_cons_of_mem _ q1, q2⟩
theorem mxl_ap (w : Nat → Nat → Option Nat) (b : Nat) (t : List Nat) (z : Nat) (v : Option Nat) : mxl w b (t ++ [z]) v = omx (mxl w b t v) (w z b) := by
  unfold mxl
  rw [List.foldl_append]
  rfl
theorem wI_omx {x y : Option Nat} (hx : ∀ k, x = some k → k < 2 ^ 31) (hy : ∀ k, y = some k → k < 2 ^ 31) : (wI y ≤ wI x → omx x y = x) ∧ (¬ wI y ≤ wI x → omx x y = y) := by
  have hm : (-1 : Int32).toInt = -1 := by decide
  cases x with
  | none =>
    cases y with
    | none => exact ⟨fun _ => rfl, fun _ => rfl⟩
    | some j =>
      refine ⟨fun h => ?_, fun _ => rfl⟩
      have h' : nI j ≤ (-1 : Int32) := h
      rw [fa_le, nI_toInt (hy j rfl)] at h'
      omega
  | some i =>
    cases y with
    | none =>
      refine ⟨fun _ => rfl, fun h => ?_⟩
      refine absurd ?_ h
      show (-1 : Int32) ≤ nI i
      rw [fa_le, nI_toInt (hx i rfl)]
      omega
    | some j =>
      have hi := hx i rfl
      have hj := hy j rfl
      refine ⟨fun h => ?_, fun h => ?_⟩
      · have := (nI_leI hj hi).mp h
        show some (max i j) = some i
        rw [Nat.max_eq_left this]
      · have : ¬ j ≤ i := fun q => h (nI_le q hi)
        show some (max i j) = some j
        rw [Nat.max_eq_right (by omega)]
/-- the lines of a taken over, for the nodes below b -/
def wst (w : Nat → Nat → Option Nat) (a G : Nat) (t : List Nat) (b : Nat) : Nat → Nat → Option Nat := fun x y => if x = a ∧ y < b ∧ y ≠ a ∧ G.testBit y = false then mxl w y t (w a y) else if y = a ∧ x < b ∧ x ≠ a ∧ G.testBit x = false then mxl w x t (w a x) else w x y
theorem wst_0 (w : Nat → Nat → Option Nat) (a G : Nat) (t : List Nat) : wst w a G t 0 = w := by
  funext x y
  unfold wst
  rw [if_neg (by omega), if_neg (by omega)]
theorem wst_skip {w : Nat → Nat → Option Nat} {a G : Nat} {t : List Nat} {b : Nat} (h : b = a ∨ G.testBit b = true) : wst w a G t (b + 1) = wst w a G t b := by
  have key : ∀ y, (y < b + 1 ∧ y ≠ a ∧ G.testBit y = false) ↔ (y < b ∧ y ≠ a ∧ G.testBit y = false) := fun y => by
    constructor
    · rintro ⟨h1, h2, h3⟩
      refine ⟨?_, h2, h3⟩
      rcases Nat.lt_or_ge y b with q | q
      · exact q
      · have : y = b := by omega
        subst this
        rcases h with h | h
        · exact absurd h h2
        · rw [h] at h3; cases h3
    · rintro ⟨h1, h2, h3⟩; exact ⟨by omega, h2, h3⟩
  funext x y
  unfold wst
  by_cases c1 : x = a ∧ y < b ∧ y ≠ a ∧ G.testBit y = false
  · rw [if_pos c1, if_pos ⟨c1.1, (key y).mpr c1.2⟩]
  · rw [if_neg c1, if_neg (fun q => c1 ⟨q.1, (key y).mp q.2⟩)]
    by_cases c2 : y = a ∧ x < b ∧ x ≠ a ∧ G.testBit x = false
    · rw [if_pos c2, if_pos ⟨c2.1, (key x).mpr c2.2⟩]
    · rw [if_neg c2, if_neg (fun q => c2 ⟨q.1, (key x).mp q.2⟩)]
theorem wst_step {w : Nat → Nat → Option Nat} {a G : Nat} {t : List Nat} {b : Nat} (hba : b ≠ a) (hG : G.testBit b = false) : w2 (wst w a G t b) a b (mxl w b t (w a b)) = wst w a G t (b + 1) := by
  funext x y
  unfold w2
  by_cases h : (x = a ∧ y = b) ∨ (x = b ∧ y = a)
  · rw [if_pos h]
    unfold wst
    rcases h with ⟨h1, h2⟩ | ⟨h1, h2⟩
    · subst h1 h2
      rw [if_pos ⟨rfl, by omega, hba, hG⟩]
    · subst h1 h2
      rw [if_neg (fun q => hba q.1), if_pos ⟨rfl, by omega, hba, hG⟩]
  · rw [if_neg h]
    unfold wst
    by_cases c1 : x = a ∧ y < b ∧ y ≠ a ∧ G.testBit y = false
    · rw [if_pos c1, if_pos ⟨c1.1, by omega, c1.2.2⟩]
    · have n1 : ¬ (x = a ∧ y < b + 1 ∧ y ≠ a ∧ G.testBit y = false) := fun q => c1 ⟨q.1, by omega, q.2.2⟩
      rw [if_neg c1, if_neg n1]
      by_cases c2 : y = a ∧ x < b ∧ x ≠ a ∧ G.testBit x = false
      · rw [if_pos c2, if_pos (show y = a ∧ x < b + 1 ∧ x ≠ a ∧ G.testBit x = false from ⟨c2.1, by omega, c2.2.2⟩)]
      · have n2 : ¬ (y = a ∧ x < b + 1 ∧ x ≠ a ∧ G.testBit x = false) := fun q => c2 ⟨q.1, by omega, q.2.2⟩
        rw [if_neg c2, if_neg n2]
theorem wst_at {w : Nat → Nat → Option Nat} {a G : Nat} {t : List Nat} {b : Nat} (hs : ∀ x y, w x y = w y x) : w2 (wst w a G t b) a b (w a b) = wst w a G t b := by
  funext x y
  unfold w2
  by_cases h : (x = a ∧ y = b) ∨ (x = b ∧ y = a)
  · rw [if_pos h]
    unfold wst
    rcases h with ⟨h1, h2⟩ | ⟨h1, h2⟩
    · subst h1 h2
      rw [if_neg (by omega), if_neg (fun q => by omega)]
    · subst h1 h2
      rw [if_neg (fun q => by omega), if_neg (by omega), hs]
  · rw [if_neg h]
theorem wst_g {w : Nat → Nat → Option Nat} {a G : Nat} {t : List Nat} {b z y : Nat} (hz : G.testBit z = true) (hza : z ≠ a) (hya : y ≠ a) : wst w a G t b z y = w z y := by
  unfold wst
  rw [if_neg (fun q => hza q.1), if_neg (fun q => hya q.1)]
theorem w2_2 (w : Nat → Nat → Option Nat) (a b : Nat) (u v : Option Nat) : w2 (w2 w a b u) a b v = w2 w a b v := by
  funext x y
  unfold w2
  by_cases h : (x = a ∧ y = b) ∨ (x = b ∧ y = a)
  · rw [if_pos h, if_pos h]
  · rw [if_neg h, if_neg h, if_neg h]
theorem nus_s (G b : Nat) : nus G (b + 1) = nus G b + (if G.testBit b = true then 0 else 1) := by
  have h1 := pc_le G b
  have e : pc G (b + 1) = pc G b + btS G b := rfl
  unfold nus
  rw [e]
  unfold btS
  by_cases h : G.testBit b = true
  · rw [if_pos h, if_pos h]; omega
  · rw [if_neg h, if_neg h]; omega
theorem nus_le (G b : Nat) : nus G b ≤ b := Nat.sub_le _ _
/-- lines and mates of the new network, row by row -/
def SW (g : Nw) (w1 : Nat → Nat → Option Nat) (G x b : Nat) (W : Nat → Nat → Option Nat) : Prop := (∀ i j, W i j = W j i) ∧ (∀ u v, u < g.1 → v < u → G.testBit u = false → G.testBit v = false → (u < x ∨ (u = x ∧ v < b)) → W (nus G u) (nus G v) = w1 u v) ∧ ∀ i j k, W i j = some k → ∃ u v, u < g.1 ∧ v < g.1 ∧ G.testBit u = false ∧ G.testBit v = false ∧ u ≠ v ∧ nus G u = i ∧ nus G v = j ∧ w1 u v = some k
def SN (g : Nw) (G x : Nat) (m : Nat → Option Nat) : Prop := (∀ u, u < x → G.testBit u = false → m (nus G u) = (g.2.2 u).map (nus G)) ∧ ∀ i j, m i = some j → ∃ u v, g.2.2 u = some v ∧ G.testBit u = false ∧ nus G u = i ∧ nus G v = j
theorem SW_step {g : Nw} {w1 : Nat → Nat → Option Nat} {G x b : Nat} {W : Nat → Nat → Option Nat} (h : SW g w1 G x b W) (hs : ∀ u v, w1 u v = w1 v u) (hx : x < g.1) (hb : b < x) (hGx : G.testBit x = false) (hGb : G.testBit b = false) : SW g w1 G x (b + 1) (w2 W (nus G x) (nus G b) (w1 x b)) := by
  refine ⟨fun i j => ?_, fun u v hu hv hGu hGv hp => ?_, fun i j k hk => ?_⟩
  · unfold w2
    by_cases c : (i = nus G x ∧ j = nus G b) ∨ (i = nus G b ∧ j = nus G x)
    · rw [if_pos c, if_pos (by omega)]
    · rw [if_neg c, if_neg (by omega), h.1]
  · unfold w2
    by_cases c : (nus G u = nus G x ∧ nus G v = nus G b) ∨ (nus G u = nus G b ∧ nus G v = nus G x)
    · rw [if_pos c]
      rcases c with ⟨c1, c2⟩ | ⟨c1, c2⟩
      · rw [nus_inj hGu hGx c1, nus_inj hGv hGb c2]
      · have e1 := nus_inj hGu hGb c1
        have e2 := nus_inj hGv hGx c2
        omega
    · rw [if_neg c]
      refine h.2.1 u v hu hv hGu hGv ?_
      rcases hp with q | ⟨q1, q2⟩
      · exact Or.inl q
      · rcases Nat.lt_or_ge v b with z | z
        · exact Or.inr ⟨q1, z⟩
        · have e : v = b := by omega
          subst q1 e
          exact absurd (Or.inl ⟨rfl, rfl⟩) c
  · unfold w2 at hk
    by_cases c : (i = nus G x ∧ j = nus G b) ∨ (i = nus G b ∧ j = nus G x)
    · rw [if_pos c] at hk
      rcases c with ⟨c1, c2⟩ | ⟨c1, c2⟩
      · exact ⟨x, b, hx, by omega, hGx, hGb, by omega, c1.symm, c2.symm, hk⟩
      · exact ⟨b, x, by omega, hx, hGb, hGx, by omega, c1.symm, c2.symm, by rw [hs]; exact hk⟩
    · rw [if_neg c] at hk
      exact h.2.2 i j k hk
theorem SW_cong {g : Nw} {w1 : Nat → Nat → Option Nat} {G x b y c : Nat} {W : Nat → Nat → Option Nat} (h : SW g w1 G x b W) (hc : ∀ u v, u < g.1 → v < u → G.testBit u = false → G.testBit v = false → (u < y ∨ (u = y ∧ v < c)) → (u < x ∨ (u = x ∧ v < b))) : SW g w1 G y c W := ⟨h.1, fun u v hu hv h1 h2 hp => h.2.1 u v hu hv h1 h2 (hc u v hu hv h1 h2 hp), h.2.2⟩
theorem Shr_model {g : Nw} (wf : Wfn g) {G a L n' : Nat} {t : List Nat} {W : Nat → Nat → Option Nat} {m : Nat → Option Nat} (hGp : Gp g G) (hGt : ∀ z, G.testBit z = true ↔ z ∈ t) (hGa : G.testBit a = false) (ha : a < g.1) (hn : n' = g.1 - L + 1) (h1 : SW g (wst g.2.1 a G t g.1) G g.1 0 W) (h2 : SN g G g.1 m) : ShrOf g G a L (n', W, m) := by
  have hs := wf.2.1
  have e1 : ∀ y, y < g.1 → y ≠ a → G.testBit y = false → wst g.2.1 a G t g.1 a y = mxl g.2.1 y t (g.2.1 a y) := fun y hy hya hGy => by
    unfold wst; rw [if_pos ⟨rfl, hy, hya, hGy⟩]
  have e2 : ∀ y, y < g.1 → y ≠ a → G.testBit y = false → wst g.2.1 a G t g.1 y a = mxl g.2.1 y t (g.2.1 a y) := fun y hy hya hGy => by
    unfold wst; rw [if_neg (fun q => hya q.1), if_pos ⟨rfl, hy, hya, hGy⟩]
  have e3 : ∀ x y, x ≠ a → y ≠ a → wst g.2.1 a G t g.1 x y = g.2.1 x y := fun x y hx hy => by
    unfold wst; rw [if_neg (fun q => hx q.1), if_neg (fun q => hy q.1)]
  have hsy : ∀ x y, x < g.1 → y < g.1 → G.testBit x = false → G.testBit y = false → x ≠ y → wst g.2.1 a G t g.1 x y = wst g.2.1 a G t g.1 y x := fun x y hx hy hGx hGy hxy => by
    by_cases c1 : x = a
    · subst c1; rw [e1 y hy (fun q => hxy q.symm) hGy, e2 y hy (fun q => hxy q.symm) hGy]
    · by_cases c2 : y = a
      · subst c2; rw [e1 x hx c1 hGx, e2 x hx c1 hGx]
      · rw [e3 x y c1 c2, e3 y x c2 c1, hs]
  have hW : ∀ u v, u < g.1 → v < g.1 → G.testBit u = false → G.testBit v = false → u ≠ v → W (nus G u) (nus G v) = wst g.2.1 a G t g.1 u v := fun u v hu hv hGu hGv hne => by
    rcases Nat.lt_or_gt_of_ne hne with q | q
    · rw [h1.1, hsy u v hu hv hGu hGv hne]
      exact h1.2.1 v u hv q hGv hGu (Or.inl hv)
    · exact h1.2.1 u v hu q hGu hGv (Or.inl hu)
  have na : ∀ z, nmz G a z = nus G (if G.testBit z = true then a else z) := fun z => rfl
  refine ⟨hn, fun x y hx hy hne => ?_, fun i j k hk => ?_, fun x y hm hne => ?_, fun i j hij => ?_⟩
  · show ole (g.2.1 x y) (W (nmz G a x) (nmz G a y))
    rw [na, na] at hne ⊢
    by_cases hGx : G.testBit x = true
    · by_cases hGy : G.testBit y = true
      · rw [if_pos hGx, if_pos hGy] at hne; exact absurd rfl hne
      · have hGy' : G.testBit y = false := by simpa using hGy
        rw [if_pos hGx, if_neg hGy] at hne ⊢
        have hya : y ≠ a := fun q => hne (by rw [q])
        rw [hW a y ha hy hGa hGy' (fun q => hya q.symm), e1 y hy hya hGy']
        exact (mxl_ge g.2.1 y t _).2 x ((hGt x).mp hGx)
    · have hGx' : G.testBit x = false := by simpa using hGx
      by_cases hGy : G.testBit y = true
      · rw [if_neg hGx, if_pos hGy] at hne ⊢
        have hxa : x ≠ a := fun q => hne (by rw [q])
        rw [hW x a hx ha hGx' hGa hxa, e2 x hx hxa hGx', hs x y]
        exact (mxl_ge g.2.1 x t _).2 y ((hGt y).mp hGy)
      · have hGy' : G.testBit y = false := by simpa using hGy
        rw [if_neg hGx, if_neg hGy] at hne ⊢
        have hxy : x ≠ y := fun q => hne (by rw [q])
        rw [hW x y hx hy hGx' hGy' hxy]
        by_cases c1 : x = a
        · subst c1
          rw [e1 y hy (fun q => hxy q.symm) hGy']
          exact (mxl_ge g.2.1 y t _).1
        · by_cases c2 : y = a
          · subst c2
            rw [e2 x hx c1 hGx', hs x y]
            exact (mxl_ge g.2.1 x t _).1
          · rw [e3 x y c1 c2]; exact ole_rf _
  · obtain ⟨u, v, hu, hv, hGu, hGv, hne, rfl, rfl, hw⟩ := h1.2.2 i j k hk
    have nu : nmz G a u = nus G u := nmz_ng hGu
    have nv : nmz G a v = nus G v := nmz_ng hGv
    have hij : nus G u ≠ nus G v := fun q => hne (nus_inj hGu hGv q)
    by_cases c1 : u = a
    · subst c1
      rw [e1 v hv (fun q => hne q.symm) hGv] at hw
      rcases mxl_or _ _ _ _ _ hw with q | ⟨z, q1, q2⟩
      · exact ⟨u, v, hu, hv, nu, nv, hij, q⟩
      · have hz := (wf.2.2.2.1 z v k q2).1
        refine ⟨z, v, hz, hv, ?_, nv, hij, q2⟩
        rw [na, if_pos ((hGt z).mpr q1)]
    · by_cases c2 : v = a
      · subst c2
        rw [e2 u hu c1 hGu] at hw
        rcases mxl_or _ _ _ _ _ hw with q | ⟨z, q1, q2⟩
        · exact ⟨u, v, hu, hv, nu, nv, hij, by rw [hs]; exact q⟩
        · have hz := (wf.2.2.2.1 z u k q2).1
          refine ⟨u, z, hu, hz, nu, ?_, hij, by rw [hs]; exact q2⟩
          rw [na, if_pos ((hGt z).mpr q1)]
      · rw [e3 u v c1 c2] at hw
        exact ⟨u, v, hu, hv, nu, nv, hij, hw⟩
  · obtain ⟨gx, gy⟩ := Gp_ng wf hGp hm hne
    have hx := (wf.2.2.2.2 x y hm).2.1
    show m (nmz G a x) = some (nmz G a y)
    rw [nmz_ng gx, nmz_ng gy, h2.1 x hx gx, hm]; rfl
  · obtain ⟨u, v, hm, hGu, rfl, rfl⟩ := h2.2 i j hij
    have hw := wf.2.2.2.2 u v hm
    have hGv : G.testBit v = false := by
      cases hq : G.testBit v with
      | false => rfl
      | true => rw [hGp v u hw.1 hq] at hGu; cases hGu
    exact ⟨u, v, hm, nmz_ng hGu, nmz_ng hGv, fun q => hw.2.2.2 (nus_inj hGu hGv q)⟩
/-- what shrinking changes -/
def S3 (M N : Mm) : Prop := N.1 = M.1 ∧ N.2.2 = M.2.2 ∧ ∀ b, b ≠ 63 → b ≠ 64 → b ≠ 82 → N.2.1 b = M.2.1 b
theorem S3.rf {M : Mm} : S3 M M := ⟨rfl, rfl, fun _ _ _ _ => rfl⟩
theorem S3.fr {M N K : Mm} {c : Nat} (h : S3 M N) (hf : Fr c c N K) (hc : c = 63 ∨ c = 64 ∨ c = 82) : S3 M K := ⟨hf.1.trans h.1, hf.2.1.trans h.2.1, fun b h1 h2 h3 => (hf.2.2 b (by omega)).trans (h.2.2 b h1 h2 h3)⟩
theorem MI.s3 {M N : Mm} {s : Sx} {g : Nw} (h : MI M s) (hf : S3 M N) (hn : NowR N 63 g) (hg : Gd g) : MI (sI N 60 19 0) (setG s g) := by
  have z : MZ M (N.1, (fun b j => if b = 63 then M.2.1 63 j else N.2.1 b j), N.2.2) := by
    refine ⟨hf.1, hf.2.1, fun j hj => ?_, fun b hb => ?_⟩
    · show (if 60 = 63 then M.2.1 63 j else N.2.1 60 j) = _
      rw [if_neg (by decide), hf.2.2 60 (by decide) (by decide) (by decide)]
    · funext j
      show (if b = 63 then M.2.1 63 j else N.2.1 b j) = _
      by_cases h5 : b = 63
      · rw [if_pos h5, h5]
      · rw [if_neg h5, hf.2.2 b h5 (fun q => hb (by rw [q]; decide)) (fun q => hb (by rw [q]; decide))]
  refine (h.z z).net ⟨rfl, rfl, fun b hb => ?_⟩ hn hg
  funext j
  show _ = (if b = 63 then M.2.1 63 j else N.2.1 b j)
  rw [if_neg (by omega)]
theorem gof_mem (t : List Nat) (z : Nat) : (gof t 0).testBit z = true ↔ z ∈ t := by rw [gof_bit]; simp
theorem c_mshrink {B : Bd} {M : Mm} {s : Sx} {x : Int32} (h : MI M s) : Ct B mX6_shrink 21 0 0 [.ref 60, .int x] M (MPo M (sShrink s x)) := by
  refine Ct.of (by decide) rfl rfl (Nat.le_of_ble_eq_true rfl) ?_
  refine e_aload_n dX6_shrink_0 rfl rfl ?_
  refine e_iconst (v := 0) dX6_shrink_1 (by decide) ?_
  refine e_putI dX6_shrink_2 fRX6_72 (by exact h.1.sh rfl) rfl rfl rfl (fun _ _ => rfl) ?_
  generalize hM1 : sI M 60 0 0 = M1
  have h1 : MI M1 s := by rw [← hM1]; exact h.t
  have z1 : M1.2.1 60 0 = 0 := by rw [← hM1, rd_self]
  have f1 : FM M M1 := by rw [← hM1]; exact FM.rf.sI (by decide)
  have hg12 := h1.g12
  have wf := h1.wf
  refine e_aload_n dX6_shrink_5 rfl rfl ?_
  refine e_aload_n dX6_shrink_6 rfl rfl ?_
  refine e_iload_n dX6_shrink_7 rfl rfl ?_
  refine e_callV0i [_] dX6_shrink_8 mvmX6_isNode lkRX6_245 (by exact h1.1.sh rfl) ⟨by decide, rfl⟩ rfl rfl (Nat.le_of_ble_eq_true rfl) (by decide) (c_isNode h1.1 h1.now hg12) ?_
  cases hx : nod (sgg s) x with
  | none =>
    rw [if_neg (by simp)]
    refine e_if_ne (tgt := 18) dX6_shrink_11 (by decide) (fun hz => absurd rfl hz) (fun _ => ?_)
    refine e_iconst (v := 1) dX6_shrink_14 (by decide) ?_
    refine e_goto (tgt := 19) dX6_shrink_15 (by decide) ?_
    refine e_iconst (v := 1) dX6_shrink_19 (by decide) ?_
    refine e_iconst (v := 0) dX6_shrink_20 (by decide) ?_
    refine e_callV0i [_, _, _] dX6_shrink_21 mvmX6_bad lkRX6_159 (by exact h1.1.sh rfl) ⟨by decide, rfl⟩ rfl rfl (Nat.le_of_ble_eq_true rfl) (by decide) (c_bad1 (c := 0) (k := 0) h1.1 z1 (by decide) (by decide)) ?_
    refine e_if_ne (tgt := 49) dX6_shrink_24 (by decide) (fun _ => ?_) (fun hz => absurd hz (by decide))
    refine e_iconst (v := 0) dX6_shrink_49 (by decide) ?_
    refine e_iret dX6_shrink_50 rfl rfl ?_
    show MPo M (sShrink s x) _ _
    unfold sShrink
    rw [hx]
    exact mpo_rej h1 (by decide) f1
  | some a =>
    obtain ⟨ha, hxa⟩ := (nod_some hg12.2).mp hx
    subst hxa
    rw [if_pos (by rfl)]
    refine e_if_ne (tgt := 18) dX6_shrink_11 (by decide) (fun _ => ?_) (fun hz => absurd hz (by decide))
    refine e_iconst (v := 0) dX6_shrink_18 (by decide) ?_
    refine e_iconst (v := 1) dX6_shrink_19 (by decide) ?_
    refine e_iconst (v := 0) dX6_shrink_20 (by decide) ?_
    refine e_callV0i [_, _, _] dX6_shrink_21 mvmX6_bad lkRX6_159 (by exact h1.1.sh rfl) ⟨by decide, rfl⟩ rfl rfl (Nat.le_of_ble_eq_true rfl) (by decide) (c_bad0 h1.1 z1) ?_
    refine e_if_ne (tgt := 49) dX6_shrink_24 (by decide) (fun hz => absurd rfl hz) (fun _ => ?_)
    have gd := h1.2.2.2.1.2
    refine e_aload_n dX6_shrink_27 rfl rfl ?_
    refine e_aload_n dX6_shrink_28 rfl rfl ?_
    refine e_iload_n dX6_shrink_29 rfl rfl ?_
    refine e_callV1 [_] dX6_shrink_30 mvmX6_findsFlower lkRX6_263 (by exact h1.1.sh rfl) ⟨by decide, rfl⟩ rfl rfl (Nat.le_of_ble_eq_true rfl) (by decide) (c_findsFlower h1.1 h1.now gd ha) (fun u N2 h2 => ?_)
    obtain ⟨hu, zz, hr⟩ := h2
    subst hu
    have i2 := h1.z zz
    have z2 : N2.2.1 60 0 = 0 := by rw [zz.2.2.1 0 (by decide)]; exact z1
    have F2 := f1.trans zz.FM
    cases hp : flw (sgg s) a with
    | none =>
      have e9 : sShrink s (nI a) = rej 2 2 s := by unfold sShrink; rw [hx]; dsimp only; rw [hp]
      rw [e9]
      refine e_if_ne (tgt := 40) dX6_shrink_33 (by decide) (fun hz => absurd rfl hz) (fun _ => ?_)
      refine e_iconst (v := 1) dX6_shrink_36 (by decide) ?_
      refine e_goto (tgt := 41) dX6_shrink_37 (by decide) ?_
      refine e_iconst (v := 2) dX6_shrink_41 (by decide) ?_
      refine e_iconst (v := 2) dX6_shrink_42 (by decide) ?_
      refine e_callV0i [_, _, _] dX6_shrink_43 mvmX6_bad lkRX6_159 (by exact i2.1.sh rfl) ⟨by decide, rfl⟩ rfl rfl (Nat.le_of_ble_eq_true rfl) (by decide) (c_bad1 (c := 1) (k := 2) i2.1 z2 (by decide) (by decide)) ?_
      refine e_if_eq (tgt := 51) dX6_shrink_46 (by decide) (fun hz => absurd hz (by decide)) (fun _ => ?_)
      refine e_iconst (v := 0) dX6_shrink_49 (by decide) ?_
      exact e_iret dX6_shrink_50 rfl rfl (mpo_rej i2 (by decide) F2)
    | some l =>
      have e9 : sShrink s (nI a) = act s (nI (shrG (sgg s) a l).1) (shrG (sgg s) a l) := by unfold sShrink; rw [hx]; dsimp only; rw [hp]
      rw [e9]
      have hlen := flw_len gd ha hp
      obtain ⟨k, r, hv, hrl⟩ : ∃ k r, Vr (sgg s) a k r ∧ r.reverse = l := by
        have hp' := hp
        unfold flw at hp'
        cases hq : (wlk (sgg s) a).find? (fun r => ((sgg s).2.1 (hd r) a).isSome) with
        | none => rw [hq] at hp'; cases hp'
        | some r =>
          rw [hq] at hp'
          obtain ⟨k, hv⟩ := wlk_v wf ha (find_mem hq).1
          exact ⟨k, r, hv, Option.some.inj hp'⟩
      obtain ⟨hG1, hG0⟩ := gof_row hv
      rw [hrl] at hG1 hG0
      obtain ⟨t, htl⟩ : ∃ t, l = a :: t := by
        cases l with
        | nil => cases hG0
        | cons y t => exact ⟨t, by have : y = a := Option.some.inj hG0; rw [this]⟩
      have hGt : ∀ z, (gof t 0).testBit z = true ↔ z ∈ t := gof_mem t
      have hGe : gof t 0 = ex (so r) a := by rw [← hG1, htl]; rfl
      have hGp : Gp (sgg s) (gof t 0) := by rw [hGe]; exact Gp_row wf hv
      have hGa : (gof t 0).testBit a = false := by rw [hGe, ex_bit]; simp
      have ht12 : ∀ z, z ∈ t → z < (sgg s).1 := fun z hz => Vr_in wf ha hv z (by
        have : z ∈ l := by rw [htl]; exact List.mem_cons_of_mem _ hz
        rw [← hrl] at this
        exact List.mem_reverse.mp this)
      have hta : ∀ z, z ∈ t → z ≠ a := fun z hz q => by rw [← q, (hGt z).mpr hz] at hGa; cases hGa
      have hll : l.length = t.length + 1 := by rw [htl]; rfl
      have hrlen : r.length = l.length := by rw [← hrl, List.length_reverse]
      have hG4 : gof t 0 < 4096 := gof_lt hg12.2 ht12
      refine e_if_ne (tgt := 40) dX6_shrink_33 (by decide) (fun _ => ?_) (fun hz => absurd hz (by show ¬ (1 : Int32) = 0; decide))
      refine e_iconst (v := 0) dX6_shrink_40 (by decide) ?_
      refine e_iconst (v := 2) dX6_shrink_41 (by decide) ?_
      refine e_iconst (v := 2) dX6_shrink_42 (by decide) ?_
      refine e_callV0i [_, _, _] dX6_shrink_43 mvmX6_bad lkRX6_159 (by exact i2.1.sh rfl) ⟨by decide, rfl⟩ rfl rfl (Nat.le_of_ble_eq_true rfl) (by decide) (c_bad0 i2.1 z2) ?_
      refine e_if_eq (tgt := 51) dX6_shrink_46 (by decide) (fun _ => ?_) (fun hz => absurd rfl hz)
      refine e_aload_n dX6_shrink_51 rfl rfl ?_
      refine e_callV1 [] dX6_shrink_52 mvmX6_remembers lkRX6_171 (by exact i2.1.sh rfl) ⟨by decide, rfl⟩ rfl rfl (Nat.le_of_ble_eq_true rfl) (by decide) (c_remembers i2) (fun u N3 h3 => ?_)
      obtain ⟨hu, i3, r3⟩ := h3
      subst hu
      obtain ⟨p1, p2⟩ := hr l hp
      have q1 : N3.2.1 60 25 = nI (t.length + 1) := by rw [r3.2.2.1 25 (by decide), ← hll]; exact p1
      have q2 : ∀ i z, t[i]? = some z → N3.2.1 81 (i + 1) = nI z := fun i z hi => by rw [r3.2.2.2 81 (by decide) (by decide)]; exact p2 (i + 1) z (by rw [htl]; exact hi)
      have hnow3 : NowR N3 63 (sgg s) := i3.now
      have z3 : N3.2.1 60 0 = 0 := by rw [r3.2.2.1 0 (by decide)]; exact z2
      have F3 := F2.trans r3.FM
      have ok3 := i3.1
      generalize hΦ : MPo M (act s (nI (shrG (sgg s) a l).1) (shrG (sgg s) a l)) = Φ
      have hpop : pc (gof t 0) (sgg s).1 + 1 = l.length := by
        have e1 : pc (gof t 0) (sgg s).1 = pop (gof t 0) := by
          have : pop (gof t 0) = sm (btS (gof t 0)) (sgg s).1 := sm_up (fun i hi => by
            rw [if_neg]
            intro q
            have := ht12 i ((hGt i).mp q)
            omega) hg12.2
          rw [this]; rfl
        have e2 := pop_ex (Vr_lt wf ha hv) ((so_bit r a).mpr (Vr_a hv))
        have e3 := pop_so wf ha hv
        have e4 := Vr_len hv
        rw [e1, hGe, ← hrlen]
        omega
      have hLg : l.length ≤ (sgg s).1 := by rw [← hrlen, Vr_len hv]; exact Vr_k wf ha hv
      have fin : ∀ K n' W m (t4 t5 : Option Value), S3 N3 K → NowR K 63 (n', W, m) → n' = nus (gof t 0) (sgg s).1 → SW (sgg s) (wst (sgg s).2.1 a (gof t 0) t (sgg s).1) (gof t 0) (sgg s).1 0 W → SN (sgg s) (gof t 0) (sgg s).1 m → Ev B mX6_shrink 21 0 0 Φ 396 [some (.ref 60), some (.int (nI a)), some (.int (nI (gof t 0))), some (.int (nI n')), t4, t5] [] K := by
        intro K n' W m t4 t5 sK hK hn' hW hm
        have okK : OkM K := ok3.of sK.1 sK.2.1
        have hsh : ShrOf (sgg s) (gof t 0) a l.length (n', W, m) := Shr_model wf hGp hGt hGa ha (by rw [hn']; unfold nus; omega) hW hm
        have hsh' : ShrOf (sgg s) (gof (l.drop 1) 0) a l.length (n', W, m) := by rw [htl]; rw [htl] at hsh; exact hsh
        have hsg := shrG_eq hsh'
        have hgd : Gd (n', W, m) := by
          have h9 : ShrOf (sgg s) (ex (so r) a) a r.length (n', W, m) := by rw [← hGe, hrlen]; exact hsh
          exact Gd_shr gd ha hv h9
        have iK := i3.s3 sK hK hgd
        refine e_aload_n dX6_shrink_396 rfl rfl ?_
        refine e_callV0v [] dX6_shrink_397 mvmX6_changes lkRX6_69 (by exact okK.sh rfl) ⟨by decide, rfl⟩ rfl rfl (Nat.le_of_ble_eq_true rfl) (by decide) (c_changes okK) ?_
        refine e_iload_n dX6_shrink_400 rfl rfl ?_
        refine e_iret dX6_shrink_401 rfl rfl ?_
        rw [← hΦ, hsg]
        refine mpo_ok iK ?_ (F3.trans ?_)
        · rw [rd_ni (by decide), sK.2.2 60 (by decide) (by decide) (by decide)]; exact z3
        · refine ⟨sK.1, by show K.2.2.2 = _; rw [sK.2.1], fun b hb => ?_, fun b _ => by show K.2.2.1 b = _; rw [sK.2.1]⟩
          exact (sI_row (by omega)).trans (sK.2.2 b (by omega) (by omega) (by omega))
      have w1s : ∀ u v, wst (sgg s).2.1 a (gof t 0) t (sgg s).1 u v = wst (sgg s).2.1 a (gof t 0) t (sgg s).1 v u := fun u v => by
        unfold wst
        by_cases c1 : u = a ∧ v < (sgg s).1 ∧ v ≠ a ∧ (gof t 0).testBit v = false
        · rw [if_pos c1, if_neg (fun q => c1.2.2.1 q.1), if_pos c1]
        · rw [if_neg c1]
          by_cases c2 : v = a ∧ u < (sgg s).1 ∧ u ≠ a ∧ (gof t 0).testBit u = false
          · rw [if_pos c2, if_pos c2]
          · rw [if_neg c2, if_neg c2, if_neg c1, wf.2.1]
      have w1b : ∀ u v k, wst (sgg s).2.1 a (gof t 0) t (sgg s).1 u v = some k → k < 2 ^ 31 := fun u v k hk => by
        unfold wst at hk
        have key : ∀ b k, mxl (sgg s).2.1 b t ((sgg s).2.1 a b) = some k → k < 2 ^ 31 := fun b k hk => by
          rcases mxl_or _ _ _ _ _ hk with q | ⟨z, _, q⟩
          · exact wf.wb _ _ k q
          · exact wf.wb _ _ k q
        by_cases c1 : u = a ∧ v < (sgg s).1 ∧ v ≠ a ∧ (gof t 0).testBit v = false
        · rw [if_pos c1] at hk; exact key _ k hk
        · rw [if_neg c1] at hk
          by_cases c2 : v = a ∧ u < (sgg s).1 ∧ u ≠ a ∧ (gof t 0).testBit u = false
          · rw [if_pos c2] at hk; exact key _ k hk
          · rw [if_neg c2] at hk; exact wf.wb _ _ k hk
      -- the new network, row by row
      have build : ∀ n' K0, n' = nus (gof t 0) (sgg s).1 → S3 N3 K0 → NowR K0 64 ((sgg s).1, wst (sgg s).2.1 a (gof t 0) t (sgg s).1, (sgg s).2.2) → (∀ b, b < (sgg s).1 → K0.2.1 82 b = nI (nus (gof t 0) b)) → ∀ j x K W m (t5 : Option Value), x + j = (sgg s).1 → Fr 63 63 K0 K → NowR K 63 (n', W, m) → SW (sgg s) (wst (sgg s).2.1 a (gof t 0) t (sgg s).1) (gof t 0) x 0 W → SN (sgg s) (gof t 0) x m → Ev B mX6_shrink 21 0 0 Φ 260 [some (.ref 60), some (.int (nI a)), some (.int (nI (gof t 0))), some (.int (nI n')), some (.int (nI x)), t5] [] K := by
        intro n' K0 hn' s0 h66 h84 j
        have ok0 : OkM K0 := ok3.of s0.1 s0.2.1
        induction j with
        | zero =>
          intro x K W m t5 hxj fK hK hW hm
          have hxg : x = (sgg s).1 := by omega
          subst hxg
          have okK : OkM K := ok0.fr fK
          refine e_iload dX6_shrink_260 rfl ?_
          refine e_aload_n dX6_shrink_262 rfl rfl ?_
          refine e_getR dX6_shrink_263 fRX6_23 (by exact okK.sh rfl) (by exact okK.rf rfl) (fun _ => rfl) ?_
          refine e_iconst (v := 0) dX6_shrink_266 (by decide) ?_
          refine e_iaload dX6_shrink_267 (by exact okK.sh rfl) (by exact vp_in_nI (n := 0) (N := 157) (by decide) (by decide)) ?_
          have e0 : K.2.1 64 (0 : Int32).toNatClampNeg = nI (sgg s).1 := by rw [fK.2.2 64 (by omega)]; exact h66.1
          rw [e0]
          refine e_icmp_ge (tgt := 396) dX6_shrink_268 (by decide) (fun _ => ?_) (fun hz => absurd (nI_le (by omega) (by omega)) hz)
          exact fin K n' W m _ _ (s0.fr fK (Or.inl rfl)) hK hn' hW hm
        | succ j ih =>
          intro x K W m t5 hxj fK hK hW hm
          have okK : OkM K := ok0.fr fK
          have hx12 : x < 12 := by omega
          refine e_iload dX6_shrink_260 rfl ?_
          refine e_aload_n dX6_shrink_262 rfl rfl ?_
          refine e_getR dX6_shrink_263 fRX6_23 (by exact okK.sh rfl) (by exact okK.rf rfl) (fun _ => rfl) ?_
          refine e_iconst (v := 0) dX6_shrink_266 (by decide) ?_
          refine e_iaload dX6_shrink_267 (by exact okK.sh rfl) (by exact vp_in_nI (n := 0) (N := 157) (by decide) (by decide)) ?_
          have e0 : K.2.1 64 (0 : Int32).toNatClampNeg = nI (sgg s).1 := by rw [fK.2.2 64 (by omega)]; exact h66.1
          rw [e0]
          refine e_icmp_ge (tgt := 396) dX6_shrink_268 (by decide) (fun hz => absurd hz (nI_ge (by omega) (by omega))) (fun _ => ?_)
          refine e_iload_n dX6_shrink_271 rfl rfl ?_
          refine e_iload dX6_shrink_272 rfl ?_
          refine e_callS0i [_, _] dX6_shrink_274 msmX6_has lkRX6_183 rfl rfl (Nat.le_of_ble_eq_true rfl) (by decide) (c_has (by omega) (by omega)) ?_
          by_cases hGx : (gof t 0).testBit x = true
          · rw [if_pos hGx]
            refine e_if_eq (tgt := 283) dX6_shrink_277 (by decide) (fun hz => absurd hz (by decide)) (fun _ => ?_)
            refine e_goto (tgt := 390) dX6_shrink_280 (by decide) ?_
            refine e_iinc (v := nI (x + 1)) dX6_shrink_390 rfl (nI_1 x) (by decide) rfl rfl ?_
            refine e_goto (tgt := 260) dX6_shrink_393 (by decide) ?_
            refine ih (x + 1) K W m _ (by omega) fK hK (SW_cong hW (fun u v hu hv h1 h2 hp => ?_)) ⟨fun u hu hGu => ?_, hm.2⟩
            · rcases Nat.lt_or_ge u x with q | q
              · exact Or.inl q
              · have : u = x := by omega
                rw [this, hGx] at h1; cases h1
            · rcases Nat.lt_or_ge u x with q | q
              · exact hm.1 u q hGu
              · have : u = x := by omega
                rw [this, hGx] at hGu; cases hGu
          · rw [if_neg hGx]
            have hGx' : (gof t 0).testBit x = false := by simpa using hGx
            refine e_if_eq (tgt := 283) dX6_shrink_277 (by decide) (fun _ => ?_) (fun hz => absurd rfl hz)
            have n84 : ∀ b, b < (sgg s).1 → K.2.1 82 b = nI (nus (gof t 0) b) := fun b hb => by rw [fK.2.2 82 (by omega)]; exact h84 b hb
            have m66 : K.2.1 64 (1 + x) = wI ((sgg s).2.2 x) := by rw [fK.2.2 64 (by omega)]; exact h66.2.1 x hx12
            have hnx := nus_le (gof t 0) x
            -- behind the mate: the row
            have row : ∀ K1, Fr 63 63 K0 K1 → NowR K1 63 (n', W, m2 m (nus (gof t 0) x) (((sgg s).2.2 x).map (nus (gof t 0)))) → Ev B mX6_shrink 21 0 0 Φ 328 [some (.ref 60), some (.int (nI a)), some (.int (nI (gof t 0))), some (.int (nI n')), some (.int (nI x)), t5] [] K1 := by
              intro K1 f1 hK1
              have hm' : SN (sgg s) (gof t 0) (x + 1) (m2 m (nus (gof t 0) x) (((sgg s).2.2 x).map (nus (gof t 0)))) := by
                refine ⟨fun u hu hGu => ?_, fun i j hij => ?_⟩
                · unfold m2
                  by_cases hux : nus (gof t 0) u = nus (gof t 0) x
                  · rw [if_pos hux, nus_inj hGu hGx' hux]
                  · rw [if_neg hux]
                    refine hm.1 u ?_ hGu
                    rcases Nat.lt_or_ge u x with q | q
                    · exact q
                    · exact absurd (by rw [show u = x by omega]) hux
                · unfold m2 at hij
                  by_cases hix : i = nus (gof t 0) x
                  · rw [if_pos hix] at hij
                    cases hmx : (sgg s).2.2 x with
                    | none => rw [hmx] at hij; cases hij
                    | some v =>
                      rw [hmx] at hij
                      exact ⟨x, v, hmx, hGx', hix.symm, Option.some.inj hij⟩
                  · rw [if_neg hix] at hij
                    exact hm.2 i j hij
              have inner : ∀ j2 y K2 W2, y + j2 = x → Fr 63 63 K0 K2 → NowR K2 63 (n', W2, m2 m (nus (gof t 0) x) (((sgg s).2.2 x).map (nus (gof t 0)))) → SW (sgg s) (wst (sgg s).2.1 a (gof t 0) t (sgg s).1) (gof t 0) x y W2 → Ev B mX6_shrink 21 0 0 Φ 331 [some (.ref 60), some (.int (nI a)), some (.int (nI (gof t 0))), some (.int (nI n')), some (.int (nI x)), some (.int (nI y))] [] K2 := by
                intro j2
                induction j2 with
                | zero =>
                  intro y K2 W2 hy f2 hK2 hW2
                  refine e_iload dX6_shrink_331 rfl ?_
                  refine e_iload dX6_shrink_333 rfl ?_
                  refine e_icmp_ge (tgt := 390) dX6_shrink_335 (by decide) (fun _ => ?_) (fun hz => absurd (nI_le (by omega) (by omega)) hz)
                  refine e_iinc (v := nI (x + 1)) dX6_shrink_390 rfl (nI_1 x) (by decide) rfl rfl ?_
                  refine e_goto (tgt := 260) dX6_shrink_393 (by decide) ?_
                  exact ih (x + 1) K2 W2 _ _ (by omega) f2 hK2 (SW_cong hW2 (fun u v hu hv _ _ hp => by omega)) hm'
                | succ j2 ih2 =>
                  intro y K2 W2 hy f2 hK2 hW2
                  have ok2 : OkM K2 := ok0.fr f2
                  have n84' : ∀ b, b < (sgg s).1 → K2.2.1 82 b = nI (nus (gof t 0) b) := fun b hb => by rw [f2.2.2 82 (by omega)]; exact h84 b hb
                  have w66 : K2.2.1 64 (13 + 12 * x + y) = wI (wst (sgg s).2.1 a (gof t 0) t (sgg s).1 x y) := by rw [f2.2.2 64 (by omega)]; exact h66.2.2 x y hx12 (by omega)
                  have hny := nus_le (gof t 0) y
                  refine e_iload dX6_shrink_331 rfl ?_
                  refine e_iload dX6_shrink_333 rfl ?_
                  refine e_icmp_ge (tgt := 390) dX6_shrink_335 (by decide) (fun hz => absurd hz (nI_ge (by omega) (by omega))) (fun _ => ?_)
                  refine e_iload_n dX6_shrink_338 rfl rfl ?_
                  refine e_iload dX6_shrink_339 rfl ?_
                  refine e_callS0i [_, _] dX6_shrink_341 msmX6_has lkRX6_183 rfl rfl (Nat.le_of_ble_eq_true rfl) (by decide) (c_has (by omega) (by omega)) ?_
                  by_cases hGy : (gof t 0).testBit y = true
                  · rw [if_pos hGy]
                    refine e_if_ne (tgt := 384) dX6_shrink_344 (by decide) (fun _ => ?_) (fun hz => absurd hz (by decide))
                    refine e_iinc (v := nI (y + 1)) dX6_shrink_384 rfl (nI_1 y) (by decide) rfl rfl ?_
                    refine e_goto (tgt := 331) dX6_shrink_387 (by decide) ?_
                    refine ih2 (y + 1) K2 W2 (by omega) f2 hK2 (SW_cong hW2 (fun u v hu hv h1 h2 hp => ?_))
                    rcases hp with q | ⟨q1, q2⟩
                    · exact Or.inl q
                    · refine Or.inr ⟨q1, ?_⟩
                      rcases Nat.lt_or_ge v y with z | z
                      · exact z
                      · have : v = y := by omega
                        rw [this, hGy] at h2; cases h2
                  · rw [if_neg hGy]
                    have hGy' : (gof t 0).testBit y = false := by simpa using hGy
                    refine e_if_ne (tgt := 384) dX6_shrink_344 (by decide) (fun hz => absurd rfl hz) (fun _ => ?_)
                    refine e_aload_n dX6_shrink_347 rfl rfl ?_
                    refine e_getR dX6_shrink_348 fRX6_20 (by exact ok2.sh rfl) (by exact ok2.rf rfl) (fun _ => rfl) ?_
                    refine e_aload_n dX6_shrink_351 rfl rfl ?_
                    refine e_getR dX6_shrink_352 fRX6_58 (by exact ok2.sh rfl) (by exact ok2.rf rfl) (fun _ => rfl) ?_
                    refine e_iload dX6_shrink_355 rfl ?_
                    refine e_iaload dX6_shrink_357 (by exact ok2.sh rfl) (by first | exact vp_in_nI (show x < 12 by omega) (by decide) | exact vp_in_nI (show y < 12 by omega) (by decide) | exact vp_in_nI (show 13 + 12 * x + y < 157 by omega) (by decide)) ?_
                    rw [nI_clamp (by omega), n84' x (by omega)]
                    refine e_aload_n dX6_shrink_358 rfl rfl ?_
                    refine e_getR dX6_shrink_359 fRX6_58 (by exact ok2.sh rfl) (by exact ok2.rf rfl) (fun _ => rfl) ?_
                    refine e_iload dX6_shrink_362 rfl ?_
                    refine e_iaload dX6_shrink_364 (by exact ok2.sh rfl) (by first | exact vp_in_nI (show x < 12 by omega) (by decide) | exact vp_in_nI (show y < 12 by omega) (by decide) | exact vp_in_nI (show 13 + 12 * x + y < 157 by omega) (by decide)) ?_
                    rw [nI_clamp (by omega), n84' y (by omega)]
                    refine e_aload_n dX6_shrink_365 rfl rfl ?_
                    refine e_getR dX6_shrink_366 fRX6_23 (by exact ok2.sh rfl) (by exact ok2.rf rfl) (fun _ => rfl) ?_
                    refine e_bipush (v := 13) dX6_shrink_369 (by decide) ?_
                    refine e_bipush (v := 12) dX6_shrink_371 (by decide) ?_
                    refine e_iload dX6_shrink_373 rfl ?_
                    refine e_imul dX6_shrink_375 ?_
                    refine e_iadd dX6_shrink_376 ?_
                    refine e_iload dX6_shrink_377 rfl ?_
                    refine e_iadd dX6_shrink_379 ?_
                    rw [e13]
                    refine e_iaload dX6_shrink_380 (by exact ok2.sh rfl) (by first | exact vp_in_nI (show x < 12 by omega) (by decide) | exact vp_in_nI (show y < 12 by omega) (by decide) | exact vp_in_nI (show 13 + 12 * x + y < 157 by omega) (by decide)) ?_
                    rw [nI_clamp (by omega), w66]
                    refine e_callS0v [_, _, _, _] dX6_shrink_381 msmX6_joins lkRX6_65 rfl rfl (Nat.le_of_ble_eq_true rfl) (by decide) (c_joins (r := 63) (v := wI (wst (sgg s).2.1 a (gof t 0) t (sgg s).1 x y)) (ok2.sh rfl) (by omega : nus (gof t 0) x < 12) (by omega : nus (gof t 0) y < 12)) ?_
                    refine e_iinc (v := nI (y + 1)) dX6_shrink_384 rfl (nI_1 y) (by decide) rfl rfl ?_
                    refine e_goto (tgt := 331) dX6_shrink_387 (by decide) ?_
                    exact ih2 (y + 1) _ _ (by omega) ((f2.sI (by decide) (by decide)).sI (by decide) (by decide)) (hK2.join (v := wst (sgg s).2.1 a (gof t 0) t (sgg s).1 x y) (by omega) (by omega)) (SW_step hW2 w1s (by omega) (by omega) hGx' hGy')
              refine e_iconst (v := 0) dX6_shrink_328 (by decide) ?_
              refine e_istore dX6_shrink_329 (by decide) rfl rfl ?_
              exact inner x 0 K1 W (by omega) f1 hK1 hW
            refine e_aload_n dX6_shrink_283 rfl rfl ?_
            refine e_getR dX6_shrink_284 fRX6_20 (by exact okK.sh rfl) (by exact okK.rf rfl) (fun _ => rfl) ?_
            refine e_iconst (v := 1) dX6_shrink_287 (by decide) ?_
            refine e_aload_n dX6_shrink_288 rfl rfl ?_
            refine e_getR dX6_shrink_289 fRX6_58 (by exact okK.sh rfl) (by exact okK.rf rfl) (fun _ => rfl) ?_
            refine e_iload dX6_shrink_292 rfl ?_
            refine e_iaload dX6_shrink_294 (by exact okK.sh rfl) (by exact vp_in_nI (show x < 12 by omega) (by decide)) ?_
            rw [nI_clamp (by omega), n84 x (by omega)]
            refine e_iadd dX6_shrink_295 ?_
            rw [e1p]
            refine e_aload_n dX6_shrink_296 rfl rfl ?_
            refine e_getR dX6_shrink_297 fRX6_23 (by exact okK.sh rfl) (by exact okK.rf rfl) (fun _ => rfl) ?_
            refine e_iconst (v := 1) dX6_shrink_300 (by decide) ?_
            refine e_iload dX6_shrink_301 rfl ?_
            refine e_iadd dX6_shrink_303 ?_
            rw [e1p]
            refine e_iaload dX6_shrink_304 (by exact okK.sh rfl) (by exact vp_in_nI (show 1 + x < 157 by omega) (by decide)) ?_
            rw [nI_clamp (by omega), m66]
            refine e_iconst (v := (-1)) dX6_shrink_305 (by decide) ?_
            have hn := wI_none (wf.mb x)
            cases hmx : (sgg s).2.2 x with
            | none =>
              refine e_icmp_ne (tgt := 313) dX6_shrink_306 (by decide) (fun hz => absurd rfl hz) (fun _ => ?_)
              rw [hmx] at row
              refine e_iconst (v := (-1)) dX6_shrink_309 (by decide) ?_
              refine e_goto (tgt := 327) dX6_shrink_310 (by decide) ?_
              refine e_iastore (n := 157) dX6_shrink_327 (okK.sh rfl) (vp_in_nI (show 1 + nus (gof t 0) x < 157 by omega) (by decide)) ?_
              rw [nI_clamp (by omega)]
              exact row _ (fK.sI (by decide) (by decide)) (hK.m1 (v := none) (by omega))
            | some v =>
              rw [hmx] at hn row m66
              have hv12 := (wf.2.2.2.2 x v hmx).2.2.1
              refine e_icmp_ne (tgt := 313) dX6_shrink_306 (by decide) (fun _ => ?_) (fun hz => by cases hn.mp hz)
              refine e_aload_n dX6_shrink_313 rfl rfl ?_
              refine e_getR dX6_shrink_314 fRX6_58 (by exact okK.sh rfl) (by exact okK.rf rfl) (fun _ => rfl) ?_
              refine e_aload_n dX6_shrink_317 rfl rfl ?_
              refine e_getR dX6_shrink_318 fRX6_23 (by exact okK.sh rfl) (by exact okK.rf rfl) (fun _ => rfl) ?_
              refine e_iconst (v := 1) dX6_shrink_321 (by decide) ?_
              refine e_iload dX6_shrink_322 rfl ?_
              refine e_iadd dX6_shrink_324 ?_
              rw [e1p]
              refine e_iaload dX6_shrink_325 (by exact okK.sh rfl) (by exact vp_in_nI (show 1 + x < 157 by omega) (by decide)) ?_
              rw [nI_clamp (by omega), m66]
              refine e_iaload (n := 12) dX6_shrink_326 (okK.sh rfl) (vp_in_nI (show v < 12 by omega) (by decide)) ?_
              have ev : (wI (some v)).toNatClampNeg = v := nI_clamp (by omega)
              rw [ev, n84 v (by omega)]
              refine e_iastore (n := 157) dX6_shrink_327 (okK.sh rfl) (vp_in_nI (show 1 + nus (gof t 0) x < 157 by omega) (by decide)) ?_
              rw [nI_clamp (by omega)]
              exact row _ (fK.sI (by decide) (by decide)) (hK.m1 (v := some (nus (gof t 0) v)) (by omega))
      -- numbers, then the copy
      have numb : ∀ j b K (t5 : Option Value), b + j = (sgg s).1 → S3 N3 K → NowR K 63 ((sgg s).1, wst (sgg s).2.1 a (gof t 0) t (sgg s).1, (sgg s).2.2) → (∀ c, c < b → K.2.1 82 c = nI (nus (gof t 0) c)) → Ev B mX6_shrink 21 0 0 Φ 192 [some (.ref 60), some (.int (nI a)), some (.int (nI (gof t 0))), some (.int (nI (nus (gof t 0) b))), some (.int (nI b)), t5] [] K := by
        intro j
        induction j with
        | zero =>
          intro b K t5 hbj sK hK h84
          have hbg : b = (sgg s).1 := by omega
          subst hbg
          have okK : OkM K := ok3.of sK.1 sK.2.1
          refine e_iload dX6_shrink_192 rfl ?_
          refine e_aload_n dX6_shrink_194 rfl rfl ?_
          refine e_callV0i [] dX6_shrink_195 mvmX6_nodes lkRX6_181 (by exact okK.sh rfl) ⟨by decide, rfl⟩ rfl rfl (Nat.le_of_ble_eq_true rfl) (by decide) (c_nodes okK hK) ?_
          refine e_icmp_ge (tgt := 232) dX6_shrink_198 (by decide) (fun _ => ?_) (fun hz => absurd (nI_le (by show (sgg s).1 ≤ (sgg s).1; omega) (by omega)) hz)
          refine e_aload_n dX6_shrink_232 rfl rfl ?_
          refine e_getR dX6_shrink_233 fRX6_20 (by exact okK.sh rfl) (by exact okK.rf rfl) (fun _ => rfl) ?_
          refine e_aload_n dX6_shrink_236 rfl rfl ?_
          refine e_getR dX6_shrink_237 fRX6_23 (by exact okK.sh rfl) (by exact okK.rf rfl) (fun _ => rfl) ?_
          refine e_callS1 [_, _] dX6_shrink_240 msmX6_copies lkRX6_174 rfl rfl (Nat.le_of_ble_eq_true rfl) (by decide) (c_copies (a := 63) (b := 64) (okK.sh rfl) (okK.sh rfl) (by decide)) (fun u K1 hq => ?_)
          obtain ⟨hu, k1, k2⟩ := hq
          subst hu
          have ok1 : OkM K1 := okK.fr k1
          refine e_aload_n dX6_shrink_243 rfl rfl ?_
          refine e_getR dX6_shrink_244 fRX6_20 (by exact ok1.sh rfl) (by exact ok1.rf rfl) (fun _ => rfl) ?_
          refine e_callS1 [_] dX6_shrink_247 msmX6_begins lkRX6_61 rfl rfl (Nat.le_of_ble_eq_true rfl) (by decide) (c_begins (a := 63) (ok1.sh rfl)) (fun u K2 hq => ?_)
          obtain ⟨hu, k3, k4⟩ := hq
          subst hu
          have ok2 : OkM K2 := ok1.fr k3
          refine e_aload_n dX6_shrink_250 rfl rfl ?_
          refine e_getR dX6_shrink_251 fRX6_20 (by exact ok2.sh rfl) (by exact ok2.rf rfl) (fun _ => rfl) ?_
          refine e_iconst (v := 0) dX6_shrink_254 (by decide) ?_
          refine e_iload_n dX6_shrink_255 rfl rfl ?_
          refine e_iastore dX6_shrink_256 (by exact ok2.sh rfl) (by exact vp_in_nI (n := 0) (N := 157) (by decide) (by decide)) ?_
          refine e_iconst (v := 0) dX6_shrink_257 (by decide) ?_
          refine e_istore dX6_shrink_258 (by decide) rfl rfl ?_
          generalize hK3 : sI K2 63 (0 : Int32).toNatClampNeg (nI (nus (gof t 0) (sgg s).1)) = K3
          have f3 : Fr 63 63 K1 K3 := by rw [← hK3]; exact k3.sI (by decide) (by decide)
          have h66 : NowR K1 64 ((sgg s).1, wst (sgg s).2.1 a (gof t 0) t (sgg s).1, (sgg s).2.2) := hK.copy k2
          refine build _ K1 rfl (sK.fr k1 (Or.inr (Or.inl rfl))) h66 (fun b hb => by rw [k1.2.2 82 (by omega)]; exact h84 b hb) (sgg s).1 0 K3 (fun _ _ => none) (fun _ => none) _ (by omega) f3 ?_ ⟨fun _ _ => rfl, fun u v _ _ _ _ hp => by omega, fun i j k hk => by cases hk⟩ ⟨fun u hu => by omega, fun i j hij => by cases hij⟩
          have r0 : ∀ i, i ≠ 0 → i < 157 → K3.2.1 63 i = -1 := fun i hi h157 => by rw [← hK3, rd_ni (by show i ≠ 0; exact hi)]; exact k4 i h157
          refine ⟨?_, fun x hx => r0 _ (by omega) (by omega), fun x y hx hy => r0 _ (by omega) (by omega)⟩
          rw [← hK3]
          exact rd_self _ _ _ _
        | succ j ih =>
          intro b K t5 hbj sK hK h84
          have okK : OkM K := ok3.of sK.1 sK.2.1
          have go : ∀ K', K' = sI K 82 b (nI (nus (gof t 0) b)) → Ev B mX6_shrink 21 0 0 Φ 192 [some (.ref 60), some (.int (nI a)), some (.int (nI (gof t 0))), some (.int (nI (nus (gof t 0) (b + 1)))), some (.int (nI (b + 1))), t5] [] K' := by
            intro K' hK'
            subst hK'
            have f84 : Fr 82 82 K (sI K 82 b (nI (nus (gof t 0) b))) := Fr.rf.sI (by decide) (by decide)
            refine ih (b + 1) _ t5 (by omega) (sK.fr f84 (Or.inr (Or.inr rfl))) (hK.fr f84 (by omega)) (fun c hc => ?_)
            by_cases hcb : c = b
            · rw [hcb, rd_self]
            · rw [rd_ni hcb]; exact h84 c (by omega)
          have hs1 := nus_s (gof t 0) b
          refine e_iload dX6_shrink_192 rfl ?_
          refine e_aload_n dX6_shrink_194 rfl rfl ?_
          refine e_callV0i [] dX6_shrink_195 mvmX6_nodes lkRX6_181 (by exact okK.sh rfl) ⟨by decide, rfl⟩ rfl rfl (Nat.le_of_ble_eq_true rfl) (by decide) (c_nodes okK hK) ?_
          refine e_icmp_ge (tgt := 232) dX6_shrink_198 (by decide) (fun hz => absurd hz (nI_ge (by show b < (sgg s).1; omega) (by show (sgg s).1 < _; omega))) (fun _ => ?_)
          refine e_aload_n dX6_shrink_201 rfl rfl ?_
          refine e_getR dX6_shrink_202 fRX6_58 (by exact okK.sh rfl) (by exact okK.rf rfl) (fun _ => rfl) ?_
          refine e_iload dX6_shrink_205 rfl ?_
          refine e_iload_n dX6_shrink_207 rfl rfl ?_
          refine e_iastore dX6_shrink_208 (by exact okK.sh rfl) (by exact vp_in_nI (show b < 12 by omega) (by decide)) ?_
          rw [nI_clamp (by omega)]
          refine e_iload_n dX6_shrink_209 rfl rfl ?_
          refine e_iload_n dX6_shrink_210 rfl rfl ?_
          refine e_iload dX6_shrink_211 rfl ?_
          refine e_callS0i [_, _] dX6_shrink_213 msmX6_has lkRX6_183 rfl rfl (Nat.le_of_ble_eq_true rfl) (by decide) (c_has (by omega) (by omega)) ?_
          by_cases hGb : (gof t 0).testBit b = true
          · rw [if_pos hGb] at hs1 ⊢
            rw [hs1] at go
            refine e_if_eq (tgt := 223) dX6_shrink_216 (by decide) (fun hz => absurd hz (by decide)) (fun _ => ?_)
            refine e_iconst (v := 0) dX6_shrink_219 (by decide) ?_
            refine e_goto (tgt := 224) dX6_shrink_220 (by decide) ?_
            refine e_iadd dX6_shrink_224 ?_
            rw [show nI (nus (gof t 0) b) + 0 = nI (nus (gof t 0) b + 0) from nI_add _ 0]
            refine e_istore_n dX6_shrink_225 rfl (by decide) rfl rfl ?_
            refine e_iinc (v := nI (b + 1)) dX6_shrink_226 rfl (nI_1 b) (by decide) rfl rfl ?_
            refine e_goto (tgt := 192) dX6_shrink_229 (by decide) ?_
            exact go _ rfl
          · rw [if_neg hGb] at hs1 ⊢
            rw [hs1] at go
            refine e_if_eq (tgt := 223) dX6_shrink_216 (by decide) (fun _ => ?_) (fun hz => absurd rfl hz)
            refine e_iconst (v := 1) dX6_shrink_223 (by decide) ?_
            refine e_iadd dX6_shrink_224 ?_
            rw [nI_1]
            refine e_istore_n dX6_shrink_225 rfl (by decide) rfl rfl ?_
            refine e_iinc (v := nI (b + 1)) dX6_shrink_226 rfl (nI_1 b) (by decide) rfl rfl ?_
            refine e_goto (tgt := 192) dX6_shrink_229 (by decide) ?_
            exact go _ rfl
      -- the lines of those that go
      have take : ∀ j b K (t5 : Option Value), b + j = (sgg s).1 → Fr 63 63 N3 K → NowR K 63 ((sgg s).1, wst (sgg s).2.1 a (gof t 0) t b, (sgg s).2.2) → Ev B mX6_shrink 21 0 0 Φ 92 [some (.ref 60), some (.int (nI a)), some (.int (nI (gof t 0))), some (.int 0), some (.int (nI b)), t5] [] K := by
        intro j
        induction j with
        | zero =>
          intro b K t5 hbj fK hK
          have hbg : b = (sgg s).1 := by omega
          subst hbg
          have okK : OkM K := ok3.fr fK
          refine e_iload dX6_shrink_92 rfl ?_
          refine e_aload_n dX6_shrink_94 rfl rfl ?_
          refine e_callV0i [] dX6_shrink_95 mvmX6_nodes lkRX6_181 (by exact okK.sh rfl) ⟨by decide, rfl⟩ rfl rfl (Nat.le_of_ble_eq_true rfl) (by decide) (c_nodes okK hK) ?_
          refine e_icmp_ge (tgt := 189) dX6_shrink_98 (by decide) (fun _ => ?_) (fun hz => absurd (nI_le (by show (sgg s).1 ≤ (sgg s).1; omega) (by omega)) hz)
          refine e_iconst (v := 0) dX6_shrink_189 (by decide) ?_
          refine e_istore dX6_shrink_190 (by decide) rfl rfl ?_
          exact numb (sgg s).1 0 K _ (by omega) (S3.rf.fr fK (Or.inl rfl)) hK (fun c hc => by omega)
        | succ j ih =>
          intro b K t5 hbj fK hK
          have okK : OkM K := ok3.fr fK
          -- b stays as it is
          have skip : (b = a ∨ (gof t 0).testBit b = true) → Ev B mX6_shrink 21 0 0 Φ 183 [some (.ref 60), some (.int (nI a)), some (.int (nI (gof t 0))), some (.int 0), some (.int (nI b)), t5] [] K := by
            intro hc
            refine e_iinc (v := nI (b + 1)) dX6_shrink_183 rfl (nI_1 b) (by decide) rfl rfl ?_
            refine e_goto (tgt := 92) dX6_shrink_186 (by decide) ?_
            exact ih (b + 1) K t5 (by omega) fK (by rw [wst_skip hc]; exact hK)
          refine e_iload dX6_shrink_92 rfl ?_
          refine e_aload_n dX6_shrink_94 rfl rfl ?_
          refine e_callV0i [] dX6_shrink_95 mvmX6_nodes lkRX6_181 (by exact okK.sh rfl) ⟨by decide, rfl⟩ rfl rfl (Nat.le_of_ble_eq_true rfl) (by decide) (c_nodes okK hK) ?_
          refine e_icmp_ge (tgt := 189) dX6_shrink_98 (by decide) (fun hz => absurd hz (nI_ge (by show b < (sgg s).1; omega) (by show (sgg s).1 < _; omega))) (fun _ => ?_)
          refine e_iload dX6_shrink_101 rfl ?_
          refine e_iload_n dX6_shrink_103 rfl rfl ?_
          refine e_icmp_eq (tgt := 183) dX6_shrink_104 (by decide) (fun hz => skip (Or.inl ((nI_eq (by omega) (by omega)).mp hz))) (fun hz => ?_)
          have hba : b ≠ a := fun q => hz (by rw [q])
          refine e_iload_n dX6_shrink_107 rfl rfl ?_
          refine e_iload dX6_shrink_108 rfl ?_
          refine e_callS0i [_, _] dX6_shrink_110 msmX6_has lkRX6_183 rfl rfl (Nat.le_of_ble_eq_true rfl) (by decide) (c_has (by omega) (by omega)) ?_
          by_cases hGb : (gof t 0).testBit b = true
          · rw [if_pos hGb]
            refine e_if_eq (tgt := 119) dX6_shrink_113 (by decide) (fun hz => absurd hz (by decide)) (fun _ => ?_)
            refine e_goto (tgt := 183) dX6_shrink_116 (by decide) ?_
            exact skip (Or.inr hGb)
          · rw [if_neg hGb]
            have hGb' : (gof t 0).testBit b = false := by simpa using hGb
            refine e_if_eq (tgt := 119) dX6_shrink_113 (by decide) (fun _ => ?_) (fun hz => absurd rfl hz)
            have each : ∀ (rest pre : List Nat) K2, pre ++ rest = t → Fr 63 63 N3 K2 → NowR K2 63 ((sgg s).1, w2 (wst (sgg s).2.1 a (gof t 0) t b) a b (mxl (sgg s).2.1 b pre ((sgg s).2.1 a b)), (sgg s).2.2) → Ev B mX6_shrink 21 0 0 Φ 122 [some (.ref 60), some (.int (nI a)), some (.int (nI (gof t 0))), some (.int 0), some (.int (nI b)), some (.int (nI (pre.length + 1)))] [] K2 := by
              intro rest
              induction rest with
              | nil =>
                intro pre K2 hap f2 hK2
                rw [List.append_nil] at hap
                have ok2 : OkM K2 := ok3.fr f2
                refine e_iload dX6_shrink_122 rfl ?_
                refine e_aload_n dX6_shrink_124 rfl rfl ?_
                refine e_getI dX6_shrink_125 fRX6_236 (by exact ok2.sh rfl) (fun _ => rfl) ?_
                rw [f2.2.2 60 (by omega), q1, hap]
                refine e_icmp_ge (tgt := 183) dX6_shrink_128 (by decide) (fun _ => ?_) (fun hz => absurd (nI_le (Nat.le_refl _) (by omega)) hz)
                refine e_iinc (v := nI (b + 1)) dX6_shrink_183 rfl (nI_1 b) (by decide) rfl rfl ?_
                refine e_goto (tgt := 92) dX6_shrink_186 (by decide) ?_
                rw [hap, wst_step hba hGb'] at hK2
                exact ih (b + 1) K2 _ (by omega) f2 hK2
              | cons z rest ih2 =>
                intro pre K2 hap f2 hK2
                have ok2 : OkM K2 := ok3.fr f2
                have hz : t[pre.length]? = some z := by rw [← hap, List.getElem?_append_right (Nat.le_refl _), Nat.sub_self]; rfl
                have hzt : z ∈ t := List.mem_of_getElem? hz
                have hz12 := ht12 z hzt
                have hza := hta z hzt
                have hlt : pre.length < t.length := by rw [← hap]; simp
                have e83 : K2.2.1 81 (pre.length + 1) = nI z := by rw [f2.2.2 81 (by omega)]; exact q2 _ _ hz
                have wz : (w2 (wst (sgg s).2.1 a (gof t 0) t b) a b (mxl (sgg s).2.1 b pre ((sgg s).2.1 a b))) z b = (sgg s).2.1 z b := by
                  unfold w2
                  rw [if_neg (by
                    rintro (⟨h1, _⟩ | ⟨_, h2⟩)
                    · exact hza h1
                    · exact hba h2)]
                  exact wst_g ((hGt z).mpr hzt) hza hba
                have wa : (w2 (wst (sgg s).2.1 a (gof t 0) t b) a b (mxl (sgg s).2.1 b pre ((sgg s).2.1 a b))) a b = mxl (sgg s).2.1 b pre ((sgg s).2.1 a b) := w2_a _ _ _ _
                have vb : ∀ k, mxl (sgg s).2.1 b pre ((sgg s).2.1 a b) = some k → k < 2 ^ 31 := fun k hk => by
                  rcases mxl_or _ _ _ _ _ hk with q | ⟨y, _, q⟩
                  · exact wf.wb _ _ k q
                  · exact wf.wb _ _ k q
                obtain ⟨om1, om2⟩ := wI_omx vb (wf.wb z b)
                have hap2 : pre ++ [z] ++ rest = t := by rw [List.append_assoc]; exact hap
                refine e_iload dX6_shrink_122 rfl ?_
                refine e_aload_n dX6_shrink_124 rfl rfl ?_
                refine e_getI dX6_shrink_125 fRX6_236 (by exact ok2.sh rfl) (fun _ => rfl) ?_
                rw [f2.2.2 60 (by omega), q1]
                refine e_icmp_ge (tgt := 183) dX6_shrink_128 (by decide) (fun hz => absurd hz (nI_ge (by omega) (by omega))) (fun _ => ?_)
                refine e_aload_n dX6_shrink_131 rfl rfl ?_
                refine e_aload_n dX6_shrink_132 rfl rfl ?_
                refine e_getR dX6_shrink_133 fRX6_55 (by exact ok2.sh rfl) (by exact ok2.rf rfl) (fun _ => rfl) ?_
                refine e_iload dX6_shrink_136 rfl ?_
                refine e_iaload dX6_shrink_138 (by exact ok2.sh rfl) (by exact vp_in_nI (show pre.length + 1 < 13 by omega) (by decide)) ?_
                refine e_iload dX6_shrink_139 rfl ?_
                rw [nI_clamp (by omega), e83]
                refine e_callV0i [_, _] dX6_shrink_141 mvmX6_weight lkRX6_203 (by exact ok2.sh rfl) ⟨by decide, rfl⟩ rfl rfl (Nat.le_of_ble_eq_true rfl) (by decide) (c_weight ok2 hK2 (by omega) (by omega)) ?_
                rw [show ((sgg s).1, w2 (wst (sgg s).2.1 a (gof t 0) t b) a b (mxl (sgg s).2.1 b pre ((sgg s).2.1 a b)), (sgg s).2.2).2.1 z b = (sgg s).2.1 z b from wz]
                refine e_aload_n dX6_shrink_144 rfl rfl ?_
                refine e_iload_n dX6_shrink_145 rfl rfl ?_
                refine e_iload dX6_shrink_146 rfl ?_
                refine e_callV0i [_, _] dX6_shrink_148 mvmX6_weight lkRX6_203 (by exact ok2.sh rfl) ⟨by decide, rfl⟩ rfl rfl (Nat.le_of_ble_eq_true rfl) (by decide) (c_weight ok2 hK2 (by omega) (by omega)) ?_
                rw [show ((sgg s).1, w2 (wst (sgg s).2.1 a (gof t 0) t b) a b (mxl (sgg s).2.1 b pre ((sgg s).2.1 a b)), (sgg s).2.2).2.1 a b = mxl (sgg s).2.1 b pre ((sgg s).2.1 a b) from wa]
                have go : ∀ K3, Fr 63 63 N3 K3 → NowR K3 63 ((sgg s).1, w2 (wst (sgg s).2.1 a (gof t 0) t b) a b (omx (mxl (sgg s).2.1 b pre ((sgg s).2.1 a b)) ((sgg s).2.1 z b)), (sgg s).2.2) → Ev B mX6_shrink 21 0 0 Φ 177 [some (.ref 60), some (.int (nI a)), some (.int (nI (gof t 0))), some (.int 0), some (.int (nI b)), some (.int (nI (pre.length + 1)))] [] K3 := by
                  intro K3 f3 hK3
                  refine e_iinc (v := nI ((pre ++ [z]).length + 1)) dX6_shrink_177 rfl (by rw [List.length_append]; exact nI_1 _) (by decide) rfl rfl ?_
                  refine e_goto (tgt := 122) dX6_shrink_180 (by decide) ?_
                  exact ih2 (pre ++ [z]) K3 hap2 f3 (by rw [mxl_ap]; exact hK3)
                refine e_icmp_le (tgt := 177) dX6_shrink_151 (by decide) (fun hle => ?_) (fun hle => ?_)
                · refine go K2 f2 ?_
                  rw [om1 hle]; exact hK2
                · refine e_aload_n dX6_shrink_154 rfl rfl ?_
                  refine e_getR dX6_shrink_155 fRX6_20 (by exact ok2.sh rfl) (by exact ok2.rf rfl) (fun _ => rfl) ?_
                  refine e_iload_n dX6_shrink_158 rfl rfl ?_
                  refine e_iload dX6_shrink_159 rfl ?_
                  refine e_aload_n dX6_shrink_161 rfl rfl ?_
                  refine e_aload_n dX6_shrink_162 rfl rfl ?_
                  refine e_getR dX6_shrink_163 fRX6_55 (by exact ok2.sh rfl) (by exact ok2.rf rfl) (fun _ => rfl) ?_
                  refine e_iload dX6_shrink_166 rfl ?_
                  refine e_iaload dX6_shrink_168 (by exact ok2.sh rfl) (by exact vp_in_nI (show pre.length + 1 < 13 by omega) (by decide)) ?_
                  refine e_iload dX6_shrink_169 rfl ?_
                  rw [nI_clamp (by omega), e83]
                  refine e_callV0i [_, _] dX6_shrink_171 mvmX6_weight lkRX6_203 (by exact ok2.sh rfl) ⟨by decide, rfl⟩ rfl rfl (Nat.le_of_ble_eq_true rfl) (by decide) (c_weight ok2 hK2 (by omega) (by omega)) ?_
                  rw [show ((sgg s).1, w2 (wst (sgg s).2.1 a (gof t 0) t b) a b (mxl (sgg s).2.1 b pre ((sgg s).2.1 a b)), (sgg s).2.2).2.1 z b = (sgg s).2.1 z b from wz]
                  refine e_callS0v [_, _, _, _] dX6_shrink_174 msmX6_joins lkRX6_65 rfl rfl (Nat.le_of_ble_eq_true rfl) (by decide) (c_joins (r := 63) (v := wI ((sgg s).2.1 z b)) (ok2.sh rfl) (by omega : a < 12) (by omega : b < 12)) ?_
                  refine go _ ((f2.sI (by decide) (by decide)).sI (by decide) (by decide)) ?_
                  rw [om2 hle]
                  have hj := hK2.join (v := (sgg s).2.1 z b) (by omega : a < 12) (by omega : b < 12)
                  have ew : gPut ((sgg s).1, w2 (wst (sgg s).2.1 a (gof t 0) t b) a b (mxl (sgg s).2.1 b pre ((sgg s).2.1 a b)), (sgg s).2.2) a b ((sgg s).2.1 z b) = ((sgg s).1, w2 (wst (sgg s).2.1 a (gof t 0) t b) a b ((sgg s).2.1 z b), (sgg s).2.2) := by
                    unfold gPut
                    show (_, w2 (w2 (wst (sgg s).2.1 a (gof t 0) t b) a b _) a b _, _) = _
                    rw [w2_2]
                  rw [ew] at hj
                  exact hj
            refine e_iconst (v := 1) dX6_shrink_119 (by decide) ?_
            refine e_istore dX6_shrink_120 (by decide) rfl rfl ?_
            refine each t [] K rfl fK ?_
            show NowR K 63 ((sgg s).1, w2 (wst (sgg s).2.1 a (gof t 0) t b) a b ((sgg s).2.1 a b), (sgg s).2.2)
            rw [wst_at wf.2.1]; exact hK
      have gone : ∀ (rest pre : List Nat), pre ++ rest = t → Ev B mX6_shrink 21 0 0 Φ 62 [some (.ref 60), some (.int (nI a)), some (.int (nI (gof pre 0))), some (.int 0), some (.int (nI (pre.length + 1))), none] [] N3 := by
        intro rest
        induction rest with
        | nil =>
          intro pre hap
          rw [List.append_nil] at hap
          refine e_iload dX6_shrink_62 rfl ?_
          refine e_aload_n dX6_shrink_64 rfl rfl ?_
          refine e_getI dX6_shrink_65 fRX6_236 (by exact ok3.sh rfl) (fun _ => rfl) ?_
          rw [q1, hap]
          refine e_icmp_ge (tgt := 89) dX6_shrink_68 (by decide) (fun _ => ?_) (fun hz => absurd (nI_le (Nat.le_refl _) (by omega)) hz)
          refine e_iconst (v := 0) dX6_shrink_89 (by decide) ?_
          refine e_istore dX6_shrink_90 (by decide) rfl rfl ?_
          exact take (sgg s).1 0 N3 _ (by omega) Fr.rf (by rw [wst_0]; exact hnow3)
        | cons z rest ih =>
          intro pre hap
          have hz : t[pre.length]? = some z := by rw [← hap, List.getElem?_append_right (Nat.le_refl _), Nat.sub_self]; rfl
          have hz12 := ht12 z (List.mem_of_getElem? hz)
          have hlt : pre.length < t.length := by rw [← hap]; simp
          refine e_iload dX6_shrink_62 rfl ?_
          refine e_aload_n dX6_shrink_64 rfl rfl ?_
          refine e_getI dX6_shrink_65 fRX6_236 (by exact ok3.sh rfl) (fun _ => rfl) ?_
          rw [q1]
          refine e_icmp_ge (tgt := 89) dX6_shrink_68 (by decide) (fun hz => absurd hz (nI_ge (by omega) (by omega))) (fun _ => ?_)
          refine e_iload_n dX6_shrink_71 rfl rfl ?_
          refine e_iconst (v := 1) dX6_shrink_72 (by decide) ?_
          refine e_aload_n dX6_shrink_73 rfl rfl ?_
          refine e_getR dX6_shrink_74 fRX6_55 (by exact ok3.sh rfl) (by exact ok3.rf rfl) (fun _ => rfl) ?_
          refine e_iload dX6_shrink_77 rfl ?_
          refine e_iaload dX6_shrink_79 (by exact ok3.sh rfl) (by exact vp_in_nI (show pre.length + 1 < 13 by omega) (by decide)) ?_
          rw [nI_clamp (by omega), q2 _ _ hz]
          refine e_ishl dX6_shrink_80 ?_
          rw [shl_1 (by omega)]
          refine e_ior dX6_shrink_81 ?_
          rw [fa_or, ← gof_ap]
          refine e_istore_n dX6_shrink_82 rfl (by decide) rfl rfl ?_
          refine e_iinc (v := nI ((pre ++ [z]).length + 1)) dX6_shrink_83 rfl (by rw [List.length_append]; exact nI_1 _) (by decide) rfl rfl ?_
          refine e_goto (tgt := 62) dX6_shrink_86 (by decide) ?_
          exact ih (pre ++ [z]) (by rw [List.append_assoc]; exact hap)
      refine e_iconst (v := 0) dX6_shrink_55 (by decide) ?_
      refine e_istore_n dX6_shrink_56 rfl (by decide) rfl rfl ?_
      refine e_iconst (v := 0) dX6_shrink_57 (by decide) ?_
      refine e_istore_n dX6_shrink_58 rfl (by decide) rfl rfl ?_
      refine e_iconst (v := 1) dX6_shrink_59 (by decide) ?_
      refine e_istore dX6_shrink_60 (by decide) rfl rfl ?_
      exact gone t [] rfl

