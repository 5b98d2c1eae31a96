/-! THE SMALL MACHINE: one world for all methods; cells by their order of making (logical addresses), values typed by construction. -/
-- kinds of cells: an object of the class ci, an array of ty of n places
abbrev Kd : Type := Nat ⊕ (FieldType × Nat)
-- (the cells' kinds, whether nothing else was made since the start), ints, longs, references
abbrev Mm : Type := (List Kd × Bool) × (Nat → Nat → Int32) × (Nat → Nat → Int64) × (Nat → Nat → Option Nat)
def u2 {α : Type} (f : Nat → Nat → α) (a i : Nat) (v : α) : Nat → Nat → α := fun b j => if b = a then (if j = i then v else f b j) else f b j
def sI (M : Mm) (a i : Nat) (v : Int32) : Mm := (M.1, u2 M.2.1 a i v, M.2.2)
def sJ (M : Mm) (a i : Nat) (v : Int64) : Mm := (M.1, M.2.1, u2 M.2.2.1 a i v, M.2.2.2)
def sR (M : Mm) (a i : Nat) (v : Option Nat) : Mm := (M.1, M.2.1, M.2.2.1, u2 M.2.2.2 a i v)
-- a whole row of ints anew
def sA (M : Mm) (a : Nat) (f : Nat → Int32) : Mm := (M.1, (fun b j => if b = a then f j else M.2.1 b j), M.2.2)
def loose (M : Mm) : Mm := ((M.1.1, false), M.2)
abbrev clz : List vw_C := [(RX0, TX0, 4), (RX1, TX1, 5), (RX2, TX2, 3), (RX3, TX3, 8), (RX4, TX4, 11), (RX5, TX5, 12), (RX6, TX6, 27)]
def tyz (ci : Nat) : Nat → FieldType := match ci with
  | 0 => tyX0
  | 1 => tyX1
  | 2 => tyX2
  | 3 => tyX3
  | 4 => tyX4
  | 5 => tyX5
  | _ => tyX6
def cNz (ci : Nat) : Nat := match ci with
  | 0 => 4
  | 1 => 5
  | 2 => 3
  | 3 => 8
  | 4 => 11
  | 5 => 12
  | _ => 27
def fvl (ad : Nat → Nat) (M : Mm) (ci a k : Nat) : Value := match tyz ci k with
  | .long => .long (M.2.2.1 a k)
  | .object _ => va_rf ((M.2.2.2 a k).map ad)
  | .array _ => va_rf ((M.2.2.2 a k).map ad)
  | _ => .int (M.2.1 a k)
def fls (ad : Nat → Nat) (M : Mm) (ci a : Nat) : List Value := (List.range (cNz ci)).map (fvl ad M ci a)
def con (ad : Nat → Nat) (M : Mm) (a : Nat) (ty : FieldType) : (Nat → Int32) ⊕ (Nat → Int64) ⊕ (Nat → UInt32) ⊕ (Nat → UInt64) ⊕ (Nat → Option Nat) := match ty with
  | .long => .inr (.inl (M.2.2.1 a))
  | .object _ => .inr (.inr (.inr (.inr (fun i => (M.2.2.2 a i).map ad))))
  | .array _ => .inr (.inr (.inr (.inr (fun i => (M.2.2.2 a i).map ad))))
  | _ => .inl (M.2.1 a)
def ent (dA : FieldType → ClassId) (ad : Nat → Nat) (M : Mm) (a : Nat) (kd : Kd) : va_E := match kd with
  | .inl ci => .inr (ci, fls ad M ci a)
  | .inr q => .inl (dA q.1, q.2, con ad M a q.1)
def wsM (dA : FieldType → ClassId) (ad : Nat → Nat) (M : Mm) : va_W := M.1.1.mapIdx (fun k kd => (ad k, ent dA ad M k kd))
def tysM (dA : FieldType → ClassId) : List (ClassId × FieldType) := [(dA .int, .int), (dA .byte, .byte), (dA .boolean, .boolean), (dA .long, .long), (dA (.object RX1), .object RX1), (dA (.array .int), .array .int)]
-- what stands beside a proof: the launch, the first new address, addresses, the tables' numbers, the script
abbrev Bd : Type := Launch × Nat × (Nat → Nat) × va_G × (FieldType → ClassId) × Nat × (Nat → Int32)
abbrev bl (B : Bd) : Launch := B.1
abbrev bs (B : Bd) : Nat := B.2.1
abbrev ba (B : Bd) : Nat → Nat := B.2.2.1
abbrev bD (B : Bd) : va_G := B.2.2.2.1
abbrev bA (B : Bd) : FieldType → ClassId := B.2.2.2.2.1
abbrev bL (B : Bd) : Nat := B.2.2.2.2.2.1
abbrev bX (B : Bd) : Nat → Int32 := B.2.2.2.2.2.2
abbrev fr (B : Bd) : Nat → Prop := fun q => bs B ≤ q
def Rep (B : Bd) (M : Mm) (H : Heap) : Prop := va_P (bD B) clz (wsM (bA B) (ba B) M) H ∧ bs B + M.1.1.length ≤ H.size ∧ (M.1.2 = true → H.size = bs B + M.1.1.length) ∧ M.1.1.length ≤ 1000000
def Adr (B : Bd) : Prop := ∀ k, k < 1000000 → ba B k = bs B + k
theorem u2_self {α : Type} (f : Nat → Nat → α) (a i : Nat) (v : α) : u2 f a i v a = fun j => if j = i then v else f a j := by
  funext j; simp [u2]
theorem u2_ne {α : Type} (f : Nat → Nat → α) {a b : Nat} (i : Nat) (v : α) (h : b ≠ a) : u2 f a i v b = f b := by
  funext j; simp [u2, h]
theorem wsM_get {dA : FieldType → ClassId} {ad : Nat → Nat} {M : Mm} {k : Nat} {kd : Kd} (h : M.1.1[k]? = some kd) : (wsM dA ad M)[k]? = some (ad k, ent dA ad M k kd) := by
  unfold wsM
  rw [List.getElem?_mapIdx, h]; rfl
theorem wsM_D {B : Bd} {M : Mm} {H : Heap} (hA : Adr B) (hR : Rep B M H) : va_D (fr B) (wsM (bA B) (ba B) M) := by
  have key : ∀ (i : Nat) (p : Nat × va_E), (wsM (bA B) (ba B) M)[i]? = some p → i < 1000000 ∧ p.1 = bs B + i := by
    intro i p hp
    unfold wsM at hp
    rw [List.getElem?_mapIdx] at hp
    cases hk : M.1.1[i]? with
    | none => rw [hk] at hp; cases hp
    | some kd =>
      rw [hk] at hp
      have hl := (List.getElem?_eq_some_iff.mp hk).1
      have hlt : i < 1000000 := Nat.lt_of_lt_of_le hl hR.2.2.2
      simp only [Option.map_some, Option.some.injEq] at hp
      rw [← hp]
      exact ⟨hlt, hA i hlt⟩
  refine ⟨fun i j p q hi hj h => ?_, fun k q hk => ?_⟩
  · have h1 := key i p hi
    have h2 := key j q hj
    omega
  · have h1 := key k q hk
    show bs B ≤ q.1
    omega
-- entries look at their own rows alone
theorem ent_cong {dA : FieldType → ClassId} {ad : Nat → Nat} {M M' : Mm} {a : Nat} (h1 : M'.2.1 a = M.2.1 a) (h2 : M'.2.2.1 a = M.2.2.1 a) (h3 : M'.2.2.2 a = M.2.2.2 a) (kd : Kd) : ent dA ad M' a kd = ent dA ad M a kd := by
  have hf : ∀ ci k, fvl ad M' ci a k = fvl ad M ci a k := by
    intro ci k
    unfold fvl
    rw [h1, h2, h3]
  cases kd with
  | inl ci =>
    have h9 : fvl ad M' ci a = fvl ad M ci a := funext (hf ci)
    show (Sum.inr (ci, (List.range (cNz ci)).map (fvl ad M' ci a)) : va_E) = Sum.inr (ci, (List.range (cNz ci)).map (fvl ad M ci a))
    rw [h9]
  | inr q =>
    unfold ent con
    rw [h1, h2, h3]
theorem wsM_set {dA : FieldType → ClassId} {ad : Nat → Nat} {M M' : Mm} {k : Nat} {kd : Kd} (hS : M'.1.1 = M.1.1) (hk : M.1.1[k]? = some kd) (h : ∀ j, j ≠ k → M'.2.1 j = M.2.1 j ∧ M'.2.2.1 j = M.2.2.1 j ∧ M'.2.2.2 j = M.2.2.2 j) : (wsM dA ad M).set k (ad k, ent dA ad M' k kd) = wsM dA ad M' := by
  apply List.ext_getElem?
  intro j
  by_cases hj : j = k
  · subst hj
    have hl : j < (wsM dA ad M).length := by
      unfold wsM; rw [List.length_mapIdx]; exact (List.getElem?_eq_some_iff.mp hk).1
    rw [List.getElem?_set_self hl]
    exact (wsM_get (M := M') (by rw [hS]; exact hk)).symm
  · rw [List.getElem?_set_ne (Ne.symm hj)]
    unfold wsM
    rw [List.getElem?_mapIdx, List.getElem?_mapIdx, hS]
    cases hq : M.1.1[j]? with
    | none => rfl
    | some q =>
      obtain ⟨a1, a2, a3⟩ := h j hj
      simp only [Option.map_some]
      rw [ent_cong a1 a2 a3]
theorem Rep.put {B : Bd} {M M' : Mm} {H H1 : Heap} {k : Nat} {kd : Kd} (hR : Rep B M H) (hS : M'.1 = M.1) (hk : M.1.1[k]? = some kd) (h : ∀ j, j ≠ k → M'.2.1 j = M.2.1 j ∧ M'.2.2.1 j = M.2.2.1 j ∧ M'.2.2.2 j = M.2.2.2 j) (hP : va_P (bD B) clz ((wsM (bA B) (ba B) M).set k (ba B k, ent (bA B) (ba B) M' k kd)) H1) (hz : H1.size = H.size) : Rep B M' H1 := by
  rw [wsM_set (by rw [hS]) hk h] at hP
  refine ⟨hP, ?_, ?_, ?_⟩
  · rw [hS, hz]; exact hR.2.1
  · rw [hS, hz]; exact hR.2.2.1
  · rw [hS]; exact hR.2.2.2
theorem Rep.kept {B : Bd} {M : Mm} {H H1 : Heap} (hR : Rep B M H) (hz : H.size ≤ H1.size) (h : ∀ q, q < H.size → H1[q]? = H[q]?) : Rep B (loose M) H1 := by
  refine ⟨?_, Nat.le_trans hR.2.1 hz, (fun h => by cases h), hR.2.2.2⟩
  have hw : wsM (bA B) (ba B) (loose M) = wsM (bA B) (ba B) M := rfl
  rw [hw]
  exact hR.1.kept (fun k q hk => h q.1 (hR.1 k q hk).lt)
