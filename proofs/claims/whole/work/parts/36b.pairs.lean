/-! ===== numbers of pairs: a bit for each pair but that of the first node ===== -/
def pbt (g : Nw) (a x : Nat) : Nat := pc (Lw g a) (lo2 g x)
/-- the pairs that a row goes over -/
def pq (g : Nw) (a : Nat) : Rw → Nat
  | _ :: b :: r => pq g a r ||| 2 ^ pbt g a b
  | _ => 0
theorem pq_c (g : Nw) (a c b : Nat) (r : Rw) : pq g a (c :: b :: r) = pq g a r ||| 2 ^ pbt g a b := rfl
theorem pq_1 (g : Nw) (a : Nat) : pq g a [a] = 0 := rfl
theorem lo2_mate {g : Nw} (wf : Wfn g) {b c : Nat} (h : g.2.2 b = some c) : lo2 g c = lo2 g b := by
  unfold lo2
  rw [h, (wf.2.2.2.2 b c h).1]
  show min c b = min b c
  exact Nat.min_comm _ _
theorem pq_bit {g : Nw} (wf : Wfn g) {a : Nat} : ∀ {k r}, Vr g a k r → ∀ j, (pq g a r).testBit j = true ↔ ∃ x, x ∈ r ∧ x ≠ a ∧ pbt g a x = j := by
  intro k
  induction k with
  | zero =>
    intro r h j
    rw [h, pq_1]
    simp
  | succ k ih =>
    rintro r h j
    obtain ⟨b, c, q, h1, h2, h3, h4, h5, h6⟩ := id h
    have haq := (so_bit q a).mpr (Vr_a h1)
    have hba : b ≠ a := fun e => by rw [← e, h3] at haq; cases haq
    have hca : c ≠ a := fun e => by rw [← e, h6] at haq; cases haq
    have hcb : pbt g a c = pbt g a b := by unfold pbt; rw [lo2_mate wf h5]
    subst h2
    rw [pq_c, Nat.testBit_or, Bool.or_eq_true, ih h1, Nat.testBit_two_pow, decide_eq_true_eq]
    constructor
    · rintro (⟨x, x1, x2, x3⟩ | h9)
      · exact ⟨x, by simp [x1], x2, x3⟩
      · exact ⟨b, by simp, hba, h9⟩
    · rintro ⟨x, x1, x2, x3⟩
      rcases List.mem_cons.mp x1 with x1 | x1
      · right; rw [← hcb, ← x1]; exact x3
      · rcases List.mem_cons.mp x1 with x1 | x1
        · right; rw [← x1]; exact x3
        · exact Or.inl ⟨x, x1, x2, x3⟩
theorem pbt_lt {g : Nw} (wf : Wfn g) {a k : Nat} (ha : a < g.1) {r : Rw} (h : Vr g a k r) {x : Nat} (hx : x ∈ r) (hne : x ≠ a) : pbt g a x < 5 := by
  have hL := lo2_Lw wf h hx hne
  have hLlt : Lw g a < 4096 := mask_lt _ 12
  have h1 := pc_lt hL.1 (in12 hLlt hL.1)
  have hA := Aw_le wf ha
  have hH := Aw_half wf a
  unfold pbt
  omega
theorem pq_lt {g : Nw} (wf : Wfn g) {a k : Nat} (ha : a < g.1) {r : Rw} (h : Vr g a k r) : pq g a r < 32 := lt_of_bits (n := 5) (fun i hi => by
  cases hc : (pq g a r).testBit i with
  | false => rfl
  | true =>
    obtain ⟨x, x1, x2, x3⟩ := (pq_bit wf h i).mp hc
    have := pbt_lt wf ha h x1 x2
    omega)
theorem pq_sub {g : Nw} (wf : Wfn g) {a k j : Nat} {r q : Rw} (h : Vr g a k r) (h' : Vr g a j q) (he : pq g a r = pq g a q) : ∀ x, x ∈ r → x ∈ q := by
  intro x hx
  by_cases hxa : x = a
  · rw [hxa]; exact Vr_a h'
  · have h1 := (pq_bit wf h _).mpr ⟨x, hx, hxa, rfl⟩
    rw [he] at h1
    obtain ⟨y, y1, y2, y3⟩ := (pq_bit wf h' _).mp h1
    have lx := lo2_Lw wf h hx hxa
    have ly := lo2_Lw wf h' y1 y2
    have e := pc_inj ly.1 lx.1 y3
    have hl : lo2 g x ∈ q := by rw [← e]; exact ly.2
    obtain ⟨z, z1, z2, z3⟩ := Vr_mate wf h x hx hxa
    have hm := wf.2.2.2.2 x z z1
    have el : lo2 g x = min x z := by unfold lo2; rw [z1]
    by_cases hlt : x < z
    · rw [el, Nat.min_eq_left (by omega)] at hl; exact hl
    · rw [el, Nat.min_eq_right (by omega)] at hl
      obtain ⟨u, u1, u2, -⟩ := Vr_mate wf h' z hl z3
      rw [hm.1] at u1
      rw [Option.some.inj u1]; exact u2
theorem pq_so {g : Nw} (wf : Wfn g) {a k j : Nat} {r q : Rw} (h : Vr g a k r) (h' : Vr g a j q) : pq g a r = pq g a q ↔ so r = so q := by
  constructor
  · intro he
    apply Nat.eq_of_testBit_eq
    intro i
    rw [Bool.eq_iff_iff, so_bit, so_bit]
    exact ⟨pq_sub wf h h' he i, pq_sub wf h' h he.symm i⟩
  · intro he
    have hin : ∀ x, x ∈ r ↔ x ∈ q := fun x => by rw [← so_bit r x, ← so_bit q x, he]
    apply Nat.eq_of_testBit_eq
    intro i
    rw [Bool.eq_iff_iff, pq_bit wf h, pq_bit wf h']
    exact ⟨fun ⟨x, x1, x2⟩ => ⟨x, (hin x).mp x1, x2⟩, fun ⟨x, x1, x2⟩ => ⟨x, (hin x).mpr x1, x2⟩⟩
def lpf (g : Nw) (a P : Nat) (m : Nat) (r : Rw) : Nat := if pq g a r = P then m ||| 2 ^ hd r else m
/-- the last nodes of the walks over the pairs P -/
def lp (g : Nw) (a : Nat) (Q : List Rw) (P : Nat) : Nat := Q.foldl (lpf g a P) 0
theorem lp_ap (g : Nw) (a : Nat) (Q : List Rw) (r : Rw) (P : Nat) : lp g a (Q ++ [r]) P = if pq g a r = P then lp g a Q P ||| 2 ^ hd r else lp g a Q P := by
  unfold lp
  rw [List.foldl_append]; rfl
theorem lpf_bit (g : Nw) (a P x : Nat) : ∀ (Q : List Rw) (m : Nat), (Q.foldl (lpf g a P) m).testBit x = true ↔ m.testBit x = true ∨ ∃ r, r ∈ Q ∧ pq g a r = P ∧ hd r = x := by
  intro Q
  induction Q with
  | nil => intro m; simp
  | cons r Q ih =>
    intro m
    rw [List.foldl_cons, ih]
    unfold lpf
    by_cases h : pq g a r = P
    · rw [if_pos h, Nat.testBit_or, Bool.or_eq_true, Nat.testBit_two_pow, decide_eq_true_eq]
      constructor
      · rintro ((h1 | h1) | ⟨q, h1, h2⟩)
        · exact Or.inl h1
        · exact Or.inr ⟨r, List.mem_cons_self .., h, h1⟩
        · exact Or.inr ⟨q, List.mem_cons_of_mem _ h1, h2⟩
      · rintro (h1 | ⟨q, h1, h2, h3⟩)
        · exact Or.inl (Or.inl h1)
        · rcases List.mem_cons.mp h1 with h1 | h1
          · subst h1; exact Or.inl (Or.inr h3)
          · exact Or.inr ⟨q, h1, h2, h3⟩
    · rw [if_neg h]
      constructor
      · rintro (h1 | ⟨q, h1, h2⟩)
        · exact Or.inl h1
        · exact Or.inr ⟨q, List.mem_cons_of_mem _ h1, h2⟩
      · rintro (h1 | ⟨q, h1, h2, h3⟩)
        · exact Or.inl h1
        · rcases List.mem_cons.mp h1 with h1 | h1
          · subst h1; exact absurd h2 h
          · exact Or.inr ⟨q, h1, h2, h3⟩
theorem lp_bit (g : Nw) (a : Nat) (Q : List Rw) (P x : Nat) : (lp g a Q P).testBit x = true ↔ ∃ r, r ∈ Q ∧ pq g a r = P ∧ hd r = x := by
  unfold lp
  rw [lpf_bit]
  simp
theorem lp_seen {g : Nw} (wf : Wfn g) {a k : Nat} {Q : List Rw} {r : Rw} (hQ : ∀ q, q ∈ Q → ∃ k, Vr g a k q) (hr : Vr g a k r) : (lp g a Q (pq g a r)).testBit (hd r) = true ↔ ∃ q, q ∈ Q ∧ ky q = ky r := by
  rw [lp_bit]
  constructor
  · rintro ⟨q, h1, h2, h3⟩
    obtain ⟨j, hj⟩ := hQ q h1
    exact ⟨q, h1, by unfold ky; rw [(pq_so wf hj hr).mp h2, h3]⟩
  · rintro ⟨q, h1, h2⟩
    obtain ⟨j, hj⟩ := hQ q h1
    exact ⟨q, h1, (pq_so wf hj hr).mpr (congrArg Prod.fst h2), congrArg Prod.snd h2⟩
theorem lp_lt {g : Nw} {a : Nat} {Q : List Rw} (h : ∀ r, r ∈ Q → hd r < 12) (P : Nat) : lp g a Q P < 4096 := lt_of_bits (n := 12) (fun i hi => by
  cases hc : (lp g a Q P).testBit i with
  | false => rfl
  | true =>
    obtain ⟨r, h1, -, h3⟩ := (lp_bit g a Q P i).mp hc
    have := h r h1
    omega)
