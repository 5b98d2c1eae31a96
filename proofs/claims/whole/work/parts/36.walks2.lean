/-! ===== alternating walks: how many there can be ===== -/
theorem so_c (x : Nat) (r : Rw) : so (x :: r) = so r ||| 2 ^ x := rfl
theorem so_bit (r : Rw) (i : Nat) : (so r).testBit i = true ↔ i ∈ r := by
  induction r with
  | nil => simp [so]
  | cons x r ih =>
    rw [so_c, Nat.testBit_or, Bool.or_eq_true, ih, Nat.testBit_two_pow, decide_eq_true_eq, List.mem_cons]
    constructor
    · rintro (h | h)
      · exact Or.inr h
      · exact Or.inl h.symm
    · rintro (h | h)
      · exact Or.inr h.symm
      · exact Or.inl h
theorem cand_some {g : Nw} {r d : Rw} {b : Nat} : cand g r b = some d ↔ ∃ c, d = c :: b :: r ∧ (so r).testBit b = false ∧ (g.2.1 (hd r) b).isSome = true ∧ g.2.2 b = some c ∧ (so r).testBit c = false := by
  unfold cand
  constructor
  · intro h
    split at h
    · rename_i h1
      split at h
      · cases h
      · rename_i c hc
        split at h
        · cases h
        · rename_i h2
          refine ⟨c, (Option.some.inj h).symm, h1.1, h1.2, hc, ?_⟩
          cases hh : (so r).testBit c with
          | false => rfl
          | true => exact absurd hh h2
    · cases h
  · rintro ⟨c, h1, h2, h3, h4, h5⟩
    rw [if_pos ⟨h2, h3⟩, h4]
    show (if (so r).testBit c = true then none else some (c :: b :: r)) = some d
    rw [h5, if_neg (by decide), h1]
/-- rows as they come: of k pairs behind the first node -/
def Vr (g : Nw) (a : Nat) : Nat → Rw → Prop
  | 0, r => r = [a]
  | k + 1, r => ∃ b c q, Vr g a k q ∧ r = c :: b :: q ∧ (so q).testBit b = false ∧ (g.2.1 (hd q) b).isSome = true ∧ g.2.2 b = some c ∧ (so q).testBit c = false
theorem rws_Vr {g : Nw} {a : Nat} : ∀ {k r}, r ∈ rws g a k → Vr g a k r := by
  intro k
  induction k with
  | zero => intro r h; exact List.mem_singleton.mp h
  | succ k ih =>
    intro r h
    obtain ⟨q, h1, h2⟩ := List.mem_flatMap.mp h
    obtain ⟨b, h3, h4⟩ := List.mem_filterMap.mp h2
    obtain ⟨c, h5, h6, h7, h8, h9⟩ := cand_some.mp h4
    exact ⟨b, c, q, ih h1, h5, h6, h7, h8, h9⟩
theorem Vr_len {g : Nw} {a : Nat} : ∀ {k r}, Vr g a k r → r.length = 2 * k + 1 := by
  intro k
  induction k with
  | zero => intro r h; rw [h]; rfl
  | succ k ih =>
    rintro r ⟨b, c, q, h1, h2, -⟩
    rw [h2, List.length_cons, List.length_cons, ih h1]; omega
theorem Vr_in {g : Nw} (wf : Wfn g) {a : Nat} (ha : a < g.1) : ∀ {k r}, Vr g a k r → ∀ x, x ∈ r → x < g.1 := by
  intro k
  induction k with
  | zero => intro r h x hx; rw [h, List.mem_singleton] at hx; omega
  | succ k ih =>
    rintro r ⟨b, c, q, h1, h2, h3, h4, h5, h6⟩ x hx
    have := wf.2.2.2.2 b c h5
    rw [h2, List.mem_cons, List.mem_cons] at hx
    rcases hx with hx | hx | hx
    · omega
    · omega
    · exact ih h1 x hx
theorem Vr_lt {g : Nw} (wf : Wfn g) {a : Nat} (ha : a < g.1) {k : Nat} {r : Rw} (h : Vr g a k r) : so r < 4096 := lt_of_bits (n := 12) (fun i hi => by
  cases hc : (so r).testBit i with
  | false => rfl
  | true =>
    have := Vr_in wf ha h i ((so_bit r i).mp hc)
    have := wf.1.2
    omega)
theorem Vr_hd {g : Nw} {a k : Nat} {r : Rw} (h : Vr g a k r) : hd r ∈ r := by
  cases k with
  | zero => rw [h]; exact List.mem_singleton.mpr rfl
  | succ k =>
    obtain ⟨b, c, q, -, h2, -⟩ := h
    rw [h2]; exact List.mem_cons_self ..
theorem pop_so {g : Nw} (wf : Wfn g) {a : Nat} (ha : a < g.1) : ∀ {k r}, Vr g a k r → pop (so r) = 2 * k + 1 := by
  have hn := wf.1.2
  intro k
  induction k with
  | zero =>
    intro r h
    rw [h]
    show pop (0 ||| 2 ^ a) = 1
    rw [pop_or1 (by decide) (by omega) (by simp), pop_0]
  | succ k ih =>
    rintro r ⟨b, c, q, h1, h2, h3, h4, h5, h6⟩
    have hm := wf.2.2.2.2 b c h5
    have hq := Vr_lt wf ha h1
    have hb2 : so q ||| 2 ^ b < 4096 := Nat.or_lt_two_pow (n := 12) hq (two_lt (by omega))
    rw [h2, so_c, so_c, pop_or1 hb2 (by omega), pop_or1 hq (by omega) h3, ih h1]
    · omega
    · rw [Nat.testBit_or, h6, Nat.testBit_two_pow]
      simp; exact hm.2.2.2
theorem Vr_k {g : Nw} (wf : Wfn g) {a : Nat} (ha : a < g.1) {k : Nat} {r : Rw} (h : Vr g a k r) : 2 * k + 1 ≤ g.1 := by
  have h1 := pop_so wf ha h
  have h2 : pop (so r) ≤ pop (al g) := by
    rw [pop_bt, pop_bt]
    refine sm_mono (fun i _ => ?_)
    unfold btS
    by_cases hc : (so r).testBit i = true
    · rw [if_pos hc, if_pos]
      · exact Nat.le_refl _
      · rw [al_bit, decide_eq_true_eq]; exact Vr_in wf ha h i ((so_bit r i).mp hc)
    · rw [if_neg hc]; exact Nat.zero_le _
  rw [pop_al wf.1.2] at h2
  omega
theorem rws_6 {g : Nw} (wf : Wfn g) {a : Nat} (ha : a < g.1) {k : Nat} (hk : g.1 < 2 * k + 1) : rws g a k = [] := by
  cases h : rws g a k with
  | nil => rfl
  | cons r L =>
    have := Vr_k wf ha (rws_Vr (g := g) (a := a) (k := k) (r := r) (by rw [h]; exact List.mem_cons_self ..))
    omega
/-- a node of a row, but the first: its mate is there too -/
theorem Vr_mate {g : Nw} (wf : Wfn g) {a : Nat} : ∀ {k r}, Vr g a k r → ∀ x, x ∈ r → x ≠ a → ∃ y, g.2.2 x = some y ∧ y ∈ r ∧ y ≠ a := by
  intro k
  induction k with
  | zero => intro r h x hx hne; rw [h, List.mem_singleton] at hx; exact absurd hx hne
  | succ k ih =>
    rintro r ⟨b, c, q, h1, h2, h3, h4, h5, h6⟩ x hx hne
    have hm := wf.2.2.2.2 b c h5
    have haq : a ∈ q := by
      clear ih h2 h3 h4 h6
      induction k generalizing q with
      | zero => rw [h1]; exact List.mem_singleton.mpr rfl
      | succ k ih2 =>
        obtain ⟨b2, c2, q2, g1, g2, -⟩ := h1
        rw [g2]
        exact List.mem_cons_of_mem _ (List.mem_cons_of_mem _ (ih2 q2 g1))
    have hba : b ≠ a := fun e => by
      have := (so_bit q a).mpr haq
      rw [← e, h3] at this; cases this
    have hca : c ≠ a := fun e => by
      have := (so_bit q a).mpr haq
      rw [← e, h6] at this; cases this
    subst h2
    rcases List.mem_cons.mp hx with hx | hx
    · subst hx
      exact ⟨b, hm.1, by simp, hba⟩
    · rcases List.mem_cons.mp hx with hx | hx
      · subst hx
        exact ⟨c, h5, by simp, hca⟩
      · obtain ⟨y, y1, y2, y3⟩ := ih h1 x hx hne
        exact ⟨y, y1, by simp [y2], y3⟩
theorem Vr_a {g : Nw} {a : Nat} : ∀ {k r}, Vr g a k r → a ∈ r := by
  intro k
  induction k with
  | zero => intro r h; rw [h]; exact List.mem_singleton.mpr rfl
  | succ k ih =>
    rintro r ⟨b, c, q, h1, h2, -⟩
    rw [h2]
    exact List.mem_cons_of_mem _ (List.mem_cons_of_mem _ (ih h1))
/-! numbers for keys -/
def cz (L T : Nat) : Nat → Nat
  | 0 => 0
  | n + 1 => if L.testBit n = true then 2 * cz L T n + (if T.testBit n = true then 1 else 0) else cz L T n
def pc (L : Nat) (n : Nat) : Nat := sm (btS L) n
theorem cz_lt (L T : Nat) : ∀ n, cz L T n < 2 ^ pc L n := by
  intro n
  induction n with
  | zero => exact Nat.one_pos
  | succ n ih =>
    show (if _ then _ else _) < 2 ^ (pc L n + btS L n)
    unfold btS
    by_cases h : L.testBit n = true
    · rw [if_pos h, if_pos h, Nat.pow_succ]
      split <;> omega
    · rw [if_neg h, if_neg h]; exact ih
theorem cz_inj {L T U : Nat} : ∀ n, cz L T n = cz L U n → ∀ i, i < n → L.testBit i = true → T.testBit i = U.testBit i := by
  intro n
  induction n with
  | zero => intro _ i hi; omega
  | succ n ih =>
    intro h i hi hL
    have h' : (if L.testBit n = true then 2 * cz L T n + (if T.testBit n = true then 1 else 0) else cz L T n) = (if L.testBit n = true then 2 * cz L U n + (if U.testBit n = true then 1 else 0) else cz L U n) := h
    by_cases hn : L.testBit n = true
    · rw [if_pos hn, if_pos hn] at h'
      have e1 : cz L T n = cz L U n := by
        split at h' <;> split at h' <;> omega
      by_cases hin : i = n
      · subst hin
        cases hT : T.testBit i <;> cases hU : U.testBit i <;> rw [hT, hU] at h' <;> first | rfl | (simp at h'; omega)
      · exact ih e1 i (by omega) hL
    · rw [if_neg hn, if_neg hn] at h'
      have hin : i ≠ n := fun e => by subst e; exact hn hL
      exact ih h' i (by omega) hL
theorem pc_inj {A : Nat} : ∀ {x y : Nat}, A.testBit x = true → A.testBit y = true → pc A x = pc A y → x = y := by
  have hmono : ∀ x k, pc A x ≤ pc A (x + k) := by
    intro x k
    induction k with
    | zero => exact Nat.le_refl _
    | succ k ih => show pc A x ≤ pc A (x + k) + btS A (x + k); omega
  have hlt : ∀ x y, x < y → A.testBit x = true → pc A x < pc A y := by
    intro x y hxy hx
    have h1 := hmono (x + 1) (y - (x + 1))
    rw [show x + 1 + (y - (x + 1)) = y by omega] at h1
    have h2 : pc A (x + 1) = pc A x + btS A x := rfl
    have h3 : btS A x = 1 := if_pos hx
    omega
  intro x y hx hy h
  rcases Nat.lt_trichotomy x y with h1 | h1 | h1
  · have := hlt x y h1 hx; omega
  · exact h1
  · have := hlt y x h1 hy; omega
theorem pc_lt {A x : Nat} (hx : A.testBit x = true) (hx12 : x < 12) : pc A x < pop A := by
  have hmono : ∀ x k, pc A x ≤ pc A (x + k) := by
    intro x k
    induction k with
    | zero => exact Nat.le_refl _
    | succ k ih => show pc A x ≤ pc A (x + k) + btS A (x + k); omega
  have h1 := hmono (x + 1) (12 - (x + 1))
  rw [show x + 1 + (12 - (x + 1)) = 12 by omega] at h1
  have h2 : pc A (x + 1) = pc A x + btS A x := rfl
  have h3 : btS A x = 1 := if_pos hx
  have h4 : pop A = pc A 12 := rfl
  omega
theorem pigeon : ∀ n (l : List Nat), l.Pairwise (fun x y => x ≠ y) → (∀ x, x ∈ l → x < n) → l.length ≤ n := by
  intro n
  induction n with
  | zero =>
    intro l _ h
    cases l with
    | nil => exact Nat.le_refl _
    | cons x l => exact absurd (h x (List.mem_cons_self ..)) (by omega)
  | succ n ih =>
    intro l hp h
    have h1 := ih (l.filter (fun x => decide (x ≠ n))) (hp.filter _) (fun x hx => by
      rw [List.mem_filter, decide_eq_true_eq] at hx
      have := h x hx.1
      omega)
    have h2 : l.length ≤ (l.filter (fun x => decide (x ≠ n))).length + 1 := by
      clear h1 h ih
      induction l with
      | nil => exact Nat.zero_le _
      | cons x l ih =>
        rw [List.pairwise_cons] at hp
        by_cases hx : x = n
        · subst hx
          have : (x :: l).filter (fun y => decide (y ≠ x)) = l := by
            rw [List.filter_cons_of_neg (by simp)]
            exact List.filter_eq_self.mpr (fun y hy => decide_eq_true (fun e => hp.1 y hy e.symm))
          rw [this]; exact Nat.le_refl _
        · rw [List.filter_cons_of_pos (by simp [hx]), List.length_cons, List.length_cons]
          have := ih hp.2
          omega
    omega
/-- the nodes with mates, but a and its mate -/
def Aw (g : Nw) (a : Nat) : Nat := mask (fun x => match g.2.2 x with
  | none => false
  | some y => decide (x ≠ a ∧ y ≠ a)) 12
def Lw (g : Nw) (a : Nat) : Nat := mask (fun x => match g.2.2 x with
  | none => false
  | some y => decide (x ≠ a ∧ y ≠ a ∧ x < y)) 12
theorem Aw_bit {g : Nw} (wf : Wfn g) {a x : Nat} : (Aw g a).testBit x = true ↔ ∃ y, g.2.2 x = some y ∧ x ≠ a ∧ y ≠ a := by
  unfold Aw
  rw [mask_bit, Bool.and_eq_true]
  cases h : g.2.2 x with
  | none => simp
  | some y =>
    have := (wf.2.2.2.2 x y h).2.1
    have := wf.1.2
    simp only [decide_eq_true_eq]
    constructor
    · rintro ⟨-, h2⟩; exact ⟨y, rfl, h2⟩
    · rintro ⟨z, h1, h2⟩
      rw [Option.some.inj h1]
      exact ⟨by omega, h2⟩
theorem Lw_bit {g : Nw} (wf : Wfn g) {a x : Nat} : (Lw g a).testBit x = true ↔ ∃ y, g.2.2 x = some y ∧ x ≠ a ∧ y ≠ a ∧ x < y := by
  unfold Lw
  rw [mask_bit, Bool.and_eq_true]
  cases h : g.2.2 x with
  | none => simp
  | some y =>
    have := (wf.2.2.2.2 x y h).2.1
    have := wf.1.2
    simp only [decide_eq_true_eq]
    constructor
    · rintro ⟨-, h2⟩; exact ⟨y, rfl, h2⟩
    · rintro ⟨z, h1, h2⟩
      rw [Option.some.inj h1]
      exact ⟨by omega, h2⟩
def lwb (m : Nat → Option Nat) (i : Nat) : Bool := match m i with
  | none => false
  | some y => decide (i < y)
def lowf (m : Nat → Option Nat) (S i : Nat) : Nat := if S.testBit i = true ∧ lwb m i = true then 1 else 0
/-- of a set of whole pairs half are the lesser of their pair -/
theorem half {m : Nat → Option Nat} (hm : ∀ x y, m x = some y → m y = some x ∧ x ≠ y) : ∀ S, S < 4096 → (∀ x, S.testBit x = true → ∃ y, m x = some y ∧ S.testBit y = true) → pop S = 2 * sm (lowf m S) 12 := by
  intro S
  induction S using Nat.strongRecOn with
  | ind S ih =>
    intro hS hc
    by_cases h0 : S = 0
    · subst h0
      rw [pop_0, sm_zero (f := lowf m 0) (fun i _ => if_neg (by simp))]
    · obtain ⟨x, hx⟩ := ex_some h0
      obtain ⟨y, hxy, hy⟩ := hc x hx
      obtain ⟨hyx, hne⟩ := hm x y hxy
      have hy' : (ex S x).testBit y = true := ex_in.mpr ⟨hy, hne⟩
      have p1 := pop_ex hS hx
      have p2 := pop_ex (ex_4096 hS) hy'
      have hlt1 := ex_lt hx
      have hlt2 := ex_lt hy'
      have h1 := ih (ex (ex S x) y) (by omega) (ex_4096 (ex_4096 hS)) (fun z hz => by
        have hz1 := ex_in.mp hz
        have hz2 := ex_in.mp hz1.1
        obtain ⟨u, hu1, hu2⟩ := hc z hz2.1
        refine ⟨u, hu1, ex_in.mpr ⟨ex_in.mpr ⟨hu2, fun e => ?_⟩, fun e => ?_⟩⟩
        · subst e
          have := (hm z x hu1).1
          rw [hxy] at this
          exact hz1.2 (Option.some.inj this)
        · subst e
          have := (hm z y hu1).1
          rw [hyx] at this
          exact hz2.2 (Option.some.inj this))
      have lx : lwb m x = decide (x < y) := by unfold lwb; rw [hxy]
      have ly : lwb m y = decide (y < x) := by unfold lwb; rw [hyx]
      have h2 : sm (lowf m S) 12 = sm (lowf m (ex (ex S x) y)) 12 + 1 := by
        by_cases hlt : x < y
        · rw [← sm_at1 (in12 hS hx), ← sm_add]
          refine sm_cong (fun i _ => ?_)
          unfold lowf at1
          rw [ex_bit, ex_bit]
          by_cases hix : i = x
          · subst hix; simp [hx, lx, hlt]
          · by_cases hiy : i = y
            · subst hiy
              have : ¬ i < x := by omega
              simp [hix, ly, this]
            · have n1 : ¬ x = i := fun e => hix e.symm
              have n2 : ¬ y = i := fun e => hiy e.symm
              simp [hix, n1, n2]
        · rw [← sm_at1 (in12 hS hy), ← sm_add]
          refine sm_cong (fun i _ => ?_)
          unfold lowf at1
          rw [ex_bit, ex_bit]
          by_cases hiy : i = y
          · subst hiy
            have : i < x := by omega
            simp [hy, ly, this]
          · by_cases hix : i = x
            · subst hix
              simp [hiy, lx, hlt]
            · have n1 : ¬ x = i := fun e => hix e.symm
              have n2 : ¬ y = i := fun e => hiy e.symm
              simp [hiy, n1, n2]
      omega
theorem Aw_lt (g : Nw) (a : Nat) : Aw g a < 4096 := mask_lt _ 12
theorem Aw_half {g : Nw} (wf : Wfn g) (a : Nat) : pop (Aw g a) = 2 * pop (Lw g a) := by
  rw [half (m := g.2.2) (fun x y h => ⟨(wf.2.2.2.2 x y h).1, (wf.2.2.2.2 x y h).2.2.2⟩) (Aw g a) (Aw_lt g a) (fun x hx => by
    obtain ⟨y, h1, h2, h3⟩ := (Aw_bit wf).mp hx
    exact ⟨y, h1, (Aw_bit wf).mpr ⟨x, (wf.2.2.2.2 x y h1).1, h3, h2⟩⟩)]
  congr 1
  rw [pop_bt]
  refine sm_cong (fun i _ => ?_)
  unfold lowf btS
  by_cases h : (Lw g a).testBit i = true
  · rw [if_pos h, if_pos]
    obtain ⟨y, h1, h2, h3, h4⟩ := (Lw_bit wf).mp h
    refine ⟨(Aw_bit wf).mpr ⟨y, h1, h2, h3⟩, ?_⟩
    unfold lwb; rw [h1]; exact decide_eq_true h4
  · rw [if_neg h, if_neg]
    rintro ⟨h1, h2⟩
    obtain ⟨y, h3, h4, h5⟩ := (Aw_bit wf).mp h1
    unfold lwb at h2
    rw [h3] at h2
    exact h ((Lw_bit wf).mpr ⟨y, h3, h4, h5, of_decide_eq_true h2⟩)
theorem Aw_le {g : Nw} (wf : Wfn g) {a : Nat} (ha : a < g.1) : pop (Aw g a) ≤ 10 := by
  have h1 := Aw_half wf a
  have h2 : pop (Aw g a) + 1 ≤ 12 := by
    have hn := wf.1.2
    have ha0 : (Aw g a).testBit a = false := by
      cases h : (Aw g a).testBit a with
      | false => rfl
      | true =>
        obtain ⟨y, -, h2, -⟩ := (Aw_bit wf).mp h
        exact absurd rfl h2
    rw [← pop_or1 (Aw_lt g a) (by omega) ha0]
    exact pop_le _
  omega
def lo2 (g : Nw) (x : Nat) : Nat := match g.2.2 x with
  | none => x
  | some y => min x y
def cod (g : Nw) (a : Nat) (r : Rw) : Nat := if hd r = a then 160 else 16 * pc (Aw g a) (hd r) + cz (ex (Lw g a) (lo2 g (hd r))) (so r) 12
theorem Vr_Aw {g : Nw} (wf : Wfn g) {a k : Nat} {r : Rw} (h : Vr g a k r) {x : Nat} (hx : x ∈ r) (hne : x ≠ a) : (Aw g a).testBit x = true := by
  obtain ⟨y, h1, h2, h3⟩ := Vr_mate wf h x hx hne
  exact (Aw_bit wf).mpr ⟨y, h1, hne, h3⟩
theorem lo2_Lw {g : Nw} (wf : Wfn g) {a k : Nat} {r : Rw} (h : Vr g a k r) {x : Nat} (hx : x ∈ r) (hne : x ≠ a) : (Lw g a).testBit (lo2 g x) = true ∧ lo2 g x ∈ r := by
  obtain ⟨y, h1, h2, h3⟩ := Vr_mate wf h x hx hne
  have hm := wf.2.2.2.2 x y h1
  unfold lo2
  rw [h1]
  show (Lw g a).testBit (min x y) = true ∧ min x y ∈ r
  by_cases hlt : x < y
  · rw [Nat.min_eq_left (by omega)]
    exact ⟨(Lw_bit wf).mpr ⟨y, h1, hne, h3, hlt⟩, hx⟩
  · rw [Nat.min_eq_right (by omega)]
    exact ⟨(Lw_bit wf).mpr ⟨x, hm.1, h3, hne, by omega⟩, h2⟩
theorem cod_lt {g : Nw} (wf : Wfn g) {a k : Nat} (ha : a < g.1) {r : Rw} (h : Vr g a k r) : cod g a r < 161 := by
  unfold cod
  by_cases hr : hd r = a
  · rw [if_pos hr]; decide
  · rw [if_neg hr]
    have hA := Aw_le wf ha
    have hH := Aw_half wf a
    have hx := Vr_Aw wf h (Vr_hd h) hr
    have h1 := pc_lt hx (in12 (Aw_lt g a) hx)
    have hL := lo2_Lw wf h (Vr_hd h) hr
    have hLlt : Lw g a < 4096 := mask_lt _ 12
    have h2 := pop_ex hLlt hL.1
    have h3 := cz_lt (ex (Lw g a) (lo2 g (hd r))) (so r) 12
    have h4 : pc (ex (Lw g a) (lo2 g (hd r))) 12 = pop (ex (Lw g a) (lo2 g (hd r))) := rfl
    have h5 : 2 ^ pc (ex (Lw g a) (lo2 g (hd r))) 12 ≤ 2 ^ 4 := Nat.pow_le_pow_right (by decide) (by omega)
    omega
theorem cod_inj {g : Nw} (wf : Wfn g) {a k j : Nat} (ha : a < g.1) {r q : Rw} (h : Vr g a k r) (h' : Vr g a j q) (he : cod g a r = cod g a q) : ky r = ky q := by
  have hA := Aw_le wf ha
  have hH := Aw_half wf a
  have hLlt : Lw g a < 4096 := mask_lt _ 12
  have bound : ∀ {k r}, Vr g a k r → hd r ≠ a → pc (Aw g a) (hd r) < 10 ∧ cz (ex (Lw g a) (lo2 g (hd r))) (so r) 12 < 16 := by
    intro k r h hr
    have hx := Vr_Aw wf h (Vr_hd h) hr
    have h1 := pc_lt hx (in12 (Aw_lt g a) hx)
    have hL := lo2_Lw wf h (Vr_hd h) hr
    have h2 := pop_ex hLlt hL.1
    have h3 := cz_lt (ex (Lw g a) (lo2 g (hd r))) (so r) 12
    have h4 : pc (ex (Lw g a) (lo2 g (hd r))) 12 = pop (ex (Lw g a) (lo2 g (hd r))) := rfl
    have h5 : 2 ^ pc (ex (Lw g a) (lo2 g (hd r))) 12 ≤ 2 ^ 4 := Nat.pow_le_pow_right (by decide) (by omega)
    omega
  have one : ∀ {k r}, Vr g a k r → hd r = a → r = [a] := by
    intro k r h hr
    cases k with
    | zero => exact h
    | succ k =>
      obtain ⟨b, c, q, g1, g2, g3, g4, g5, g6⟩ := h
      subst g2
      have : c = a := hr
      have h7 := (so_bit q a).mpr (Vr_a g1)
      rw [← this, g6] at h7; cases h7
  unfold cod at he
  by_cases hr : hd r = a
  · by_cases hq : hd q = a
    · rw [one h hr, one h' hq]
    · rw [if_pos hr, if_neg hq] at he
      have := bound h' hq
      omega
  · by_cases hq : hd q = a
    · rw [if_neg hr, if_pos hq] at he
      have := bound h hr
      omega
    · rw [if_neg hr, if_neg hq] at he
      have b1 := bound h hr
      have b2 := bound h' hq
      have e1 : pc (Aw g a) (hd r) = pc (Aw g a) (hd q) := by omega
      have e2 : hd r = hd q := pc_inj (Vr_Aw wf h (Vr_hd h) hr) (Vr_Aw wf h' (Vr_hd h') hq) e1
      rw [e2] at he
      have e3 := cz_inj 12 (show cz (ex (Lw g a) (lo2 g (hd q))) (so r) 12 = cz (ex (Lw g a) (lo2 g (hd q))) (so q) 12 by omega)
      have hin : ∀ i, (Lw g a).testBit i = true → ((so r).testBit i = (so q).testBit i) := by
        intro i hi
        by_cases hil : lo2 g (hd q) = i
        · have l1 := (lo2_Lw wf h (Vr_hd h) hr).2
          have l2 := (lo2_Lw wf h' (Vr_hd h') hq).2
          rw [e2] at l1
          rw [← hil, (so_bit r _).mpr l1, (so_bit q _).mpr l2]
        · exact e3 i (in12 hLlt hi) (ex_in.mpr ⟨hi, hil⟩)
      have sub : ∀ {k j} {r q : Rw}, Vr g a k r → Vr g a j q → (∀ i, (Lw g a).testBit i = true → ((so r).testBit i = (so q).testBit i)) → ∀ i, i ∈ r → i ∈ q := by
        intro k j r q h h' hin i hi
        by_cases hia : i = a
        · rw [hia]; exact Vr_a h'
        · obtain ⟨y, y1, y2, y3⟩ := Vr_mate wf h i hi hia
          have hm := wf.2.2.2.2 i y y1
          by_cases hlt : i < y
          · have := hin i ((Lw_bit wf).mpr ⟨y, y1, hia, y3, hlt⟩)
            rw [(so_bit r i).mpr hi] at this
            exact (so_bit q i).mp this.symm
          · have := hin y ((Lw_bit wf).mpr ⟨i, hm.1, y3, hia, by omega⟩)
            rw [(so_bit r y).mpr y2] at this
            have hyq := (so_bit q y).mp this.symm
            obtain ⟨z, z1, z2, z3⟩ := Vr_mate wf h' y hyq y3
            rw [hm.1] at z1
            rw [Option.some.inj z1]; exact z2
      have e4 : so r = so q := by
        apply Nat.eq_of_testBit_eq
        intro i
        rw [Bool.eq_iff_iff, so_bit, so_bit]
        exact ⟨sub h h' hin i, sub h' h (fun i hi => (hin i hi).symm) i⟩
      unfold ky
      rw [e4, e2]
theorem len_161 {g : Nw} (wf : Wfn g) {a : Nat} (ha : a < g.1) {Q : List Rw} (hnd : Nd Q) (hv : ∀ r, r ∈ Q → ∃ k, Vr g a k r) : Q.length ≤ 161 := by
  have h1 := pigeon 161 (Q.map (cod g a)) (List.pairwise_map.mpr (hnd.imp_of_mem (fun {p q} hp hq hne e => by
    obtain ⟨k, hk⟩ := hv p hp
    obtain ⟨j, hj⟩ := hv q hq
    exact hne (cod_inj wf ha hk hj e)))) (fun x hx => by
    obtain ⟨r, hr, e⟩ := List.mem_map.mp hx
    obtain ⟨k, hk⟩ := hv r hr
    rw [← e]; exact cod_lt wf ha hk)
  rwa [List.length_map] at h1
