/-! ===== alternating walks: pure. A row is told from its last node back to its first ===== -/
abbrev Rw : Type := List Nat
def hd (r : Rw) : Nat := r.headD 0
def so : Rw → Nat
  | [] => 0
  | x :: r => so r ||| 2 ^ x
def ky (r : Rw) : Nat × Nat := (so r, hd r)
def cand (g : Nw) (r : Rw) (b : Nat) : Option Rw := if (so r).testBit b = false ∧ (g.2.1 (hd r) b).isSome = true then (match g.2.2 b with
  | none => none
  | some c => if (so r).testBit c = true then none else some (c :: b :: r)) else none
def extw (g : Nw) (r : Rw) : List Rw := (List.range g.1).filterMap (cand g r)
def rws (g : Nw) (a : Nat) : Nat → List Rw
  | 0 => [[a]]
  | k + 1 => (rws g a k).flatMap (extw g)
noncomputable def ad1 (Q : List Rw) (r : Rw) : List Rw := @ite _ (∃ q, q ∈ Q ∧ ky q = ky r) (Classical.propDecidable _) Q (Q ++ [r])
noncomputable def adds (Q L : List Rw) : List Rw := L.foldl ad1 Q
theorem ad1_t {Q : List Rw} {r : Rw} (h : ∃ q, q ∈ Q ∧ ky q = ky r) : ad1 Q r = Q := if_pos h
theorem ad1_f {Q : List Rw} {r : Rw} (h : ¬ ∃ q, q ∈ Q ∧ ky q = ky r) : ad1 Q r = Q ++ [r] := if_neg h
theorem adds_n (Q : List Rw) : adds Q [] = Q := rfl
theorem adds_c (Q : List Rw) (r : Rw) (L : List Rw) : adds Q (r :: L) = adds (ad1 Q r) L := rfl
theorem adds_ap (Q L K : List Rw) : adds Q (L ++ K) = adds (adds Q L) K := List.foldl_append ..
theorem adds_1 (Q : List Rw) (r : Rw) : adds Q [r] = ad1 Q r := rfl
theorem ad1_pre (Q : List Rw) (r : Rw) : ∃ K, ad1 Q r = Q ++ K := by
  by_cases h : ∃ q, q ∈ Q ∧ ky q = ky r
  · exact ⟨[], by rw [ad1_t h, List.append_nil]⟩
  · exact ⟨[r], ad1_f h⟩
theorem adds_pre (L : List Rw) : ∀ Q, ∃ K, adds Q L = Q ++ K := by
  induction L with
  | nil => exact fun Q => ⟨[], by rw [List.append_nil]; rfl⟩
  | cons r L ih =>
    intro Q
    obtain ⟨K1, h1⟩ := ad1_pre Q r
    obtain ⟨K2, h2⟩ := ih (ad1 Q r)
    exact ⟨K1 ++ K2, by rw [adds_c, h2, h1, List.append_assoc]⟩
theorem adds_mem {L : List Rw} : ∀ {Q : List Rw} {r : Rw}, r ∈ adds Q L → r ∈ Q ∨ r ∈ L := by
  induction L with
  | nil => intro Q r h; exact Or.inl h
  | cons x L ih =>
    intro Q r h
    rw [adds_c] at h
    rcases ih h with h | h
    · by_cases hx : ∃ q, q ∈ Q ∧ ky q = ky x
      · rw [ad1_t hx] at h; exact Or.inl h
      · rw [ad1_f hx, List.mem_append, List.mem_singleton] at h
        rcases h with h | h
        · exact Or.inl h
        · rw [h]; exact Or.inr (List.mem_cons_self ..)
    · exact Or.inr (List.mem_cons_of_mem _ h)
theorem adds_has {L : List Rw} : ∀ {Q : List Rw} {r : Rw}, (r ∈ Q ∨ r ∈ L) → ∃ q, q ∈ adds Q L ∧ ky q = ky r := by
  induction L with
  | nil =>
    intro Q r h
    rcases h with h | h
    · exact ⟨r, h, rfl⟩
    · cases h
  | cons x L ih =>
    intro Q r h
    rw [adds_c]
    rcases h with h | h
    · obtain ⟨K, hK⟩ := ad1_pre Q x
      exact ih (Or.inl (by rw [hK, List.mem_append]; exact Or.inl h))
    · rcases List.mem_cons.mp h with h | h
      · subst h
        have : ∃ q, q ∈ ad1 Q r ∧ ky q = ky r := by
          by_cases hx : ∃ q, q ∈ Q ∧ ky q = ky r
          · rw [ad1_t hx]; exact hx
          · rw [ad1_f hx]; exact ⟨r, by simp, rfl⟩
        obtain ⟨q, h1, h2⟩ := this
        obtain ⟨p, h3, h4⟩ := ih (Q := ad1 Q r) (r := q) (Or.inl h1)
        exact ⟨p, h3, h4.trans h2⟩
      · exact ih (Or.inr h)
/-- no two of one key -/
def Nd (Q : List Rw) : Prop := Q.Pairwise (fun p q => ky p ≠ ky q)
theorem ad1_nd {Q : List Rw} {r : Rw} (h : Nd Q) : Nd (ad1 Q r) := by
  by_cases hx : ∃ q, q ∈ Q ∧ ky q = ky r
  · rw [ad1_t hx]; exact h
  · rw [ad1_f hx]
    unfold Nd
    rw [List.pairwise_append]
    refine ⟨h, List.pairwise_singleton _ _, fun p hp q hq => ?_⟩
    rw [List.mem_singleton.mp hq]
    exact fun e => hx ⟨p, hp, e⟩
theorem adds_nd {L : List Rw} : ∀ {Q : List Rw}, Nd Q → Nd (adds Q L) := by
  induction L with
  | nil => exact fun h => h
  | cons x L ih => exact fun h => ih (ad1_nd h)
theorem find_adds {p : Rw → Bool} (hp : ∀ q r, ky q = ky r → p q = p r) {L : List Rw} : ∀ {Q : List Rw}, (adds Q L).find? p = (Q ++ L).find? p := by
  induction L with
  | nil => intro Q; rw [List.append_nil]; rfl
  | cons x L ih =>
    intro Q
    rw [adds_c, ih]
    by_cases hx : ∃ q, q ∈ Q ∧ ky q = ky x
    · rw [ad1_t hx, List.find?_append, List.find?_append]
      obtain ⟨q, h1, h2⟩ := hx
      cases hf : Q.find? p with
      | some y => rfl
      | none =>
        rw [List.find?_eq_none] at hf
        have : p x = false := by
          rw [← hp q x h2]
          have := hf q h1
          cases hpq : p q with
          | false => rfl
          | true => exact absurd hpq this
        rw [List.find?_cons_of_neg (by rw [this]; decide)]
    · rw [ad1_f hx, List.append_assoc]; rfl
/-- the children of rows of one key have the same keys -/
theorem cand_ky {g : Nw} {q r : Rw} (h : ky q = ky r) (b : Nat) : (cand g q b).map ky = (cand g r b).map ky := by
  have h1 : so q = so r := congrArg Prod.fst h
  have h2 : hd q = hd r := congrArg Prod.snd h
  unfold cand
  rw [h1, h2]
  split
  · split
    · rfl
    · split
      · rfl
      · show some (ky _) = some (ky _)
        unfold ky
        show some (so q ||| _ ||| _, _) = some (so r ||| _ ||| _, _)
        rw [h1]; rfl
  · rfl
theorem ext_ky {g : Nw} {q r c : Rw} (h : ky q = ky r) (hc : c ∈ extw g r) : ∃ d, d ∈ extw g q ∧ ky d = ky c := by
  unfold extw at hc
  obtain ⟨b, hb, hcb⟩ := List.mem_filterMap.mp hc
  have e := cand_ky (g := g) h b
  rw [hcb] at e
  cases hq : cand g q b with
  | none => rw [hq] at e; cases e
  | some d =>
    rw [hq] at e
    exact ⟨d, List.mem_filterMap.mpr ⟨b, hb, hq⟩, Option.some.inj e⟩
theorem adds_old {L : List Rw} : ∀ {Q : List Rw}, (∀ r, r ∈ L → ∃ q, q ∈ Q ∧ ky q = ky r) → adds Q L = Q := by
  induction L with
  | nil => intro Q _; rfl
  | cons x L ih =>
    intro Q h
    rw [adds_c, ad1_t (h x (List.mem_cons_self ..))]
    exact ih (fun r hr => h r (List.mem_cons_of_mem _ hr))
/-- what is new of L beside A -/
noncomputable def nw (A L : List Rw) : List Rw := (adds A L).drop A.length
theorem nw_ap (A L : List Rw) : adds A L = A ++ nw A L := by
  obtain ⟨K, hK⟩ := adds_pre L A
  unfold nw
  rw [hK, List.drop_left]
theorem nw_c (A : List Rw) (x : Rw) (L : List Rw) : nw A (x :: L) = if (∃ q, q ∈ A ∧ ky q = ky x) then nw A L else x :: nw (A ++ [x]) L := by
  by_cases hx : ∃ q, q ∈ A ∧ ky q = ky x
  · rw [if_pos hx]; unfold nw; rw [adds_c, ad1_t hx]
  · rw [if_neg hx]
    have h1 := nw_ap A (x :: L)
    rw [adds_c, ad1_f hx, nw_ap, List.append_assoc] at h1
    exact (List.append_cancel_left h1).symm
theorem adds_ext {g : Nw} {L : List Rw} : ∀ {A Q : List Rw}, (∀ s, s ∈ A → ∀ c, c ∈ extw g s → ∃ q, q ∈ Q ∧ ky q = ky c) → adds Q (L.flatMap (extw g)) = adds Q ((nw A L).flatMap (extw g)) := by
  induction L with
  | nil =>
    intro A Q _
    have : nw A [] = [] := by unfold nw; rw [adds_n, List.drop_length]
    rw [this]
  | cons x L ih =>
    intro A Q h
    rw [List.flatMap_cons, adds_ap, nw_c]
    by_cases hx : ∃ q, q ∈ A ∧ ky q = ky x
    · rw [if_pos hx, adds_old (L := extw g x)]
      · exact ih h
      · intro r hr
        obtain ⟨q, h1, h2⟩ := hx
        obtain ⟨d, h3, h4⟩ := ext_ky h2 hr
        obtain ⟨p, h5, h6⟩ := h q h1 d h3
        exact ⟨p, h5, h6.trans h4⟩
    · rw [if_neg hx, List.flatMap_cons, adds_ap]
      refine ih (fun s hs c hc => ?_)
      rw [List.mem_append, List.mem_singleton] at hs
      rcases hs with hs | hs
      · obtain ⟨q, h1, h2⟩ := h s hs c hc
        obtain ⟨K, hK⟩ := adds_pre (extw g x) Q
        exact ⟨q, by rw [hK, List.mem_append]; exact Or.inl h1, h2⟩
      · subst hs
        exact adds_has (Or.inr hc)
noncomputable def run (g : Nw) : Nat → List Rw → Nat → List Rw
  | 0, Q, _ => Q
  | f + 1, Q, i => match Q[i]? with
    | none => Q
    | some r => run g f (adds Q (extw g r)) (i + 1)
theorem run_seg {g : Nw} (f : Nat) (xs : List Rw) : ∀ (pre post : List Rw), run g (f + xs.length) (pre ++ xs ++ post) pre.length = run g f (adds (pre ++ xs ++ post) (xs.flatMap (extw g))) (pre.length + xs.length) := by
  induction xs with
  | nil => intro pre post; rfl
  | cons x xs ih =>
    intro pre post
    have e : (pre ++ x :: xs ++ post)[pre.length]? = some x := by simp
    rw [List.length_cons, ← Nat.add_assoc]
    show (match (pre ++ x :: xs ++ post)[pre.length]? with | none => _ | some r => _) = _
    rw [e]
    show run g (f + xs.length) (adds (pre ++ x :: xs ++ post) (extw g x)) (pre.length + 1) = _
    obtain ⟨K, hK⟩ := adds_pre (extw g x) (pre ++ x :: xs ++ post)
    have h := ih (pre ++ [x]) (post ++ K)
    have e2 : pre ++ [x] ++ xs ++ (post ++ K) = adds (pre ++ x :: xs ++ post) (extw g x) := by rw [hK]; simp
    rw [e2] at h
    rw [List.length_append] at h
    have e3 : pre.length + [x].length = pre.length + 1 := rfl
    rw [e3] at h
    rw [h, List.flatMap_cons, adds_ap]
    congr 1
    omega
/-- all rows of up to k pairs; of each key the first -/
def lev (g : Nw) (a : Nat) : Nat → List Rw
  | 0 => rws g a 0
  | k + 1 => lev g a k ++ rws g a (k + 1)
noncomputable def dl (g : Nw) (a k : Nat) : List Rw := adds [] (lev g a k)
theorem lev_mem {g : Nw} {a : Nat} {r : Rw} : ∀ {k}, r ∈ lev g a k ↔ ∃ j, j ≤ k ∧ r ∈ rws g a j := by
  intro k
  induction k with
  | zero => exact ⟨fun h => ⟨0, by omega, h⟩, fun ⟨j, h1, h2⟩ => by
      have : j = 0 := by omega
      subst this; exact h2⟩
  | succ k ih =>
    show r ∈ lev g a k ++ rws g a (k + 1) ↔ _
    rw [List.mem_append, ih]
    constructor
    · rintro (⟨j, h1, h2⟩ | h)
      · exact ⟨j, by omega, h2⟩
      · exact ⟨k + 1, by omega, h⟩
    · rintro ⟨j, h1, h2⟩
      by_cases hj : j = k + 1
      · subst hj; exact Or.inr h2
      · exact Or.inl ⟨j, by omega, h2⟩
theorem dl_s (g : Nw) (a k : Nat) : dl g a (k + 1) = adds (dl g a k) (rws g a (k + 1)) := by
  unfold dl
  show adds [] (lev g a k ++ rws g a (k + 1)) = _
  rw [adds_ap]
/-- A of the levels below k, and what level k adds -/
noncomputable def pl (g : Nw) (a : Nat) : Nat → List Rw
  | 0 => []
  | k + 1 => dl g a k
theorem dl_pl (g : Nw) (a k : Nat) : dl g a k = adds (pl g a k) (rws g a k) := by
  cases k with
  | zero => rfl
  | succ k => exact dl_s g a k
theorem dl_step (g : Nw) (a k : Nat) : adds (dl g a k) ((nw (pl g a k) (rws g a k)).flatMap (extw g)) = dl g a (k + 1) := by
  rw [dl_s]
  show _ = adds (dl g a k) ((rws g a k).flatMap (extw g))
  refine (adds_ext (fun s hs c hc => ?_)).symm
  cases k with
  | zero => cases hs
  | succ k =>
    have hs' : s ∈ dl g a k := hs
    unfold dl at hs'
    rcases adds_mem hs' with h | h
    · cases h
    · obtain ⟨j, h1, h2⟩ := lev_mem.mp h
      have hc2 : c ∈ rws g a (j + 1) := List.mem_flatMap.mpr ⟨s, h2, hc⟩
      exact adds_has (Or.inr (lev_mem.mpr ⟨j + 1, by omega, hc2⟩))
theorem run_lev (g : Nw) (a : Nat) (f : Nat) : ∀ k, run g (f + (pl g a k).length) [[a]] 0 = run g f (dl g a k) (pl g a k).length := by
  intro k
  induction k generalizing f with
  | zero =>
    show run g f [[a]] 0 = run g f (dl g a 0) 0
    have e : dl g a 0 = [[a]] := by
      show ad1 [] [a] = _
      rw [ad1_f (by rintro ⟨q, h, -⟩; cases h)]; rfl
    rw [e]
  | succ k ih =>
    have h1 : (pl g a (k + 1)).length = (nw (pl g a k) (rws g a k)).length + (pl g a k).length := by
      show (dl g a k).length = _
      rw [dl_pl, nw_ap, List.length_append]; omega
    have h2 := run_seg (g := g) f (nw (pl g a k) (rws g a k)) (pl g a k) []
    rw [List.append_nil, ← nw_ap, ← dl_pl, dl_step] at h2
    rw [h1, ← Nat.add_assoc, ih (f + (nw (pl g a k) (rws g a k)).length), h2, Nat.add_comm (pl g a k).length]
theorem run_end {g : Nw} {a k f : Nat} (hk : rws g a (k + 1) = []) (hf : (dl g a k).length ≤ f) : run g f [[a]] 0 = dl g a k := by
  have h := run_lev g a (f - (dl g a k).length) (k + 1)
  have e : dl g a (k + 1) = dl g a k := by rw [dl_s, hk, adds_n]
  have e2 : pl g a (k + 1) = dl g a k := rfl
  rw [e, e2, Nat.sub_add_cancel hf] at h
  rw [h]
  cases f - (dl g a k).length with
  | zero => rfl
  | succ f => show (match (dl g a k)[(dl g a k).length]? with | none => _ | some r => _) = _
              rw [List.getElem?_eq_none (Nat.le_refl _)]
