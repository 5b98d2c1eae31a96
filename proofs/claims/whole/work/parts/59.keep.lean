/-! ===== networks stay sound: pure ===== -/
theorem Gd_put {g : Nw} {a b k : Nat} (h : Gd g) (ha : a < g.1) (hb : b < g.1) (hab : a ≠ b) (hk : k ≤ 999) : Gd (gPut g a b (some k)) := by
  refine ⟨Wfn_put h.1 ha hb hab hk, fun x y hxy => ?_⟩
  have := h.2 x y hxy
  show (w2 g.2.1 a b (some k) x y).isSome = true
  unfold w2
  split
  · rfl
  · exact this
theorem gUn_iff {g : Nw} (wf : Wfn g) {a x y : Nat} : (gUn g a).2.2 x = some y ↔ (g.2.2 x = some y ∧ x ≠ a ∧ y ≠ a) := by
  unfold gUn
  cases h : g.2.2 a with
  | none =>
    show g.2.2 x = some y ↔ _
    constructor
    · intro hxy
      refine ⟨hxy, fun e => ?_, fun e => ?_⟩
      · rw [e, h] at hxy; cases hxy
      · rw [e] at hxy
        have := (wf.2.2.2.2 x a hxy).1
        rw [h] at this; cases this
    · exact fun q => q.1
  | some b =>
    have hb := wf.2.2.2.2 a b h
    show m2 (m2 g.2.2 a none) b none x = some y ↔ _
    unfold m2
    by_cases h1 : x = b
    · rw [if_pos h1]
      constructor
      · intro q; cases q
      · rintro ⟨q, -, q2⟩
        rw [h1, hb.1] at q
        exact absurd (Option.some.inj q).symm q2
    · rw [if_neg h1]
      by_cases h2 : x = a
      · rw [if_pos h2]
        constructor
        · intro q; cases q
        · rintro ⟨-, q, -⟩; exact absurd h2 q
      · rw [if_neg h2]
        constructor
        · intro q
          refine ⟨q, h2, fun e => ?_⟩
          rw [e] at q
          have := (wf.2.2.2.2 x a q).1
          rw [h] at this
          exact h1 (Option.some.inj this).symm
        · exact fun q => q.1
theorem Gd_un {g : Nw} {a : Nat} (h : Gd g) : Gd (gUn g a) := by
  have hi := fun x y => gUn_iff h.1 (a := a) (x := x) (y := y)
  refine ⟨⟨h.1.1, h.1.2.1, h.1.2.2.1, h.1.2.2.2.1, fun x y hxy => ?_⟩, fun x y hxy => ?_⟩
  · have q := (hi x y).mp hxy
    have w := h.1.2.2.2.2 x y q.1
    exact ⟨(hi y x).mpr ⟨w.1, q.2.2, q.2.1⟩, w.2⟩
  · exact h.2 x y ((hi x y).mp hxy).1
theorem Gd_cut {g : Nw} {a b : Nat} (h : Gd g) (hm : ¬ g.2.2 a = some b) : Gd (gPut g a b none) := by
  refine ⟨⟨h.1.1, fun x y => ?_, fun x => ?_, fun x y j hj => ?_, h.1.2.2.2.2⟩, fun x y hxy => ?_⟩
  · show w2 g.2.1 a b none x y = w2 g.2.1 a b none y x
    unfold w2
    by_cases h1 : (x = a ∧ y = b) ∨ (x = b ∧ y = a)
    · rw [if_pos h1, if_pos (h1.elim (fun q => Or.inr ⟨q.2, q.1⟩) (fun q => Or.inl ⟨q.2, q.1⟩))]
    · rw [if_neg h1, if_neg (fun q => h1 (q.elim (fun q => Or.inr ⟨q.2, q.1⟩) (fun q => Or.inl ⟨q.2, q.1⟩)))]
      exact h.1.2.1 x y
  · show w2 g.2.1 a b none x x = none
    unfold w2
    split
    · rfl
    · exact h.1.2.2.1 x
  · have hj' : w2 g.2.1 a b none x y = some j := hj
    unfold w2 at hj'
    split at hj'
    · cases hj'
    · exact h.1.2.2.2.1 x y j hj'
  · have hxy' : g.2.2 x = some y := hxy
    have := h.2 x y hxy'
    show (w2 g.2.1 a b none x y).isSome = true
    unfold w2
    rw [if_neg]
    · exact this
    · rintro (⟨q1, q2⟩ | ⟨q1, q2⟩)
      · rw [q1, q2] at hxy'; exact hm hxy'
      · have := (h.1.2.2.2.2 x y hxy').1
        rw [q1, q2] at this; exact hm this
theorem Gd_pair {g : Nw} {a b : Nat} (h : Gd g) (ha : a < g.1) (hb : b < g.1) (hab : a ≠ b) (ma : g.2.2 a = none) (mb : g.2.2 b = none) (hl : (g.2.1 a b).isSome = true) : Gd (g.1, g.2.1, m2 (m2 g.2.2 a (some b)) b (some a)) := by
  refine ⟨Wfn_m2 h.1 ha hb hab ma mb, fun x y hxy => ?_⟩
  have hxy' : m2 (m2 g.2.2 a (some b)) b (some a) x = some y := hxy
  show (g.2.1 x y).isSome = true
  unfold m2 at hxy'
  by_cases h1 : x = b
  · rw [if_pos h1] at hxy'
    rw [h1, ← Option.some.inj hxy', h.1.2.1]; exact hl
  · rw [if_neg h1] at hxy'
    by_cases h2 : x = a
    · rw [if_pos h2] at hxy'
      rw [h2, ← Option.some.inj hxy']; exact hl
    · rw [if_neg h2] at hxy'
      exact h.2 x y hxy'
def prs : List Nat → List (Nat × Nat)
  | x :: y :: l => (x, y) :: prs l
  | _ => []
theorem prs_mem : ∀ (l : List Nat) {x y : Nat}, (x, y) ∈ prs l → x ∈ l ∧ y ∈ l
  | [], x, y, h => by cases h
  | [z], x, y, h => by cases h
  | u :: v :: l, x, y, h => by
    have h' : (x, y) ∈ (u, v) :: prs l := h
    rcases List.mem_cons.mp h' with h1 | h1
    · cases h1
      exact ⟨by simp, by simp⟩
    · obtain ⟨q1, q2⟩ := prs_mem l h1
      exact ⟨List.mem_cons_of_mem _ (List.mem_cons_of_mem _ q1), List.mem_cons_of_mem _ (List.mem_cons_of_mem _ q2)⟩
theorem prs_all : ∀ (l : List Nat), l.length % 2 = 0 → ∀ x, x ∈ l → ∃ y, (x, y) ∈ prs l ∨ (y, x) ∈ prs l
  | [], _, x, h => by cases h
  | [z], h, x, _ => by simp at h
  | u :: v :: l, hl, x, h => by
    have hl' : l.length % 2 = 0 := by rw [List.length_cons, List.length_cons] at hl; omega
    rcases List.mem_cons.mp h with h1 | h1
    · subst h1; exact ⟨v, Or.inl (List.mem_cons_self ..)⟩
    · rcases List.mem_cons.mp h1 with h1 | h1
      · subst h1; exact ⟨u, Or.inr (List.mem_cons_self ..)⟩
      · obtain ⟨y, h2⟩ := prs_all l hl' x h1
        exact ⟨y, h2.elim (fun q => Or.inl (List.mem_cons_of_mem _ q)) (fun q => Or.inr (List.mem_cons_of_mem _ q))⟩
theorem prs_ap : ∀ (l k : List Nat), l.length % 2 = 0 → prs (l ++ k) = prs l ++ prs k
  | [], k, _ => rfl
  | [z], k, h => by simp at h
  | u :: v :: l, k, hl => by
    have hl' : l.length % 2 = 0 := by rw [List.length_cons, List.length_cons] at hl; omega
    show (u, v) :: prs (l ++ k) = (u, v) :: (prs l ++ prs k)
    rw [prs_ap l k hl']
theorem bpr_iff : ∀ (l : List Nat) (m : Nat → Option Nat), l.length % 2 = 0 → l.Pairwise (fun x y => x ≠ y) → ∀ a b, bpr m l a = some b ↔ ((a, b) ∈ prs l ∨ (b, a) ∈ prs l ∨ (a ∉ l ∧ m a = some b))
  | [], m, _, _, a, b => by
    show m a = some b ↔ _
    simp [prs]
  | [z], m, h, _, a, b => by simp at h
  | x :: y :: l, m, hl, hp, a, b => by
    have hl' : l.length % 2 = 0 := by rw [List.length_cons, List.length_cons] at hl; omega
    rw [List.pairwise_cons, List.pairwise_cons] at hp
    obtain ⟨hx, hy, hp'⟩ := hp
    have hxy : x ≠ y := hx y (List.mem_cons_self ..)
    have hxl : x ∉ l := fun q => hx x (List.mem_cons_of_mem _ q) rfl
    have hyl : y ∉ l := fun q => hy y q rfl
    show bpr (m2 (m2 m x (some y)) y (some x)) l a = some b ↔ _
    rw [bpr_iff l _ hl' hp' a b]
    have e : prs (x :: y :: l) = (x, y) :: prs l := rfl
    rw [e, List.mem_cons, List.mem_cons, List.mem_cons, List.mem_cons, Prod.mk.injEq, Prod.mk.injEq]
    have hm : m2 (m2 m x (some y)) y (some x) a = some b ↔ ((a = y ∧ b = x) ∨ (a = x ∧ b = y) ∨ (a ≠ x ∧ a ≠ y ∧ m a = some b)) := by
      unfold m2
      by_cases h1 : a = y
      · rw [if_pos h1]
        constructor
        · intro q; exact Or.inl ⟨h1, (Option.some.inj q).symm⟩
        · rintro (q | q | q)
          · rw [q.2]
          · exact absurd (q.1.symm.trans h1) hxy
          · exact absurd h1 q.2.1
      · rw [if_neg h1]
        by_cases h2 : a = x
        · rw [if_pos h2]
          constructor
          · intro q; exact Or.inr (Or.inl ⟨h2, (Option.some.inj q).symm⟩)
          · rintro (q | q | q)
            · exact absurd q.1 h1
            · rw [q.2]
            · exact absurd h2 q.1
        · rw [if_neg h2]
          constructor
          · intro q; exact Or.inr (Or.inr ⟨h2, h1, q⟩)
          · rintro (q | q | q)
            · exact absurd q.1 h1
            · exact absurd q.1 h2
            · exact q.2.2
    rw [hm]
    constructor
    · rintro (q | q | ⟨q1, q2 | q2 | q2⟩)
      · exact Or.inl (Or.inr q)
      · exact Or.inr (Or.inl (Or.inr q))
      · exact Or.inr (Or.inl (Or.inl ⟨q2.2, q2.1⟩))
      · exact Or.inl (Or.inl q2)
      · exact Or.inr (Or.inr ⟨fun z => z.elim q2.1 (fun z => z.elim q2.2.1 q1), q2.2.2⟩)
    · rintro ((q | q) | (q | q) | ⟨q1, q2⟩)
      · exact Or.inr (Or.inr ⟨by rw [q.1]; exact hxl, Or.inr (Or.inl q)⟩)
      · exact Or.inl q
      · exact Or.inr (Or.inr ⟨by rw [q.2]; exact hyl, Or.inl ⟨q.2, q.1⟩⟩)
      · exact Or.inr (Or.inl q)
      · exact Or.inr (Or.inr ⟨fun z => q1 (Or.inr (Or.inr z)), Or.inr (Or.inr ⟨fun z => q1 (Or.inl z), fun z => q1 (Or.inr (Or.inl z)), q2⟩)⟩)
/-- pairs told anew along a row: its nodes' mates were in it -/
theorem Gd_bpr {g : Nw} {l : List Nat} (h : Gd g) (hl : l.length % 2 = 0) (hp : l.Pairwise (fun x y => x ≠ y)) (hin : ∀ x, x ∈ l → x < g.1) (hm : ∀ x y, x ∈ l → g.2.2 x = some y → y ∈ l) (hln : ∀ x y, (x, y) ∈ prs l → (g.2.1 x y).isSome = true) : Gd (g.1, g.2.1, bpr g.2.2 l) := by
  have hi := bpr_iff l g.2.2 hl hp
  have key : ∀ x y, bpr g.2.2 l x = some y → bpr g.2.2 l y = some x ∧ x < g.1 ∧ y < g.1 ∧ x ≠ y ∧ (g.2.1 x y).isSome = true := by
    have irr : ∀ x y, (g.2.1 x y).isSome = true → x ≠ y := fun x y q e => by
      rw [e, h.1.2.2.1] at q; cases q
    intro x y hxy
    rcases (hi x y).mp hxy with q | q | ⟨q1, q2⟩
    · have hm := prs_mem l q
      have hl := hln x y q
      exact ⟨(hi y x).mpr (Or.inr (Or.inl q)), hin x hm.1, hin y hm.2, irr x y hl, hl⟩
    · have hm := prs_mem l q
      have hl := hln y x q
      exact ⟨(hi y x).mpr (Or.inl q), hin x hm.2, hin y hm.1, fun e => irr y x hl e.symm, by rw [h.1.2.1]; exact hl⟩
    · obtain ⟨w1, w2, w3, w4⟩ := h.1.2.2.2.2 x y q2
      refine ⟨(hi y x).mpr (Or.inr (Or.inr ⟨fun z => q1 (hm y x z w1), w1⟩)), w2, w3, w4, h.2 x y q2⟩
  exact ⟨⟨h.1.1, h.1.2.1, h.1.2.2.1, h.1.2.2.2.1, fun x y hxy => ⟨(key x y hxy).1, (key x y hxy).2.1, (key x y hxy).2.2.1, (key x y hxy).2.2.2.1⟩⟩, fun x y hxy => (key x y hxy).2.2.2.2⟩
/-- a path that betters, as a row -/
theorem Vr_nd {g : Nw} (wf : Wfn g) {a : Nat} : ∀ {k r}, Vr g a k r → r.Pairwise (fun x y => x ≠ y) := by
  intro k
  induction k with
  | zero => intro r h; rw [h]; exact List.pairwise_singleton _ _
  | succ k ih =>
    rintro r ⟨b, c, q, h1, h2, h3, h4, h5, h6⟩
    have hbc := (wf.2.2.2.2 b c h5).2.2.2
    rw [h2, List.pairwise_cons, List.pairwise_cons]
    refine ⟨fun x hx => ?_, fun x hx => ?_, ih h1⟩
    · rcases List.mem_cons.mp hx with hx | hx
      · rw [hx]; exact fun e => hbc e.symm
      · intro e
        have := (so_bit q x).mpr hx
        rw [← e, h6] at this; cases this
    · intro e
      have := (so_bit q x).mpr hx
      rw [← e, h3] at this; cases this
theorem Vr_prs {g : Nw} {a : Nat} : ∀ {k r e}, Vr g a k r → (g.2.1 (hd r) e).isSome = true → ∀ x y, (x, y) ∈ prs (r.reverse ++ [e]) → (g.2.1 x y).isSome = true := by
  intro k
  induction k with
  | zero =>
    intro r e h hl x y hxy
    subst h
    have hxy' : (x, y) ∈ [(a, e)] := hxy
    cases List.mem_singleton.mp hxy'
    exact hl
  | succ k ih =>
    rintro r e ⟨b, c, q, h1, h2, h3, h4, h5, h6⟩ hl x y hxy
    subst h2
    have e1 : (c :: b :: q).reverse ++ [e] = (q.reverse ++ [b]) ++ [c, e] := by simp
    rw [e1, prs_ap _ _ (by rw [List.length_append, List.length_reverse, Vr_len h1]; show (2 * k + 1 + 1) % 2 = 0; omega), List.mem_append] at hxy
    rcases hxy with hxy | hxy
    · exact ih h1 h4 x y hxy
    · have hxy' : (x, y) ∈ [(c, e)] := hxy
      cases List.mem_singleton.mp hxy'
      exact hl
theorem find_mem {p : Rw → Bool} {Q : List Rw} {r : Rw} (h : Q.find? p = some r) : r ∈ Q ∧ p r = true := ⟨List.mem_of_find?_eq_some h, List.find?_some h⟩
theorem wlk_v {g : Nw} (wf : Wfn g) {a : Nat} (ha : a < g.1) {r : Rw} (h : r ∈ wlk g a) : ∃ k, Vr g a k r := by
  rw [wlk_eq wf ha] at h
  exact dl_v h
/-- what is so of a path that betters -/
theorem pth_ok {g : Nw} (h : Gd g) {a : Nat} (ha : a < g.1) {l : List Nat} (hl : pth g a = some l) : l.length % 2 = 0 ∧ l.length ≤ g.1 ∧ l.Pairwise (fun x y => x ≠ y) ∧ (∀ x, x ∈ l → x < g.1) ∧ (∀ x y, x ∈ l → g.2.2 x = some y → y ∈ l) ∧ (∀ x y, (x, y) ∈ prs l → (g.2.1 x y).isSome = true) ∧ g.2.2 a = none := by
  unfold pth at hl
  by_cases hm : (g.2.2 a).isSome = true
  · rw [if_pos hm] at hl; cases hl
  · rw [if_neg hm] at hl
    have hma : g.2.2 a = none := by
      cases hh : g.2.2 a with
      | none => rfl
      | some b => rw [hh] at hm; exact absurd rfl hm
    cases hf : (wlk g a).find? (fun r => (fbs g a r).isSome) with
    | none => rw [hf] at hl; cases hl
    | some r =>
      rw [hf] at hl
      have hl' : (fbs g a r).map (fun e => r.reverse ++ [e]) = some l := hl
      obtain ⟨q1, q2⟩ := find_mem hf
      obtain ⟨k, hk⟩ := wlk_v h.1 ha q1
      cases he : fbs g a r with
      | none => rw [he] at hl'; cases hl'
      | some e =>
        rw [he] at hl'
        have hle : r.reverse ++ [e] = l := Option.some.inj hl'
        subst hle
        have hsp := fbs_spec he
        have hnew := fbs_new h.1 hk he
        have hlen := Vr_len hk
        have hll := fbs_len h.1 ha hk he
        refine ⟨?_, ?_, ?_, ?_, ?_, Vr_prs hk hsp.2.1, hma⟩
        · rw [List.length_append, List.length_reverse, hlen]; show (2 * k + 1 + 1) % 2 = 0; omega
        · rw [List.length_append, List.length_reverse]; show r.length + 1 ≤ g.1; omega
        · rw [List.pairwise_append]
          refine ⟨?_, List.pairwise_singleton _ _, fun x hx y hy => ?_⟩
          · rw [List.pairwise_reverse]
            exact (Vr_nd h.1 hk).imp (fun q e => q e.symm)
          · rw [List.mem_singleton.mp hy]
            rw [List.mem_reverse] at hx
            exact fun e => hnew (by rw [← e]; exact hx)
        · intro x hx
          rw [List.mem_append, List.mem_singleton, List.mem_reverse] at hx
          rcases hx with hx | hx
          · exact Vr_in h.1 ha hk x hx
          · rw [hx]; exact hsp.2.2.2
        · intro x y hx hxy
          rw [List.mem_append, List.mem_singleton, List.mem_reverse] at hx
          rcases hx with hx | hx
          · by_cases hxa : x = a
            · rw [hxa, hma] at hxy; cases hxy
            · obtain ⟨z, z1, z2, z3⟩ := Vr_mate h.1 hk x hx hxa
              rw [hxy] at z1
              rw [List.mem_append, List.mem_reverse]
              rw [Option.some.inj z1]; exact Or.inl z2
          · rw [hx, hsp.2.2.1] at hxy; cases hxy
theorem Gd_better {g : Nw} (h : Gd g) {a : Nat} (ha : a < g.1) {l : List Nat} (hl : pth g a = some l) : Gd (g.1, g.2.1, bpr g.2.2 l) := by
  obtain ⟨p1, -, p3, p4, p5, p6, -⟩ := pth_ok h ha hl
  exact Gd_bpr h p1 p3 p4 p5 p6
/-- FIRST is sound -/
theorem frs_ok {g : Nw} (wf : Wfn g) : ∀ a, (∀ x y, (frs g a).2 x = some y → (frs g a).2 y = some x ∧ x < g.1 ∧ y < g.1 ∧ x ≠ y ∧ (g.2.1 x y).isSome = true) ∧ (∀ x, (frs g a).1.testBit x = true → (frs g a).2 x = none) := by
  intro a
  induction a with
  | zero => exact ⟨fun x y h => (by cases h), fun x _ => rfl⟩
  | succ a ih =>
    obtain ⟨i1, i2⟩ := ih
    unfold frs
    by_cases hb : (frs g a).1.testBit a = true
    · rw [if_pos hb]
      cases hf : fm g a (frs g a).1 with
      | none =>
        refine ⟨i1, fun x hx => ?_⟩
        have hx' : (dif (frs g a).1 (2 ^ a)).testBit x = true := hx
        rw [dif_bit, Bool.and_eq_true] at hx'
        exact i2 x hx'.1
      | some b =>
        obtain ⟨q1, q2, q3⟩ := fnd_spec hf
        unfold pfm at q1
        rw [Bool.and_eq_true, Bool.and_eq_true] at q1
        have hfl := fm_lt hf
        have ma := i2 a hb
        have mb := i2 b q1.1
        have hab : a ≠ b := by omega
        refine ⟨fun x y hxy => ?_, fun x hx => ?_⟩
        · have hxy' : m2 (m2 (frs g a).2 a (some b)) b (some a) x = some y := hxy
          show m2 (m2 (frs g a).2 a (some b)) b (some a) y = some x ∧ _
          unfold m2 at hxy' ⊢
          by_cases h1 : x = b
          · rw [if_pos h1] at hxy'
            have h2 := Option.some.inj hxy'
            subst h1 h2
            rw [if_neg hab, if_pos rfl]
            exact ⟨rfl, by omega, by omega, fun e => hab e.symm, by rw [wf.2.1]; exact q1.2.1⟩
          · rw [if_neg h1] at hxy'
            by_cases h2 : x = a
            · rw [if_pos h2] at hxy'
              have h3 := Option.some.inj hxy'
              subst h2 h3
              rw [if_pos rfl]
              exact ⟨rfl, by omega, by omega, hab, q1.2.1⟩
            · rw [if_neg h2] at hxy'
              obtain ⟨c1, c2⟩ := i1 x y hxy'
              have n1 : y ≠ b := fun e => by rw [e, mb] at c1; cases c1
              have n2 : y ≠ a := fun e => by rw [e, ma] at c1; cases c1
              rw [if_neg n1, if_neg n2]
              exact ⟨c1, c2⟩
        · have hx' : (dif (dif (frs g a).1 (2 ^ a)) (2 ^ b)).testBit x = true := hx
          rw [dif_bit, dif_bit, Nat.testBit_two_pow, Nat.testBit_two_pow] at hx'
          simp at hx'
          show m2 (m2 (frs g a).2 a (some b)) b (some a) x = none
          unfold m2
          rw [if_neg (fun e => hx'.2 e.symm), if_neg (fun e => hx'.1.2 e.symm)]
          exact i2 x hx'.1.1
    · rw [if_neg hb]
      exact ⟨i1, i2⟩
theorem Gd_first {g : Nw} (h : Gd g) : Gd (g.1, g.2.1, fstm g) := by
  obtain ⟨i1, -⟩ := frs_ok h.1 g.1
  exact ⟨⟨h.1.1, h.1.2.1, h.1.2.2.1, h.1.2.2.2.1, fun x y hxy => ⟨(i1 x y hxy).1, (i1 x y hxy).2.1, (i1 x y hxy).2.2.1, (i1 x y hxy).2.2.2.1⟩⟩, fun x y hxy => (i1 x y hxy).2.2.2.2⟩
/-- how many stay -/
theorem nus_lt {g : Nw} (wf : Wfn g) {G x : Nat} (hG : ∀ i, G.testBit i = true → i < g.1) (hx : x < g.1) (hxG : G.testBit x = false) : nus G x < g.1 - pop G := by
  have h1 := nus_mono (G := G) hx hxG
  have h2 : nus G g.1 = g.1 - pc G g.1 := rfl
  have h3 : pc G g.1 = pop G := by
    have : ∀ k, g.1 + k ≤ 12 → pc G (g.1 + k) = pc G g.1 := by
      intro k
      induction k with
      | zero => intro _; rfl
      | succ k ih =>
        intro hk
        show pc G (g.1 + k) + btS G (g.1 + k) = _
        rw [ih (by omega)]
        have : btS G (g.1 + k) = 0 := by
          unfold btS
          rw [if_neg]
          intro q
          have := hG _ q
          omega
        omega
    have h12 := wf.1.2
    have := this (12 - g.1) (by omega)
    rw [show g.1 + (12 - g.1) = 12 by omega] at this
    exact this.symm
  omega
theorem Gd_shr {g g' : Nw} (h : Gd g) {a k : Nat} (ha : a < g.1) {r : Rw} (hv : Vr g a k r) (hs : ShrOf g (ex (so r) a) a r.length g') : Gd g' := by
  obtain ⟨s1, s2, s3, s4, s5⟩ := hs
  have wf := h.1
  have hlen := Vr_len hv
  have hkk := Vr_k wf ha hv
  have hs4 := Vr_lt wf ha hv
  have hGp := Gp_row wf hv
  have hpop : pop (ex (so r) a) + 1 = r.length := by
    have := pop_ex hs4 ((so_bit r a).mpr (Vr_a hv))
    have h2 := pop_so wf ha hv
    omega
  generalize hG : ex (so r) a = G at *
  have hGa : G.testBit a = false := by
    rw [← hG]
    cases hh : (ex (so r) a).testBit a with
    | false => rfl
    | true => exact absurd rfl (ex_in.mp hh).2
  have hGin : ∀ i, G.testBit i = true → i < g.1 := fun i hi => by
    rw [← hG] at hi
    exact Vr_in wf ha hv i ((so_bit r i).mp (ex_in.mp hi).1)
  have hlt : ∀ x, x < g.1 → nmz G a x < g'.1 := by
    intro x hx
    have : nmz G a x < g.1 - pop G := by
      unfold nmz
      by_cases hb : G.testBit x = true
      · rw [if_pos hb]; exact nus_lt wf hGin ha hGa
      · rw [if_neg hb]
        exact nus_lt wf hGin hx (by
          cases hh : G.testBit x with
          | false => rfl
          | true => exact absurd hh hb)
    omega
  refine ⟨⟨⟨by omega, by have := wf.1.2; omega⟩, ?_, ?_, ?_, ?_⟩, ?_⟩
  · have half : ∀ i j, ole (g'.2.1 i j) (g'.2.1 j i) := by
      intro i j k' hk'
      obtain ⟨x, y, hx, hy, e1, e2, hne, e3⟩ := s3 i j k' hk'
      have := s2 y x hy hx (by rw [e1, e2]; exact fun q => hne q.symm) k' (by rw [wf.2.1]; exact e3)
      rw [e1, e2] at this; exact this
    intro i j
    cases e1 : g'.2.1 i j with
    | none =>
      cases e2 : g'.2.1 j i with
      | none => rfl
      | some k2 =>
        obtain ⟨k3, h3, -⟩ := half j i k2 e2
        rw [e1] at h3; cases h3
    | some k1 =>
      obtain ⟨k2, h3, h4⟩ := half i j k1 e1
      obtain ⟨k3, h5, h6⟩ := half j i k2 h3
      rw [e1] at h5
      have := Option.some.inj h5
      rw [h3]; congr 1; omega
  · intro i
    cases e1 : g'.2.1 i i with
    | none => rfl
    | some k1 =>
      obtain ⟨x, y, -, -, -, -, hne, -⟩ := s3 i i k1 e1
      exact absurd rfl hne
  · intro i j k1 e1
    obtain ⟨x, y, hx, hy, q1, q2, hne, q3⟩ := s3 i j k1 e1
    exact ⟨by rw [← q1]; exact hlt x hx, by rw [← q2]; exact hlt y hy, (wf.2.2.2.1 x y k1 q3).2.2⟩
  · intro i j e1
    obtain ⟨x, y, hm, q1, q2, hne⟩ := s5 i j e1
    have hh := wf.2.2.2.2 x y hm
    have := s4 y x hh.1 (by rw [q1, q2]; exact fun q => hne q.symm)
    rw [q1, q2] at this
    exact ⟨this, by rw [← q1]; exact hlt x hh.2.1, by rw [← q2]; exact hlt y hh.2.2.1, hne⟩
  · intro i j e1
    obtain ⟨x, y, hm, q1, q2, hne⟩ := s5 i j e1
    have hh := wf.2.2.2.2 x y hm
    obtain ⟨k1, hk1⟩ := Option.isSome_iff_exists.mp (h.2 x y hm)
    obtain ⟨j2, h3, -⟩ := s2 x y hh.2.1 hh.2.2.1 (by rw [q1, q2]; exact hne) k1 hk1
    rw [q1, q2] at h3
    rw [h3]; rfl
