/-! a constructor at work on the object b: what was made since its beginning at M -/
def Gs (Z : Nat → Int32) (ok : Nat → Bool) (b : Nat) (ks : List Kd) (l : List (Nat × Nat × Nat)) (M K : Mm) : Prop :=
  K.1 = (M.1.1 ++ ks, true) ∧ (∀ a, a < b → K.2.1 a = M.2.1 a ∧ K.2.2.2 a = M.2.2.2 a) ∧ (∀ a, b ≤ a → ok a = true → ∀ j, K.2.1 a j = if a = b then Z j else 0) ∧ K.2.2.1 = M.2.2.1 ∧ (∀ q ∈ l, K.2.2.2 q.1 q.2.1 = some q.2.2) ∧ Zf K
section GS
variable {Z : Nat → Int32} {ok : Nat → Bool} {b : Nat} {ks : List Kd} {l : List (Nat × Nat × Nat)} {M K : Mm}
theorem Gs.zf (g : Gs Z ok b ks l M K) : Zf K := g.2.2.2.2.2
theorem Gs.ti (g : Gs Z ok b ks l M K) : K.1.2 = true := by rw [g.1]
theorem Gs.len (g : Gs Z ok b ks l M K) {n : Nat} (h : M.1.1.length + ks.length = n) : K.1.1.length = n := by rw [g.1, ← h]; exact List.length_append
theorem Gs.sh (g : Gs Z ok b ks l M K) {i : Nat} {kd : Kd} (h : (M.1.1 ++ ks)[i]? = some kd) : K.1.1[i]? = some kd := by rw [g.1]; exact h
theorem Gs.sh0 (g : Gs Z ok b ks l M K) {i : Nat} {kd : Kd} (h : M.1.1[i]? = some kd) : K.1.1[i]? = some kd := by
  rw [g.1]
  show (M.1.1 ++ ks)[i]? = _
  rw [List.getElem?_append_left (List.getElem?_eq_some_iff.mp h).1]; exact h
theorem Gs.start (h1 : M.1.1.length = b + 1) (h2 : M.1.2 = true) (hz : Zf M) (h0 : ∀ j, M.2.1 b j = 0) : Gs (fun _ => 0) (fun _ => true) b [] [] M M := by
  refine ⟨by rw [List.append_nil, ← h2], fun _ _ => ⟨rfl, rfl⟩, fun a ha _ j => ?_, rfl, (by intro q h; cases h), hz⟩
  by_cases e : a = b
  · rw [if_pos e, e]; exact h0 j
  · rw [if_neg e]; exact (hz a (by omega)).1 j
theorem Zf.add {kd : Kd} (h : Zf M) : Zf (addK M kd) := fun k hk => h k (by
  have : (M.1.1 ++ [kd]).length ≤ k := hk
  rw [List.length_append] at this; omega)
theorem Zf.put {a i : Nat} {v : Int32} (h : Zf M) (ha : a < M.1.1.length) : Zf (sI M a i v) := fun k hk => ⟨fun j => by
  have e : (sI M a i v).2.1 k = M.2.1 k := u2_ne _ _ _ (by have : M.1.1.length ≤ k := hk; omega)
  rw [e]; exact (h k hk).1 j, (h k hk).2⟩
theorem Zf.ref {a i : Nat} {v : Option Nat} (h : Zf M) (ha : a < M.1.1.length) : Zf (sR M a i v) := fun k hk => ⟨(h k hk).1, (h k hk).2.1, fun j => by
  have e : (sR M a i v).2.2.2 k = M.2.2.2 k := u2_ne _ _ _ (by have : M.1.1.length ≤ k := hk; omega)
  rw [e]; exact (h k hk).2.2 j⟩
theorem Gs.putI {j : Nat} {v : Int32} (g : Gs Z ok b ks l M K) (hb : b < M.1.1.length) : Gs (fun i => if i = j then v else Z i) ok b ks l M (sI K b j v) := by
  obtain ⟨g1, g2, g3, g4, g5, g6⟩ := g
  refine ⟨g1, fun a ha => ⟨(u2_ne _ _ _ (Nat.ne_of_lt ha)).trans (g2 a ha).1, (g2 a ha).2⟩, fun a ha ho i => ?_, g4, g5, g6.put (by rw [g1]; show b < (M.1.1 ++ ks).length; rw [List.length_append]; omega)⟩
  show u2 K.2.1 b j v a i = _
  by_cases e : a = b
  · subst e
    rw [u2_self, if_pos rfl]
    dsimp only
    by_cases e2 : i = j
    · rw [if_pos e2, if_pos e2]
    · rw [if_neg e2, if_neg e2, g3 a ha ho i, if_pos rfl]
  · rw [u2_ne _ _ _ e, if_neg e, g3 a ha ho i, if_neg e]
theorem Gs.add (kd : Kd) (g : Gs Z ok b ks l M K) : Gs Z ok b (ks ++ [kd]) l M (addK K kd) := by
  obtain ⟨g1, g2, g3, g4, g5, g6⟩ := g
  refine ⟨?_, g2, g3, g4, g5, g6.add⟩
  show (K.1.1 ++ [kd], K.1.2) = _
  rw [g1, List.append_assoc]
theorem Gs.putR {a k c : Nat} (g : Gs Z ok b ks l M K) (ha : b ≤ a) (hl : a < M.1.1.length + ks.length) (hk : ∀ q ∈ l, ¬ (q.1 = a ∧ q.2.1 = k)) : Gs Z ok b ks ((a, k, c) :: l) M (sR K a k (some c)) := by
  obtain ⟨g1, g2, g3, g4, g5, g6⟩ := g
  refine ⟨g1, fun x hx => ⟨(g2 x hx).1, (u2_ne _ _ _ (by omega)).trans (g2 x hx).2⟩, g3, g4, fun q hq => ?_, g6.ref (by rw [g1]; show a < (M.1.1 ++ ks).length; rw [List.length_append]; omega)⟩
  show u2 K.2.2.2 a k (some c) q.1 q.2.1 = _
  rcases List.mem_cons.mp hq with rfl | h
  · simp [u2]
  · have h1 := hk q h
    have h2 := g5 q h
    unfold u2
    by_cases e : q.1 = a
    · rw [if_pos e, if_neg (fun e2 => h1 ⟨e, e2⟩)]; exact h2
    · rw [if_neg e]; exact h2
/-- an array into a field of b -/
theorem Gs.mk {k n : Nat} (kd : Kd) (g : Gs Z ok b ks l M K) (hb : b < M.1.1.length) (hk : ∀ q ∈ l, ¬ (q.1 = b ∧ q.2.1 = k)) : Gs Z ok b (ks ++ [kd]) ((b, k, n) :: l) M (sR (addK K kd) b k (some n)) := (g.add kd).putR (Nat.le_refl _) (by omega) hk
/-- behind the call of another constructor at c -/
theorem Gs.sub {Zc : Nat → Int32} {okc ok' : Nat → Bool} {c : Nat} {ks' : List Kd} {l' : List (Nat × Nat × Nat)} {N : Mm} (g : Gs Z ok b ks l M K) (h : Gs Zc okc c ks' l' K N) (hc : b < c) (hZ : okc c = true → ∀ j, Zc j = 0) (hl : ∀ q ∈ l, q.1 < c) (ho : ∀ a, ok' a = true → ok a = true ∧ (c ≤ a → okc a = true)) : Gs Z ok' b (ks ++ ks') (l' ++ l) M N := by
  obtain ⟨g1, g2, g3, g4, g5, g6⟩ := g
  obtain ⟨h1, h2, h3, h4, h5, h6⟩ := h
  refine ⟨?_, fun a ha => ⟨(h2 a (by omega)).1.trans (g2 a ha).1, (h2 a (by omega)).2.trans (g2 a ha).2⟩, fun a ha hok j => ?_, h4.trans g4, fun q hq => ?_, h6⟩
  · rw [h1, g1]
    show (M.1.1 ++ ks ++ ks', true) = _
    rw [List.append_assoc]
  · by_cases hac : a < c
    · rw [(h2 a hac).1]; exact g3 a ha (ho a hok).1 j
    · have hoc := (ho a hok).2 (by omega)
      rw [h3 a (by omega) hoc j, if_neg (show ¬ a = b by omega)]
      by_cases e : a = c
      · rw [if_pos e]; subst e; exact hZ hoc j
      · rw [if_neg e]
  · rcases List.mem_append.mp hq with hq | hq
    · exact h5 q hq
    · rw [(h2 q.1 (hl q hq)).2]; exact g5 q hq
/-- ints of the cells lo to hi were written -/
theorem Gs.fr {ok' : Nat → Bool} {lo hi : Nat} {N : Mm} (g : Gs Z ok b ks l M K) (hf : Fr lo hi K N) (hlo : b ≤ lo) (hhi : hi < M.1.1.length + ks.length) (ho : ∀ a, ok' a = true → ok a = true ∧ (a < lo ∨ hi < a)) : Gs Z ok' b ks l M N := by
  obtain ⟨g1, g2, g3, g4, g5, g6⟩ := g
  have h22 := hf.2.1
  refine ⟨hf.1.trans g1, fun a ha => ⟨(hf.2.2 a (by omega)).trans (g2 a ha).1, by rw [h22]; exact (g2 a ha).2⟩, fun a ha hok j => by rw [hf.2.2 a (ho a hok).2]; exact g3 a ha (ho a hok).1 j, by rw [h22]; exact g4, fun q hq => by rw [h22]; exact g5 q hq, fun k hk => ?_⟩
  rw [hf.1] at hk
  have hk' : (M.1.1 ++ ks).length ≤ k := by rw [g1] at hk; exact hk
  rw [List.length_append] at hk'
  rw [hf.2.2 k (by omega), h22]
  exact g6 k hk
theorem Gs.oks (g : Gs Z ok b ks l M K) {ok' : Nat → Bool} (ho : ∀ a, ok' a = true → ok a = true) : Gs Z ok' b ks l M K := ⟨g.1, g.2.1, fun a ha h j => g.2.2.1 a ha (ho a h) j, g.2.2.2⟩
/-- the rows of an array of arrays -/
theorem Gs.rows {n k : Nat} (g : Gs Z ok b ks l M K) {a : Nat} (ha : M.1.1.length + ks.length = a) (hb : b < a) (hl : ∀ q ∈ l, q.1 < a) : Gs Z ok b (ks ++ (.inr (.array .int, n) :: List.replicate n (.inr (.int, k)))) ((List.range n).map (fun j => (a, j, a + 1 + j)) ++ l) M (addG K n k) := by
  have hlen := g.len ha
  obtain ⟨g1, g2, g3, g4, g5, g6⟩ := g
  have hr : ∀ x j, (addG K n k).2.2.2 x j = if x = a then (if j < n then some (a + 1 + j) else none) else K.2.2.2 x j := fun x j => by
    show (if x = K.1.1.length then (if j < n then some (K.1.1.length + 1 + j) else none) else K.2.2.2 x j) = _
    rw [hlen]
  refine ⟨?_, fun x hx => ⟨(g2 x hx).1, ?_⟩, g3, g4, fun q hq => ?_, fun x hx => ?_⟩
  · show (K.1.1 ++ _, K.1.2) = _
    rw [g1, List.append_assoc]
  · rw [← (g2 x hx).2]
    funext j
    rw [hr, if_neg (by omega)]
  · rw [hr]
    rcases List.mem_append.mp hq with hq | hq
    · obtain ⟨j, hj, rfl⟩ := List.mem_map.mp hq
      rw [if_pos rfl, if_pos (List.mem_range.mp hj)]
    · rw [if_neg (Nat.ne_of_lt (hl q hq))]; exact g5 q hq
  · have hx' : (K.1.1 ++ ((Sum.inr (FieldType.array .int, n) : Kd) :: List.replicate n (Sum.inr (FieldType.int, k)))).length ≤ x := hx
    rw [List.length_append, List.length_cons] at hx'
    obtain ⟨z1, z2, z3⟩ := g6 x (by omega)
    exact ⟨z1, z2, fun j => by rw [hr, if_neg (by omega)]; exact z3 j⟩
end GS
theorem Ev.loose {B : Bd} {y : Mt} {d rc rs : Nat} {Φ : Ot → Mm → Prop} {pc : Nat} {L : Lc} {st : List Value} {M : Mm} (h : Ev B y d rc rs Φ pc L st (loose M)) : Ev B y d rc rs Φ pc L st M := by
  intro p e R s m args below meth c C ls H locs cells slots hl hR hS hc hs
  exact h p e R s m args below meth c C ls H locs cells slots hl (hR.kept (Nat.le_refl _) (fun _ _ => rfl)) hS hc hs
theorem nest_5b : (RX5, 55, yX2_init) ∈ nests := by decide +kernel
theorem nest_5c : (RX5, 62, yX4_init) ∈ nests := by decide +kernel
set_option maxHeartbeats 4000000 in
/-- a constructor with one argument -/
theorem e_callI1 {B : Bd} {y : Mt} {d rc rs : Nat} {Φ : Ot → Mm → Prop} {pc : Nat} {L : Lc} {st : List Value} {M : Mm} {v : Value} {i b d1 rc1 rs1 rc2 rs2 : Nat} {q : Mt} {Ψ : Option Value → Mm → Prop} (hd : decode y.2.1 pc = .ok (.invokespecial i, 3)) (hm : MdI q 1) (hlk : Cond.methodLink y.1.cls i q.1 ∈ TB) (hst : (st.map fun v => v.category).sum ≤ 8) (hdd : d1 + 1 ≤ d) (hr1 : rc1 + rc2 ≤ rc) (hr2 : rs1 + rs2 ≤ rs)
    (hct : Ct B q d1 rc1 rs1 [.ref b, v] M (Rt Ψ)) (kk : ∀ v N, Ψ v N → Ev B y d rc2 rs2 Φ (pc + 3) L (v.toList ++ st) N) : Ev B y d rc rs Φ pc L (v :: .ref b :: st) M := by
  intro p e R s m args below meth c C ls H locs cells slots hl hR hS hc hs
  obtain ⟨hfr, hlo⟩ := C.2.2.2.2.2.2
  obtain ⟨⟨m1, m2, m3, m4, m5⟩, m6, m7, m8⟩ := id hm
  refine run_on (Φ1 := Rt Ψ) (a9 := (([.ref b, v] : List Value).map (tr (ba B))).toArray) (rc1 := rc1) (rs1 := rs1) (rc2 := rc2) (rs2 := rs2) (st := st) C hl hS (by omega) (by omega) ?_ (fun v N h => by obtain ⟨w, h1, h2⟩ := h; cases h1; exact kk _ _ h2) (fun E N h => by obtain ⟨w, h1, h2⟩ := h; cases h1)
  refine vx_runI (As := [tr (ba B) v]) (b := ba B b) (nL := y.2.2.1) (n := 1) ⟨C.1.1, C.1.2.1, C.1.2.2.2.1, C.1.2.2.2.2, C.2.1⟩ hct (cwI (bytes := q.2.1) (maxL := q.2.2.1) 1 C.2.1 (wsY_good hm.1) (by rw [wsY_nil m4, m8]) rfl rfl (C.2.1 _ m2) (C.2.1 _ hlk) (C.2.1 _ m6) m7 m3 ⟨?_, ?_⟩) ⟨Pcx_blind, Pcx_of C hR hS [.ref b, v]⟩ rfl rfl hl.1 rfl (lv_room (cat8 hst _)) hd ⟨by omega, by omega⟩
  · show d1 + 1 ≤ R.frames
    omega
  · show 8 + (q.2.2.1 + 11) + 128 * d1 ≤ R.locals
    omega
