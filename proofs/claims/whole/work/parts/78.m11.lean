/-! searches that go deep: pure -/
def fso {α : Type} (F : Nat → Option α) : Nat → Nat → Option α
  | 0, _ => none
  | k + 1, lo => match F lo with
    | some x => some x
    | none => fso F k (lo + 1)
theorem fso_t {α : Type} {F : Nat → Option α} {k lo : Nat} {x : α} (h : F lo = some x) : fso F (k + 1) lo = some x := by
  show (match F lo with | some x => some x | none => fso F k (lo + 1)) = _
  rw [h]
theorem fso_f {α : Type} {F : Nat → Option α} {k lo : Nat} (h : F lo = none) : fso F (k + 1) lo = fso F k (lo + 1) := by
  show (match F lo with | some x => some x | none => fso F k (lo + 1)) = _
  rw [h]
theorem fso_snoc {α : Type} (F : Nat → Option α) : ∀ k lo, fso F (k + 1) lo = (fso F k lo).or (F (lo + k)) := by
  intro k
  induction k with
  | zero =>
    intro lo
    cases h : F lo with
    | none => rw [fso_f h]; rfl
    | some x => rw [fso_t h]; rfl
  | succ k ih =>
    intro lo
    cases h : F lo with
    | none => rw [fso_f h, ih (lo + 1), fso_f h, show lo + 1 + k = lo + (k + 1) by omega]
    | some x => rw [fso_t h, fso_t h]; rfl
theorem fso_range {α : Type} (F : Nat → Option α) : ∀ k lo, (List.range' lo k).findSome? F = fso F k lo := by
  intro k
  induction k with
  | zero => intro lo; rfl
  | succ k ih =>
    intro lo
    rw [List.range'_succ, List.findSome?_cons]
    cases h : F lo with
    | none => rw [fso_f h]; exact ih (lo + 1)
    | some x => rw [fso_t h]
theorem fnd_fso {α : Type} (p : Nat → Bool) (f : Nat → α) : ∀ k lo, (fnd p k lo).map f = fso (fun b => if p b = true then some (f b) else none) k lo := by
  intro k
  induction k with
  | zero => intro lo; rfl
  | succ k ih =>
    intro lo
    show (if p lo = true then some lo else fnd p k (lo + 1)).map f = _
    by_cases h : p lo = true
    · rw [if_pos h, fso_t (x := f lo) (by rw [if_pos h])]; rfl
    · rw [if_neg h, fso_f (by rw [if_neg h])]; exact ih (lo + 1)
/-- m steps of two from r on, then Z -/
def fcx (g : Nw) (Z : Rw → Option Rw) : Nat → Rw → Option Rw
  | 0, r => Z r
  | m + 1, r => fso (fun b => (cand g r b).bind (fcx g Z m)) g.1 0
def desc (g : Nw) : Nat → Rw → List Rw
  | 0, r => [r]
  | m + 1, r => (extw g r).flatMap (desc g m)
theorem fm_find {α β γ : Type} (f : α → List β) (F : β → Option γ) : ∀ L : List α, (L.flatMap f).findSome? F = L.findSome? (fun x => (f x).findSome? F) := by
  intro L
  induction L with
  | nil => rfl
  | cons x L ih =>
    rw [List.flatMap_cons, List.findSome?_append, ih, List.findSome?_cons]
    cases (f x).findSome? F <;> rfl
theorem fi_find {α β γ : Type} (f : α → Option β) (F : β → Option γ) : ∀ L : List α, (L.filterMap f).findSome? F = L.findSome? (fun x => (f x).bind F) := by
  intro L
  induction L with
  | nil => rfl
  | cons x L ih =>
    rw [List.filterMap_cons, List.findSome?_cons]
    cases f x with
    | none => exact ih
    | some y =>
      show (y :: L.filterMap f).findSome? F = _
      rw [List.findSome?_cons, ih]
      rfl
theorem fcx_desc (g : Nw) (Z : Rw → Option Rw) : ∀ m r, fcx g Z m r = (desc g m r).findSome? Z := by
  intro m
  induction m with
  | zero =>
    intro r
    show Z r = [r].findSome? Z
    rw [List.findSome?_cons]
    cases Z r <;> rfl
  | succ m ih =>
    intro r
    show fso _ g.1 0 = ((extw g r).flatMap (desc g m)).findSome? Z
    rw [fm_find]
    unfold extw
    rw [fi_find, List.range_eq_range', fso_range]
    congr 1
    funext b
    cases cand g r b with
    | none => rfl
    | some q => exact ih q
theorem desc_s (g : Nw) : ∀ m r, desc g (m + 1) r = (desc g m r).flatMap (extw g) := by
  intro m
  induction m with
  | zero =>
    intro r
    show (extw g r).flatMap (fun q => [q]) = [r].flatMap (extw g)
    rw [List.flatMap_cons, List.flatMap_nil, List.append_nil]
    exact List.flatMap_singleton' _
  | succ m ih =>
    intro r
    show (extw g r).flatMap (desc g (m + 1)) = ((extw g r).flatMap (desc g m)).flatMap (extw g)
    rw [List.flatMap_assoc]
    congr 1
    funext q
    exact ih q
theorem rws_desc (g : Nw) (a : Nat) : ∀ k, rws g a k = desc g k [a] := by
  intro k
  induction k with
  | zero => rfl
  | succ k ih =>
    rw [desc_s, ← ih]
    rfl
theorem lev_find (g : Nw) (a : Nat) (Z : Rw → Option Rw) : ∀ k, (lev g a k).findSome? Z = fso (fun K => fcx g Z K [a]) (k + 1) 0 := by
  intro k
  induction k with
  | zero =>
    rw [fso_snoc]
    show (rws g a 0).findSome? Z = (none : Option Rw).or (fcx g Z (0 + 0) [a])
    rw [rws_desc, ← fcx_desc]
    rfl
  | succ k ih =>
    show (lev g a k ++ rws g a (k + 1)).findSome? Z = _
    rw [List.findSome?_append, ih, fso_snoc _ (k + 1), rws_desc, ← fcx_desc, Nat.zero_add]
theorem find_Z {Z : Rw → Option Rw} : ∀ L : List Rw, L.findSome? Z = (L.find? (fun r => (Z r).isSome)).bind Z := by
  intro L
  induction L with
  | nil => rfl
  | cons r L ih =>
    rw [List.findSome?_cons, List.find?_cons]
    cases h : Z r with
    | none => exact ih
    | some x => show some x = Z r; rw [h]
theorem wlk_find {g : Nw} (wf : Wfn g) {a : Nat} (ha : a < g.1) {p : Rw → Bool} (hp : ∀ q r, ky q = ky r → p q = p r) : (wlk g a).find? p = (lev g a 5).find? p := by
  rw [wlk_eq wf ha]
  unfold dl
  rw [find_adds hp]
  rfl
def Zp (g : Nw) (a : Nat) (r : Rw) : Option Rw := (fbs g a r).map (fun e => e :: r)
def Zr (g : Nw) (a : Nat) (r : Rw) : Option Rw := if (g.2.1 (hd r) a).isSome = true then some r else none
theorem pth_fso {g : Nw} (wf : Wfn g) {a : Nat} (ha : a < g.1) (hm : g.2.2 a = none) : pth g a = (fso (fun K => fcx g (Zp g a) K [a]) 6 0).map List.reverse := by
  rw [← lev_find g a (Zp g a) 5, find_Z]
  have e : (fun r => (Zp g a r).isSome) = (fun r => (fbs g a r).isSome) := by
    funext r
    unfold Zp
    cases fbs g a r <;> rfl
  rw [e, ← wlk_find wf ha (fun q r h => by
    have : hd q = hd r := congrArg Prod.snd h
    unfold fbs; rw [this])]
  unfold pth
  rw [if_neg (by rw [hm]; decide)]
  cases (wlk g a).find? (fun r => (fbs g a r).isSome) with
  | none => rfl
  | some r =>
    show (fbs g a r).map _ = ((fbs g a r).map _).map List.reverse
    cases fbs g a r with
    | none => rfl
    | some e => show some (r.reverse ++ [e]) = some (e :: r).reverse; rw [List.reverse_cons]
theorem flw_fso {g : Nw} (wf : Wfn g) {a : Nat} (ha : a < g.1) : flw g a = (fso (fun K => fcx g (Zr g a) K [a]) 6 0).map List.reverse := by
  rw [← lev_find g a (Zr g a) 5, find_Z]
  have e : (fun r => (Zr g a r).isSome) = (fun r => (g.2.1 (hd r) a).isSome) := by
    funext r
    unfold Zr
    by_cases h : (g.2.1 (hd r) a).isSome = true
    · rw [if_pos h, h]; rfl
    · rw [if_neg h]; simpa using h
  rw [e, ← wlk_find wf ha (fun q r h => by
    have : hd q = hd r := congrArg Prod.snd h
    rw [this])]
  unfold flw
  cases hq : (wlk g a).find? (fun r => (g.2.1 (hd r) a).isSome) with
  | none => rfl
  | some r =>
    have := List.find?_some hq
    have h1 : Zr g a r = some r := by unfold Zr; rw [if_pos this]
    show some r.reverse = (Zr g a r).map List.reverse
    rw [h1]; rfl
theorem fcx_k {g : Nw} {Z : Rw → Option Rw} {a K : Nat} {l : Rw} (h : fcx g Z K [a] = some l) : ∃ r, Vr g a K r ∧ Z r = some l := by
  rw [fcx_desc, ← rws_desc] at h
  obtain ⟨r, h1, h2⟩ := List.exists_of_findSome?_eq_some h
  exact ⟨r, rws_Vr h1, h2⟩
theorem fcx_p {g : Nw} (wf : Wfn g) {a K : Nat} (ha : a < g.1) {l : Rw} (h : fcx g (Zp g a) K [a] = some l) : 2 * K + 2 ≤ g.1 := by
  obtain ⟨r, h1, h2⟩ := fcx_k h
  unfold Zp at h2
  cases hf : fbs g a r with
  | none => rw [hf] at h2; cases h2
  | some e =>
    have := fbs_len wf ha h1 hf
    rw [Vr_len h1] at this
    omega
theorem fcx_r {g : Nw} (wf : Wfn g) {a K : Nat} (ha : a < g.1) {l : Rw} (h : fcx g (Zr g a) K [a] = some l) : 2 * K + 1 ≤ g.1 := by
  obtain ⟨r, h1, h2⟩ := fcx_k h
  exact Vr_k wf ha h1
/-- the row in hand, its last first -/
def RwM (N : Mm) (l : Rw) : Prop := ∀ i x, l.reverse[i]? = some x → N.2.1 81 i = nI x
theorem RwM.keep {M N : Mm} {l : Rw} (h : RwM M l) (hk : ∀ i, i < l.length → N.2.1 81 i = M.2.1 81 i) : RwM N l := fun i x hi => by
  have : i < l.reverse.length := (List.getElem?_eq_some_iff.mp hi).1
  rw [List.length_reverse] at this
  rw [hk i this]
  exact h i x hi
theorem RwM.cons {M N : Mm} {l : Rw} {b : Nat} (h : RwM M l) (hN : N = sI M 81 l.length (nI b)) : RwM N (b :: l) := by
  intro i x hi
  rw [List.reverse_cons] at hi
  rw [hN]
  rcases Nat.lt_trichotomy i l.length with q | q | q
  · rw [List.getElem?_append_left (by rw [List.length_reverse]; exact q)] at hi
    rw [rd_ni (by omega)]
    exact h i x hi
  · subst q
    rw [List.getElem?_append_right (by rw [List.length_reverse]; omega), List.length_reverse, Nat.sub_self] at hi
    have : b = x := Option.some.inj hi
    rw [rd_self, this]
  · rw [List.getElem?_eq_none (by simp; omega)] at hi; cases hi
theorem RwM.last {M : Mm} {l : Rw} {b : Nat} (h : RwM M (b :: l)) : M.2.1 81 l.length = nI b := h l.length b (by
  rw [List.reverse_cons, List.getElem?_append_right (by rw [List.length_reverse]; omega), List.length_reverse, Nat.sub_self]; rfl)
theorem bt_mid {B : Bd} {M : Mm} {g : Nw} {d x b many : Nat} {due set : Int32} {Φ : Ot → Mm → Prop} (ok : OkM M) (hnow : NowR M 63 g) (wf : Wfn g) (hd1 : 1 ≤ d) (hx : x < 12) (hb : b < 12) (hm : many < 100) (kt : (g.2.2 x = some b ↔ many % 2 = 1) → Ev B mX6_betters d 0 0 Φ 125 [some (.ref 60), some (.int (nI many)), some (.int due), some (.int set), some (.int (nI x)), some (.int (nI b))] [] M) (kf : ¬ (g.2.2 x = some b ↔ many % 2 = 1) → Ev B mX6_betters d 0 0 Φ 98 [some (.ref 60), some (.int (nI many)), some (.int due), some (.int set), some (.int (nI x)), some (.int (nI b))] [] M) : Ev B mX6_betters d 0 0 Φ 64 [some (.ref 60), some (.int (nI many)), some (.int due), some (.int set), some (.int (nI x)), some (.int (nI b))] [] M := by
  have er : nI many - nI many / 2 * 2 = nI (many % 2) := fa_rem (k := 1) (by omega) (by decide)
  have hwm := wI_some (b := b) (wf.mb x) (by omega)
  -- the parity
  have par : ∀ q : Int32, (q = 1 ↔ g.2.2 x = some b) → (q = 0 ∨ q = 1) → Ev B mX6_betters d 0 0 Φ 80 [some (.ref 60), some (.int (nI many)), some (.int due), some (.int set), some (.int (nI x)), some (.int (nI b))] [.int q] M := by
    intro q hq hq2
    refine e_iload_n dX6_betters_80 rfl rfl ?_
    refine e_iconst (v := 2) dX6_betters_81 (by decide) ?_
    refine e_irem dX6_betters_82 (by decide) ?_
    rw [er]
    refine e_iconst (v := 1) dX6_betters_83 (by decide) ?_
    rcases Nat.mod_two_eq_zero_or_one many with h0 | h1
    · rw [h0]
      refine e_icmp_ne (tgt := 91) dX6_betters_84 (by decide) (fun _ => ?_) (fun hz => absurd hz (by decide))
      refine e_iconst (v := 0) dX6_betters_91 (by decide) ?_
      rcases hq2 with h2 | h2
      · subst h2
        refine e_icmp_ne (tgt := 98) dX6_betters_92 (by decide) (fun hz => absurd rfl hz) (fun _ => ?_)
        refine e_goto (tgt := 125) dX6_betters_95 (by decide) ?_
        exact kt ⟨fun z => absurd (hq.mpr z) (by decide), fun z => by omega⟩
      · subst h2
        refine e_icmp_ne (tgt := 98) dX6_betters_92 (by decide) (fun _ => ?_) (fun hz => absurd hz (by decide))
        exact kf (fun z => by have := z.mp (hq.mp rfl); omega)
    · rw [h1]
      refine e_icmp_ne (tgt := 91) dX6_betters_84 (by decide) (fun hz => absurd rfl hz) (fun _ => ?_)
      refine e_iconst (v := 1) dX6_betters_87 (by decide) ?_
      refine e_goto (tgt := 92) dX6_betters_88 (by decide) ?_
      rcases hq2 with h2 | h2
      · subst h2
        refine e_icmp_ne (tgt := 98) dX6_betters_92 (by decide) (fun _ => ?_) (fun hz => absurd hz (by decide))
        exact kf (fun z => absurd (hq.mpr (z.mpr h1)) (by decide))
      · subst h2
        refine e_icmp_ne (tgt := 98) dX6_betters_92 (by decide) (fun hz => absurd rfl hz) (fun _ => ?_)
        refine e_goto (tgt := 125) dX6_betters_95 (by decide) ?_
        exact kt ⟨fun _ => h1, fun _ => hq.mp rfl⟩
  refine e_aload_n dX6_betters_64 rfl rfl ?_
  refine e_iload dX6_betters_65 rfl ?_
  refine e_callV0i [_] dX6_betters_67 mvmX6_mate lkRX6_206 (by exact ok.sh rfl) ⟨by decide, rfl⟩ rfl rfl (Nat.le_of_ble_eq_true rfl) (by omega) (c_mate ok hnow hx) ?_
  refine e_iload dX6_betters_70 rfl ?_
  refine e_icmp_ne (tgt := 79) dX6_betters_72 (by decide) (fun hz => ?_) (fun hz => ?_)
  · refine e_iconst (v := 0) dX6_betters_79 (by decide) ?_
    exact par 0 ⟨fun z => absurd z (by decide), fun z => absurd (hwm.mpr z) hz⟩ (Or.inl rfl)
  · refine e_iconst (v := 1) dX6_betters_75 (by decide) ?_
    refine e_goto (tgt := 80) dX6_betters_76 (by decide) ?_
    exact par 1 ⟨fun _ => hwm.mp hz, fun _ => rfl⟩ (Or.inr rfl)
def BtP (o : Option Rw) (n : Nat) (M : Mm) : Ot → Mm → Prop := Rt (fun u N => u = some (.int (if o.isSome = true then 1 else 0)) ∧ Fr 81 81 M N ∧ (∀ i, i < n → N.2.1 81 i = M.2.1 81 i) ∧ ∀ l, o = some l → RwM N l)
/-- what a node next in a path leads to -/
def Gp2 (g : Nw) (a m : Nat) (r : Rw) (b : Nat) : Option Rw := match m with
  | 0 => if pfr g a (hd r) b = true then some (b :: r) else none
  | m + 1 => (cand g r b).bind (fcx g (Zp g a) m)
theorem fcx_G (g : Nw) (a m : Nat) (r : Rw) : fcx g (Zp g a) m r = fso (Gp2 g a m r) g.1 0 := by
  cases m with
  | zero =>
    show Zp g a r = _
    unfold Zp fbs
    exact fnd_fso _ _ _ _
  | succ m => rfl
theorem betters_loop {B : Bd} {g : Nw} {d : Nat} {Φ : Ot → Mm → Prop} (wf : Wfn g) (hd1 : 1 ≤ d) {M : Mm} (ok : OkM M) (hnow : NowR M 63 g) {x many : Nat} {due : Int32} {S : Nat} (hx : x < 12) (hS : S < 4096) (hm : many < 12) {F : Nat → Option Rw} (hno : ∀ b, b < g.1 → (S.testBit b = true ∨ g.2.1 x b = none ∨ (g.2.2 x = some b ↔ many % 2 = 1)) → F b = none)
    (hend : ∀ N, Fr 81 81 M N → (∀ i, i < many → N.2.1 81 i = M.2.1 81 i) → fso F g.1 0 = none → Φ (.inl (some (.int 0))) N)
    (hgo : ∀ N b, Fr 81 81 M N → (∀ i, i < many → N.2.1 81 i = M.2.1 81 i) → b < g.1 → S.testBit b = false → (g.2.1 x b).isSome = true → ¬ (g.2.2 x = some b ↔ many % 2 = 1) → fso F (g.1 - b) b = fso F g.1 0 → (F b = none → ∀ K, Fr 81 81 M K → (∀ i, i < many → K.2.1 81 i = M.2.1 81 i) → Ev B mX6_betters d 0 0 Φ 125 [some (.ref 60), some (.int (nI many)), some (.int due), some (.int (nI S)), some (.int (nI x)), some (.int (nI b))] [] K) → Ev B mX6_betters d 0 0 Φ 98 [some (.ref 60), some (.int (nI many)), some (.int due), some (.int (nI S)), some (.int (nI x)), some (.int (nI b))] [] N) : Ev B mX6_betters d 0 0 Φ 34 [some (.ref 60), some (.int (nI many)), some (.int due), some (.int (nI S)), some (.int (nI x)), some (.int (nI 0))] [] M := by
  have hg12 := wf.1.2
  have loop : ∀ j b N, b + j = g.1 → Fr 81 81 M N → (∀ i, i < many → N.2.1 81 i = M.2.1 81 i) → fso F (g.1 - b) b = fso F g.1 0 → Ev B mX6_betters d 0 0 Φ 34 [some (.ref 60), some (.int (nI many)), some (.int due), some (.int (nI S)), some (.int (nI x)), some (.int (nI b))] [] N := by
    intro j
    induction j with
    | zero =>
      intro b N hb fN kN hF
      have okN : OkM N := ok.fr fN
      have nowN : NowR N 63 g := hnow.fr fN (by omega)
      rw [show g.1 - b = 0 by omega] at hF
      refine e_iload dX6_betters_34 rfl ?_
      refine e_aload_n dX6_betters_36 rfl rfl ?_
      refine e_callV0i [] dX6_betters_37 mvmX6_nodes lkRX6_181 (by exact okN.sh rfl) ⟨by decide, rfl⟩ rfl rfl (Nat.le_of_ble_eq_true rfl) (by omega) (c_nodes okN nowN) ?_
      refine e_icmp_ge (tgt := 131) dX6_betters_40 (by decide) (fun _ => ?_) (fun hz => absurd (nI_le (by omega) (by omega)) hz)
      refine e_iconst (v := 0) dX6_betters_131 (by decide) ?_
      exact e_iret dX6_betters_132 rfl rfl (hend N fN kN hF.symm)
    | succ j ih =>
      intro b N hb fN kN hF
      have okN : OkM N := ok.fr fN
      have nowN : NowR N 63 g := hnow.fr fN (by omega)
      have hgb : g.1 - b = (g.1 - (b + 1)) + 1 := by omega
      -- not this one
      have skip : F b = none → ∀ K, Fr 81 81 M K → (∀ i, i < many → K.2.1 81 i = M.2.1 81 i) → Ev B mX6_betters d 0 0 Φ 125 [some (.ref 60), some (.int (nI many)), some (.int due), some (.int (nI S)), some (.int (nI x)), some (.int (nI b))] [] K := by
        intro hn K fK kK
        refine e_iinc (v := nI (b + 1)) dX6_betters_125 rfl (nI_1 b) (by decide) rfl rfl ?_
        refine e_goto (tgt := 34) dX6_betters_128 (by decide) ?_
        refine ih (b + 1) K (by omega) fK kK ?_
        rw [hgb, fso_f hn] at hF
        exact hF
      refine e_iload dX6_betters_34 rfl ?_
      refine e_aload_n dX6_betters_36 rfl rfl ?_
      refine e_callV0i [] dX6_betters_37 mvmX6_nodes lkRX6_181 (by exact okN.sh rfl) ⟨by decide, rfl⟩ rfl rfl (Nat.le_of_ble_eq_true rfl) (by omega) (c_nodes okN nowN) ?_
      refine e_icmp_ge (tgt := 131) dX6_betters_40 (by decide) (fun hz => absurd hz (nI_ge (by omega) (by omega))) (fun _ => ?_)
      refine e_iload_n dX6_betters_43 rfl rfl ?_
      refine e_iload dX6_betters_44 rfl ?_
      refine e_callS0i [_, _] dX6_betters_46 msmX6_has lkRX6_183 rfl rfl (Nat.le_of_ble_eq_true rfl) (by omega) (c_has (by omega) (by omega)) ?_
      by_cases h1 : S.testBit b = true
      · rw [if_pos h1]
        refine e_if_ne (tgt := 125) dX6_betters_49 (by decide) (fun _ => ?_) (fun hz => absurd hz (by decide))
        exact skip (hno b (by omega) (Or.inl h1)) N fN kN
      · rw [if_neg h1]
        refine e_if_ne (tgt := 125) dX6_betters_49 (by decide) (fun hz => absurd rfl hz) (fun _ => ?_)
        refine e_aload_n dX6_betters_52 rfl rfl ?_
        refine e_iload dX6_betters_53 rfl ?_
        refine e_iload dX6_betters_55 rfl ?_
        refine e_callV0i [_, _] dX6_betters_57 mvmX6_weight lkRX6_203 (by exact okN.sh rfl) ⟨by decide, rfl⟩ rfl rfl (Nat.le_of_ble_eq_true rfl) (by omega) (c_weight okN nowN (by omega) (by omega)) ?_
        refine e_iconst (v := (-1)) dX6_betters_60 (by decide) ?_
        have hn := wI_none (wf.wb x b)
        refine e_icmp_eq (tgt := 125) dX6_betters_61 (by decide) (fun hz => skip (hno b (by omega) (Or.inr (Or.inl (hn.mp hz)))) N fN kN) (fun hz => ?_)
        refine bt_mid okN nowN wf hd1 hx (by omega) (by omega) (fun h2 => skip (hno b (by omega) (Or.inr (Or.inr h2))) N fN kN) (fun h2 => ?_)
        refine hgo N b fN kN (by omega) (by simpa using h1) ?_ h2 hF skip
        cases hw : g.2.1 x b with
        | none => exact absurd (hn.mpr hw) hz
        | some k => rfl
  exact loop g.1 0 M (by omega) Fr.rf (fun _ _ => rfl) rfl

