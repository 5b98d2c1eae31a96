/-! ===== the class' state as a whole ===== -/
/-- network, the ones before (oldest first), tape, how much of it is fed, the last fault's place, refusals -/
abbrev Sx : Type := Nw × List Nw × (Nat → Nat) × Nat × Int32 × (Nat → Int32)
abbrev sgg (s : Sx) : Nw := s.1
abbrev shh (s : Sx) : List Nw := s.2.1
abbrev sTT (s : Sx) : Nat → Nat := s.2.2.1
abbrev sll (s : Sx) : Nat := s.2.2.2.1
abbrev sff (s : Sx) : Int32 := s.2.2.2.2.1
abbrev srr (s : Sx) : Nat → Int32 := s.2.2.2.2.2
/-- the small fields -/
def C0 (M : Mm) (s : Sx) : Prop := M.2.1 0 1 = nI (sll s) ∧ sll s ≤ 500 ∧ M.2.1 0 2 = sff s ∧ M.2.1 0 6 = nI (shh s).length ∧ (shh s).length ≤ 8
def CT (M : Mm) (T : Nat → Nat) : Prop := (∀ i, T i < 256) ∧ ∀ i, i < 500 → M.2.1 1 i = sb (T i)
def Gd (g : Nw) : Prop := Wfn g ∧ pal g
def PR0 (M : Mm) (π : Nat → Nat) (h : List Nw) : Prop := (∀ i, i < 8 → π i < 8) ∧ (∀ i j, i < 8 → j < 8 → π i = π j → i = j) ∧ (∀ i, i < 8 → M.2.2.2 10 i = some (28 + 4 * π i)) ∧ (∀ i g, h[i]? = some g → NetRep M (28 + 4 * π i) g ∧ Gd g)
def PastR (M : Mm) (h : List Nw) : Prop := ∃ π, PR0 M π h
def CR (M : Mm) (r : Nat → Int32) : Prop := ∀ i, i < 3 → M.2.1 27 i = r i
def CI (M : Mm) (s : Sx) : Prop := OkM M ∧ C0 M s ∧ CT M (sTT s) ∧ (NetRep M 2 (sgg s) ∧ Gd (sgg s)) ∧ PastR M (shh s) ∧ (GInv M (sgg s) ∧ PInv M (sgg s) ∧ WInv M) ∧ CR M (srr s)
/-- cells 60 and on stay as they are -/
def FC (M N : Mm) : Prop := N.1 = M.1 ∧ (∀ a, 60 ≤ a → N.2.2.1 a = M.2.2.1 a) ∧ ∀ a, 60 ≤ a → N.2.1 a = M.2.1 a ∧ N.2.2.2 a = M.2.2.2 a
theorem FC.rf {M : Mm} : FC M M := ⟨rfl, fun _ _ => rfl, fun _ _ => ⟨rfl, rfl⟩⟩
theorem FC.trans {M N K : Mm} (h1 : FC M N) (h2 : FC N K) : FC M K := ⟨h2.1.trans h1.1, fun a ha => (h2.2.1 a ha).trans (h1.2.1 a ha), fun a ha => ⟨(h2.2.2 a ha).1.trans (h1.2.2 a ha).1, (h2.2.2 a ha).2.trans (h1.2.2 a ha).2⟩⟩
theorem Fr.FC {lo hi : Nat} {M N : Mm} (h : Fr lo hi M N) (hh : hi < 60) : FC M N := ⟨h.1, fun _ _ => by rw [h.2.1], fun a ha => ⟨h.2.2 a (by omega), by rw [h.2.1]⟩⟩
theorem FC.r {M : Mm} {a i : Nat} {b : Option Nat} (ha : a < 60) : FC M (sR M a i b) := ⟨rfl, fun _ _ => rfl, fun c hc => ⟨rfl, by
  show u2 M.2.2.2 a i b c = _
  exact u2_ne _ _ _ (by omega)⟩⟩
theorem C0.fr {M N : Mm} {s : Sx} {lo hi : Nat} (h : C0 M s) (hf : Fr lo hi M N) (ho : 0 < lo) : C0 N s := by unfold C0; rw [hf.2.2 0 (by omega)]; exact h
theorem CT.fr {M N : Mm} {T : Nat → Nat} {lo hi : Nat} (h : CT M T) (hf : Fr lo hi M N) (ho : 1 < lo ∨ hi < 1) : CT N T := by unfold CT; rw [hf.2.2 1 (by omega)]; exact h
theorem CR.fr {M N : Mm} {r : Nat → Int32} {lo hi : Nat} (h : CR M r) (hf : Fr lo hi M N) (ho : 27 < lo ∨ hi < 27) : CR N r := by unfold CR; rw [hf.2.2 27 (by omega)]; exact h
theorem GInv.fr {M N : Mm} {g : Nw} {lo hi : Nat} (h : GInv M g) (hf : Fr lo hi M N) (ho : 15 < lo ∨ hi < 14) : GInv N g := by
  have e14 := hf.2.2 14 (by omega)
  unfold GInv GR
  rw [e14, hf.2.1]
  exact h
theorem GInv.fl {M N : Mm} {g : Nw} (hf : Fj M N) (h1 : GR N g) (hk : M.2.1 14 0 = 0 ∨ M.2.1 14 0 = 1) : GInv N g := by
  unfold GInv
  rw [hf.2.1]
  rcases hk with h | h
  · exact Or.inl h
  · exact Or.inr ⟨h, h1⟩
theorem Fg.FC {M N : Mm} (h : Fg M N) : FC M N := ⟨h.1, fun a ha => h.2.2.2 a (by omega), fun a ha => ⟨h.2.1 a (by omega), by rw [h.2.2.1]⟩⟩
theorem PInv.fr {M N : Mm} {g : Nw} {lo hi : Nat} (h : PInv M g) (hf : Fr lo hi M N) (ho : 18 < lo ∨ hi < 17) : PInv N g := by
  have e17 := hf.2.2 17 (by omega)
  have e18 := hf.2.2 18 (by omega)
  unfold PInv PAR PR
  rw [e17, e18]
  exact h
theorem PInv.fg {M N : Mm} {g : Nw} (h : PInv M g) (hf : Fg M N) : PInv N g := by
  have e17 := hf.2.1 17 (by omega)
  have e18 := hf.2.1 18 (by omega)
  unfold PInv PAR PR
  rw [e17, e18]
  exact h
theorem WInv.fr {M N : Mm} {lo hi : Nat} (_ : WInv M) (_ : Fr lo hi M N) (_ : 26 < lo ∨ hi < 19) : WInv N := trivial
theorem C0.fg {M N : Mm} {s : Sx} (h : C0 M s) (hf : Fg M N) : C0 N s := by unfold C0; rw [hf.2.1 0 (by omega)]; exact h
theorem CT.fg {M N : Mm} {T : Nat → Nat} (h : CT M T) (hf : Fg M N) : CT N T := by unfold CT; rw [hf.2.1 1 (by omega)]; exact h
theorem CR.fg {M N : Mm} {r : Nat → Int32} (h : CR M r) (hf : Fg M N) : CR N r := by unfold CR; rw [hf.2.1 27 (by omega)]; exact h
theorem PastR.fg {M N : Mm} {h : List Nw} (hp : PastR M h) (hl : h.length ≤ 8) (hf : Fg M N) : PastR N h := by
  obtain ⟨π, hp⟩ := hp
  refine ⟨π, hp.1, hp.2.1, fun i hi => by rw [hf.2.2.1]; exact hp.2.2.1 i hi, fun i g hg => ?_⟩
  exact ⟨(hp.2.2.2 i g hg).1.fg hf (by omega), (hp.2.2.2 i g hg).2⟩
theorem PR0.fr {M N : Mm} {π : Nat → Nat} {h : List Nw} {lo hi : Nat} (hp : PR0 M π h) (hl : h.length ≤ 8) (hf : Fr lo hi M N) (ho : 59 < lo ∨ hi < 28) : PR0 N π h := by
  refine ⟨hp.1, hp.2.1, fun i hi => by rw [hf.2.1]; exact hp.2.2.1 i hi, fun i g hg => ?_⟩
  have hi8 : i < 8 := by
    have : i < h.length := by
      rcases Nat.lt_or_ge i h.length with q | q
      · exact q
      · rw [List.getElem?_eq_none q] at hg; cases hg
    omega
  have := hp.1 i hi8
  exact ⟨(hp.2.2.2 i g hg).1.fr hf (by omega), (hp.2.2.2 i g hg).2⟩
theorem PastR.fr {M N : Mm} {h : List Nw} {lo hi : Nat} (hp : PastR M h) (hl : h.length ≤ 8) (hf : Fr lo hi M N) (ho : 59 < lo ∨ hi < 28) : PastR N h := by
  obtain ⟨π, h1⟩ := hp
  exact ⟨π, h1.fr hl hf ho⟩
theorem netP {M : Mm} (ok : OkM M) : ∀ k, k < 8 → NetAt M (28 + 4 * k)
  | 0, _ => ⟨ok.sh rfl, ok.sh rfl, ok.sh rfl, ok.sh rfl, ok.rf rfl, ok.rf rfl, ok.rf rfl⟩
  | 1, _ => ⟨ok.sh rfl, ok.sh rfl, ok.sh rfl, ok.sh rfl, ok.rf rfl, ok.rf rfl, ok.rf rfl⟩
  | 2, _ => ⟨ok.sh rfl, ok.sh rfl, ok.sh rfl, ok.sh rfl, ok.rf rfl, ok.rf rfl, ok.rf rfl⟩
  | 3, _ => ⟨ok.sh rfl, ok.sh rfl, ok.sh rfl, ok.sh rfl, ok.rf rfl, ok.rf rfl, ok.rf rfl⟩
  | 4, _ => ⟨ok.sh rfl, ok.sh rfl, ok.sh rfl, ok.sh rfl, ok.rf rfl, ok.rf rfl, ok.rf rfl⟩
  | 5, _ => ⟨ok.sh rfl, ok.sh rfl, ok.sh rfl, ok.sh rfl, ok.rf rfl, ok.rf rfl, ok.rf rfl⟩
  | 6, _ => ⟨ok.sh rfl, ok.sh rfl, ok.sh rfl, ok.sh rfl, ok.rf rfl, ok.rf rfl, ok.rf rfl⟩
  | 7, _ => ⟨ok.sh rfl, ok.sh rfl, ok.sh rfl, ok.sh rfl, ok.rf rfl, ok.rf rfl, ok.rf rfl⟩
  | n + 8, h => absurd h (by omega)
/-- what an int names as a node -/
def nod (g : Nw) (x : Int32) : Option Nat := if 0 ≤ x.toInt ∧ x.toInt < g.1 then some x.toInt.toNat else none
theorem nod_some {g : Nw} (hg : g.1 ≤ 12) {x : Int32} {a : Nat} : nod g x = some a ↔ a < g.1 ∧ x = nI a := by
  unfold nod
  constructor
  · intro h
    by_cases hc : 0 ≤ x.toInt ∧ x.toInt < g.1
    · rw [if_pos hc] at h
      have h1 := Option.some.inj h
      refine ⟨by omega, ?_⟩
      rw [fa_eq, nI_toInt (by omega)]; omega
    · rw [if_neg hc] at h; cases h
  · rintro ⟨h1, h2⟩
    subst h2
    rw [nI_toInt (by omega), if_pos (by omega)]
    congr 1
theorem nod_ex {g : Nw} (hg : g.1 ≤ 12) {x : Int32} : (∃ a, a < g.1 ∧ x = nI a) ↔ (nod g x).isSome = true := by
  rw [Option.isSome_iff_exists]
  exact ⟨fun ⟨a, h⟩ => ⟨a, (nod_some hg).mpr h⟩, fun ⟨a, h⟩ => ⟨a, (nod_some hg).mp h⟩⟩
/-- an answer: 0 and the int, or which of the method's exceptions -/
abbrev Rs : Type := (Nat × Int32) × Sx
def rfu (s : Sx) (k : Nat) : Sx := (s.1, s.2.1, s.2.2.1, s.2.2.2.1, s.2.2.2.2.1, fun i => if i = k then srr s i + 1 else srr s i)
def okR (v : Int32) (s : Sx) : Rs := ((0, v), s)
def rej (c k : Nat) (s : Sx) : Rs := ((c, 0), rfu s k)
def CPo (xs : List String) (M : Mm) (r : Rs) : Ot → Mm → Prop := fun o N => (match r.1.1 with
  | 0 => o = .inl (some (.int r.1.2))
  | c + 1 => ∃ E, xs[c]? = some E ∧ o = .inr E) ∧ CI N r.2 ∧ FC M N
theorem loose_ok {M : Mm} (ok : OkM M) : loose M = M := by
  obtain ⟨⟨a, b⟩, c⟩ := M
  have h := ok.1
  show ((a, false), c) = ((a, b), c)
  have : b = false := congrArg Prod.snd h
  rw [this]
theorem CI.ref {M : Mm} {s : Sx} (h : CI M s) {k : Nat} (hk : k < 3) : CI (sI M 27 k (M.2.1 27 k + 1)) (rfu s k) ∧ FC M (sI M 27 k (M.2.1 27 k + 1)) := by
  obtain ⟨ok, h0, hT, ⟨hn, hg⟩, hp, ⟨a1, a2, a3⟩, hr⟩ := h
  have hf : Fr 27 27 M (sI M 27 k (M.2.1 27 k + 1)) := Fr.rf.sI (by omega) (by omega)
  refine ⟨⟨ok.fr hf, h0.fr hf (by omega), hT.fr hf (by omega), ⟨hn.fr hf (by omega), hg⟩, hp.fr h0.2.2.2.2 hf (by omega), ⟨a1.fr hf (by omega), a2.fr hf (by omega), a3.fr hf (by omega)⟩, fun i hi => ?_⟩, hf.FC (by omega)⟩
  show (sI M 27 k (M.2.1 27 k + 1)).2.1 27 i = (if i = k then srr s i + 1 else srr s i)
  by_cases hik : i = k
  · subst hik
    rw [rd_self, if_pos rfl, hr i hi]
  · rw [rd_ni hik, if_neg hik, hr i hi]
theorem cpo_rej {xs : List String} {M N : Mm} {s : Sx} {c k : Nat} {E : String} (h : CI M s) (hk : k < 3) (hc : xs[c]? = some E) (hN : N = sI M 27 k (M.2.1 27 k + 1)) {M0 : Mm} (h0 : FC M0 M) : CPo xs M0 (rej (c + 1) k s) (.inr E) N := by
  subst hN
  obtain ⟨h1, h2⟩ := h.ref hk
  exact ⟨⟨E, hc, rfl⟩, h1, h0.trans h2⟩
theorem cpo_ok {xs : List String} {M0 N : Mm} {s : Sx} {v : Int32} (h : CI N s) (hf : FC M0 N) : CPo xs M0 (okR v s) (.inl (some (.int v))) N := ⟨rfl, h, hf⟩
