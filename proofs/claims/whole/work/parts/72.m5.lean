/-! the Model's state -/
def MQt (M : Mm) (S : Nat) (q : Qt) : Prop := M.2.1 75 S = nI q.1 ∧ M.2.1 76 S = nI q.2.2.1 ∧ M.2.1 77 S = nI q.2.2.2 ∧ M.2.2.1 78 S = lN q.2.1
def MLd (M : Mm) (g : Nw) : Prop := ∀ S, S < 2 ^ g.1 → MQt M S (Tq g.2.1 S)
def MInv (M : Mm) (g : Nw) : Prop := M.2.1 60 19 = 0 ∨ (M.2.1 60 19 = 1 ∧ MLd M g)
def MI (M : Mm) (s : Sx) : Prop := OkM M ∧ (M.2.1 60 2 = nI (sll s) ∧ sll s ≤ 500 ∧ M.2.1 60 5 = sff s ∧ M.2.1 60 12 = nI (shh s).length ∧ (shh s).length ≤ 8) ∧ ((∀ i, sTT s i < 256) ∧ ∀ i, i < 500 → M.2.1 62 i = nI (sTT s i)) ∧ (NowR M 63 (sgg s) ∧ Gd (sgg s)) ∧ (∀ i g, (shh s)[i]? = some g → NowR M (66 + i) g ∧ Gd g) ∧ MInv M (sgg s) ∧ ∀ i, i < 3 → M.2.1 61 i = srr s i
/-- the class' cells stay as they are, and the law's own -/
def FM (M N : Mm) : Prop := N.1 = M.1 ∧ N.2.2.2 = M.2.2.2 ∧ (∀ a, a < 60 → N.2.1 a = M.2.1 a) ∧ ∀ a, a ≠ 78 → N.2.2.1 a = M.2.2.1 a
theorem FM.rf {M : Mm} : FM M M := ⟨rfl, rfl, fun _ _ => rfl, fun _ _ => rfl⟩
theorem FM.trans {M N K : Mm} (h1 : FM M N) (h2 : FM N K) : FM M K := ⟨h2.1.trans h1.1, h2.2.1.trans h1.2.1, fun a ha => (h2.2.2.1 a ha).trans (h1.2.2.1 a ha), fun a ha => (h2.2.2.2 a ha).trans (h1.2.2.2 a ha)⟩
theorem FM.sI {M N : Mm} {a i : Nat} {v : Int32} (h : FM M N) (ha : 60 ≤ a) : FM M (sI N a i v) := ⟨h.1, h.2.1, fun b hb => (u2_ne _ _ _ (by omega)).trans (h.2.2.1 b hb), h.2.2.2⟩
theorem Fr.FM {lo hi : Nat} {M N : Mm} (h : Fr lo hi M N) (hl : 60 ≤ lo) : FM M N := ⟨h.1, by rw [h.2.1], fun a ha => h.2.2 a (by omega), fun a _ => by rw [h.2.1]⟩
/-- scratch cells of the Model -/
def MZ (M N : Mm) : Prop := N.1 = M.1 ∧ N.2.2 = M.2.2 ∧ (∀ j, j ∉ [3, 4, 6, 7, 14, 22, 23, 25] → N.2.1 60 j = M.2.1 60 j) ∧ ∀ b, b ∉ [60, 64, 74, 79, 80, 81, 82] → N.2.1 b = M.2.1 b
theorem MZ.rf {M : Mm} : MZ M M := ⟨rfl, rfl, fun _ _ => rfl, fun _ _ => rfl⟩
theorem MZ.trans {M N K : Mm} (h1 : MZ M N) (h2 : MZ N K) : MZ M K := ⟨h2.1.trans h1.1, h2.2.1.trans h1.2.1, fun j hj => (h2.2.2.1 j hj).trans (h1.2.2.1 j hj), fun b hb => (h2.2.2.2 b hb).trans (h1.2.2.2 b hb)⟩
theorem MZ.s {M N : Mm} {a i : Nat} {v : Int32} (h : MZ M N) (ha : a ∈ [64, 74, 79, 80, 81, 82]) : MZ M (sI N a i v) := by
  have hne : a ≠ 60 := fun q => by rw [q] at ha; exact absurd ha (by decide)
  have hin : a ∈ [60, 64, 74, 79, 80, 81, 82] := List.mem_cons_of_mem _ ha
  refine ⟨h.1, h.2.1, fun j hj => ?_, fun b hb => ?_⟩
  · rw [rd_na (fun q => hne q.symm)]; exact h.2.2.1 j hj
  · exact (u2_ne _ _ _ (fun q => hb (by rw [q]; exact hin))).trans (h.2.2.2 b hb)
theorem MZ.f {M N : Mm} {i : Nat} {v : Int32} (h : MZ M N) (hi : i ∈ [3, 4, 6, 7, 14, 22, 23, 25]) : MZ M (sI N 60 i v) := by
  refine ⟨h.1, h.2.1, fun j hj => ?_, fun b hb => ?_⟩
  · rw [rd_ni (fun q => hj (by rw [q]; exact hi))]; exact h.2.2.1 j hj
  · exact (u2_ne _ _ _ (fun q => hb (by rw [q]; decide))).trans (h.2.2.2 b hb)
theorem MX.Z {M N : Mm} (h : MX M N) : MZ M N := ⟨h.1, h.2.1, fun j hj => h.2.2.1 j (fun q => hj (by
  rcases List.mem_cons.mp q with q | q
  · rw [q]; decide
  · rcases List.mem_cons.mp q with q | q
    · rw [q]; decide
    · rcases List.mem_cons.mp q with q | q
      · rw [q]; decide
      · rw [List.mem_singleton.mp q]; decide)), fun b hb => h.2.2.2 b (fun q => hb (by rw [q]; decide)) (fun q => hb (by rw [q]; decide)) (fun q => hb (by rw [q]; decide))⟩
theorem Fr.Z {a : Nat} {M N : Mm} (h : Fr a a M N) (ha : a ∈ [64, 74, 79, 80, 81, 82]) : MZ M N := by
  have hne : a ≠ 60 := fun q => by rw [q] at ha; exact absurd ha (by decide)
  have hin : a ∈ [60, 64, 74, 79, 80, 81, 82] := List.mem_cons_of_mem _ ha
  refine ⟨h.1, h.2.1, fun j hj => ?_, fun b hb => ?_⟩
  · rw [h.2.2 60 (by omega)]
  · have : b ≠ a := fun q => hb (by rw [q]; exact hin)
    exact h.2.2 b (by omega)
theorem MF.Z {ks : List Nat} {M N : Mm} (h : MF ks M N) (hs : ∀ j, j ∈ ks → j ∈ [3, 4, 6, 7, 14, 22, 23, 25]) : MZ M N := ⟨h.1.1, h.1.2.1, fun j hj => h.2 j (fun q => hj (hs j q)), fun b hb => h.1.2.2 b (by
  have : b ≠ 60 := fun q => hb (by rw [q]; decide)
  omega)⟩
theorem MZ.FM {M N : Mm} (h : MZ M N) : FM M N := ⟨h.1, by rw [h.2.1], fun a ha => h.2.2.2 a (by
  intro q
  rcases List.mem_cons.mp q with q | q
  · omega
  · rcases List.mem_cons.mp q with q | q
    · omega
    · rcases List.mem_cons.mp q with q | q
      · omega
      · rcases List.mem_cons.mp q with q | q
        · omega
        · rcases List.mem_cons.mp q with q | q
          · omega
          · rcases List.mem_cons.mp q with q | q
            · omega
            · rw [List.mem_singleton.mp q] at ha; omega), fun a _ => by rw [h.2.1]⟩
theorem MZ.ok {M N : Mm} (ok : OkM M) (h : MZ M N) : OkM N := ok.of h.1 h.2.1
theorem MInv.at {M N : Mm} {g : Nw} (h : MInv M g) (h19 : N.2.1 60 19 = M.2.1 60 19) (h7 : N.2.1 75 = M.2.1 75) (h8 : N.2.1 76 = M.2.1 76) (h9 : N.2.1 77 = M.2.1 77) (h0 : N.2.2.1 78 = M.2.2.1 78) : MInv N g := by
  unfold MInv MLd MQt
  rw [h19, h7, h8, h9, h0]
  exact h
theorem MI.z {M N : Mm} {s : Sx} (h : MI M s) (hz : MZ M N) : MI N s := by
  obtain ⟨ok, ⟨a1, a2, a3, a4, a5⟩, ⟨b1, b2⟩, ⟨c1, c2⟩, d1, e1, f1⟩ := h
  refine ⟨ok.of hz.1 hz.2.1, ⟨by rw [hz.2.2.1 2 (by decide)]; exact a1, a2, by rw [hz.2.2.1 5 (by decide)]; exact a3, by rw [hz.2.2.1 12 (by decide)]; exact a4, a5⟩, ⟨b1, fun i hi => by rw [hz.2.2.2 62 (by decide)]; exact b2 i hi⟩, ⟨c1.at (hz.2.2.2 63 (by decide)), c2⟩, fun i g hg => ?_, e1.at (hz.2.2.1 19 (by decide)) (hz.2.2.2 75 (by decide)) (hz.2.2.2 76 (by decide)) (hz.2.2.2 77 (by decide)) (by rw [hz.2.1]), fun i hi => by rw [hz.2.2.2 61 (by decide)]; exact f1 i hi⟩
  have hil : i < (shh s).length := by
    rcases Nat.lt_or_ge i (shh s).length with q | q
    · exact q
    · rw [List.getElem?_eq_none q] at hg; cases hg
  refine ⟨(d1 i g hg).1.at (hz.2.2.2 (66 + i) ?_), (d1 i g hg).2⟩
  have h8 : i < 8 := by omega
  match i, h8 with
  | 0, _ => decide
  | 1, _ => decide
  | 2, _ => decide
  | 3, _ => decide
  | 4, _ => decide
  | 5, _ => decide
  | 6, _ => decide
  | 7, _ => decide
theorem MI.t {M : Mm} {s : Sx} (h : MI M s) {v : Int32} : MI (sI M 60 0 v) s := by
  obtain ⟨ok, ⟨a1, a2, a3, a4, a5⟩, ⟨b1, b2⟩, ⟨c1, c2⟩, d1, e1, f1⟩ := h
  have e : ∀ b, b ≠ 60 → (sI M 60 0 v).2.1 b = M.2.1 b := fun b hb => u2_ne _ _ _ hb
  refine ⟨ok.of rfl rfl, ⟨by rw [rd_ni (by decide)]; exact a1, a2, by rw [rd_ni (by decide)]; exact a3, by rw [rd_ni (by decide)]; exact a4, a5⟩, ⟨b1, fun i hi => by rw [e 62 (by decide)]; exact b2 i hi⟩, ⟨c1.at (e 63 (by decide)), c2⟩, fun i g hg => ⟨(d1 i g hg).1.at (e _ (by omega)), (d1 i g hg).2⟩, e1.at (by rw [rd_ni (by decide)]) (e _ (by decide)) (e _ (by decide)) (e _ (by decide)) rfl, fun i hi => by rw [e 61 (by decide)]; exact f1 i hi⟩
theorem MI.rej {M : Mm} {s : Sx} (h : MI M s) {k : Nat} {v : Int32} (hk : k < 3) : MI (sI (sI M 60 0 v) 61 k ((sI M 60 0 v).2.1 61 k + 1)) (rfu s k) := by
  obtain ⟨ok, ⟨a1, a2, a3, a4, a5⟩, ⟨b1, b2⟩, ⟨c1, c2⟩, d1, e1, f1⟩ := h.t (v := v)
  generalize sI M 60 0 v = K at *
  have e : ∀ b, b ≠ 61 → (sI K 61 k (K.2.1 61 k + 1)).2.1 b = K.2.1 b := fun b hb => u2_ne _ _ _ hb
  refine ⟨ok.of rfl rfl, ⟨by rw [e 60 (by decide)]; exact a1, a2, by rw [e 60 (by decide)]; exact a3, by rw [e 60 (by decide)]; exact a4, a5⟩, ⟨b1, fun i hi => by rw [e 62 (by decide)]; exact b2 i hi⟩, ⟨c1.at (e 63 (by decide)), c2⟩, fun i g hg => ⟨(d1 i g hg).1.at (e _ (by omega)), (d1 i g hg).2⟩, e1.at (by rw [e 60 (by decide)]) (e _ (by decide)) (e _ (by decide)) (e _ (by decide)) rfl, fun i hi => ?_⟩
  show _ = (if i = k then srr s i + 1 else srr s i)
  by_cases hik : i = k
  · rw [if_pos hik, hik, rd_self, f1 k hk]
  · rw [if_neg hik, rd_ni hik, f1 i hi]
theorem MI.now {M : Mm} {s : Sx} (h : MI M s) : NowR M 63 (sgg s) := h.2.2.2.1.1
theorem MI.wf {M : Mm} {s : Sx} (h : MI M s) : Wfn (sgg s) := h.2.2.2.1.2.1
theorem MI.g12 {M : Mm} {s : Sx} (h : MI M s) : 1 ≤ (sgg s).1 ∧ (sgg s).1 ≤ 12 := h.wf.1
/-- the Model's answer -/
def MPo (M : Mm) (r : Rs) : Ot → Mm → Prop := Rt (fun u N => (∃ v, u = some (.int v) ∧ (r.1.1 = 0 → v = r.1.2)) ∧ N.2.1 60 0 = nI r.1.1 ∧ MI N r.2 ∧ FM M N)
theorem mpo_ok {M N : Mm} {s : Sx} {v : Int32} (h : MI N s) (hz : N.2.1 60 0 = 0) (hf : FM M N) : MPo M (okR v s) (.inl (some (.int v))) N := ⟨_, rfl, ⟨v, rfl, fun _ => rfl⟩, hz, h, hf⟩
theorem mpo_rej {M K : Mm} {s : Sx} {c k : Nat} {v : Int32} (h : MI K s) (hk : k < 3) (hf : FM M K) : MPo M (rej (c + 1) k s) (.inl (some (.int v))) (sI (sI K 60 0 (nI (c + 1))) 61 k ((sI K 60 0 (nI (c + 1))).2.1 61 k + 1)) := ⟨_, rfl, ⟨v, rfl, fun q => by cases q⟩, by rw [rd_na (a := 61) (b := 60) (by decide), rd_self]; rfl, h.rej hk, (hf.sI (by decide)).sI (by decide)⟩
theorem c_bad0 {B : Bd} {M : Mm} {w k : Int32} (ok : OkM M) (h : M.2.1 60 0 = 0) : Ct B mX6_bad 0 0 0 [.ref 60, .int 0, .int w, .int k] M (Is (some (.int 0)) M) := by
  refine Ct.of (by decide) rfl rfl (Nat.le_of_ble_eq_true rfl) ?_
  refine e_iload_n dX6_bad_0 rfl rfl ?_
  refine e_if_eq (tgt := 26) dX6_bad_1 (by decide) (fun _ => ?_) (fun hz => absurd rfl hz)
  refine e_aload_n dX6_bad_26 rfl rfl ?_
  refine e_getI dX6_bad_27 fRX6_72 (by exact ok.sh rfl) (fun _ => rfl) ?_
  rw [h]
  refine e_if_eq (tgt := 37) dX6_bad_30 (by decide) (fun _ => ?_) (fun hz => absurd rfl hz)
  refine e_iconst (v := 0) dX6_bad_37 (by decide) ?_
  exact e_iret dX6_bad_38 rfl rfl ⟨rfl, rfl⟩
theorem c_bad1 {B : Bd} {M : Mm} {c k : Nat} (ok : OkM M) (h : M.2.1 60 0 = 0) (hc : c < 9) (hk : k < 3) : Ct B mX6_bad 0 0 0 [.ref 60, .int 1, .int (nI (c + 1)), .int (nI k)] M (Is (some (.int 1)) (sI (sI M 60 0 (nI (c + 1))) 61 k ((sI M 60 0 (nI (c + 1))).2.1 61 k + 1))) := by
  refine Ct.of (by decide) rfl rfl (Nat.le_of_ble_eq_true rfl) ?_
  refine e_iload_n dX6_bad_0 rfl rfl ?_
  refine e_if_eq (tgt := 26) dX6_bad_1 (by decide) (fun hz => absurd hz (by decide)) (fun _ => ?_)
  refine e_aload_n dX6_bad_4 rfl rfl ?_
  refine e_getI dX6_bad_5 fRX6_72 (by exact ok.sh rfl) (fun _ => rfl) ?_
  rw [h]
  refine e_if_ne (tgt := 26) dX6_bad_8 (by decide) (fun hz => absurd rfl hz) (fun _ => ?_)
  refine e_aload_n dX6_bad_11 rfl rfl ?_
  refine e_iload_n dX6_bad_12 rfl rfl ?_
  refine e_putI dX6_bad_13 fRX6_72 (by exact ok.sh rfl) rfl rfl rfl (fun _ _ => rfl) ?_
  refine e_aload_n dX6_bad_16 rfl rfl ?_
  refine e_getR dX6_bad_17 fRX6_9 (by exact ok.sh rfl) (by exact ok.rf rfl) (fun _ => rfl) ?_
  refine e_iload_n dX6_bad_20 rfl rfl ?_
  refine e_dup2 dX6_bad_21 rfl rfl ?_
  refine e_iaload dX6_bad_22 (by exact ok.sh rfl) (by exact vp_in_nI (show k < 3 by omega) (by decide)) ?_
  refine e_iconst (v := 1) dX6_bad_23 (by decide) ?_
  refine e_iadd dX6_bad_24 ?_
  refine e_iastore dX6_bad_25 (by exact ok.sh rfl) (by exact vp_in_nI (show k < 3 by omega) (by decide)) ?_
  rw [nI_clamp (by omega)]
  refine e_aload_n dX6_bad_26 rfl rfl ?_
  refine e_getI dX6_bad_27 fRX6_72 (by exact ok.sh rfl) (fun _ => rfl) ?_
  have e62 : (sI (sI M 60 0 (nI (c + 1))) 61 k ((sI M 60 0 (nI (c + 1))).2.1 61 k + 1)).2.1 60 0 = nI (c + 1) := by rw [rd_na (a := 61) (b := 60) (by decide), rd_self]
  rw [e62]
  refine e_if_eq (tgt := 37) dX6_bad_30 (by decide) (fun hz => ?_) (fun _ => ?_)
  · have := (nI_eq (b := 0) (by omega) (by decide)).mp hz
    omega
  · refine e_iconst (v := 1) dX6_bad_33 (by decide) ?_
    refine e_goto (tgt := 38) dX6_bad_34 (by decide) ?_
    exact e_iret dX6_bad_38 rfl rfl ⟨rfl, rfl⟩
theorem c_thrown {B : Bd} {M : Mm} (ok : OkM M) : Ct B mX6_thrown 0 0 0 [.ref 60] M (Is (some (.int (M.2.1 60 0))) M) := by
  refine Ct.of (by decide) rfl rfl (Nat.le_of_ble_eq_true rfl) ?_
  refine e_aload_n dX6_thrown_0 rfl rfl ?_
  refine e_getI dX6_thrown_1 fRX6_72 (by exact ok.sh rfl) (fun _ => rfl) ?_
  exact e_iret dX6_thrown_4 rfl rfl (⟨rfl, rfl⟩)
theorem sm_up {f : Nat → Nat} {n m : Nat} (h : ∀ i, n ≤ i → f i = 0) (hm : n ≤ m) : sm f m = sm f n := by
  induction m with
  | zero =>
    have : n = 0 := by omega
    subst this; rfl
  | succ m ih =>
    by_cases hnm : n = m + 1
    · subst hnm; rfl
    · rw [sm_s, ih (by omega), h m (by omega)]; rfl
theorem Wfn.wb {g : Nw} (wf : Wfn g) (a b : Nat) : ∀ k, g.2.1 a b = some k → k < 2 ^ 31 := fun k hk => by
  have := (wf.2.2.2.1 a b k hk).2.2
  omega
theorem Wfn.mb {g : Nw} (wf : Wfn g) (a : Nat) : ∀ k, g.2.2 a = some k → k < 2 ^ 31 := fun k hk => by
  have := wf.m a k hk
  omega
theorem Wfn.wo {g : Nw} (wf : Wfn g) {a b : Nat} (h : g.1 ≤ a ∨ g.1 ≤ b) : g.2.1 a b = none := by
  cases hw : g.2.1 a b with
  | none => rfl
  | some k =>
    have := wf.2.2.2.1 a b k hw
    omega
theorem c_lines {B : Bd} {M : Mm} {g : Nw} (ok : OkM M) (h : NowR M 63 g) (wf : Wfn g) : Ct B mX6_lines 1 0 0 [.ref 60] M (Is (some (.int (nI (lnc g.2.1)))) M) := by
  have hg := wf.1.2
  have hl : lnc g.2.1 = sm (fun a => sm (fun b => one (g.2.1 a b)) a) g.1 := sm_up (fun i hi => sm_zero (fun b _ => by
    show one (g.2.1 i b) = 0
    rw [wf.wo (Or.inl hi)]; rfl)) hg
  rw [hl]
  generalize hF : (fun a => sm (fun b => one (g.2.1 a b)) a) = F
  refine Ct.of (by decide) rfl rfl (Nat.le_of_ble_eq_true rfl) ?_
  have outer : ∀ j a (t : Option Value), a + j = g.1 → Ev B mX6_lines 1 0 0 (Is (some (.int (nI (sm F g.1)))) M) 4 [some (.ref 60), some (.int (nI (sm F a))), some (.int (nI a)), t] [] M := by
    intro j
    induction j with
    | zero =>
      intro a t haj
      have : a = g.1 := by omega
      subst this
      refine e_iload_n dX6_lines_4 rfl rfl ?_
      refine e_aload_n dX6_lines_5 rfl rfl ?_
      refine e_callV0i [] dX6_lines_6 mvmX6_nodes lkRX6_181 (by exact ok.sh rfl) ⟨by decide, rfl⟩ rfl rfl (Nat.le_of_ble_eq_true rfl) (by decide) (c_nodes ok h) ?_
      refine e_icmp_ge (tgt := 49) dX6_lines_9 (by decide) (fun _ => ?_) (fun hz => absurd (nI_le (by omega) (by omega)) hz)
      refine e_iload_n dX6_lines_49 rfl rfl ?_
      exact e_iret dX6_lines_50 rfl rfl ⟨rfl, rfl⟩
    | succ j ih =>
      intro a t haj
      refine e_iload_n dX6_lines_4 rfl rfl ?_
      refine e_aload_n dX6_lines_5 rfl rfl ?_
      refine e_callV0i [] dX6_lines_6 mvmX6_nodes lkRX6_181 (by exact ok.sh rfl) ⟨by decide, rfl⟩ rfl rfl (Nat.le_of_ble_eq_true rfl) (by decide) (c_nodes ok h) ?_
      refine e_icmp_ge (tgt := 49) dX6_lines_9 (by decide) (fun hz => absurd hz (nI_ge (by omega) (by omega))) (fun _ => ?_)
      refine e_iconst (v := 0) dX6_lines_12 (by decide) ?_
      refine e_istore_n dX6_lines_13 rfl (by decide) rfl rfl ?_
      have inner : ∀ j2 b, b + j2 = a → Ev B mX6_lines 1 0 0 (Is (some (.int (nI (sm F g.1)))) M) 14 [some (.ref 60), some (.int (nI (sm F a + sm (fun b => one (g.2.1 a b)) b))), some (.int (nI a)), some (.int (nI b))] [] M := by
        intro j2
        induction j2 with
        | zero =>
          intro b hbj
          have : b = a := by omega
          subst this
          have e : sm F b + sm (fun c => one (g.2.1 b c)) b = sm F (b + 1) := by rw [sm_s, ← hF]
          rw [e]
          refine e_iload_n dX6_lines_14 rfl rfl ?_
          refine e_iload_n dX6_lines_15 rfl rfl ?_
          refine e_icmp_ge (tgt := 43) dX6_lines_16 (by decide) (fun _ => ?_) (fun hz => absurd (nI_le (by omega) (by omega)) hz)
          refine e_iinc (v := nI (b + 1)) dX6_lines_43 rfl (nI_1 b) (by decide) rfl rfl ?_
          refine e_goto (tgt := 4) dX6_lines_46 (by decide) ?_
          exact ih (b + 1) _ (by omega)
        | succ j2 ih2 =>
          intro b hbj
          have e : sm F a + sm (fun c => one (g.2.1 a c)) (b + 1) = sm F a + sm (fun c => one (g.2.1 a c)) b + one (g.2.1 a b) := by rw [sm_s, Nat.add_assoc]
          have go := ih2 (b + 1) (by omega)
          rw [e] at go
          refine e_iload_n dX6_lines_14 rfl rfl ?_
          refine e_iload_n dX6_lines_15 rfl rfl ?_
          refine e_icmp_ge (tgt := 43) dX6_lines_16 (by decide) (fun hz => absurd hz (nI_ge (by omega) (by omega))) (fun _ => ?_)
          refine e_iload_n dX6_lines_19 rfl rfl ?_
          refine e_aload_n dX6_lines_20 rfl rfl ?_
          refine e_iload_n dX6_lines_21 rfl rfl ?_
          refine e_iload_n dX6_lines_22 rfl rfl ?_
          refine e_callV0i [_, _] dX6_lines_23 mvmX6_weight lkRX6_203 (by exact ok.sh rfl) ⟨by decide, rfl⟩ rfl rfl (Nat.le_of_ble_eq_true rfl) (by decide) (c_weight ok h (by omega) (by omega)) ?_
          refine e_iconst (v := (-1)) dX6_lines_26 (by decide) ?_
          have hn := wI_none (wf.wb a b)
          cases hw : g.2.1 a b with
          | none =>
            rw [hw] at go hn
            refine e_icmp_ne (tgt := 34) dX6_lines_27 (by decide) (fun hz => absurd (hn.mpr rfl) hz) (fun _ => ?_)
            refine e_iconst (v := 0) dX6_lines_30 (by decide) ?_
            refine e_goto (tgt := 35) dX6_lines_31 (by decide) ?_
            refine e_iadd dX6_lines_35 ?_
            refine e_istore_n dX6_lines_36 rfl (by decide) rfl rfl ?_
            refine e_iinc (v := nI (b + 1)) dX6_lines_37 rfl (nI_1 b) (by decide) rfl rfl ?_
            refine e_goto (tgt := 14) dX6_lines_40 (by decide) ?_
            rw [show (nI (sm F a + sm (fun b => one (g.2.1 a b)) b) + 0 : Int32) = nI (sm F a + sm (fun b => one (g.2.1 a b)) b + one none) from nI_add _ 0]
            exact go
          | some k =>
            rw [hw] at go hn
            refine e_icmp_ne (tgt := 34) dX6_lines_27 (by decide) (fun _ => ?_) (fun hz => by cases hn.mp hz)
            refine e_iconst (v := 1) dX6_lines_34 (by decide) ?_
            refine e_iadd dX6_lines_35 ?_
            refine e_istore_n dX6_lines_36 rfl (by decide) rfl rfl ?_
            refine e_iinc (v := nI (b + 1)) dX6_lines_37 rfl (nI_1 b) (by decide) rfl rfl ?_
            refine e_goto (tgt := 14) dX6_lines_40 (by decide) ?_
            rw [show (nI (sm F a + sm (fun b => one (g.2.1 a b)) b) + 1 : Int32) = nI (sm F a + sm (fun b => one (g.2.1 a b)) b + one (some k)) from nI_add _ 1]
            exact go
      exact inner a 0 (by omega)
  refine e_iconst (v := 0) dX6_lines_0 (by decide) ?_
  refine e_istore_n dX6_lines_1 rfl (by decide) rfl rfl ?_
  refine e_iconst (v := 0) dX6_lines_2 (by decide) ?_
  refine e_istore_n dX6_lines_3 rfl (by decide) rfl rfl ?_
  exact outer g.1 0 none (by omega)
theorem c_pairsNow {B : Bd} {M : Mm} {g : Nw} (ok : OkM M) (h : NowR M 63 g) (wf : Wfn g) : Ct B mX6_pairsNow 1 0 0 [.ref 60] M (Is (some (.int (nI (cpr g)))) M) := by
  have hg := wf.1.2
  unfold cpr
  generalize hF : (fun a => if upp g a = true then 1 else 0) = F
  refine Ct.of (by decide) rfl rfl (Nat.le_of_ble_eq_true rfl) ?_
  have loop : ∀ j a, a + j = g.1 → Ev B mX6_pairsNow 1 0 0 (Is (some (.int (nI (sm F g.1)))) M) 4 [some (.ref 60), some (.int (nI (sm F a))), some (.int (nI a))] [] M := by
    intro j
    induction j with
    | zero =>
      intro a haj
      have : a = g.1 := by omega
      subst this
      refine e_iload_n dX6_pairsNow_4 rfl rfl ?_
      refine e_aload_n dX6_pairsNow_5 rfl rfl ?_
      refine e_callV0i [] dX6_pairsNow_6 mvmX6_nodes lkRX6_181 (by exact ok.sh rfl) ⟨by decide, rfl⟩ rfl rfl (Nat.le_of_ble_eq_true rfl) (by decide) (c_nodes ok h) ?_
      refine e_icmp_ge (tgt := 35) dX6_pairsNow_9 (by decide) (fun _ => ?_) (fun hz => absurd (nI_le (by omega) (by omega)) hz)
      refine e_iload_n dX6_pairsNow_35 rfl rfl ?_
      exact e_iret dX6_pairsNow_36 rfl rfl ⟨rfl, rfl⟩
    | succ j ih =>
      intro a haj
      have go := ih (a + 1) (by omega)
      have hF' : F a = if upp g a = true then 1 else 0 := by rw [← hF]
      rw [sm_s, hF'] at go
      have hu := upp_iff (g := g) (a := a) (wf.m a) (by omega)
      refine e_iload_n dX6_pairsNow_4 rfl rfl ?_
      refine e_aload_n dX6_pairsNow_5 rfl rfl ?_
      refine e_callV0i [] dX6_pairsNow_6 mvmX6_nodes lkRX6_181 (by exact ok.sh rfl) ⟨by decide, rfl⟩ rfl rfl (Nat.le_of_ble_eq_true rfl) (by decide) (c_nodes ok h) ?_
      refine e_icmp_ge (tgt := 35) dX6_pairsNow_9 (by decide) (fun hz => absurd hz (nI_ge (by omega) (by omega))) (fun _ => ?_)
      refine e_iload_n dX6_pairsNow_12 rfl rfl ?_
      refine e_aload_n dX6_pairsNow_13 rfl rfl ?_
      refine e_iload_n dX6_pairsNow_14 rfl rfl ?_
      refine e_callV0i [_] dX6_pairsNow_15 mvmX6_mate lkRX6_206 (by exact ok.sh rfl) ⟨by decide, rfl⟩ rfl rfl (Nat.le_of_ble_eq_true rfl) (by decide) (c_mate ok h (by omega)) ?_
      refine e_iload_n dX6_pairsNow_18 rfl rfl ?_
      by_cases hp : upp g a = true
      · rw [if_pos hp] at go
        refine e_icmp_le (tgt := 26) dX6_pairsNow_19 (by decide) (fun hz => absurd hp (hu.mp hz)) (fun _ => ?_)
        refine e_iconst (v := 1) dX6_pairsNow_22 (by decide) ?_
        refine e_goto (tgt := 27) dX6_pairsNow_23 (by decide) ?_
        refine e_iadd dX6_pairsNow_27 ?_
        refine e_istore_n dX6_pairsNow_28 rfl (by decide) rfl rfl ?_
        refine e_iinc (v := nI (a + 1)) dX6_pairsNow_29 rfl (nI_1 a) (by decide) rfl rfl ?_
        refine e_goto (tgt := 4) dX6_pairsNow_32 (by decide) ?_
        rw [show (nI (sm F a) + 1 : Int32) = nI (sm F a + 1) from nI_add _ 1]
        exact go
      · rw [if_neg hp] at go
        refine e_icmp_le (tgt := 26) dX6_pairsNow_19 (by decide) (fun _ => ?_) (fun hz => absurd (hu.mpr hp) hz)
        refine e_iconst (v := 0) dX6_pairsNow_26 (by decide) ?_
        refine e_iadd dX6_pairsNow_27 ?_
        refine e_istore_n dX6_pairsNow_28 rfl (by decide) rfl rfl ?_
        refine e_iinc (v := nI (a + 1)) dX6_pairsNow_29 rfl (nI_1 a) (by decide) rfl rfl ?_
        refine e_goto (tgt := 4) dX6_pairsNow_32 (by decide) ?_
        rw [show (nI (sm F a) + 0 : Int32) = nI (sm F a + 0) from nI_add _ 0]
        exact go
  refine e_iconst (v := 0) dX6_pairsNow_0 (by decide) ?_
  refine e_istore_n dX6_pairsNow_1 rfl (by decide) rfl rfl ?_
  refine e_iconst (v := 0) dX6_pairsNow_2 (by decide) ?_
  refine e_istore_n dX6_pairsNow_3 rfl (by decide) rfl rfl ?_
  exact loop g.1 0 (by omega)
theorem NowR.m1 {M : Mm} {r a : Nat} {g : Nw} {v : Option Nat} (h : NowR M r g) (ha : a < 12) : NowR (sI M r (1 + a) (wI v)) r (g.1, g.2.1, m2 g.2.2 a v) := by
  refine ⟨?_, fun x hx => ?_, fun x y hx hy => ?_⟩
  · rw [rd_ni (by omega)]; exact h.1
  · show _ = wI (m2 g.2.2 a v x)
    unfold m2
    by_cases hxa : x = a
    · rw [if_pos hxa, hxa, rd_self]
    · rw [if_neg hxa, rd_ni (by omega)]; exact h.2.1 x hx
  · rw [rd_ni (by omega)]; exact h.2.2 x y hx hy
theorem c_mates {B : Bd} {M : Mm} {g : Nw} {a b : Nat} (ok : OkM M) (h : NowR M 63 g) (ha : a < 12) (hb : b < 12) : Ct B mX6_mates 0 0 0 [.ref 60, .int (nI a), .int (nI b)] M (Rt (fun u N => u = none ∧ NowR N 63 (gPair g a b) ∧ Fr 63 63 M N)) := by
  refine Ct.of (by decide) rfl rfl (Nat.le_of_ble_eq_true rfl) ?_
  refine e_aload_n dX6_mates_0 rfl rfl ?_
  refine e_getR dX6_mates_1 fRX6_20 (by exact ok.sh rfl) (by exact ok.rf rfl) (fun _ => rfl) ?_
  refine e_iconst (v := 1) dX6_mates_4 (by decide) ?_
  refine e_iload_n dX6_mates_5 rfl rfl ?_
  refine e_iadd dX6_mates_6 ?_
  rw [e1p]
  refine e_iload_n dX6_mates_7 rfl rfl ?_
  refine e_iastore dX6_mates_8 (by exact ok.sh rfl) (by first | exact vp_in_nI (show 1 + a < 157 by omega) (by decide) | exact vp_in_nI (show 1 + b < 157 by omega) (by decide)) ?_
  rw [nI_clamp (by omega)]
  refine e_aload_n dX6_mates_9 rfl rfl ?_
  refine e_getR dX6_mates_10 fRX6_20 (by exact ok.sh rfl) (by exact ok.rf rfl) (fun _ => rfl) ?_
  refine e_iconst (v := 1) dX6_mates_13 (by decide) ?_
  refine e_iload_n dX6_mates_14 rfl rfl ?_
  refine e_iadd dX6_mates_15 ?_
  rw [e1p]
  refine e_iload_n dX6_mates_16 rfl rfl ?_
  refine e_iastore dX6_mates_17 (by exact ok.sh rfl) (by first | exact vp_in_nI (show 1 + a < 157 by omega) (by decide) | exact vp_in_nI (show 1 + b < 157 by omega) (by decide)) ?_
  rw [nI_clamp (by omega)]
  exact e_vret dX6_mates_18 rfl ⟨none, rfl, rfl, (h.m1 (v := some b) ha).m1 (v := some a) hb, (Fr.rf.sI (by decide) (by decide)).sI (by decide) (by decide)⟩
theorem c_parts {B : Bd} {M : Mm} {g : Nw} {a b : Nat} (ok : OkM M) (h : NowR M 63 g) (ha : a < 12) (hb : b < 12) (hm : g.2.2 a = some b) : Ct B mX6_parts 1 0 0 [.ref 60, .int (nI a)] M (Rt (fun u N => u = none ∧ NowR N 63 (gUn g a) ∧ Fr 63 63 M N)) := by
  refine Ct.of (by decide) rfl rfl (Nat.le_of_ble_eq_true rfl) ?_
  refine e_aload_n dX6_parts_0 rfl rfl ?_
  refine e_iload_n dX6_parts_1 rfl rfl ?_
  refine e_callV0i [_] dX6_parts_2 mvmX6_mate lkRX6_206 (by exact ok.sh rfl) ⟨by decide, rfl⟩ rfl rfl (Nat.le_of_ble_eq_true rfl) (by decide) (c_mate ok h ha) ?_
  rw [hm]
  show Ev _ _ _ _ _ _ 5 _ [.int (nI b)] _
  refine e_istore_n dX6_parts_5 rfl (by decide) rfl rfl ?_
  refine e_aload_n dX6_parts_6 rfl rfl ?_
  refine e_getR dX6_parts_7 fRX6_20 (by exact ok.sh rfl) (by exact ok.rf rfl) (fun _ => rfl) ?_
  refine e_iconst (v := 1) dX6_parts_10 (by decide) ?_
  refine e_iload_n dX6_parts_11 rfl rfl ?_
  refine e_iadd dX6_parts_12 ?_
  rw [e1p]
  refine e_iconst (v := (-1)) dX6_parts_13 (by decide) ?_
  refine e_iastore dX6_parts_14 (by exact ok.sh rfl) (by first | exact vp_in_nI (show 1 + a < 157 by omega) (by decide) | exact vp_in_nI (show 1 + b < 157 by omega) (by decide)) ?_
  rw [nI_clamp (by omega)]
  refine e_aload_n dX6_parts_15 rfl rfl ?_
  refine e_getR dX6_parts_16 fRX6_20 (by exact ok.sh rfl) (by exact ok.rf rfl) (fun _ => rfl) ?_
  refine e_iconst (v := 1) dX6_parts_19 (by decide) ?_
  refine e_iload_n dX6_parts_20 rfl rfl ?_
  refine e_iadd dX6_parts_21 ?_
  rw [e1p]
  refine e_iconst (v := (-1)) dX6_parts_22 (by decide) ?_
  refine e_iastore dX6_parts_23 (by exact ok.sh rfl) (by first | exact vp_in_nI (show 1 + a < 157 by omega) (by decide) | exact vp_in_nI (show 1 + b < 157 by omega) (by decide)) ?_
  rw [nI_clamp (by omega)]
  refine e_vret dX6_parts_24 rfl ⟨none, rfl, rfl, ?_, (Fr.rf.sI (by decide) (by decide)).sI (by decide) (by decide)⟩
  have := (h.m1 (v := none) ha).m1 (v := none) hb
  have e : gUn g a = (g.1, g.2.1, m2 (m2 g.2.2 a none) b none) := by unfold gUn; rw [hm]
  rw [e]
  exact this

