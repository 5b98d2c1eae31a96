/-! methods with handlers; both sides' states are kept by the other -/
theorem wsY_cons {q : Mt} (h : q.2.2.2.2 ≠ []) : wsY q = Cond.codeWith q.1 q.2.1 q.2.2.1 q.2.2.2.1 q.2.2.2.2 :: TB := by
  unfold wsY
  cases hq : q.2.2.2.2 with
  | nil => exact absurd hq h
  | cons a b => rfl
set_option maxHeartbeats 4000000 in
theorem Ct.ofH {B : Bd} {y : Mt} {d rc rs : Nat} {As : List Value} {M : Mm} {Φ : Ot → Mm → Prop} (hy : plainName y.1.cls = true) (hh : y.2.2.2.2 ≠ []) (hc : As.all (fun v => v.category == 1) = true) (hn : As.length ≤ y.2.2.1) (h : Ev B y d rc rs Φ 0 (Lin y As) [] M) : Ct B y d rc rs As M Φ := by
  unfold Ct
  refine vx_ofWH (cc := y.2.1) (maxL := y.2.2.1) (ret := y.2.2.2.1) (hh := y.2.2.2.2) (ws' := TB) hy (wsY_cons hh) ?_
  intro p e s m args below meth c s₁ D hml hv
  obtain ⟨rfl, hR, hK, hX, hbs, hA, htr⟩ := hv
  have hts := atoms_spec (ws := wsY y) D.pre
  have h1 : (Cond.codeWith y.1 y.2.1 y.2.2.1 y.2.2.2.1 y.2.2.2.2).before (As.map (tr (ba B))).toArray s = true := hts _ (by rw [wsY_cons hh]; exact List.mem_cons_self)
  have htab := vx_table (x := y.1) D h1
  rw [lg_entry_eq]
  exact h p e _ s m _ below meth c ⟨⟨D.exec, D.bytes, D.returns, hml, findClass_of_methodNamed D.named⟩, fun w hw => hts w (by rw [wsY_cons hh]; exact List.mem_cons_of_mem _ hw), ⟨D.notSynchronized, (name_of_methodNamed D.named D.method).1, htab⟩, hK, hX, ⟨hbs, hA, htr⟩, ⟨Nat.le_refl _, Nat.le_refl _⟩⟩ _ s.heap [] 0 0 (LR_in hc hn) hR va_S.rf (by show 0 + rc ≤ rc; omega) (by show 0 + rs ≤ rs; omega)
def MdX (q : Mt) (n : Nat) : Prop := Cond.codeWith q.1 q.2.1 q.2.2.1 q.2.2.2.1 q.2.2.2.2 ∈ TB ∧ Cond.initialized q.1.cls ∈ TB ∧ (q.1.cls ≠ "java/lang/invoke/MethodHandle" ∧ q.1.cls ≠ "java/lang/invoke/VarHandle" ∧ (parseMethodDescriptor q.1.desc).map (fun d => d.parameters.length) = some n) ∧ q.2.2.2.2 ≠ [] ∧ q.2.2.1 ≤ 100 ∧ Cond.static q.1 ∈ TB
theorem LR.st0 {ad : Nat → Nat} {ls : Array Slot} {nL : Nat} {L : Lc} {i : Nat} {w : Value} (hn : nlg L i = true) (h : lv_has ls nL ((i, w) :: (lvOf ad L).filter (fun q => !(q.1 == i) && !(q.1 + 1 == i && q.2.category == 2)))) : LR ad ls nL (L.set i none) := by
  refine ⟨h.1, h.2.1, fun j w hj => ?_⟩
  by_cases hji : j = i
  · subst hji
    have hlt : j < L.length := by
      have := (List.getElem?_eq_some_iff.mp hj).1
      rwa [List.length_set] at this
    rw [List.getElem?_set_self hlt] at hj
    cases hj
  · rw [List.getElem?_set_ne (Ne.symm hji)] at hj
    refine h.2.2 (j, tr ad w) (List.mem_cons_of_mem _ (List.mem_filter.mpr ⟨lvOf_mem.mpr ⟨w, hj, rfl⟩, ?_⟩))
    have h1 : (j == i) = false := by simpa using hji
    by_cases h2 : j + 1 = i
    · subst h2
      have hc : (w.category == 2) = false := by
        simp only [nlg, hj] at hn
        simpa using hn
      simp only [tr_cat]
      rw [h1, hc]; simp
    · have h3 : (j + 1 == i) = false := by simpa using h2
      simp only
      rw [h1, h3]; rfl
section CA
variable {B : Bd} {y : Mt} {d rc rs : Nat} {Φ : Ot → Mm → Prop} {pc : Nat} {L : Lc} {st : List Value} {M : Mm}
set_option maxHeartbeats 4000000 in
theorem e_callSX {i n d1 rc1 rs1 rc2 rs2 : Nat} {q : Mt} {Ψ : Option Value → Mm → Prop} {stk : List Value} (As : List Value) (hd : decode y.2.1 pc = .ok (.invokestatic i, 3)) (hm : MdX q n) (hlk : Cond.methodLink y.1.cls i q.1 ∈ TB) (hn : As.length = n) (hstk : stk = As.reverse ++ st) (hst : (st.map fun v => v.category).sum ≤ 8) (hdd : d1 + 1 ≤ d) (hr1 : rc1 + rc2 ≤ rc) (hr2 : rs1 + rs2 ≤ rs)
    (hct : Ct B q d1 rc1 rs1 As M (Rt Ψ)) (kk : ∀ v N, Ψ v N → Ev B y d rc2 rs2 Φ (pc + 3) L (v.toList ++ st) N) : Ev B y d rc rs Φ pc L stk M := by
  intro p e R s m args below meth c C ls H locs cells slots hl hR hS hc hs
  obtain ⟨hfr, hlo⟩ := C.2.2.2.2.2.2
  obtain ⟨m1, m2, m3, m4, m5, m6⟩ := id hm
  refine run_on (Φ1 := Rt Ψ) (a9 := (As.map (tr (ba B))).toArray) (rc1 := rc1) (rs1 := rs1) (rc2 := rc2) (rs2 := rs2) (st := st) C hl hS (by omega) (by omega) ?_ (fun v N h => by obtain ⟨w, h1, h2⟩ := h; cases h1; exact kk _ _ h2) (fun E N h => by obtain ⟨w, h1, h2⟩ := h; cases h1)
  refine vx_runSX (As := As.map (tr (ba B))) (nL := y.2.2.1) (n := n) ⟨C.1.1, C.1.2.1, C.1.2.2.2.1, C.1.2.2.2.2, C.2.1⟩ hct (vx_cwSW n C.2.1 ?_ (wsY_cons m4) rfl rfl m3 ⟨?_, ?_⟩) ⟨Pcx_blind, Pcx_of C hR hS As⟩ rfl (by rw [List.length_map]; exact hn) hl.1 (by rw [hstk]; exact stk_eqS _) (lv_room (cat8 hst _)) hd ⟨by omega, by omega⟩
  · intro w hw
    rcases List.mem_append.mp hw with h9 | h9
    · rcases List.mem_cons.mp h9 with rfl | h9
      · exact TB_good _ hlk
      · rcases List.mem_cons.mp h9 with rfl | h9
        · exact TB_good _ m6
        · rw [List.mem_singleton.mp h9]; exact TB_good _ m2
    · rw [wsY_cons m4] at h9
      rcases List.mem_cons.mp h9 with rfl | h9
      · exact TB_good _ m1
      · exact TB_good _ h9
  · show d1 + 1 ≤ R.frames
    omega
  · show 8 + (q.2.2.1 + 11) + 128 * d1 ≤ R.locals
    omega
/-- the handler that takes E; it stores the exception and forgets it -/
theorem e_catch {E : String} {pre suf : List (Nat × Nat × Nat × Nat)} {x : Nat × Nat × Nat × Nat} {i : Nat} {L' : Lc} (hsp : y.2.2.2.2 = pre ++ x :: suf) (hpre : ∀ z ∈ pre, z.2.2.2 ≠ 0 ∧ ∃ nm, Cond.classLink y.1.cls z.2.2.2 nm ∈ TB ∧ (E, nm) ∈ ncs) (hx : covers ⟨x.1, x.2.1, x.2.2.1, x.2.2.2⟩ pc = true) (h0 : x.2.2.2 ≠ 0) (hlk : Cond.classLink y.1.cls x.2.2.2 E ∈ TB) (hE : E ∈ excs)
    (hd : (∃ n : Fin 4, (n : Nat) = i ∧ decode y.2.1 x.2.2.1 = .ok (.astore_n n, 1)) ∧ (∀ k, k = 1 → Ev B y d rc rs Φ (x.2.2.1 + k) L' [] M) ∨ decode y.2.1 x.2.2.1 = .ok (.astore i, 2) ∧ (∀ k, k = 2 → Ev B y d rc rs Φ (x.2.2.1 + k) L' [] M)) (hn : i < y.2.2.1) (hg : nlg L i = true) (hL : L.set i none = L') : EvX B y d rc rs Φ E pc L M := by
  intro p e R s m args below meth c C ls H locs cells slots st9 q ce hl hR hS hc hs hcell hv hcl
  subst hL
  refine vx_catch (E := E) (name := E) C.1.2.2.2.2 (tableOf pre) ⟨x.1, x.2.1, x.2.2.1, x.2.2.2⟩ (tableOf suf) (by rw [C.2.2.1.2.2, hsp]; unfold tableOf; rw [List.map_append]; rfl) (fun z hz => ?_) hx h0 (C.2.1 _ hlk) (C.2.2.2.2.1.2.2.2.2.2.2.2.1.1 E hE) hcell hv hcl ?_
  · obtain ⟨w, hw, rfl⟩ := List.mem_map.mp hz
    obtain ⟨k0, nm, k1, k2⟩ := hpre w hw
    exact Or.inr ⟨k0, nm, C.2.1 _ k1, C.2.2.2.2.1.2.2.2.2.2.2.1 (E, nm) k2⟩
  · rcases hd with ⟨⟨n, hni, hd1⟩, hk⟩ | ⟨hd1, hk⟩
    · exact lv_astore_n C.1.1 C.1.2.1 hd1 hni hl.has hn rfl (fun ls' h' => hk 1 rfl p e R s m args below meth c C ls' H locs cells slots (LR.st0 hg h') hR hS hc hs)
    · exact lv_astore C.1.1 C.1.2.1 hd1 hl.has hn rfl (fun ls' h' => hk 2 rfl p e R s m args below meth c C ls' H locs cells slots (LR.st0 hg h') hR hS hc hs)
end CA
theorem cpo_ret {xs : List String} {M N : Mm} {r : Rs} {v : Option Value} (h : CPo xs M r (.inl v) N) : r.1.1 = 0 ∧ v = some (.int r.1.2) ∧ CI N r.2 ∧ FC M N := by
  obtain ⟨⟨a, b⟩, s⟩ := r
  obtain ⟨h1, h2, h3⟩ := h
  cases a with
  | zero => exact ⟨rfl, Sum.inl.inj h1, h2, h3⟩
  | succ c =>
    obtain ⟨E, -, h5⟩ := h1
    cases h5
theorem cpo_thr {xs : List String} {M N : Mm} {r : Rs} {E : String} (h : CPo xs M r (.inr E) N) : ∃ c, r.1.1 = c + 1 ∧ xs[c]? = some E ∧ CI N r.2 ∧ FC M N := by
  obtain ⟨⟨a, b⟩, s⟩ := r
  obtain ⟨h1, h2, h3⟩ := h
  cases a with
  | zero => cases h1
  | succ c =>
    obtain ⟨E', h4, h5⟩ := h1
    cases h5
    exact ⟨c, rfl, h4, h2, h3⟩
/-- cells 60 and on stay as they are, but the law's own long -/
def FO (M N : Mm) : Prop := N.1 = M.1 ∧ (∀ a, 60 ≤ a → a ≠ 83 → N.2.2.1 a = M.2.2.1 a) ∧ ∀ a, 60 ≤ a → N.2.1 a = M.2.1 a ∧ N.2.2.2 a = M.2.2.2 a
theorem FC.fo {M N : Mm} (h : FC M N) : FO M N := ⟨h.1, fun a ha _ => h.2.1 a ha, h.2.2⟩
theorem FO.out {M N : Mm} {v : Int64} (h : FO M N) : FO M (sJ N 83 0 v) := ⟨h.1, fun a ha hne => (u2_ne _ _ _ hne).trans (h.2.1 a ha hne), h.2.2⟩
theorem CI.cg {M N : Mm} {s : Sx} (h : CI M s) (e1 : N.1 = M.1) (e2 : N.2.2.2 = M.2.2.2) (e3 : ∀ a, a < 60 → N.2.1 a = M.2.1 a) (e4 : N.2.2.1 16 = M.2.2.1 16) : CI N s := by
  obtain ⟨ok, h0, hT, ⟨hn, hg⟩, ⟨π, p1, p2, p3, p4⟩, ⟨a1, a2, a3⟩, hr⟩ := h
  have okN : OkM N := by unfold OkM; rw [e1, e2]; exact ok
  have hnet : ∀ n g, n + 3 < 60 → NetRep M n g → NetRep N n g := fun n g hn9 hN => by
    unfold NetRep NetAt at hN ⊢
    rw [e1, e2, e3 n (by omega), e3 (n + 1) (by omega), e3 (n + 2) (by omega), e3 (n + 3) (by omega)]
    exact hN
  refine ⟨okN, ?_, ?_, ⟨hnet 2 _ (by decide) hn, hg⟩, ⟨π, p1, p2, fun i hi => by rw [e2]; exact p3 i hi, fun i g hg9 => ?_⟩, ⟨?_, ?_, ?_⟩, ?_⟩
  · unfold C0; rw [e3 0 (by decide)]; exact h0
  · unfold CT; rw [e3 1 (by decide)]; exact hT
  · have hi8 : i < 8 := by
      have hl : i < (shh s).length := (List.getElem?_eq_some_iff.mp hg9).1
      have := h0.2.2.2.2
      omega
    have := p1 i hi8
    exact ⟨hnet _ _ (by omega) (p4 i g hg9).1, (p4 i g hg9).2⟩
  · unfold GInv GR; rw [e3 14 (by decide), e4]; exact a1
  · unfold PInv PAR PR; rw [e3 17 (by decide), e3 18 (by decide)]; exact a2
  · exact a3
  · unfold CR; rw [e3 27 (by decide)]; exact hr
theorem CI.fm {M N : Mm} {s : Sx} (h : CI M s) (hf : FM M N) : CI N s := h.cg hf.1 hf.2.1 hf.2.2.1 (hf.2.2.2 16 (by decide))
theorem CI.out {M : Mm} {s : Sx} {v : Int64} (h : CI M s) : CI (sJ M 83 0 v) s := h.cg rfl rfl (fun _ _ => rfl) (show u2 M.2.2.1 83 0 v 16 = M.2.2.1 16 from u2_ne _ _ _ (by decide))
theorem MI.fo {M N : Mm} {s : Sx} (h : MI M s) (ok : OkM N) (hf : FO M N) : MI N s := by
  obtain ⟨-, h1, h2, ⟨h3, h4⟩, h5, h6, h7⟩ := h
  obtain ⟨-, f2, f3⟩ := hf
  have e : ∀ a, 60 ≤ a → N.2.1 a = M.2.1 a := fun a ha => (f3 a ha).1
  refine ⟨ok, ?_, ⟨h2.1, ?_⟩, ⟨h3.at (e 63 (by decide)), h4⟩, fun i g hg => ⟨(h5 i g hg).1.at (e _ (by omega)), (h5 i g hg).2⟩, ?_, ?_⟩
  · rw [e 60 (by decide)]; exact h1
  · rw [e 62 (by decide)]; exact h2.2
  · unfold MInv MLd MQt at h6 ⊢
    rw [e 60 (by decide), e 75 (by decide), e 76 (by decide), e 77 (by decide), f2 78 (by decide) (by decide)]
    exact h6
  · rw [e 61 (by decide)]; exact h7
/-- what a wrapper of the law answers -/
def WPo (M : Mm) (r : Rs) : Ot → Mm → Prop := Rt (fun u N => (u = some (.int (nI r.1.1)) ∧ r.1.1 ≤ 3) ∧ CI N r.2 ∧ FO M N ∧ (r.1.1 = 0 → N.2.2.1 83 0 = r.1.2.toInt64))
theorem sJ_self {M : Mm} {a i : Nat} {v : Int64} : (sJ M a i v).2.2.1 a i = v := by
  show u2 M.2.2.1 a i v a i = v
  simp [u2]
