theorem pmt_gen (ps : List (Nat × Nat)) : ∀ (m0 : Nat → Option Nat) (c0 : Bool), (∀ ab, ab ∈ ps → ab.1 ≠ ab.2) → (ps.foldl (fun q ab => ptl q ab.1 ab.2) (m0, c0)).2 = false → c0 = false ∧ ∀ x y, (ps.foldl (fun q ab => ptl q ab.1 ab.2) (m0, c0)).1 x = some y ↔ (m0 x = some y ∨ (x, y) ∈ ps ∨ (y, x) ∈ ps) := by
  induction ps with
  | nil =>
    intro m0 c0 _ h
    exact ⟨h, fun x y => by simp⟩
  | cons ab ps ih =>
    intro m0 c0 hne h
    obtain ⟨a, b⟩ := ab
    have hab : a ≠ b := hne (a, b) (List.mem_cons_self ..)
    have h' : (ps.foldl (fun q ab => ptl q ab.1 ab.2) (ptl (m0, c0) a b)).2 = false := h
    show c0 = false ∧ ∀ x y, (ps.foldl (fun q ab => ptl q ab.1 ab.2) (ptl (m0, c0) a b)).1 x = some y ↔ _
    unfold ptl at h' ⊢
    by_cases hf : m0 a = none ∧ m0 b = none
    · rw [if_pos hf] at h' ⊢
      obtain ⟨i1, i2⟩ := ih _ _ (fun ab h => hne ab (List.mem_cons_of_mem _ h)) h'
      refine ⟨i1, fun x y => ?_⟩
      refine (i2 x y).trans ?_
      have hm : m2 (m2 m0 a (some b)) b (some a) x = some y ↔ (m0 x = some y ∨ (x = a ∧ y = b) ∨ (x = b ∧ y = a)) := by
        unfold m2
        by_cases h1 : x = b
        · subst h1
          rw [if_pos rfl, hf.2]
          constructor
          · intro q; exact Or.inr (Or.inr ⟨rfl, (Option.some.inj q).symm⟩)
          · rintro (q | ⟨q, -⟩ | ⟨-, q⟩)
            · cases q
            · exact absurd q.symm hab
            · rw [q]
        · rw [if_neg h1]
          by_cases h2 : x = a
          · subst h2
            rw [if_pos rfl, hf.1]
            constructor
            · intro q; exact Or.inr (Or.inl ⟨rfl, (Option.some.inj q).symm⟩)
            · rintro (q | ⟨-, q⟩ | ⟨q, -⟩)
              · cases q
              · rw [q]
              · exact absurd q h1
          · rw [if_neg h2]
            constructor
            · exact Or.inl
            · rintro (q | ⟨q, -⟩ | ⟨q, -⟩)
              · exact q
              · exact absurd q h2
              · exact absurd q h1
      show (m2 (m2 m0 a (some b)) b (some a) x = some y ∨ _) ↔ _
      rw [hm, List.mem_cons, List.mem_cons, Prod.mk.injEq, Prod.mk.injEq]
      constructor
      · rintro ((q | q | q) | q | q)
        · exact Or.inl q
        · exact Or.inr (Or.inl (Or.inl q))
        · exact Or.inr (Or.inr (Or.inl ⟨q.2, q.1⟩))
        · exact Or.inr (Or.inl (Or.inr q))
        · exact Or.inr (Or.inr (Or.inr q))
      · rintro (q | (q | q) | q | q)
        · exact Or.inl (Or.inl q)
        · exact Or.inl (Or.inr (Or.inl q))
        · exact Or.inr (Or.inl q)
        · exact Or.inl (Or.inr (Or.inr ⟨q.2, q.1⟩))
        · exact Or.inr (Or.inr q)
    · rw [if_neg hf] at h'
      have := (ih _ _ (fun ab h => hne ab (List.mem_cons_of_mem _ h)) h').1
      cases this
theorem pmt_iff {ps : List (Nat × Nat)} (hne : ∀ ab, ab ∈ ps → ab.1 ≠ ab.2) (h : (pmt ps).2 = false) (x y : Nat) : (pmt ps).1 x = some y ↔ ((x, y) ∈ ps ∨ (y, x) ∈ ps) := by
  have := (pmt_gen ps (fun _ => none) false hne h).2 x y
  unfold pmt
  rw [this]
  simp
def pal (g : Nw) : Prop := ∀ a b, g.2.2 a = some b → (g.2.1 a b).isSome = true
theorem pal_ps {s : Ps} (hw : WP s) (h : (pmt s.2.2).2 = false) : (∀ ab, ab ∈ s.2.2 → (s.2.1 ab.1 ab.2).isSome = true) ↔ ∀ a, a < s.1 → ∀ b, (pmt s.2.2).1 a = some b → (s.2.1 a b).isSome = true := by
  have hne : ∀ ab, ab ∈ s.2.2 → ab.1 ≠ ab.2 := fun ab h => (hw.2 ab h).2.2
  constructor
  · intro hl a _ b hab
    rcases (pmt_iff hne h a b).mp hab with q | q
    · exact hl _ q
    · have := hl _ q
      have e := hw.1.2.1 a b
      have e' : s.2.1 a b = s.2.1 b a := e
      rw [e']; exact this
  · rintro hl ⟨a, b⟩ hin
    exact hl a (hw.2 _ hin).1 b ((pmt_iff hne h a b).mpr (Or.inl hin))
theorem wf_new {v : Nat} (h1 : 1 ≤ v) (h2 : v ≤ 12) : WP (v, fun _ _ => none, []) := ⟨⟨⟨h1, h2⟩, fun _ _ => rfl, fun _ => rfl, fun a b k h => (by cases h), fun a b h => (by cases h)⟩, fun ab h => (by cases h)⟩
theorem c_readNodes {B : Bd} {M : Mm} {T : Nat → Nat} {n : Nat} (ok : OkM M) (h : Tx M T n) (hx : Rd M n (.inr 0)) (hc : M.2.1 11 6 = 0) : Ct B mX3_readNodes 5 0 0 [.ref 11, .ref 6] M (Rt (fun u N => u = none ∧ Tx N T n ∧ Fr 6 12 M N ∧ match pnds T n with
    | .inl f => Rd N n (.inl f)
    | .inr (e, v) => Rd N n (.inr e) ∧ RdS N (v, fun _ _ => none, []))) := by
  have hsk := sk_le (T := T) hx.1
  refine Ct.of (by decide) rfl rfl (Nat.le_of_ble_eq_true rfl) ?_
  refine e_aload_n dX3_readNodes_0 rfl rfl ?_
  refine e_ldcS (k0 := 1) (tx := "nodes") dX3_readNodes_1 (by decide) ?_
  refine e_callV1 [_] dX3_readNodes_3 mvmX3_takeWord lkRX3_58 (by exact ok.sh rfl) ⟨by decide, rfl⟩ rfl rfl (Nat.le_of_ble_eq_true rfl) (by decide) (c_takeWord ok h hx.2.2.2 hx.1 wd_nodes) (fun u N1 h1 => ?_)
  obtain ⟨hu, a1, rf1⟩ := h1
  subst hu
  have ok1 : OkM N1 := ok.fr rf1.1
  have t1 := h.rf rf1 (by decide)
  -- from 18 on
  have rest : ∀ K x, Tx K T n → RF [0, 1, 4, 5] M K → Rd K n x → pnds T n = bd x (fun p => match pnum T n 1 12 p with
      | .inl e => .inl e
      | .inr (e, v, _) => match pend T n e with
        | .inl f => .inl f
        | .inr e2 => .inr (e2, v)) → Ev B mX3_readNodes 5 0 0 (Rt (fun u N => u = none ∧ Tx N T n ∧ Fr 6 12 M N ∧ match pnds T n with
    | .inl f => Rd N n (.inl f)
    | .inr (e, v) => Rd N n (.inr e) ∧ RdS N (v, fun _ _ => none, []))) 18 [some (.ref 11), some (.ref 6), none] [] K := by
    intro K x tK rfK rdK e8
    have okK : OkM K := ok.fr rfK.1
    refine e_aload_n dX3_readNodes_18 rfl rfl ?_
    refine e_iconst (v := 1) dX3_readNodes_19 (by decide) ?_
    refine e_bipush (v := 12) dX3_readNodes_20 (by decide) ?_
    rw [show (12 : Int32) = nI 12 from fa_lit 12, show (1 : Int32) = nI 1 from fa_lit 1]
    refine e_callV1 [_, _] dX3_readNodes_22 mvmX3_takeNumber lkRX3_62 (by exact okK.sh rfl) ⟨by decide, rfl⟩ rfl rfl (Nat.le_of_ble_eq_true rfl) (by decide) (c_takeNumber (lo := 1) (hi := 12) okK tK rdK (by decide) (by decide)) (fun u K1 h1 => ?_)
    obtain ⟨r1, hu, rd1, rf1, v1⟩ := h1
    subst hu
    have ok1 : OkM K1 := okK.fr rf1.1
    have t1 := tK.rf rf1 (by decide)
    refine e_istore_n dX3_readNodes_25 rfl (by decide) rfl rfl ?_
    refine e_aload_n dX3_readNodes_26 rfl rfl ?_
    refine e_callV1 [] dX3_readNodes_27 mvmX3_takeEnd lkRX3_66 (by exact ok1.sh rfl) ⟨by decide, rfl⟩ rfl rfl (Nat.le_of_ble_eq_true rfl) (by decide) (c_takeEnd ok1 t1 rd1) (fun u K2 h2 => ?_)
    obtain ⟨hu, rd2, rf2⟩ := h2
    subst hu
    have ok2 : OkM K2 := ok1.fr rf2.1
    have t2 := t1.rf rf2 (by decide)
    have rfM : RF [0, 1, 4, 5] M K2 := (rfK.trans rf1).trans (rf2.wide (by decide))
    have bad : ∀ f (t : Option Value), Rd K2 n (.inl f) → pnds T n = .inl f → Ev B mX3_readNodes 5 0 0 (Rt (fun u N => u = none ∧ Tx N T n ∧ Fr 6 12 M N ∧ match pnds T n with
        | .inl f => Rd N n (.inl f)
        | .inr (e, v) => Rd N n (.inr e) ∧ RdS N (v, fun _ _ => none, []))) 30 [some (.ref 11), some (.ref 6), t] [] K2 := by
      intro f t rd2' e9
      refine e_aload_n dX3_readNodes_30 rfl rfl ?_
      refine e_getI dX3_readNodes_31 fRX3_26 (by exact ok2.sh rfl) (fun _ => rfl) ?_
      refine e_if_ne (tgt := 42) dX3_readNodes_34 (by decide) (fun hz => ?_) (fun hz => ?_)
      · exact e_vret dX3_readNodes_42 rfl ⟨none, rfl, rfl, t2, rfM.F, by rw [e9]; exact rd2'⟩
      · exact absurd hz rd2'.k
    cases x with
    | inl f => exact bad f _ rd2 e8
    | inr p =>
      simp only [bd_r] at rd1 rd2 e8
      cases hp1 : pnum T n 1 12 p with
      | inl f =>
        rw [hp1] at rd2 e8
        exact bad f _ rd2 e8
      | inr w =>
        obtain ⟨e, v, q⟩ := w
        have ho := pnum_ok rdK.1 hp1
        obtain ⟨vv, -⟩ := v1 p e v q rfl hp1
        rw [hp1] at rd2 e8
        simp only [bd_r] at rd2
        dsimp only at e8
        cases hpe : pend T n e with
        | inl f =>
          rw [hpe] at rd2 e8
          exact bad f _ rd2 e8
        | inr e2 =>
          rw [hpe] at rd2 e8
          have rd2' : Rd K2 n (.inr e2) := rd2
          refine e_aload_n dX3_readNodes_30 rfl rfl ?_
          refine e_getI dX3_readNodes_31 fRX3_26 (by exact ok2.sh rfl) (fun _ => rfl) ?_
          refine e_if_ne (tgt := 42) dX3_readNodes_34 (by decide) (fun hz => ?_) (fun hz => ?_)
          · exact absurd rd2'.2.1 hz
          · rw [vv]
            refine e_aload_n dX3_readNodes_37 rfl rfl ?_
            refine e_iload_n dX3_readNodes_38 rfl rfl ?_
            refine e_callV1 [_] dX3_readNodes_39 mvmX1_clear lkRX3_69 (by exact ok2.sh rfl) ⟨by decide, rfl⟩ rfl rfl (Nat.le_of_ble_eq_true rfl) (by decide) (c_clear (c := v) (net6 ok2)) (fun u K3 h3 => ?_)
            obtain ⟨hu, q1, q2⟩ := h3
            subst hu
            refine e_vret dX3_readNodes_42 rfl ⟨none, rfl, rfl, t2.fr q2, rfM.F.trans (q2.wide (by decide) (by decide)), ?_⟩
            rw [e8]
            exact ⟨rd2'.fr q2, q1, by rw [q2.2.2 11 (by omega), rfM.2 6 (by decide)]; exact hc, wf_new ho.2.1 ho.2.2.1⟩
  by_cases p1 : pwd T n wNodes 0 = true
  · rw [if_pos p1] at a1 ⊢
    have rd1 : Rd N1 n (.inr (sk T n 0 + 5)) := hx.go (rf1.wide (by decide)) (pwd_le hx.1 p1) a1
    refine e_if_ne (tgt := 18) dX3_readNodes_6 (by decide) (fun hz => ?_) (fun hz => ?_)
    · exact rest N1 (.inr (sk T n 0 + 5)) t1 (rf1.wide (by decide)) rd1 (by unfold pnds; rw [if_pos p1]; rfl)
    · exact absurd hz (by decide)
  · rw [if_neg p1] at a1 ⊢
    have rd1 : Rd N1 n (.inr (sk T n 0)) := hx.go (rf1.wide (by decide)) hsk a1
    refine e_if_ne (tgt := 18) dX3_readNodes_6 (by decide) (fun hz => ?_) (fun hz => ?_)
    · exact absurd rfl hz
    · refine e_aload_n dX3_readNodes_9 rfl rfl ?_
      refine e_iconst (v := 1) dX3_readNodes_10 (by decide) ?_
      refine e_aload_n dX3_readNodes_11 rfl rfl ?_
      refine e_getI dX3_readNodes_12 fRX3_23 (by exact ok1.sh rfl) (fun _ => rfl) ?_
      rw [a1]
      refine e_callV0v [_, _] dX3_readNodes_15 mvmX3_fail lkRX3_52 (by exact ok1.sh rfl) ⟨by decide, rfl⟩ rfl rfl (Nat.le_of_ble_eq_true rfl) (by decide) (c_fail ok1) ?_
      rw [if_pos rd1.2.1]
      have rff : RF [0, 1, 4, 5] N1 (sI (sI N1 11 0 1) 11 1 (nI (sk T n 0))) := (RF.rf.s (by decide)).s (by decide)
      exact rest _ (.inl (1, sk T n 0)) (t1.rf rff (by decide)) ((rf1.wide (by decide)).trans rff) (Rd.fl hsk a1 ⟨by decide, by decide, hsk⟩ rfl) (by unfold pnds; rw [if_neg p1]; rfl)
/-- what reading a text leaves -/
def RdP (T : Nat → Nat) (n : Nat) (M : Mm) : Ot → Mm → Prop := Rt (fun u N => u = none ∧ Fr 6 12 (sR M 11 2 (some 1)) N ∧ match ptx T n with
  | .inl (k, pl) => (0 < k ∧ k ≤ 3 ∧ pl ≤ n) ∧ N.2.1 11 0 = nI k ∧ N.2.1 11 1 = nI pl
  | .inr g => N.2.1 11 0 = 0 ∧ N.2.1 11 1 = -1 ∧ NetRep N 6 g ∧ Wfn g ∧ pal g)
theorem OkM.r {M : Mm} (ok : OkM M) {b : Option Nat} : OkM (sR M 11 2 b) := by
  refine ⟨ok.1, fun a k c h => ?_⟩
  show u2 M.2.2.2 11 2 b a k = some c
  by_cases ha : a = 11
  · subst ha
    rw [u2_self]
    by_cases hk : k = 2
    · subst hk
      have : finz 11 2 = none := by decide
      rw [this] at h; cases h
    · show (if k = 2 then b else M.2.2.2 11 k) = some c
      rw [if_neg hk]; exact ok.2 11 k c h
  · rw [u2_ne _ _ _ ha]; exact ok.2 a k c h
theorem c_read {B : Bd} {M : Mm} {T : Nat → Nat} {n : Nat} (ok : OkM M) (hT : ∀ i, T i < 256) (h1 : ∀ i, i < 500 → M.2.1 1 i = sb (T i)) (hn : n ≤ 500) : Ct B mX3_read 6 0 0 [.ref 11, .ref 1, .int (nI n), .ref 6] M (RdP T n M) := by
  refine Ct.of (by decide) rfl rfl (Nat.le_of_ble_eq_true rfl) ?_
  refine e_aload_n dX3_read_0 rfl rfl ?_
  refine e_aload_n dX3_read_1 rfl rfl ?_
  refine e_putR dX3_read_2 fRX3_15 (by first | exact ok.sh rfl) (by first | exact Or.inl rfl | exact Or.inr ⟨rfl, rfl, rfl⟩) (fun _ => ⟨rfl, rfl⟩) (fun _ _ => rfl) ?_
  refine e_aload_n dX3_read_5 rfl rfl ?_
  refine e_iload_n dX3_read_6 rfl rfl ?_
  refine e_putI dX3_read_7 fRX3_19 (by first | exact ok.sh rfl) rfl rfl rfl (fun _ _ => rfl) ?_
  refine e_aload_n dX3_read_10 rfl rfl ?_
  refine e_iconst (v := 0) dX3_read_11 (by decide) ?_
  refine e_putI dX3_read_12 fRX3_23 (by first | exact ok.sh rfl) rfl rfl rfl (fun _ _ => rfl) ?_
  refine e_aload_n dX3_read_15 rfl rfl ?_
  refine e_iconst (v := 0) dX3_read_16 (by decide) ?_
  refine e_putI dX3_read_17 fRX3_26 (by first | exact ok.sh rfl) rfl rfl rfl (fun _ _ => rfl) ?_
  refine e_aload_n dX3_read_20 rfl rfl ?_
  refine e_iconst (v := (-1)) dX3_read_21 (by decide) ?_
  refine e_putI dX3_read_22 fRX3_29 (by first | exact ok.sh rfl) rfl rfl rfl (fun _ _ => rfl) ?_
  refine e_aload_n dX3_read_25 rfl rfl ?_
  refine e_iconst (v := 0) dX3_read_26 (by decide) ?_
  refine e_putI dX3_read_27 fRX3_32 (by first | exact ok.sh rfl) rfl rfl rfl (fun _ _ => rfl) ?_
  refine e_aload_n dX3_read_30 rfl rfl ?_
  refine e_aload_n dX3_read_31 rfl rfl ?_
  have okR : OkM (sR M 11 2 (some 1)) := ok.r
  generalize hM1 : sI (sI (sI (sI (sI (sR M 11 2 (some 1)) 11 3 (nI n)) 11 4 0) 11 0 0) 11 1 (-1)) 11 6 0 = M1
  have hf1 : Fr 6 12 (sR M 11 2 (some 1)) M1 := by
    rw [← hM1]
    exact ((((Fr.rf.sI (by decide) (by decide)).sI (by decide) (by decide)).sI (by decide) (by decide)).sI (by decide) (by decide)).sI (by decide) (by decide)
  have ok1 : OkM M1 := okR.fr hf1
  have tx1 : Tx M1 T n := by
    rw [← hM1]
    refine ⟨?_, ?_, hn, hT, fun i hi => ?_⟩
    · show u2 M.2.2.2 11 2 (some 1) 11 2 = some 1
      rw [u2_self]; simp
    · rw [rd_ni (by decide), rd_ni (by decide), rd_ni (by decide), rd_ni (by decide), rd_self]
    · rw [rd_na (by decide), rd_na (by decide), rd_na (by decide), rd_na (by decide), rd_na (by decide)]; exact h1 i hi
  have rd1 : Rd M1 n (.inr 0) := by
    rw [← hM1]
    refine ⟨Nat.zero_le _, ?_, ?_, ?_⟩
    · rw [rd_ni (by decide), rd_ni (by decide), rd_self]
    · rw [rd_ni (by decide), rd_self]
    · rw [rd_ni (by decide), rd_ni (by decide), rd_ni (by decide), rd_self]; rfl
  have c1 : M1.2.1 11 6 = 0 := by rw [← hM1, rd_self]
  refine e_callV1 [_] dX3_read_32 mvmX3_readNodes lkRX3_36 (by exact ok1.sh rfl) ⟨by decide, rfl⟩ rfl rfl (Nat.le_of_ble_eq_true rfl) (by decide) (c_readNodes ok1 tx1 rd1 c1) (fun u N h2 => ?_)
  obtain ⟨hu, tN, fN, hN⟩ := h2
  subst hu
  -- the end, with a fault
  have bad : ∀ K f (t : Option Value), Fr 6 12 (sR M 11 2 (some 1)) K → Rd K n (.inl f) → ptx T n = .inl f → Ev B mX3_read 6 0 0 (RdP T n M) 71 [some (.ref 11), some (.ref 1), some (.int (nI n)), some (.ref 6), t] [] K := by
    intro K f t fK rdK e9
    have okK : OkM K := okR.fr fK
    obtain ⟨k, pl⟩ := f
    refine e_aload_n dX3_read_71 rfl rfl ?_
    refine e_getI dX3_read_72 fRX3_26 (by exact okK.sh rfl) (fun _ => rfl) ?_
    refine e_if_ne (tgt := 101) dX3_read_75 (by decide) (fun hz => ?_) (fun hz => ?_)
    · exact e_vret dX3_read_101 rfl ⟨none, rfl, rfl, fK, by rw [e9]; exact ⟨rdK.1, rdK.2.1, rdK.2.2.1⟩⟩
    · exact absurd hz rdK.k
  -- .. without
  have good : ∀ K e s (t : Option Value), Tx K T n → Fr 6 12 (sR M 11 2 (some 1)) K → Rd K n (.inr e) → RdS K s → ptx T n = pfin n s → Ev B mX3_read 6 0 0 (RdP T n M) 71 [some (.ref 11), some (.ref 1), some (.int (nI n)), some (.ref 6), t] [] K := by
    intro K e s t tK fK rdK sK e8
    have okK : OkM K := okR.fr fK
    have wf := sK.2.2.1
    have e12 : s.1 ≤ 12 := wf.1.2
    have fin3 : ¬ ((pmt s.2.2).2 = false ∧ ∀ ab, ab ∈ s.2.2 → (s.2.1 ab.1 ab.2).isSome = true) → Ev B mX3_read 6 0 0 (RdP T n M) 92 [some (.ref 11), some (.ref 1), some (.int (nI n)), some (.ref 6), t] [] K := by
      intro hno
      refine e_aload_n dX3_read_92 rfl rfl ?_
      refine e_iconst (v := 3) dX3_read_93 (by decide) ?_
      refine e_aload_n dX3_read_94 rfl rfl ?_
      refine e_getI dX3_read_95 fRX3_19 (by exact okK.sh rfl) (fun _ => rfl) ?_
      rw [tK.2.1]
      refine e_callV0v [_, _] dX3_read_98 mvmX3_fail lkRX3_52 (by exact okK.sh rfl) ⟨by decide, rfl⟩ rfl rfl (Nat.le_of_ble_eq_true rfl) (by decide) (c_fail okK) ?_
      rw [if_pos rdK.2.1]
      refine e_vret dX3_read_101 rfl ⟨none, rfl, rfl, (fK.sI (by decide) (by decide)).sI (by decide) (by decide), ?_⟩
      rw [e8]
      unfold pfin
      rw [if_neg hno]
      exact ⟨⟨by decide, by decide, Nat.le_refl _⟩, by rw [rd_ni (by decide), rd_self]; rfl, by rw [rd_self]⟩
    refine e_aload_n dX3_read_71 rfl rfl ?_
    refine e_getI dX3_read_72 fRX3_26 (by exact okK.sh rfl) (fun _ => rfl) ?_
    refine e_if_ne (tgt := 101) dX3_read_75 (by decide) (fun hz => ?_) (fun hz => ?_)
    · exact absurd rdK.2.1 hz
    · refine e_aload_n dX3_read_78 rfl rfl ?_
      refine e_getI dX3_read_79 fRX3_32 (by exact okK.sh rfl) (fun _ => rfl) ?_
      rw [sK.2.1]
      by_cases hcl : (pmt s.2.2).2 = true
      · rw [if_pos hcl]
        refine e_if_ne (tgt := 92) dX3_read_82 (by decide) (fun hz2 => ?_) (fun hz2 => ?_)
        · exact fin3 (fun q => by rw [hcl] at q; cases q.1)
        · exact absurd hz2 (by decide)
      · rw [if_neg hcl]
        have hcl' : (pmt s.2.2).2 = false := by
          cases hh : (pmt s.2.2).2 with
          | false => rfl
          | true => exact absurd hh hcl
        have hpal := pal_ps sK.2.2 hcl'
        refine e_if_ne (tgt := 92) dX3_read_82 (by decide) (fun hz2 => ?_) (fun hz2 => ?_)
        · exact absurd rfl hz2
        · refine e_aload_n dX3_read_85 rfl rfl ?_
          refine e_callV0i [] dX3_read_86 mvmX1_pairsAreLines lkRX3_47 (by exact okK.sh rfl) ⟨by decide, rfl⟩ rfl rfl (Nat.le_of_ble_eq_true rfl) (by decide) (c_pairsAreLines sK.1 e12 (fun a k hk => wf.m a k hk)) ?_
          by_cases hl : ∀ a, a < s.1 → ∀ b, (pmt s.2.2).1 a = some b → (s.2.1 a b).isSome = true
          · rw [if_pos hl]
            refine e_if_ne (tgt := 101) dX3_read_89 (by decide) (fun hz3 => ?_) (fun hz3 => ?_)
            · refine e_vret dX3_read_101 rfl ⟨none, rfl, rfl, fK, ?_⟩
              rw [e8]
              unfold pfin
              rw [if_pos ⟨hcl', hpal.mpr hl⟩]
              exact ⟨rdK.2.1, rdK.2.2.1, sK.1, wf, fun a b hab => hl a (wf.2.2.2.2 a b hab).2.1 b hab⟩
            · exact absurd hz3 (by decide)
          · rw [if_neg hl]
            refine e_if_ne (tgt := 101) dX3_read_89 (by decide) (fun hz3 => ?_) (fun hz3 => ?_)
            · exact absurd rfl hz3
            · exact fin3 (fun q => hl (hpal.mp q.2))
  have loop : ∀ f i K s e, f + i = 500 → Tx K T n → Fr 6 12 (sR M 11 2 (some 1)) K → Rd K n (.inr e) → RdS K s → ptx T n = bd (ploop T n f s e) (pfin n) → Ev B mX3_read 6 0 0 (RdP T n M) 38 [some (.ref 11), some (.ref 1), some (.int (nI n)), some (.ref 6), some (.int (nI i))] [] K := by
    intro f
    induction f with
    | zero =>
      intro i K s e hfi tK fK rdK sK e8
      refine e_iload dX3_read_38 rfl ?_
      refine e_sipush (v := 500) dX3_read_40 (by decide) ?_
      rw [show (500 : Int32) = nI 500 from fa_lit 500]
      refine e_icmp_ge (tgt := 71) dX3_read_43 (by decide) (fun hz => ?_) (fun hz => ?_)
      · exact good K e s _ tK fK rdK sK e8
      · exact absurd (nI_le (by omega) (by omega)) hz
    | succ f ih =>
      intro i K s e hfi tK fK rdK sK e8
      have okK : OkM K := okR.fr fK
      refine e_iload dX3_read_38 rfl ?_
      refine e_sipush (v := 500) dX3_read_40 (by decide) ?_
      rw [show (500 : Int32) = nI 500 from fa_lit 500]
      refine e_icmp_ge (tgt := 71) dX3_read_43 (by decide) (fun hz => ?_) (fun hz => ?_)
      · exact absurd hz (nI_ge (by omega) (by omega))
      · refine e_aload_n dX3_read_46 rfl rfl ?_
        refine e_getI dX3_read_47 fRX3_26 (by exact okK.sh rfl) (fun _ => rfl) ?_
        refine e_if_ne (tgt := 71) dX3_read_50 (by decide) (fun hz2 => ?_) (fun hz2 => ?_)
        · exact absurd rdK.2.1 hz2
        · refine e_aload_n dX3_read_53 rfl rfl ?_
          refine e_callV1 [] dX3_read_54 mvmX3_isAtEnd lkRX3_40 (by exact okK.sh rfl) ⟨by decide, rfl⟩ rfl rfl (Nat.le_of_ble_eq_true rfl) (by decide) (c_isAtEnd okK tK rdK.2.2.2 rdK.1) (fun u K2 h2 => ?_)
          obtain ⟨hu, a2, rf2⟩ := h2
          subst hu
          have ok2 : OkM K2 := okK.fr rf2.1
          have t2 := tK.rf rf2 (by decide)
          have s2 := sK.rf rf2 (by decide)
          have rd2 : Rd K2 n (.inr (sk T n e)) := rdK.go (rf2.wide (by decide)) (sk_le rdK.1) a2
          have e7 : ploop T n (f + 1) s e = if sk T n e < n then (match pstm T n s e with
              | .inl e => .inl e
              | .inr (e, s') => ploop T n f s' e) else .inr s := rfl
          by_cases hlt : sk T n e < n
          · rw [if_pos hlt] at e7 ⊢
            refine e_if_ne (tgt := 71) dX3_read_57 (by decide) (fun hz3 => ?_) (fun hz3 => ?_)
            · exact absurd rfl hz3
            · refine e_aload_n dX3_read_60 rfl rfl ?_
              refine e_aload_n dX3_read_61 rfl rfl ?_
              refine e_callV1 [_] dX3_read_62 mvmX3_readStatement lkRX3_44 (by exact ok2.sh rfl) ⟨by decide, rfl⟩ rfl rfl (Nat.le_of_ble_eq_true rfl) (by decide) (c_readStatement ok2 t2 rd2 s2) (fun u K3 h3 => ?_)
              obtain ⟨hu, t3, f3, h3⟩ := h3
              subst hu
              have eps : pstm T n s (sk T n e) = pstm T n s e := by
                unfold pstm
                rw [pwd_sk, pwd_sk, pwd_sk, pwd_sk, sk_sk]
              rw [eps] at h3
              have fK3 := (fK.trans rf2.F).trans f3
              cases hst : pstm T n s e with
              | inl fa =>
                rw [hst] at e7 h3
                rw [e7] at e8
                have h3' : Rd K3 n (.inl fa) := h3
                have okK3 : OkM K3 := okR.fr fK3
                refine e_iinc (v := nI (i + 1)) dX3_read_65 rfl (nI_1 i) (by decide) rfl rfl ?_
                refine e_goto (tgt := 38) dX3_read_68 (by decide) ?_
                refine e_iload dX3_read_38 rfl ?_
                refine e_sipush (v := 500) dX3_read_40 (by decide) ?_
                refine e_icmp_ge (tgt := 71) dX3_read_43 (by decide) (fun hz4 => ?_) (fun hz4 => ?_)
                · exact bad K3 fa _ fK3 h3' e8
                · refine e_aload_n dX3_read_46 rfl rfl ?_
                  refine e_getI dX3_read_47 fRX3_26 (by exact okK3.sh rfl) (fun _ => rfl) ?_
                  refine e_if_ne (tgt := 71) dX3_read_50 (by decide) (fun hz5 => ?_) (fun hz5 => ?_)
                  · exact bad K3 fa _ fK3 h3' e8
                  · exact absurd hz5 h3'.k
              | inr w =>
                obtain ⟨e2, s'⟩ := w
                rw [hst] at e7 h3
                rw [e7] at e8
                refine e_iinc (v := nI (i + 1)) dX3_read_65 rfl (nI_1 i) (by decide) rfl rfl ?_
                refine e_goto (tgt := 38) dX3_read_68 (by decide) ?_
                exact ih (i + 1) K3 s' e2 (by omega) t3 fK3 h3.1 h3.2 e8
          · rw [if_neg hlt] at e7 ⊢
            rw [e7] at e8
            refine e_if_ne (tgt := 71) dX3_read_57 (by decide) (fun hz3 => ?_) (fun hz3 => ?_)
            · exact good K2 (sk T n e) s _ t2 (fK.trans rf2.F) rd2 s2 e8
            · exact absurd hz3 (by decide)
  refine e_iconst (v := 0) dX3_read_35 (by decide) ?_
  refine e_istore dX3_read_36 (by decide) rfl rfl ?_
  cases hnd : pnds T n with
  | inl f =>
    rw [hnd] at hN
    have hN' : Rd N n (.inl f) := hN
    have e9 : ptx T n = .inl f := by unfold ptx; rw [hnd]
    have okN : OkM N := ok1.fr fN
    refine e_iload dX3_read_38 rfl ?_
    refine e_sipush (v := 500) dX3_read_40 (by decide) ?_
    refine e_icmp_ge (tgt := 71) dX3_read_43 (by decide) (fun hz4 => ?_) (fun hz4 => ?_)
    · exact bad N f _ (hf1.trans fN) hN' e9
    · refine e_aload_n dX3_read_46 rfl rfl ?_
      refine e_getI dX3_read_47 fRX3_26 (by exact okN.sh rfl) (fun _ => rfl) ?_
      refine e_if_ne (tgt := 71) dX3_read_50 (by decide) (fun hz5 => ?_) (fun hz5 => ?_)
      · exact bad N f _ (hf1.trans fN) hN' e9
      · exact absurd hz5 hN'.k
  | inr w =>
    obtain ⟨e, v⟩ := w
    rw [hnd] at hN
    refine loop 500 0 N (v, fun _ _ => none, []) e rfl tN (hf1.trans fN) hN.1 hN.2 ?_
    unfold ptx
    rw [hnd]
    dsimp only
    cases ploop T n 500 (v, fun _ _ => none, []) e <;> rfl

