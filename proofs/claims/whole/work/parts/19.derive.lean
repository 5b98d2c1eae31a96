-- posts
def Is (v : Option Value) (M : Mm) : Ot → Mm → Prop := fun o N => o = .inl v ∧ N = M
def Rt (Ψ : Option Value → Mm → Prop) : Ot → Mm → Prop := fun o N => ∃ v, o = .inl v ∧ Ψ v N
section RD
variable {B : Bd} {y : Mt} {d rc rs : Nat} {Φ : Ot → Mm → Prop} {pc : Nat} {L : Lc} {st : List Value} {M : Mm}
theorem Ct.mono {q : Mt} {As : List Value} {Φ1 Φ2 : Ot → Mm → Prop} (h : Ct B q d rc rs As M Φ1) (hi : ∀ o N, Φ1 o N → Φ2 o N) : Ct B q d rc rs As M Φ2 := by
  intro p e h1 h2 h3 s m args below h4 h5 h6 h7
  obtain ⟨t, o, a1, a2, a3, a4⟩ := h p e h1 h2 h3 s m args below h4 h5 h6 h7
  refine ⟨t, o, a1, a2, a3, ?_⟩
  rcases a4 with ⟨⟨⟨v, N, g1, g2, g3⟩, g4⟩, g5⟩ | ⟨q9, g1, E, ce, L9, ⟨⟨N, g2, g3⟩, g4⟩, g5⟩
  · exact Or.inl ⟨⟨⟨v, N, g1, hi _ _ g2, g3⟩, g4⟩, g5⟩
  · exact Or.inr ⟨q9, g1, E, ce, L9, ⟨⟨N, hi _ _ g2, g3⟩, g4⟩, g5⟩
theorem e_callV0 {i n ci b d1 : Nat} {q : Mt} {v : Option Value} {M1 : Mm} {stk : List Value} (As : List Value) (hd : decode y.2.1 pc = .ok (.invokevirtual i, 3)) (hm : MdV q n) (hlk : Cond.methodLink y.1.cls i q.1 ∈ TB) (hb : M.1.1[b]? = some (.inl ci)) (hci : ci < 7 ∧ Rz ci = q.1.cls) (hn : As.length = n) (hstk : stk = As.reverse ++ .ref b :: st) (hst : (st.map fun v => v.category).sum ≤ 8) (hdd : d1 + 1 ≤ d)
    (hct : Ct B q d1 0 0 (.ref b :: As) M (Is v M1)) (kk : Ev B y d rc rs Φ (pc + 3) L (v.toList ++ st) M1) : Ev B y d rc rs Φ pc L stk M :=
  e_callV (rc1 := 0) (rs1 := 0) (rc2 := rc) (rs2 := rs) As hd hm hlk hb hci hn hstk hst hdd (by omega) (by omega) hct (fun v' N h => by obtain ⟨h1, h2⟩ := h; cases h1; rw [h2]; exact kk) (fun E N h => by obtain ⟨h1, h2⟩ := h; cases h1)
theorem e_callV1 {i n ci b d1 : Nat} {q : Mt} {Ψ : Option Value → Mm → Prop} {stk : List Value} (As : List Value) (hd : decode y.2.1 pc = .ok (.invokevirtual i, 3)) (hm : MdV q n) (hlk : Cond.methodLink y.1.cls i q.1 ∈ TB) (hb : M.1.1[b]? = some (.inl ci)) (hci : ci < 7 ∧ Rz ci = q.1.cls) (hn : As.length = n) (hstk : stk = As.reverse ++ .ref b :: st) (hst : (st.map fun v => v.category).sum ≤ 8) (hdd : d1 + 1 ≤ d)
    (hct : Ct B q d1 0 0 (.ref b :: As) M (Rt Ψ)) (kk : ∀ v N, Ψ v N → Ev B y d rc rs Φ (pc + 3) L (v.toList ++ st) N) : Ev B y d rc rs Φ pc L stk M :=
  e_callV (rc1 := 0) (rs1 := 0) (rc2 := rc) (rs2 := rs) As hd hm hlk hb hci hn hstk hst hdd (by omega) (by omega) hct (fun v' N h => by obtain ⟨w, h1, h2⟩ := h; cases h1; exact kk _ _ h2) (fun E N h => by obtain ⟨w, h1, h2⟩ := h; cases h1)
theorem e_callS0 {i n d1 : Nat} {q : Mt} {v : Option Value} {M1 : Mm} {stk : List Value} (As : List Value) (hd : decode y.2.1 pc = .ok (.invokestatic i, 3)) (hm : MdS q n) (hlk : Cond.methodLink y.1.cls i q.1 ∈ TB) (hn : As.length = n) (hstk : stk = As.reverse ++ st) (hst : (st.map fun v => v.category).sum ≤ 8) (hdd : d1 + 1 ≤ d)
    (hct : Ct B q d1 0 0 As M (Is v M1)) (kk : Ev B y d rc rs Φ (pc + 3) L (v.toList ++ st) M1) : Ev B y d rc rs Φ pc L stk M :=
  e_callS (rc1 := 0) (rs1 := 0) (rc2 := rc) (rs2 := rs) As hd hm hlk hn hstk hst hdd (by omega) (by omega) hct (fun v' N h => by obtain ⟨h1, h2⟩ := h; cases h1; rw [h2]; exact kk) (fun E N h => by obtain ⟨h1, h2⟩ := h; cases h1)
theorem e_callS1 {i n d1 : Nat} {q : Mt} {Ψ : Option Value → Mm → Prop} {stk : List Value} (As : List Value) (hd : decode y.2.1 pc = .ok (.invokestatic i, 3)) (hm : MdS q n) (hlk : Cond.methodLink y.1.cls i q.1 ∈ TB) (hn : As.length = n) (hstk : stk = As.reverse ++ st) (hst : (st.map fun v => v.category).sum ≤ 8) (hdd : d1 + 1 ≤ d)
    (hct : Ct B q d1 0 0 As M (Rt Ψ)) (kk : ∀ v N, Ψ v N → Ev B y d rc rs Φ (pc + 3) L (v.toList ++ st) N) : Ev B y d rc rs Φ pc L stk M :=
  e_callS (rc1 := 0) (rs1 := 0) (rc2 := rc) (rs2 := rs) As hd hm hlk hn hstk hst hdd (by omega) (by omega) hct (fun v' N h => by obtain ⟨w, h1, h2⟩ := h; cases h1; exact kk _ _ h2) (fun E N h => by obtain ⟨w, h1, h2⟩ := h; cases h1)
theorem e_callN0 {i n d1 : Nat} {q : Mt} {v : Option Value} {M1 : Mm} {stk : List Value} (As : List Value) (hd : decode y.2.1 pc = .ok (.invokestatic i, 3)) (hm : MdS q n) (hlk : (y.1.cls, i, q.1) ∈ nests) (hn : As.length = n) (hstk : stk = As.reverse ++ st) (hst : (st.map fun v => v.category).sum ≤ 8) (hdd : d1 + 1 ≤ d)
    (hct : Ct B q d1 0 0 As M (Is v M1)) (kk : Ev B y d rc rs Φ (pc + 3) L (v.toList ++ st) M1) : Ev B y d rc rs Φ pc L stk M :=
  e_callN (rc1 := 0) (rs1 := 0) (rc2 := rc) (rs2 := rs) As hd hm hlk hn hstk hst hdd (by omega) (by omega) hct (fun v' N h => by obtain ⟨h1, h2⟩ := h; cases h1; rw [h2]; exact kk) (fun E N h => by obtain ⟨h1, h2⟩ := h; cases h1)
theorem e_callV0i {i n ci b d1 : Nat} {q : Mt} {r : Int32} {M1 : Mm} {stk : List Value} (As : List Value) (hd : decode y.2.1 pc = .ok (.invokevirtual i, 3)) (hm : MdV q n) (hlk : Cond.methodLink y.1.cls i q.1 ∈ TB) (hb : M.1.1[b]? = some (.inl ci)) (hci : ci < 7 ∧ Rz ci = q.1.cls) (hn : As.length = n) (hstk : stk = As.reverse ++ .ref b :: st) (hst : (st.map fun v => v.category).sum ≤ 8) (hdd : d1 + 1 ≤ d)
    (hct : Ct B q d1 0 0 (.ref b :: As) M (Is (some (.int r)) M1)) (kk : Ev B y d rc rs Φ (pc + 3) L (.int r :: st) M1) : Ev B y d rc rs Φ pc L stk M := e_callV0 As hd hm hlk hb hci hn hstk hst hdd hct kk
theorem e_callV0v {i n ci b d1 : Nat} {q : Mt} {M1 : Mm} {stk : List Value} (As : List Value) (hd : decode y.2.1 pc = .ok (.invokevirtual i, 3)) (hm : MdV q n) (hlk : Cond.methodLink y.1.cls i q.1 ∈ TB) (hb : M.1.1[b]? = some (.inl ci)) (hci : ci < 7 ∧ Rz ci = q.1.cls) (hn : As.length = n) (hstk : stk = As.reverse ++ .ref b :: st) (hst : (st.map fun v => v.category).sum ≤ 8) (hdd : d1 + 1 ≤ d)
    (hct : Ct B q d1 0 0 (.ref b :: As) M (Is none M1)) (kk : Ev B y d rc rs Φ (pc + 3) L st M1) : Ev B y d rc rs Φ pc L stk M := e_callV0 As hd hm hlk hb hci hn hstk hst hdd hct kk
theorem e_callS0i {i n d1 : Nat} {q : Mt} {r : Int32} {M1 : Mm} {stk : List Value} (As : List Value) (hd : decode y.2.1 pc = .ok (.invokestatic i, 3)) (hm : MdS q n) (hlk : Cond.methodLink y.1.cls i q.1 ∈ TB) (hn : As.length = n) (hstk : stk = As.reverse ++ st) (hst : (st.map fun v => v.category).sum ≤ 8) (hdd : d1 + 1 ≤ d)
    (hct : Ct B q d1 0 0 As M (Is (some (.int r)) M1)) (kk : Ev B y d rc rs Φ (pc + 3) L (.int r :: st) M1) : Ev B y d rc rs Φ pc L stk M := e_callS0 As hd hm hlk hn hstk hst hdd hct kk
theorem e_callS0v {i n d1 : Nat} {q : Mt} {M1 : Mm} {stk : List Value} (As : List Value) (hd : decode y.2.1 pc = .ok (.invokestatic i, 3)) (hm : MdS q n) (hlk : Cond.methodLink y.1.cls i q.1 ∈ TB) (hn : As.length = n) (hstk : stk = As.reverse ++ st) (hst : (st.map fun v => v.category).sum ≤ 8) (hdd : d1 + 1 ≤ d)
    (hct : Ct B q d1 0 0 As M (Is none M1)) (kk : Ev B y d rc rs Φ (pc + 3) L st M1) : Ev B y d rc rs Φ pc L stk M := e_callS0 As hd hm hlk hn hstk hst hdd hct kk
theorem e_callN0i {i n d1 : Nat} {q : Mt} {r : Int32} {M1 : Mm} {stk : List Value} (As : List Value) (hd : decode y.2.1 pc = .ok (.invokestatic i, 3)) (hm : MdS q n) (hlk : (y.1.cls, i, q.1) ∈ nests) (hn : As.length = n) (hstk : stk = As.reverse ++ st) (hst : (st.map fun v => v.category).sum ≤ 8) (hdd : d1 + 1 ≤ d)
    (hct : Ct B q d1 0 0 As M (Is (some (.int r)) M1)) (kk : Ev B y d rc rs Φ (pc + 3) L (.int r :: st) M1) : Ev B y d rc rs Φ pc L stk M := e_callN0 As hd hm hlk hn hstk hst hdd hct kk
end RD
theorem nest_1 : (RX1, 44, yX5_hasBit) ∈ nests := by decide +kernel
theorem nest_0 : (RX0, 50, yX5_hasBit) ∈ nests := by decide +kernel
theorem nest_3 : (RX3, 104, yX5_hasBit) ∈ nests := by decide +kernel
theorem nest_4 : (RX4, 74, yX5_hasBit) ∈ nests := by decide +kernel
/-- a net's four cells -/
def NetAt (M : Mm) (n : Nat) : Prop := M.1.1[n]? = some (.inl 1) ∧ M.1.1[n + 1]? = some (.inr (.int, 144)) ∧ M.1.1[n + 2]? = some (.inr (.int, 12)) ∧ M.1.1[n + 3]? = some (.inr (.int, 12)) ∧ M.2.2.2 n 2 = some (n + 1) ∧ M.2.2.2 n 3 = some (n + 2) ∧ M.2.2.2 n 4 = some (n + 3)
/-- nothing changed but ints of the cells lo to hi -/
def Fr (lo hi : Nat) (M N : Mm) : Prop := N.1 = M.1 ∧ N.2.2 = M.2.2 ∧ ∀ a, a < lo ∨ hi < a → N.2.1 a = M.2.1 a
theorem Fr.rf {lo hi : Nat} {M : Mm} : Fr lo hi M M := ⟨rfl, rfl, fun _ _ => rfl⟩
theorem Fr.trans {lo hi : Nat} {M N K : Mm} (h1 : Fr lo hi M N) (h2 : Fr lo hi N K) : Fr lo hi M K := ⟨h2.1.trans h1.1, h2.2.1.trans h1.2.1, fun a ha => (h2.2.2 a ha).trans (h1.2.2 a ha)⟩
theorem Fr.wide {lo hi lo' hi' : Nat} {M N : Mm} (h : Fr lo hi M N) (h1 : lo' ≤ lo) (h2 : hi ≤ hi') : Fr lo' hi' M N := ⟨h.1, h.2.1, fun a ha => h.2.2 a (by omega)⟩
theorem Fr.sI {lo hi a i : Nat} {v : Int32} {M N : Mm} (h : Fr lo hi M N) (h1 : lo ≤ a) (h2 : a ≤ hi) : Fr lo hi M (sI N a i v) := ⟨h.1, h.2.1, fun b hb => (u2_ne _ _ _ (by omega)).trans (h.2.2 b hb)⟩
theorem NetAt.of {M N : Mm} {n : Nat} (h : NetAt M n) (h1 : N.1 = M.1) (h2 : N.2.2 = M.2.2) : NetAt N n := by
  unfold NetAt
  rw [h1, h2]; exact h
theorem NetAt.fr {lo hi : Nat} {M N : Mm} {n : Nat} (h : NetAt M n) (hf : Fr lo hi M N) : NetAt N n := h.of hf.1 hf.2.1
