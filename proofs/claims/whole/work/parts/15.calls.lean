def Pcx (B : Bd) (As : List Value) (M : Mm) : Array Value → State → Prop := va_Pc (As.map (tr (ba B))) (fun U => Rep B M U.heap ∧ va_K (bD B) clz (tysM (bA B)) U ∧ XE B U U.heap ∧ bs B ≤ U.heap.size ∧ Adr B ∧ (bl B).stackTraces = false)
theorem Pcx_blind {B : Bd} {As : List Value} {M : Mm} : FrameBlind (Pcx B As M) := by
  intro a U g mk h
  obtain ⟨h1, h2, h3, h4, h5⟩ := h
  exact ⟨h1, h2, va_K.moved (u := U) (U := U.calling g mk a) (Vm.Alike.refl U.vm) h3, XE.moved (s := U) (U := U.calling g mk a) (State.WarmedH.refl U) h4 (fun _ _ _ => rfl), h5⟩
theorem Pcx_of {B : Bd} {y : Mt} {d : Nat} {p : Program} {R : Room} {s : State} {m : MethodId} {args : Array Value} {meth : Method} {c : Code} {M : Mm} {H : Heap} {locs : List Loc} (C : Cx B y d p R s m args meth c) (hR : Rep B M H) (hS : va_S (fr B) s.heap H locs) (As : List Value) : ∀ U : State, U.heap = H → s.WarmedH U.vm → Pcx B As M (As.map (tr (ba B))).toArray U := by
  intro U hU hW
  refine ⟨rfl, by rw [hU]; exact hR, va_K.moved hW.alike C.2.2.2.1, ?_, ?_, C.2.2.2.2.2.1.2⟩
  · rw [hU]; exact XE.moved hW C.2.2.2.2.1 hS.2.1
  · rw [hU]; exact Nat.le_trans C.2.2.2.2.2.1.1 hS.1
-- a method that may be called: its code, its class, its parameters
def Md (q : Mt) (n : Nat) : Prop := Cond.code q.1 q.2.1 q.2.2.1 q.2.2.2.1 ∈ TB ∧ Cond.initialized q.1.cls ∈ TB ∧ (q.1.cls ≠ "java/lang/invoke/MethodHandle" ∧ q.1.cls ≠ "java/lang/invoke/VarHandle" ∧ (parseMethodDescriptor q.1.desc).map (fun d => d.parameters.length) = some n) ∧ q.2.2.2.2 = [] ∧ q.2.2.1 ≤ 100
def MdV (q : Mt) (n : Nat) : Prop := Md q n ∧ Cond.instanceMethod q.1 ∈ TB ∧ Cond.selects q.1.cls q.1 q.1 ∈ TB
def MdS (q : Mt) (n : Nat) : Prop := Md q n ∧ Cond.static q.1 ∈ TB
def MdI (q : Mt) (n : Nat) : Prop := Md q n ∧ Cond.instanceMethod q.1 ∈ TB ∧ q.1.name = "<init>" ∧ q.2.2.2.1 = none
theorem wsY_nil {q : Mt} (h : q.2.2.2.2 = []) : wsY q = Cond.code q.1 q.2.1 q.2.2.1 q.2.2.2.1 :: TB := by unfold wsY; rw [h]
theorem wsY_good {q : Mt} {n : Nat} (h : Md q n) : GoodIn TB (wsY q) := by
  rw [wsY_nil h.2.2.2.1]
  intro w hw
  rcases List.mem_cons.mp hw with rfl | hw
  · exact TB_good _ h.1
  · exact TB_good _ hw
section RC
variable {B : Bd} {y : Mt} {d rc rs : Nat} {Φ : Ot → Mm → Prop} {pc : Nat} {L : Lc} {st : List Value} {M : Mm}
/-- behind a call -/
theorem run_on {p : Program} {e : Env} {R : Room} {s : State} {m : MethodId} {args : Array Value} {below : List Frame} {meth : Method} {c : Code} {ls : Array Slot} {H : Heap} {locs : List Loc} {cells slots rc1 rs1 rc2 rs2 : Nat} {Φ1 : Ot → Mm → Prop} {a9 : Array Value} {st0 : List Value}
    (C : Cx B y d p R s m args meth c) (hl : LR (ba B) ls y.2.2.1 L) (hS : va_S (fr B) s.heap H locs) (hc : cells + (rc1 + rc2) ≤ R.cells) (hs : slots + (rs1 + rs2) ≤ R.slots)
    (hr : vx_Run p (bl B) e R s m args below meth c H locs cells slots rc1 rs1 (F0 m pc ls st0) (st.map (tr (ba B))) (Qr B Φ1 a9) (Qx B Φ1) (fr B))
    (kk : ∀ v N, Φ1 (.inl v) N → Ev B y d rc2 rs2 Φ (pc + 3) L (v.toList ++ st) N) (kx : ∀ E N, Φ1 (.inr E) N → EvX B y d rc2 rs2 Φ E pc L N) :
    W p (bl B) e R s m args below meth c H locs cells slots (vx_MQ below (Qr B Φ) (Qx B Φ) args s R.cells R.slots (fr B)) (F0 m pc ls st0) := by
  intro T hT X
  rcases hr T hT X with ⟨v, st₀, t, T', L9, h0, X', hL, e1, e2, ⟨⟨v1, N, hv, hΦ, hR1⟩, hF⟩, stp⟩ | ⟨q, st₀, t, T', L9, E, ce, h0, X', hL, e1, e2, ⟨⟨N, hΦ, hR1⟩, hF⟩, hce, hcv, hcl, stp⟩
  · cases hv
    obtain ⟨k1, k2, k3⟩ := vx_keep h0 e1 hS (fun q _ h => h) (fun q h => h) hL hF
    obtain ⟨t2, a1, b1⟩ := kk v1 N hΦ p e R s m args below meth c C ls T'.heap (locs ++ L9) (cells + rc1) (slots + rs1) hl (by rw [e1]; exact hR1) k3 (by omega) (by omega) T' rfl X'
    have hst9 : (v1.map (tr (ba B))).toList ++ st.map (tr (ba B)) = (v1.toList ++ st).map (tr (ba B)) := by cases v1 <;> rfl
    rw [hst9] at stp
    exact ⟨t2, stp t2 a1, b1⟩
  · obtain ⟨k1, k2, k3⟩ := vx_keep h0 e1 hS (fun q _ h => h) (fun q h => h) hL hF
    obtain ⟨t2, a1, b1⟩ := kx E N hΦ p e R s m args below meth c C ls T'.heap (locs ++ L9) (cells + rc1) (slots + rs1) (st.map (tr (ba B))) q ce hl (by rw [e1]; exact hR1) k3 (by omega) (by omega) (by rw [e1]; exact hce) hcv hcl T' rfl X'
    exact ⟨t2, stp.trans a1, b1⟩
theorem cat8 (hst : (st.map fun v => v.category).sum ≤ 8) (ad : Nat → Nat) : ((st.map (tr ad)).map fun v => v.category).sum ≤ 8 := by
  rw [List.map_map]
  have e9 : ((fun v : Value => v.category) ∘ tr ad) = (fun v => v.category) := funext (fun v => tr_cat _ _)
  rw [e9]; exact hst
theorem stk_eq {As : List Value} {b : Nat} (ad : Nat → Nat) : (As.reverse ++ .ref b :: st).map (tr ad) = (As.map (tr ad)).reverse ++ .ref (ad b) :: st.map (tr ad) := by
  rw [List.map_append, List.map_reverse]; rfl
theorem stk_eqS {As : List Value} (ad : Nat → Nat) : (As.reverse ++ st).map (tr ad) = (As.map (tr ad)).reverse ++ st.map (tr ad) := by
  rw [List.map_append, List.map_reverse]
set_option maxHeartbeats 4000000 in
/-- a virtual call of an object of the class ci -/
theorem e_callV {i n ci b d1 rc1 rs1 rc2 rs2 : Nat} {q : Mt} {Φ1 : Ot → Mm → Prop} {stk : List Value} (As : List Value) (hd : decode y.2.1 pc = .ok (.invokevirtual i, 3)) (hm : MdV q n) (hlk : Cond.methodLink y.1.cls i q.1 ∈ TB) (hb : M.1.1[b]? = some (.inl ci)) (hci : ci < 7 ∧ Rz ci = q.1.cls) (hn : As.length = n) (hstk : stk = As.reverse ++ .ref b :: st) (hst : (st.map fun v => v.category).sum ≤ 8) (hdd : d1 + 1 ≤ d) (hr1 : rc1 + rc2 ≤ rc) (hr2 : rs1 + rs2 ≤ rs)
    (hct : Ct B q d1 rc1 rs1 (.ref b :: As) M Φ1) (kk : ∀ v N, Φ1 (.inl v) N → Ev B y d rc2 rs2 Φ (pc + 3) L (v.toList ++ st) N) (kx : ∀ E N, Φ1 (.inr E) N → EvX B y d rc2 rs2 Φ E pc L N) : Ev B y d rc rs Φ pc L stk M := by
  intro p e R s m args below meth c C ls H locs cells slots hl hR hS hc hs
  obtain ⟨hfr, hlo⟩ := C.2.2.2.2.2.2
  obtain ⟨⟨m1, m2, m3, m4, m5⟩, m6, m7⟩ := id hm
  refine run_on (Φ1 := Φ1) (a9 := ((.ref b :: As).map (tr (ba B))).toArray) (rc1 := rc1) (rs1 := rs1) (rc2 := rc2) (rs2 := rs2) (st := st) C hl hS (by omega) (by omega) ?_ kk kx
  refine vx_runV (As := As.map (tr (ba B))) (nL := y.2.2.1) (n := n) ⟨C.1.1, C.1.2.1, C.1.2.2.2.1, C.1.2.2.2.2, C.2.1⟩ hct (cwV (C := q.1.cls) n C.2.1 ?_ (wsY_nil m4) rfl rfl ⟨rfl, m3⟩ ⟨?_, ?_⟩) ⟨Pcx_blind, ?_, Pcx_of C hR hS (.ref b :: As)⟩ rfl (by rw [List.length_map]; exact hn) hl.1 (by rw [hstk]; exact stk_eq _) (lv_room (cat8 hst _)) hd ⟨by omega, by omega⟩
  · intro w hw
    rcases List.mem_append.mp hw with h9 | h9
    · rcases List.mem_cons.mp h9 with rfl | h9
      · exact TB_good _ hlk
      · rcases List.mem_cons.mp h9 with rfl | h9
        · exact TB_good _ m6
        · rcases List.mem_cons.mp h9 with rfl | h9
          · exact TB_good _ m7
          · rw [List.mem_singleton.mp h9]; exact TB_good _ m2
    · exact wsY_good hm.1 _ h9
  · show d1 + 1 ≤ R.frames
    omega
  · show 8 + (q.2.2.1 + 11) + 128 * d1 ≤ R.locals
    omega
  · have := va_recv C.2.2.2.1 hR.1 (clz_get hci.1) (wsM_get hb)
    rw [← hci.2]
    exact this
set_option maxHeartbeats 4000000 in
/-- a static call -/
theorem e_callS {i n d1 rc1 rs1 rc2 rs2 : Nat} {q : Mt} {Φ1 : Ot → Mm → Prop} {stk : List Value} (As : List Value) (hd : decode y.2.1 pc = .ok (.invokestatic i, 3)) (hm : MdS q n) (hlk : Cond.methodLink y.1.cls i q.1 ∈ TB) (hn : As.length = n) (hstk : stk = As.reverse ++ st) (hst : (st.map fun v => v.category).sum ≤ 8) (hdd : d1 + 1 ≤ d) (hr1 : rc1 + rc2 ≤ rc) (hr2 : rs1 + rs2 ≤ rs)
    (hct : Ct B q d1 rc1 rs1 As M Φ1) (kk : ∀ v N, Φ1 (.inl v) N → Ev B y d rc2 rs2 Φ (pc + 3) L (v.toList ++ st) N) (kx : ∀ E N, Φ1 (.inr E) N → EvX B y d rc2 rs2 Φ E pc L N) : Ev B y d rc rs Φ pc L stk M := by
  intro p e R s m args below meth c C ls H locs cells slots hl hR hS hc hs
  obtain ⟨hfr, hlo⟩ := C.2.2.2.2.2.2
  obtain ⟨⟨m1, m2, m3, m4, m5⟩, m6⟩ := id hm
  refine run_on (Φ1 := Φ1) (a9 := (As.map (tr (ba B))).toArray) (rc1 := rc1) (rs1 := rs1) (rc2 := rc2) (rs2 := rs2) (st := st) C hl hS (by omega) (by omega) ?_ kk kx
  refine vx_runS (As := As.map (tr (ba B))) (nL := y.2.2.1) (n := n) ⟨C.1.1, C.1.2.1, C.1.2.2.2.1, C.1.2.2.2.2, C.2.1⟩ hct (va_cwS n C.2.1 ?_ (wsY_nil m4) rfl rfl m3 ⟨?_, ?_⟩) ⟨Pcx_blind, Pcx_of C hR hS As⟩ rfl (by rw [List.length_map]; exact hn) hl.1 (by rw [hstk]; exact stk_eqS _) (lv_room (cat8 hst _)) hd ⟨by omega, by omega⟩
  · intro w hw
    rcases List.mem_append.mp hw with h9 | h9
    · rcases List.mem_cons.mp h9 with rfl | h9
      · exact TB_good _ hlk
      · rcases List.mem_cons.mp h9 with rfl | h9
        · exact TB_good _ m6
        · rw [List.mem_singleton.mp h9]; exact TB_good _ m2
    · exact wsY_good hm.1 _ h9
  · show d1 + 1 ≤ R.frames
    omega
  · show 8 + (q.2.2.1 + 11) + 128 * d1 ≤ R.locals
    omega
set_option maxHeartbeats 4000000 in
/-- a static call of a nest mate's private method -/
theorem e_callN {i n d1 rc1 rs1 rc2 rs2 : Nat} {q : Mt} {Φ1 : Ot → Mm → Prop} {stk : List Value} (As : List Value) (hd : decode y.2.1 pc = .ok (.invokestatic i, 3)) (hm : MdS q n) (hlk : (y.1.cls, i, q.1) ∈ nests) (hn : As.length = n) (hstk : stk = As.reverse ++ st) (hst : (st.map fun v => v.category).sum ≤ 8) (hdd : d1 + 1 ≤ d) (hr1 : rc1 + rc2 ≤ rc) (hr2 : rs1 + rs2 ≤ rs)
    (hct : Ct B q d1 rc1 rs1 As M Φ1) (kk : ∀ v N, Φ1 (.inl v) N → Ev B y d rc2 rs2 Φ (pc + 3) L (v.toList ++ st) N) (kx : ∀ E N, Φ1 (.inr E) N → EvX B y d rc2 rs2 Φ E pc L N) : Ev B y d rc rs Φ pc L stk M := by
  intro p e R s m args below meth c C ls H locs cells slots hl hR hS hc hs
  obtain ⟨hfr, hlo⟩ := C.2.2.2.2.2.2
  obtain ⟨⟨m1, m2, m3, m4, m5⟩, m6⟩ := id hm
  refine run_on (Φ1 := Φ1) (a9 := (As.map (tr (ba B))).toArray) (rc1 := rc1) (rs1 := rs1) (rc2 := rc2) (rs2 := rs2) (st := st) C hl hS (by omega) (by omega) ?_ kk kx
  refine vx_runSN (As := As.map (tr (ba B))) (nL := y.2.2.1) (n := n) (host := RX5) ⟨C.1.1, C.1.2.1, C.1.2.2.2.1, C.1.2.2.2.2, C.2.1⟩ hct ⟨va_cnB n C.2.1 (wsY_good hm.1) (wsY_nil m4) rfl rfl (C.2.2.2.2.1.2.2.2.2.2.1 _ hlk) (C.2.1 _ m2) m3 ⟨?_, ?_⟩, C.2.1 _ m6, trivial⟩ ⟨Pcx_blind, Pcx_of C hR hS As⟩ rfl (by rw [List.length_map]; exact hn) hl.1 (by rw [hstk]; exact stk_eqS _) (lv_room (cat8 hst _)) hd ⟨by omega, by omega⟩
  · show d1 + 1 ≤ R.frames
    omega
  · show 8 + (q.2.2.1 + 11) + 128 * d1 ≤ R.locals
    omega
end RC
