/-! arrays of references, calls of constructors, handlers -/
theorem wsM_inv {dA : FieldType → ClassId} {ad : Nat → Nat} {M : Mm} {k : Nat} {q : Nat × va_E} (h : (wsM dA ad M)[k]? = some q) : ∃ kd, M.1.1[k]? = some kd ∧ q = (ad k, ent dA ad M k kd) := by
  unfold wsM at h
  rw [List.getElem?_mapIdx] at h
  cases hk : M.1.1[k]? with
  | none => rw [hk] at h; cases h
  | some kd =>
    rw [hk] at h
    exact ⟨kd, rfl, (Option.some.inj h).symm⟩
def addG (M : Mm) (N K : Nat) : Mm := ((M.1.1 ++ (.inr (.array .int, N) :: List.replicate N (.inr (.int, K))), M.1.2), M.2.1, M.2.2.1, fun b j => if b = M.1.1.length then (if j < N then some (M.1.1.length + 1 + j) else none) else M.2.2.2 b j)
theorem outer_eq (c : ClassId) (N h0 : Nat) : ∀ i : Nat, Jvm.Free.Multi.outerC c N h0 i = arrV c N (fun j => va_rf (if j < i then some (h0 + 1 + j) else none))
  | 0 => by
    show ({ cls := c, slots := Array.replicate N .null, vm := .none } : Cell) = _
    rw [arrV_new]
    refine congrArg (arrV c N) (funext fun j => ?_)
    simp [va_rf]
  | i + 1 => by
    show (Jvm.Free.Multi.outerC c N h0 i).setSlot i (.ref (h0 + 1 + i)) = _
    rw [outer_eq c N h0 i, arrV_store]
    refine congrArg (arrV c N) (funext fun j => ?_)
    by_cases e : j = i
    · subst e
      simp [updV, va_rf]
    · by_cases h : j < i
      · simp [updV, e, h, Nat.lt_succ_of_lt h]
      · simp [updV, e, h, show ¬ j < i + 1 by omega]
section AL2
variable {B : Bd} {y : Mt} {d rc rs : Nat} {Φ : Ot → Mm → Prop} {pc : Nat} {L : Lc} {st : List Value} {M : Mm}
set_option maxHeartbeats 4000000 in
theorem e_anew {i : Nat} {n : Int32} {N : Nat} (hd : decode y.2.1 pc = .ok (.anewarray i, 3)) (hcl : Cond.classLink y.1.cls i RX1 ∈ TB) (hn : ¬ n < 0) (hN : n.toNatClampNeg = N) (hb : N ≤ 100000) (hz : Zf M) (h2 : M.1.2 = true) (hlen : M.1.1.length < 900000) (k : Ev B y d rc rs Φ (pc + 3) L (.ref M.1.1.length :: st) (addK M (.inr (.object RX1, N)))) : Ev B y d (rc + 1) (rs + N) Φ pc L (.int n :: st) M := by
  intro p e R s m args below meth c C ls H locs cells slots hl hR hS hc hs
  subst hN
  refine W.anew C.1.1 C.1.2.1 C.1.2.2.2.2 (C.2.1 _ hcl) (va_AO.use C.2.2.2.2.1.2.2.2.2.2.2.2.2.1) rfl hd rfl hn (by omega) (by omega) (by omega) fun cA kA comp f1 f2 f3 f4 => ?_
  generalize hH1 : H.push ({ cls := cA, slots := Array.replicate n.toNatClampNeg .null, vm := .none } : Cell) = H1
  have z1 : H1.size = H.size + 1 := by rw [← hH1, Array.size_push]
  have e1 : H1[H.size]? = some (arrV cA n.toNatClampNeg (fun _ => .null)) := by rw [← hH1, Array.getElem?_push_size, ← arrV_new]
  have o1 : ∀ q : Nat, q < H.size → H1[q]? = H[q]? := fun q hq => by rw [← hH1, Array.getElem?_push, if_neg (Nat.ne_of_lt hq)]
  have hcA : bA B (.object RX1) = cA := by
    obtain ⟨k1, c1, -, -, -, g4⟩ := (C.2.2.2.1.2 4 _ rfl).2
    exact Option.some.inj (g4.symm.trans f1)
  obtain ⟨q1, q2, q3⟩ := hz M.1.1.length (Nat.le_refl _)
  obtain ⟨hR1, hba⟩ := hR.add (kd := .inr (.object RX1, n.toNatClampNeg)) C.2.2.2.2.2.1.2.1 h2 hlen z1 o1 (by
    show H1[H.size]? = some (vp_cell (bA B (.object RX1)) (n.toNatClampNeg, .inr (.inr (.inr (.inr (fun i => (M.2.2.2 M.1.1.length i).map (ba B)))))))
    rw [vp_cell_q, hcA, e1]
    congr 2
    funext j
    rw [q3]; rfl)
  have := k p e R s m args below meth c C ls H1 locs (cells + 1) (slots + n.toNatClampNeg) hl hR1 (vaS_add hS z1 o1) (by omega) (by omega)
  rw [List.map_cons] at this
  simp only [tr_ref] at this
  rw [hba] at this
  exact this
set_option maxHeartbeats 4000000 in
theorem e_manew {i : Nat} {n k0 : Int32} {N K : Nat} (hd : decode y.2.1 pc = .ok (.multianewarray i 2, 4)) (hcl : Cond.classLink y.1.cls i ("[" ++ (FieldType.array .int).toString) ∈ TB) (hn : ¬ n < 0) (hk : ¬ k0 < 0) (hN : n.toNatClampNeg = N) (hK : k0.toNatClampNeg = K) (hb : N ≤ 1000) (hb2 : K ≤ 100000) (hz : Zf M) (h2 : M.1.2 = true) (hlen : M.1.1.length < 900000) (k : Ev B y d rc rs Φ (pc + 4) L (.ref M.1.1.length :: st) (addG M N K)) : Ev B y d (rc + (1 + N)) (rs + (N + N * K)) Φ pc L (.int k0 :: .int n :: st) M := by
  intro p e R s m args below meth c C ls H locs cells slots hl hR hS hc hs
  subst hN; subst hK
  intro T hT Xs
  obtain ⟨vm₁, cA, comp, -, fA, fC, -, -, X', step⟩ := Xs.multianewarray2F C.1.1 C.1.2.2.2.2 (C.2.1 _ hcl) (show (Cond.arrayOver (.array .int)).before args s = true from C.2.2.2.2.1.2.2.2.2.2.2.2.2.2) (C.2.1 _ ac_int) (g := F0 m pc ls (.int k0 :: .int n :: st.map (tr (ba B)))) rfl (by rw [C.1.2.1]; exact hd) rfl hn hk (by omega) (by show _ * 4 ≤ _; omega) (by omega) rfl rfl (by omega) (by omega)
  have hcA : bA B (.array .int) = cA := Option.some.inj (((C.2.2.2.1.2 5 _ rfl).2).symm.trans fA)
  have hco : bA B .int = comp := Option.some.inj (((C.2.2.2.1.2 0 _ rfl).2).symm.trans fC)
  generalize hF : Jvm.Free.Multi.fill (T.setVm vm₁) cA comp n.toNatClampNeg k0.toNatClampNeg (defaultValue .int) n.toNatClampNeg = F at X' step
  have hTh : (T.setVm vm₁).heap = H := hT
  obtain ⟨f1, f2, -, -⟩ := Jvm.Free.Multi.fill_facts (T.setVm vm₁) cA comp n.toNatClampNeg k0.toNatClampNeg (defaultValue .int) n.toNatClampNeg
  rw [hF, hTh] at f1 f2
  have hold : ∀ x : Nat, x < H.size → F.heap[x]? = H[x]? := fun x hx => by
    have := Jvm.Free.Multi.fill_old (T.setVm vm₁) cA comp n.toNatClampNeg k0.toNatClampNeg (defaultValue .int) (a := x) (by rw [hTh]; exact hx) n.toNatClampNeg
    rw [hF, hTh] at this
    exact this
  have hrow : ∀ j : Nat, j < n.toNatClampNeg → F.heap[H.size + 1 + j]? = some (Jvm.Free.Multi.innerC comp k0.toNatClampNeg (defaultValue .int)) := fun j hj => by
    have := Jvm.Free.Multi.fill_inner (T.setVm vm₁) cA comp n.toNatClampNeg k0.toNatClampNeg (defaultValue .int) n.toNatClampNeg j hj
    rw [hF, hTh] at this
    exact this
  have hsz := hR.2.2.1 h2
  have hA := C.2.2.2.2.2.1.2.1
  have hba : ∀ j, j ≤ n.toNatClampNeg → ba B (M.1.1.length + j) = H.size + j := fun j hj => by rw [hA _ (by omega), hsz]; omega
  have hlen2 : (addG M n.toNatClampNeg k0.toNatClampNeg).1.1.length = M.1.1.length + (1 + n.toNatClampNeg) := by
    show (M.1.1 ++ ((Sum.inr (FieldType.array .int, n.toNatClampNeg) : Kd) :: List.replicate n.toNatClampNeg (Sum.inr (FieldType.int, k0.toNatClampNeg)))).length = _
    rw [List.length_append, List.length_cons, List.length_replicate]; omega
  have hR1 : Rep B (addG M n.toNatClampNeg k0.toNatClampNeg) F.heap := by
    refine ⟨fun q9 x hx => ?_, ?_, fun _ => ?_, ?_⟩
    · obtain ⟨kd, hkd, rfl⟩ := wsM_inv hx
      rcases Nat.lt_trichotomy q9 M.1.1.length with hlt | heq | hgt
      · have hkd' : M.1.1[q9]? = some kd := by
          have : (M.1.1 ++ (.inr (.array .int, n.toNatClampNeg) :: List.replicate n.toNatClampNeg (.inr (.int, k0.toNatClampNeg))))[q9]? = some kd := hkd
          rw [List.getElem?_append_left hlt] at this
          exact this
        have hP := hR.1 q9 _ (wsM_get hkd')
        rw [ent_cong (M := M) (M' := addG M n.toNatClampNeg k0.toNatClampNeg) (a := q9) rfl rfl (funext fun j => if_neg (Nat.ne_of_lt hlt))]
        have := hR.1.kept (H1 := F.heap) (fun k q hk => hold q.1 ((hR.1 k q hk).lt)) q9 _ (wsM_get hkd')
        exact this
      · subst heq
        have : (M.1.1 ++ (.inr (.array .int, n.toNatClampNeg) :: List.replicate n.toNatClampNeg (.inr (.int, k0.toNatClampNeg))))[M.1.1.length]? = some kd := hkd
        rw [List.getElem?_append_right (Nat.le_refl _), Nat.sub_self, List.getElem?_cons_zero] at this
        cases this
        show F.heap[ba B M.1.1.length]? = some (vp_cell (bA B (.array .int)) (n.toNatClampNeg, .inr (.inr (.inr (.inr (fun j => ((if M.1.1.length = M.1.1.length then (if j < n.toNatClampNeg then some (M.1.1.length + 1 + j) else none) else M.2.2.2 M.1.1.length j) : Option Nat).map (ba B)))))))
        rw [show ba B M.1.1.length = H.size from hba 0 (by omega), f2, outer_eq, vp_cell_q, hcA]
        congr 2
        funext j
        rw [if_pos rfl]
        by_cases hj : j < n.toNatClampNeg
        · rw [if_pos hj, if_pos hj]
          show va_rf (some (H.size + 1 + j)) = va_rf (some (ba B (M.1.1.length + 1 + j)))
          rw [show M.1.1.length + 1 + j = M.1.1.length + (1 + j) by omega, hA _ (by omega), hsz]
          congr 2
          omega
        · rw [if_neg hj, if_neg hj]; rfl
      · have : (M.1.1 ++ (.inr (.array .int, n.toNatClampNeg) :: List.replicate n.toNatClampNeg (.inr (.int, k0.toNatClampNeg))))[q9]? = some kd := hkd
        rw [List.getElem?_append_right (Nat.le_of_lt hgt)] at this
        obtain ⟨j, hj⟩ : ∃ j, q9 = M.1.1.length + 1 + j := ⟨q9 - M.1.1.length - 1, by omega⟩
        subst hj
        rw [show M.1.1.length + 1 + j - M.1.1.length = j + 1 by omega, List.getElem?_cons_succ, List.getElem?_replicate] at this
        split at this
        · rename_i hjn
          cases this
          show F.heap[ba B (M.1.1.length + 1 + j)]? = some (vp_cell (bA B .int) (k0.toNatClampNeg, .inl (M.2.1 (M.1.1.length + 1 + j))))
          rw [show ba B (M.1.1.length + 1 + j) = H.size + 1 + j by rw [hA _ (by omega), hsz]; omega, hrow j hjn, vp_cell_i, hco]
          show some ({ cls := comp, slots := Array.replicate k0.toNatClampNeg (.int 0), vm := .none } : Cell) = _
          rw [arrV_new]
          congr 2
          funext q
          rw [(hz (M.1.1.length + 1 + j) (by omega)).1 q]
        · cases this
    · rw [hlen2, f1, hsz]; omega
    · rw [hlen2, f1, hsz]; omega
    · rw [hlen2]; omega
  have := k p e R s m args below meth c C ls F.heap locs (cells + 1 + n.toNatClampNeg) (slots + n.toNatClampNeg + n.toNatClampNeg * k0.toNatClampNeg) hl hR1 ⟨by have := hS.1; omega, fun x h1 h3 => (hold x (Nat.lt_of_lt_of_le h1 hS.1)).trans (hS.2.1 x h1 h3), hS.2.2⟩ (by omega) (by omega)
  rw [List.map_cons] at this
  simp only [tr_ref] at this
  rw [show ba B M.1.1.length = H.size from hba 0 (by omega), ← hT] at this
  obtain ⟨t, a1, b1⟩ := this F rfl X'
  exact ⟨t, step t a1, b1⟩
set_option maxHeartbeats 4000000 in
theorem e_objInit {i b : Nat} (hd : decode y.2.1 pc = .ok (.invokespecial i, 3)) (hlk : Cond.methodLink y.1.cls i Lib.objectInit ∈ TB) (hin : Cond.instanceMethod Lib.objectInit ∈ TB) (hco : Cond.code Lib.objectInit ⟨#[0xb1]⟩ 1 none ∈ TB) (hst : (st.map fun v => v.category).sum ≤ 8) (hdd : 1 ≤ d) (k : Ev B y d rc rs Φ (pc + 3) L st M) : Ev B y d rc rs Φ pc L (.ref b :: st) M := by
  intro p e R s m args below meth c C ls H locs cells slots hl hR hS hc hs
  obtain ⟨hfr, hlo⟩ := C.2.2.2.2.2.2
  exact W.objInit C.1.1 C.1.2.1 C.1.2.2.2.2 (C.2.1 _ hlk) (C.2.1 _ hin) (C.2.1 _ hco) (g := F0 m pc ls (.ref (ba B b) :: st.map (tr (ba B)))) rfl (hl.1.trans C.1.2.2.2.1.symm) rfl hd (by omega) (by
    show 2 * 0 + ((st.map (tr (ba B))).map fun v => v.category).sum + 12 ≤ R.locals
    have := cat8 hst (ba B)
    omega) (k p e R s m args below meth c C ls H locs cells slots hl hR hS hc hs)
end AL2
theorem oi_in : Cond.instanceMethod Lib.objectInit ∈ TB := TB_in (List.mem_of_getElem? (i := 116) (by decide +kernel)) (by decide +kernel)
theorem oi_co : Cond.code Lib.objectInit ⟨#[0xb1]⟩ 1 none ∈ TB := TB_in (List.mem_of_getElem? (i := 117) (by decide +kernel)) (by decide +kernel)
theorem oi5 : Cond.methodLink RX5 3 Lib.objectInit ∈ TB := TB_in (List.mem_of_getElem? (i := 115) (by decide +kernel)) (by decide +kernel)
theorem oi1 : Cond.methodLink RX1 3 Lib.objectInit ∈ TB := TB_in (List.mem_of_getElem? (i := 123) (by decide +kernel)) (by decide +kernel)
theorem oi3 : Cond.methodLink RX3 3 Lib.objectInit ∈ TB := TB_in (List.mem_of_getElem? (i := 167) (by decide +kernel)) (by decide +kernel)
theorem oi0 : Cond.methodLink RX0 3 Lib.objectInit ∈ TB := TB_in (List.mem_of_getElem? (i := 200) (by decide +kernel)) (by decide +kernel)
theorem oi2 : Cond.methodLink RX2 3 Lib.objectInit ∈ TB := TB_in (List.mem_of_getElem? (i := 222) (by decide +kernel)) (by decide +kernel)
theorem oi4 : Cond.methodLink RX4 3 Lib.objectInit ∈ TB := TB_in (List.mem_of_getElem? (i := 239) (by decide +kernel)) (by decide +kernel)
theorem oi6 : Cond.methodLink RX6 3 Lib.objectInit ∈ TB := TB_in (List.mem_of_getElem? (i := 1028) (by decide +kernel)) (by decide +kernel)
section AL3
variable {B : Bd} {y : Mt} {d rc rs : Nat} {Φ : Ot → Mm → Prop} {pc : Nat} {L : Lc} {st : List Value} {M : Mm}
set_option maxHeartbeats 4000000 in
/-- a constructor -/
theorem e_callI {i b d1 rc1 rs1 rc2 rs2 : Nat} {q : Mt} {Ψ : Option Value → Mm → Prop} (hd : decode y.2.1 pc = .ok (.invokespecial i, 3)) (hm : MdI q 0) (hlk : Cond.methodLink y.1.cls i q.1 ∈ TB) (hst : (st.map fun v => v.category).sum ≤ 8) (hdd : d1 + 1 ≤ d) (hr1 : rc1 + rc2 ≤ rc) (hr2 : rs1 + rs2 ≤ rs)
    (hct : Ct B q d1 rc1 rs1 [.ref b] M (Rt Ψ)) (kk : ∀ v N, Ψ v N → Ev B y d rc2 rs2 Φ (pc + 3) L (v.toList ++ st) N) : Ev B y d rc rs Φ pc L (.ref b :: st) M := by
  intro p e R s m args below meth c C ls H locs cells slots hl hR hS hc hs
  obtain ⟨hfr, hlo⟩ := C.2.2.2.2.2.2
  obtain ⟨⟨m1, m2, m3, m4, m5⟩, m6, m7, m8⟩ := id hm
  refine run_on (Φ1 := Rt Ψ) (a9 := (([.ref b] : List Value).map (tr (ba B))).toArray) (rc1 := rc1) (rs1 := rs1) (rc2 := rc2) (rs2 := rs2) (st := st) C hl hS (by omega) (by omega) ?_ (fun v N h => by obtain ⟨w, h1, h2⟩ := h; cases h1; exact kk _ _ h2) (fun E N h => by obtain ⟨w, h1, h2⟩ := h; cases h1)
  refine vx_runI (As := []) (b := ba B b) (nL := y.2.2.1) (n := 0) ⟨C.1.1, C.1.2.1, C.1.2.2.2.1, C.1.2.2.2.2, C.2.1⟩ hct (cwI (bytes := q.2.1) (maxL := q.2.2.1) 0 C.2.1 (wsY_good hm.1) (by rw [wsY_nil m4, m8]) rfl rfl (C.2.1 _ m2) (C.2.1 _ hlk) (C.2.1 _ m6) m7 m3 ⟨?_, ?_⟩) ⟨Pcx_blind, Pcx_of C hR hS [.ref b]⟩ rfl rfl hl.1 rfl (lv_room (cat8 hst _)) hd ⟨by omega, by omega⟩
  · show d1 + 1 ≤ R.frames
    omega
  · show 8 + (q.2.2.1 + 11) + 128 * d1 ≤ R.locals
    omega
set_option maxHeartbeats 4000000 in
/-- a nest mate's private constructor -/
theorem e_callIN {i b d1 rc1 rs1 rc2 rs2 : Nat} {q : Mt} {Ψ : Option Value → Mm → Prop} (hd : decode y.2.1 pc = .ok (.invokespecial i, 3)) (hm : MdI q 0) (hlk : (y.1.cls, i, q.1) ∈ nests) (hst : (st.map fun v => v.category).sum ≤ 8) (hdd : d1 + 1 ≤ d) (hr1 : rc1 + rc2 ≤ rc) (hr2 : rs1 + rs2 ≤ rs)
    (hct : Ct B q d1 rc1 rs1 [.ref b] M (Rt Ψ)) (kk : ∀ v N, Ψ v N → Ev B y d rc2 rs2 Φ (pc + 3) L (v.toList ++ st) N) : Ev B y d rc rs Φ pc L (.ref b :: st) M := by
  intro p e R s m args below meth c C ls H locs cells slots hl hR hS hc hs
  obtain ⟨hfr, hlo⟩ := C.2.2.2.2.2.2
  obtain ⟨⟨m1, m2, m3, m4, m5⟩, m6, m7, m8⟩ := id hm
  refine run_on (Φ1 := Rt Ψ) (a9 := (([.ref b] : List Value).map (tr (ba B))).toArray) (rc1 := rc1) (rs1 := rs1) (rc2 := rc2) (rs2 := rs2) (st := st) C hl hS (by omega) (by omega) ?_ (fun v N h => by obtain ⟨w, h1, h2⟩ := h; cases h1; exact kk _ _ h2) (fun E N h => by obtain ⟨w, h1, h2⟩ := h; cases h1)
  refine vx_runIN (As := []) (b := ba B b) (nL := y.2.2.1) (n := 0) (host := RX5) (bytes := q.2.1) (maxL := q.2.2.1) ⟨C.1.1, C.1.2.1, C.1.2.2.2.1, C.1.2.2.2.2, C.2.1⟩ hct ⟨va_cnB 0 C.2.1 (wsY_good hm.1) (by rw [wsY_nil m4, m8]) rfl rfl (C.2.2.2.2.1.2.2.2.2.2.1 _ hlk) (C.2.1 _ m2) m3 ⟨?_, ?_⟩, m7, C.2.1 _ m6⟩ ⟨Pcx_blind, Pcx_of C hR hS [.ref b]⟩ rfl rfl hl.1 rfl (lv_room (cat8 hst _)) hd ⟨by omega, by omega⟩
  · show d1 + 1 ≤ R.frames
    omega
  · show 8 + (q.2.2.1 + 11) + 128 * d1 ≤ R.locals
    omega
/-- aastore while the heap's size is known -/
theorem e_aastoreT {a n b : Nat} {i : Int32} (hd : decode y.2.1 pc = .ok (.aastore, 1)) (ha : M.1.1[a]? = some (.inr (.object RX1, n))) (hb : M.1.1[b]? = some (.inl 1)) (hin : vp_in i n) (k : Ev B y d rc rs Φ (pc + 1) L st (sR M a i.toNatClampNeg (some b))) : Ev B y d rc rs Φ pc L (.ref b :: .int i :: .ref a :: st) M := by
  intro p e R s m args below meth c C ls H locs cells slots hl hR hS hc hs
  have hD := wsM_D C.2.2.2.2.2.1.2.1 hR
  have he := wsM_get (dA := bA B) (ad := ba B) ha
  have hlt : i.toNatClampNeg < n := Nat.not_le.mp fun q => hin (Or.inr q)
  have h0 : ¬ i < 0 := fun q => hin (Or.inl q)
  obtain ⟨r', hr', cellV, g1, g2, g3, -⟩ := hR.1 b _ (wsM_get (dA := bA B) (ad := ba B) hb)
  have hcls := (C.2.2.2.1.1 1 (RX1, TX1, 5) rfl).2
  obtain ⟨kA, comp, k1, k2, k3, -⟩ := (C.2.2.2.1.2 4 _ rfl).2
  have hcomp : comp = (bD B).1 1 := Option.some.inj (k3.symm.trans hcls.1)
  subst hcomp
  obtain ⟨kC, hkC, -⟩ := hcls.2
  refine W.aast C.1.1 C.1.2.1 (hR.1 a _ he) (fun q h => by cases h) (fun h => by cases h) k1 k2 rfl hkC ⟨h0, by show _ < (arrV _ _ _).slots.size; rw [arrV_size]; exact hlt⟩ g1 (fun q h => by rw [g3] at h; cases h) (by rw [g2]; exact hkC) (by rw [g2]; exact va_assign hcls) rfl rfl hd fun H1 e1 z oq => ?_
  refine k p e R s m args below meth c C ls H1 _ cells slots hl (hR.put rfl ha (fun j hj => ⟨rfl, rfl, u2_ne _ _ _ hj⟩) (hR.1.set hD he ?_ oq) z) (hS.put z oq (hD.2 a _ he)) hc hs
  show H1[ba B a]? = some (vp_cell (bA B (.object RX1)) (n, .inr (.inr (.inr (.inr (fun j => (u2 M.2.2.2 a i.toNatClampNeg (some b) a j).map (ba B)))))))
  rw [e1]
  show some ((vp_cell (bA B (.object RX1)) (n, .inr (.inr (.inr (.inr (fun j => (M.2.2.2 a j).map (ba B))))))).setSlot _ _) = _
  rw [vp_cell_q, vp_cell_q, arrV_store]
  congr 2
  funext q
  rw [u2_self]
  by_cases hq : q = i.toNatClampNeg
  · subst hq
    simp [updV, va_rf]
  · simp [updV, hq]
end AL3
