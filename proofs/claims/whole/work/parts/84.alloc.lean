/-! making cells, constructors' calls, handlers -/
/-- what isn't made yet reads as nothing -/
def Zf (M : Mm) : Prop := ∀ k, M.1.1.length ≤ k → (∀ j, M.2.1 k j = 0) ∧ (∀ j, M.2.2.1 k j = 0) ∧ ∀ j, M.2.2.2 k j = none
def addK (M : Mm) (kd : Kd) : Mm := ((M.1.1 ++ [kd], M.1.2), M.2)
theorem wsM_add (dA : FieldType → ClassId) (ad : Nat → Nat) (M : Mm) (kd : Kd) : wsM dA ad (addK M kd) = wsM dA ad M ++ [(ad M.1.1.length, ent dA ad M M.1.1.length kd)] := by
  unfold wsM addK
  rw [List.mapIdx_concat]
  rfl
theorem tyz_nf : ∀ ci, ci < 7 → ∀ j, j < cNz ci → (match tyz ci j with | .float => false | .double => false | _ => true) = true := by decide
theorem fvl_def {M : Mm} (hz : Zf M) {ad : Nat → Nat} {ci j : Nat} (hci : ci < 7) (hj : j < cNz ci) : defaultValue (tyz ci j) = fvl ad M ci M.1.1.length j := by
  obtain ⟨z1, z2, z3⟩ := hz M.1.1.length (Nat.le_refl _)
  have hnf := tyz_nf ci hci j hj
  unfold fvl
  rw [z1, z2, z3]
  cases h : tyz ci j <;> first | rfl | (rw [h] at hnf; cases hnf)
section AL
variable {B : Bd} {y : Mt} {d rc rs : Nat} {Φ : Ot → Mm → Prop} {pc : Nat} {L : Lc} {st : List Value} {M : Mm}
theorem Rep.add {M : Mm} {H H1 : Heap} {kd : Kd} (hR : Rep B M H) (hA : Adr B) (h2 : M.1.2 = true) (hlen : M.1.1.length < 900000) (hz : H1.size = H.size + 1) (ho : ∀ q, q < H.size → H1[q]? = H[q]?) (he : va_at (bD B) clz (H.size, ent (bA B) (ba B) M M.1.1.length kd) H1) : Rep B (addK M kd) H1 ∧ ba B M.1.1.length = H.size := by
  have hsz := hR.2.2.1 h2
  have hba : ba B M.1.1.length = H.size := by rw [hA _ (by omega), hsz]
  refine ⟨⟨?_, ?_, fun _ => ?_, ?_⟩, hba⟩
  · rw [wsM_add]
    refine (hR.1.kept (fun k q hk => ho q.1 ((hR.1 k q hk).lt))).app (fun k q hk => ?_)
    have hk0 : k < 1 := (List.getElem?_eq_some_iff.mp hk).1
    rw [show k = 0 by omega] at hk
    cases hk
    rw [hba]
    exact he
  · show bs B + (M.1.1 ++ [kd]).length ≤ H1.size
    rw [List.length_append, hz, hsz]
    show bs B + (M.1.1.length + 1) ≤ _
    omega
  · show H1.size = bs B + (M.1.1 ++ [kd]).length
    rw [List.length_append, hz, hsz]
    show _ = bs B + (M.1.1.length + 1)
    omega
  · show (M.1.1 ++ [kd]).length ≤ 1000000
    rw [List.length_append]
    show M.1.1.length + 1 ≤ _
    omega
theorem vaS_add {s : State} {H H1 : Heap} {locs : List Loc} (hS : va_S (fr B) s.heap H locs) (hz : H1.size = H.size + 1) (ho : ∀ q, q < H.size → H1[q]? = H[q]?) : va_S (fr B) s.heap H1 locs := ⟨by have := hS.1; omega, fun x h1 h2 => (ho x (Nat.lt_of_lt_of_le h1 hS.1)).trans (hS.2.1 x h1 h2), hS.2.2⟩
set_option maxHeartbeats 4000000 in
theorem e_new {i ci : Nat} (hd : decode y.2.1 pc = .ok (.new i, 3)) (hci : ci < 7) (hcl : Cond.classLink y.1.cls i (Rz ci) ∈ TB) (hin : Cond.instantiable (Rz ci) (cNz ci) ∈ TB) (hini : Cond.initialized (Rz ci) ∈ TB) (hz : Zf M) (h2 : M.1.2 = true) (hlen : M.1.1.length < 900000) (k : Ev B y d rc rs Φ (pc + 3) L (.ref M.1.1.length :: st) (addK M (.inl ci))) : Ev B y d (rc + 1) (rs + cNz ci) Φ pc L st M := by
  intro p e R s m args below meth c C ls H locs cells slots hl hR hS hc hs
  have hKn := C.2.2.2.1.1 ci _ (clz_get hci)
  refine W.newcK C.1.1 C.1.2.1 C.1.2.2.2.2 (C.2.1 _ hcl) (C.2.1 _ hin) (C.2.1 _ hini) rfl hd (by omega) (by omega) hKn.2.1 rfl fun H1 kC hkC e1 z1 o1 => ?_
  obtain ⟨hR1, hba⟩ := hR.add (kd := .inl ci) C.2.2.2.2.2.1.2.1 h2 hlen z1 o1 ⟨_, clz_get hci, (u_born (tyz ci) C.2.1 (uwz hci) hKn hkC e1 (tyz_ok hci)).to (fun j hj => by
    rw [fvl_def hz hci hj]
    unfold vp_V
    rw [List.getD_eq_getElem?_getD, fls_get hj]; rfl)⟩
  have := k p e R s m args below meth c C ls H1 locs (cells + 1) (slots + cNz ci) hl hR1 (vaS_add hS z1 o1) (by omega) (by omega)
  rw [List.map_cons] at this
  simp only [tr_ref] at this
  rw [hba] at this
  exact this
theorem tys_name {U : State} {D : va_G} {dA : FieldType → ClassId} (hK : va_K D clz (tysM dA) U) {t0 : Nat} {ty : FieldType} (ht : (tysM dA)[t0]? = some (dA ty, ty)) (hob : ∀ C, ty ≠ .object C) : U.vm.findClass ("[" ++ ty.toString) = some (dA ty) := by
  have h := (hK.2 t0 _ ht).2
  cases ty <;> first | exact h | exact absurd rfl (hob _)
set_option maxHeartbeats 4000000 in
theorem e_newarr {atype : ArrayType} {ty : FieldType} {n : Int32} {N t0 : Nat} (hd : decode y.2.1 pc = .ok (.newarray atype, 2)) (hty : newarray.typeOf atype = ty) (hac : Cond.arrayClass ty ∈ TB) (ht : ∀ dA : FieldType → ClassId, (tysM dA)[t0]? = some (dA ty, ty)) (hob : ∀ C, ty ≠ .object C) (hn : ¬ n < 0) (hN : n.toNatClampNeg = N) (hb : N * componentBytes ty ≤ 536870912) (hcon : ∀ (ad : Nat → Nat) (K : Mm) (a : Nat), (∀ j, K.2.1 a j = 0) → (∀ j, K.2.2.1 a j = 0) → ∀ cA : ClassId, vp_cell cA (N, con ad K a ty) = arrV cA N (fun _ => defaultValue ty)) (hz : Zf M) (h2 : M.1.2 = true) (hlen : M.1.1.length < 900000) (k : Ev B y d rc rs Φ (pc + 2) L (.ref M.1.1.length :: st) (addK M (.inr (ty, N)))) : Ev B y d (rc + 1) (rs + N) Φ pc L (.int n :: st) M := by
  intro p e R s m args below meth c C ls H locs cells slots hl hR hS hc hs
  subst hty
  refine va_newaK C.1.1 C.1.2.1 (C.2.1 _ hac) rfl hd rfl hn hN hb (by omega) (by omega) rfl fun H1 cA e1 z1 o1 hAr hNm => ?_
  have hcA : bA B (newarray.typeOf atype) = cA := Option.some.inj ((tys_name C.2.2.2.1 (ht (bA B)) hob).symm.trans hNm)
  obtain ⟨q1, q2, q3⟩ := hz M.1.1.length (Nat.le_refl _)
  obtain ⟨hR1, hba⟩ := hR.add (kd := .inr (newarray.typeOf atype, N)) C.2.2.2.2.2.1.2.1 h2 hlen z1 o1 (by
    show H1[H.size]? = some (vp_cell (bA B (newarray.typeOf atype)) (N, con (ba B) M M.1.1.length (newarray.typeOf atype)))
    rw [hcon (ba B) M _ q1 q2, hcA]
    exact e1)
  have := k p e R s m args below meth c C ls H1 locs (cells + 1) (slots + N) hl hR1 (vaS_add hS z1 o1) (by omega) (by omega)
  rw [List.map_cons] at this
  simp only [tr_ref] at this
  rw [hba] at this
  exact this
theorem con_i {N : Nat} (ad : Nat → Nat) (K : Mm) (a : Nat) (h : ∀ j, K.2.1 a j = 0) (_ : ∀ j, K.2.2.1 a j = 0) (cA : ClassId) : vp_cell cA (N, con ad K a .int) = arrV cA N (fun _ => defaultValue .int) := by
  show arrV cA N (fun j => .int (K.2.1 a j)) = _
  have : (fun j => Value.int (K.2.1 a j)) = (fun _ => defaultValue .int) := funext (fun j => by rw [h j]; rfl)
  rw [this]
theorem con_b {N : Nat} (ad : Nat → Nat) (K : Mm) (a : Nat) (h : ∀ j, K.2.1 a j = 0) (_ : ∀ j, K.2.2.1 a j = 0) (cA : ClassId) : vp_cell cA (N, con ad K a .byte) = arrV cA N (fun _ => defaultValue .byte) := by
  show arrV cA N (fun j => .int (K.2.1 a j)) = _
  have : (fun j => Value.int (K.2.1 a j)) = (fun _ => defaultValue .byte) := funext (fun j => by rw [h j]; rfl)
  rw [this]
theorem con_z {N : Nat} (ad : Nat → Nat) (K : Mm) (a : Nat) (h : ∀ j, K.2.1 a j = 0) (_ : ∀ j, K.2.2.1 a j = 0) (cA : ClassId) : vp_cell cA (N, con ad K a .boolean) = arrV cA N (fun _ => defaultValue .boolean) := by
  show arrV cA N (fun j => .int (K.2.1 a j)) = _
  have : (fun j => Value.int (K.2.1 a j)) = (fun _ => defaultValue .boolean) := funext (fun j => by rw [h j]; rfl)
  rw [this]
theorem con_l {N : Nat} (ad : Nat → Nat) (K : Mm) (a : Nat) (_ : ∀ j, K.2.1 a j = 0) (h : ∀ j, K.2.2.1 a j = 0) (cA : ClassId) : vp_cell cA (N, con ad K a .long) = arrV cA N (fun _ => defaultValue .long) := by
  show arrV cA N (fun j => .long (K.2.2.1 a j)) = _
  have : (fun j => Value.long (K.2.2.1 a j)) = (fun _ => defaultValue .long) := funext (fun j => by rw [h j]; rfl)
  rw [this]
theorem e_newI {n : Int32} {N : Nat} (hd : decode y.2.1 pc = .ok (.newarray .int, 2)) (hn : ¬ n < 0) (hN : n.toNatClampNeg = N) (hb : N ≤ 100000) (hz : Zf M) (h2 : M.1.2 = true) (hlen : M.1.1.length < 900000) (k : Ev B y d rc rs Φ (pc + 2) L (.ref M.1.1.length :: st) (addK M (.inr (.int, N)))) : Ev B y d (rc + 1) (rs + N) Φ pc L (.int n :: st) M := e_newarr (t0 := 0) hd rfl ac_int (fun _ => rfl) (fun C h => by cases h) hn hN (by show N * 4 ≤ _; omega) con_i hz h2 hlen k
theorem e_newB {n : Int32} {N : Nat} (hd : decode y.2.1 pc = .ok (.newarray .byte, 2)) (hn : ¬ n < 0) (hN : n.toNatClampNeg = N) (hb : N ≤ 100000) (hz : Zf M) (h2 : M.1.2 = true) (hlen : M.1.1.length < 900000) (k : Ev B y d rc rs Φ (pc + 2) L (.ref M.1.1.length :: st) (addK M (.inr (.byte, N)))) : Ev B y d (rc + 1) (rs + N) Φ pc L (.int n :: st) M := e_newarr (t0 := 1) hd rfl ac_byte (fun _ => rfl) (fun C h => by cases h) hn hN (by show N * 1 ≤ _; omega) con_b hz h2 hlen k
theorem e_newZ {n : Int32} {N : Nat} (hd : decode y.2.1 pc = .ok (.newarray .boolean, 2)) (hn : ¬ n < 0) (hN : n.toNatClampNeg = N) (hb : N ≤ 100000) (hz : Zf M) (h2 : M.1.2 = true) (hlen : M.1.1.length < 900000) (k : Ev B y d rc rs Φ (pc + 2) L (.ref M.1.1.length :: st) (addK M (.inr (.boolean, N)))) : Ev B y d (rc + 1) (rs + N) Φ pc L (.int n :: st) M := e_newarr (t0 := 2) hd rfl ac_boolean (fun _ => rfl) (fun C h => by cases h) hn hN (by show N * 1 ≤ _; omega) con_z hz h2 hlen k
theorem e_newJ {n : Int32} {N : Nat} (hd : decode y.2.1 pc = .ok (.newarray .long, 2)) (hn : ¬ n < 0) (hN : n.toNatClampNeg = N) (hb : N ≤ 100000) (hz : Zf M) (h2 : M.1.2 = true) (hlen : M.1.1.length < 900000) (k : Ev B y d rc rs Φ (pc + 2) L (.ref M.1.1.length :: st) (addK M (.inr (.long, N)))) : Ev B y d (rc + 1) (rs + N) Φ pc L (.int n :: st) M := e_newarr (t0 := 3) hd rfl ac_long (fun _ => rfl) (fun C h => by cases h) hn hN (by show N * 8 ≤ _; omega) con_l hz h2 hlen k
end AL
