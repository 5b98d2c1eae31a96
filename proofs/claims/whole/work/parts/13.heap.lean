def Rz (ci : Nat) : String := match ci with
  | 0 => RX0
  | 1 => RX1
  | 2 => RX2
  | 3 => RX3
  | 4 => RX4
  | 5 => RX5
  | _ => RX6
def Tz (ci : Nat) : u_T := match ci with
  | 0 => TX0
  | 1 => TX1
  | 2 => TX2
  | 3 => TX3
  | 4 => TX4
  | 5 => TX5
  | _ => TX6
theorem clz_get {ci : Nat} (h : ci < 7) : clz[ci]? = some (Rz ci, Tz ci, cNz ci) := by
  match ci, h with
  | 0, _ => rfl
  | 1, _ => rfl
  | 2, _ => rfl
  | 3, _ => rfl
  | 4, _ => rfl
  | 5, _ => rfl
  | 6, _ => rfl
  | n + 7, h => omega
theorem tyz_ok {ci : Nat} (h : ci < 7) : ∀ k, k < cNz ci → parseFieldDescriptor (Tz ci k).2.2.1 = some (tyz ci k) := by
  match ci, h with
  | 0, _ => exact tyX0_ok
  | 1, _ => exact tyX1_ok
  | 2, _ => exact tyX2_ok
  | 3, _ => exact tyX3_ok
  | 4, _ => exact tyX4_ok
  | 5, _ => exact tyX5_ok
  | 6, _ => exact tyX6_ok
  | n + 7, h => omega
theorem nmz_ok {ci : Nat} (h : ci < 7) : ∀ a, a < cNz ci → ∀ b, b < cNz ci → a ≠ b → (Tz ci a).2.1 ≠ (Tz ci b).2.1 := by
  match ci, h with
  | 0, _ => exact nmX0
  | 1, _ => exact nmX1
  | 2, _ => exact nmX2
  | 3, _ => exact nmX3
  | 4, _ => exact nmX4
  | 5, _ => exact nmX5
  | 6, _ => exact nmX6
  | n + 7, h => omega
theorem uwz0 : ∀ w ∈ u_ws RX0 TX0 4, w ∈ TB := by decide +kernel
theorem uwz1 : ∀ w ∈ u_ws RX1 TX1 5, w ∈ TB := by decide +kernel
theorem uwz2 : ∀ w ∈ u_ws RX2 TX2 3, w ∈ TB := by decide +kernel
theorem uwz3 : ∀ w ∈ u_ws RX3 TX3 8, w ∈ TB := by decide +kernel
theorem uwz4 : ∀ w ∈ u_ws RX4 TX4 11, w ∈ TB := by decide +kernel
theorem uwz5 : ∀ w ∈ u_ws RX5 TX5 12, w ∈ TB := by decide +kernel
theorem uwz6 : ∀ w ∈ u_ws RX6 TX6 27, w ∈ TB := by decide +kernel
theorem uwz {ci : Nat} (h : ci < 7) : ∀ w ∈ u_ws (Rz ci) (Tz ci) (cNz ci), w ∈ TB := by
  match ci, h with
  | 0, _ => exact uwz0
  | 1, _ => exact uwz1
  | 2, _ => exact uwz2
  | 3, _ => exact uwz3
  | 4, _ => exact uwz4
  | 5, _ => exact uwz5
  | 6, _ => exact uwz6
  | n + 7, h => omega
/-- a field's place in a constant pool: the class' number and the field's -/
def Fs (own : String) (i ci k : Nat) : Prop := ci < 7 ∧ k < cNz ci ∧ Cond.fieldLink own i (Tz ci k).1 (Tz ci k).2.1 (Tz ci k).2.2.1 ∈ TB
theorem fls_get {ad : Nat → Nat} {M : Mm} {ci a k : Nat} (h : k < cNz ci) : (fls ad M ci a)[k]? = some (fvl ad M ci a k) := by
  unfold fls
  rw [List.getElem?_map, List.getElem?_range h]; rfl
theorem fls_len {ad : Nat → Nat} {M : Mm} {ci a : Nat} : (fls ad M ci a).length = cNz ci := by
  unfold fls; rw [List.length_map, List.length_range]
theorem fls_set {ad : Nat → Nat} {M M' : Mm} {ci a k : Nat} (hk : k < cNz ci) (h : ∀ j, j ≠ k → fvl ad M' ci a j = fvl ad M ci a j) : (fls ad M ci a).set k (fvl ad M' ci a k) = fls ad M' ci a := by
  apply List.ext_getElem?
  intro j
  by_cases hj : j = k
  · subst hj
    rw [List.getElem?_set_self (by rw [fls_len]; exact hk), fls_get hk]
  · rw [List.getElem?_set_ne (Ne.symm hj)]
    unfold fls
    rw [List.getElem?_map, List.getElem?_map]
    by_cases hl : j < cNz ci
    · rw [List.getElem?_range hl]
      simp only [Option.map_some]
      rw [h j hj]
    · rw [List.getElem?_eq_none (by rw [List.length_range]; omega)]; rfl
section RH
variable {B : Bd} {y : Mt} {d rc rs : Nat} {Φ : Ot → Mm → Prop} {pc : Nat} {L : Lc} {st : List Value} {M : Mm}
theorem e_getV {i ci k a : Nat} {v : Value} (hd : decode y.2.1 pc = .ok (.getfield i, 3)) (hf : Fs y.1.cls i ci k) (ha : M.1.1[a]? = some (.inl ci)) (hv : ∀ ad, fvl ad M ci a k = tr ad v) (kk : Ev B y d rc rs Φ (pc + 3) L (v :: st) M) : Ev B y d rc rs Φ pc L (.ref a :: st) M := by
  intro p e R s m args below meth c C ls H locs cells slots hl hR hS hc hs
  exact va_get (ref := (Tz ci k).1) C.1.1 C.1.2.1 C.2.1 (uwz hf.1) C.1.2.2.2.2 C.2.2.2.1 hR.1 a (wsM_get ha) (clz_get hf.1) k hf.2.1 (C.2.1 _ hf.2.2) (fun _ h => h) ((fls_get hf.2.1).trans (congrArg some (hv _))) hd (kk p e R s m args below meth c C ls H locs cells slots hl hR hS hc hs)
theorem e_getI {i ci k a : Nat} (hd : decode y.2.1 pc = .ok (.getfield i, 3)) (hf : Fs y.1.cls i ci k) (ha : M.1.1[a]? = some (.inl ci)) (hv : ∀ ad, fvl ad M ci a k = .int (M.2.1 a k)) (kk : Ev B y d rc rs Φ (pc + 3) L (.int (M.2.1 a k) :: st) M) : Ev B y d rc rs Φ pc L (.ref a :: st) M := e_getV (v := .int (M.2.1 a k)) hd hf ha hv kk
theorem e_getR {i ci k a b : Nat} (hd : decode y.2.1 pc = .ok (.getfield i, 3)) (hf : Fs y.1.cls i ci k) (ha : M.1.1[a]? = some (.inl ci)) (hr : M.2.2.2 a k = some b) (hv : ∀ ad, fvl ad M ci a k = va_rf ((M.2.2.2 a k).map ad)) (kk : Ev B y d rc rs Φ (pc + 3) L (.ref b :: st) M) : Ev B y d rc rs Φ pc L (.ref a :: st) M := e_getV (v := .ref b) hd hf ha (fun ad => (hv ad).trans (by rw [hr]; rfl)) kk
theorem e_putV {i ci k a : Nat} {v : Value} {M' : Mm} (hd : decode y.2.1 pc = .ok (.putfield i, 3)) (hf : Fs y.1.cls i ci k) (ha : M.1.1[a]? = some (.inl ci)) (hfin : (Tz ci k).2.2.2 = false ∨ ((Tz ci k).2.2.2 = true ∧ y.1.name = "<init>" ∧ (Tz ci k).1 = y.1.cls)) (hn : ∀ ad, narrow (tyz ci k) (tr ad v) = tr ad v ∧ fits (tyz ci k) (tr ad v) = true)
    (h1 : M'.1 = M.1) (h2 : ∀ j, j ≠ a → M'.2.1 j = M.2.1 j ∧ M'.2.2.1 j = M.2.2.1 j ∧ M'.2.2.2 j = M.2.2.2 j) (h3 : ∀ ad, fvl ad M' ci a k = tr ad v) (h4 : ∀ ad j, j ≠ k → fvl ad M' ci a j = fvl ad M ci a j)
    (kk : Ev B y d rc rs Φ (pc + 3) L st M') : Ev B y d rc rs Φ pc L (v :: .ref a :: st) M := by
  intro p e R s m args below meth c C ls H locs cells slots hl hR hS hc hs
  have hD := wsM_D C.2.2.2.2.2.1.2.1 hR
  have hap := va_apart (own := y.1.cls) C.2.1 (uwz hf.1) (tyz ci) (tyz_ok hf.1) (nmz_ok hf.1) C.2.2.2.1 (clz_get hf.1)
  have he := wsM_get (dA := bA B) (ad := ba B) ha
  obtain ⟨r, g1, cell, q1, q2, q3, q4⟩ := hR.1 a _ he
  have hr : r = (Rz ci, Tz ci, cNz ci) := Option.some.inj (g1.symm.trans (clz_get hf.1))
  subst hr
  obtain ⟨hSl, hfc, kC, hkC, hkind⟩ := C.2.2.2.1.1 ci _ (clz_get hf.1)
  obtain ⟨cf, kf, fi, f, hi, hsl⟩ := hSl k hf.2.1
  have hst := (u_facts hfc hkC (u_lays C.2.1 (uwz hf.1) hf.2.1) hi).1
  have hlay := C.2.1 _ (uwz hf.1 _ (u_in_lay hf.2.1))
  have fin : ∀ H1 : Heap, H1[ba B a]? = some (cell.setSlot f.slot (tr (ba B) v)) → H1.size = H.size → (∀ q, q ≠ ba B a → H1[q]? = H[q]?) → W p (bl B) e R s m args below meth c H1 (locs ++ [⟨ba B a, f.slot⟩]) cells slots (vx_MQ below (Qr B Φ) (Qx B Φ) args s R.cells R.slots (fr B)) (F0 m (pc + 3) ls (st.map (tr (ba B)))) := by
    intro H1 e1 e2 e3
    rw [hsl] at e1 ⊢
    refine kk p e R s m args below meth c C ls H1 _ cells slots hl (hR.put h1 ha h2 ?_ e2) (hS.put e2 e3 (hD.2 a _ he)) hc hs
    refine hR.1.set hD he ?_ e3
    have hset : ent (bA B) (ba B) M' a (.inl ci) = .inr (ci, (fls (ba B) M ci a).set k (tr (ba B) v)) := by
      show (Sum.inr (ci, fls (ba B) M' ci a) : va_E) = _
      rw [← h3 (ba B), fls_set hf.2.1 (h4 (ba B))]
    rw [hset]
    exact ⟨_, clz_get hf.1, t_OB.to (V := updV (vp_V (fls (ba B) M ci a)) k (tr (ba B) v)) ⟨_, e1, q2, q3, t_set q4 hap hf.2.1 _⟩ (fun j _ => vp_updV_set (by rw [fls_len]; exact hf.2.1) _ j)⟩
  have hd' := tyz_ok hf.1 k hf.2.1
  rcases hfin with hfin | ⟨hfin, hini, hdecl⟩
  · unfold u_lay at hlay
    rw [if_neg (by rw [hfin]; decide)] at hlay
    have h6 := u_store hfc hkC hkind hlay hi hd' (hn (ba B)).1 (hn (ba B)).2
    exact W.putK C.1.1 C.1.2.1 (f := f) ⟨C.1.2.2.2.2, C.2.1 _ hf.2.2, ⟨_, _, _, hi⟩, hst⟩ (by rw [q2]; exact h6) q1 q3 (by rw [hsl]; exact k2_hasslot (q4 k hf.2.1)) rfl rfl hd fin
  · unfold u_lay at hlay
    rw [if_pos hfin] at hlay
    have hcf : m.cls = cf := by
      obtain ⟨_, _, c', _, _, _, -, -, hf', -, -, -, hown2, -⟩ := Cond.laysFinal_spec hlay
      have e1 : c' = cf := by have := hi.symm.trans hf'; simp at this; exact this.1.symm
      rw [hdecl] at hown2
      rw [← e1]; exact Option.some.inj (C.1.2.2.2.2.symm.trans hown2)
    have h6 := u_fits hfc hkC hkind (Or.inr hlay) hi hd' (hn (ba B)).1 (hn (ba B)).2
    exact W.putFinK C.1.1 C.1.2.1 C.1.2.2.2.2 (C.2.1 _ hf.2.2) hi hst hcf (C.2.2.1.2.1.trans hini) (by rw [q2]; exact h6) q1 q3 (by rw [hsl]; exact k2_hasslot (q4 k hf.2.1)) rfl rfl hd fin
theorem e_putI {i ci k a : Nat} {x : Int32} (hd : decode y.2.1 pc = .ok (.putfield i, 3)) (hf : Fs y.1.cls i ci k) (ha : M.1.1[a]? = some (.inl ci)) (hfin : (Tz ci k).2.2.2 = false) (hn : narrow (tyz ci k) (.int x) = .int x) (hft : fits (tyz ci k) (.int x) = true)
    (hv : ∀ ad N, fvl ad N ci a k = .int (N.2.1 a k)) (kk : Ev B y d rc rs Φ (pc + 3) L st (sI M a k x)) : Ev B y d rc rs Φ pc L (.int x :: .ref a :: st) M := by
  refine e_putV (v := .int x) (M' := sI M a k x) hd hf ha (Or.inl hfin) (fun ad => ⟨hn, hft⟩) rfl (fun j hj => ⟨u2_ne _ _ _ hj, rfl, rfl⟩) (fun ad => ?_) (fun ad j hj => ?_) kk
  · rw [hv]
    show Value.int (u2 M.2.1 a k x a k) = _
    rw [u2_self]; simp; rfl
  · have e1 : (sI M a k x).2.1 a j = M.2.1 a j := by
      show u2 M.2.1 a k x a j = _
      rw [u2_self]; simp [hj]
    unfold fvl
    rw [e1]; rfl
theorem e_putR {i ci k a b : Nat} (hd : decode y.2.1 pc = .ok (.putfield i, 3)) (hf : Fs y.1.cls i ci k) (ha : M.1.1[a]? = some (.inl ci)) (hfin : (Tz ci k).2.2.2 = false ∨ ((Tz ci k).2.2.2 = true ∧ y.1.name = "<init>" ∧ (Tz ci k).1 = y.1.cls)) (hn : ∀ q, narrow (tyz ci k) (.ref q) = .ref q ∧ fits (tyz ci k) (.ref q) = true)
    (hv : ∀ ad N, fvl ad N ci a k = va_rf ((N.2.2.2 a k).map ad)) (kk : Ev B y d rc rs Φ (pc + 3) L st (sR M a k (some b))) : Ev B y d rc rs Φ pc L (.ref b :: .ref a :: st) M := by
  refine e_putV (v := .ref b) (M' := sR M a k (some b)) hd hf ha hfin (fun ad => hn (ad b)) rfl (fun j hj => ⟨rfl, rfl, u2_ne _ _ _ hj⟩) (fun ad => ?_) (fun ad j hj => ?_) kk
  · rw [hv]
    show va_rf ((u2 M.2.2.2 a k (some b) a k).map ad) = _
    rw [u2_self]; simp; rfl
  · have e1 : (sR M a k (some b)).2.2.2 a j = M.2.2.2 a j := by
      show u2 M.2.2.2 a k (some b) a j = _
      rw [u2_self]; simp [hj]
    unfold fvl
    rw [e1]; rfl
theorem e_iaload {a n : Nat} {i : Int32} (hd : decode y.2.1 pc = .ok (.iaload, 1)) (ha : M.1.1[a]? = some (.inr (.int, n))) (hin : vp_in i n) (k : Ev B y d rc rs Φ (pc + 1) L (.int (M.2.1 a i.toNatClampNeg) :: st) M) : Ev B y d rc rs Φ pc L (.int i :: .ref a :: st) M := by
  intro p e R s m args below meth c C ls H locs cells slots hl hR hS hc hs
  exact va_iald C.1.1 C.1.2.1 C.2.2.2.1 hR.1 a 0 (wsM_get ha) rfl hin hd (k p e R s m args below meth c C ls H locs cells slots hl hR hS hc hs)
theorem e_baloadB {a n : Nat} {i : Int32} (hd : decode y.2.1 pc = .ok (.baload, 1)) (ha : M.1.1[a]? = some (.inr (.byte, n))) (hin : vp_in i n) (k : Ev B y d rc rs Φ (pc + 1) L (.int (M.2.1 a i.toNatClampNeg) :: st) M) : Ev B y d rc rs Φ pc L (.int i :: .ref a :: st) M := by
  intro p e R s m args below meth c C ls H locs cells slots hl hR hS hc hs
  exact va_bald C.1.1 C.1.2.1 C.2.2.2.1 hR.1 a 1 (wsM_get ha) rfl hin hd (k p e R s m args below meth c C ls H locs cells slots hl hR hS hc hs)
theorem e_baloadZ {a n : Nat} {i : Int32} (hd : decode y.2.1 pc = .ok (.baload, 1)) (ha : M.1.1[a]? = some (.inr (.boolean, n))) (hin : vp_in i n) (k : Ev B y d rc rs Φ (pc + 1) L (.int (M.2.1 a i.toNatClampNeg) :: st) M) : Ev B y d rc rs Φ pc L (.int i :: .ref a :: st) M := by
  intro p e R s m args below meth c C ls H locs cells slots hl hR hS hc hs
  exact va_zald C.1.1 C.1.2.1 C.2.2.2.1 hR.1 a 2 (wsM_get ha) rfl hin hd (k p e R s m args below meth c C ls H locs cells slots hl hR hS hc hs)
theorem e_laload {a n : Nat} {i : Int32} (hd : decode y.2.1 pc = .ok (.laload, 1)) (ha : M.1.1[a]? = some (.inr (.long, n))) (hin : vp_in i n) (k : Ev B y d rc rs Φ (pc + 1) L (.long (M.2.2.1 a i.toNatClampNeg) :: st) M) : Ev B y d rc rs Φ pc L (.int i :: .ref a :: st) M := by
  intro p e R s m args below meth c C ls H locs cells slots hl hR hS hc hs
  exact va_lald C.1.1 C.1.2.1 C.2.2.2.1 hR.1 a 3 (wsM_get ha) rfl hin hd (k p e R s m args below meth c C ls H locs cells slots hl hR hS hc hs)
theorem e_aaloadN {a n b : Nat} {i : Int32} (hd : decode y.2.1 pc = .ok (.aaload, 1)) (ha : M.1.1[a]? = some (.inr (.object RX1, n))) (hin : vp_in i n) (hr : M.2.2.2 a i.toNatClampNeg = some b) (k : Ev B y d rc rs Φ (pc + 1) L (.ref b :: st) M) : Ev B y d rc rs Φ pc L (.int i :: .ref a :: st) M := by
  intro p e R s m args below meth c C ls H locs cells slots hl hR hS hc hs
  have k1 := k p e R s m args below meth c C ls H locs cells slots hl hR hS hc hs
  refine va_aldq (C := RX1) C.1.1 C.1.2.1 C.2.2.2.1 hR.1 a 4 (wsM_get ha) rfl hin hd ?_
  have e9 : va_rf ((M.2.2.2 a i.toNatClampNeg).map (ba B)) = .ref (ba B b) := by rw [hr]; rfl
  show W _ _ _ _ _ _ _ _ _ _ _ _ _ _ _ (F0 m (pc + 1) ls (va_rf ((M.2.2.2 a i.toNatClampNeg).map (ba B)) :: _))
  rw [e9]
  exact k1
theorem e_aaloadA {a n b : Nat} {i : Int32} (hd : decode y.2.1 pc = .ok (.aaload, 1)) (ha : M.1.1[a]? = some (.inr (.array .int, n))) (hin : vp_in i n) (hr : M.2.2.2 a i.toNatClampNeg = some b) (k : Ev B y d rc rs Φ (pc + 1) L (.ref b :: st) M) : Ev B y d rc rs Φ pc L (.int i :: .ref a :: st) M := by
  intro p e R s m args below meth c C ls H locs cells slots hl hR hS hc hs
  have k1 := k p e R s m args below meth c C ls H locs cells slots hl hR hS hc hs
  have hlt : i.toNatClampNeg < n := Nat.not_le.mp fun q => hin (Or.inr q)
  have e9 : va_rf ((M.2.2.2 a i.toNatClampNeg).map (ba B)) = .ref (ba B b) := by rw [hr]; rfl
  exact W.aald (v := .ref (ba B b)) (ty := .array .int) C.1.1 C.1.2.1 (hR.1 a _ (wsM_get ha)) ((C.2.2.2.1.2 5 _ rfl).1 n (fun j => va_rf ((M.2.2.2 a j).map (ba B)))) rfl (fun q => by cases q) (by show ¬ (i < 0 ∨ (arrV _ _ _).slots.size ≤ _); rw [arrV_size]; exact hin) (by show (arrV _ _ _).slots[_]? = _; rw [arrV_read _ _ hlt, e9]) rfl rfl hd k1
theorem e_alen {a n : Nat} {ty : FieldType} {t0 : Nat} (hd : decode y.2.1 pc = .ok (.arraylength, 1)) (ha : M.1.1[a]? = some (.inr (ty, n))) (ht : ∀ dA : FieldType → ClassId, (tysM dA)[t0]? = some (dA ty, ty)) (k : Ev B y d rc rs Φ (pc + 1) L (.int (nI n) :: st) M) : Ev B y d rc rs Φ pc L (.ref a :: st) M := by
  intro p e R s m args below meth c C ls H locs cells slots hl hR hS hc hs
  exact va_alen C.1.1 C.1.2.1 C.2.2.2.1 hR.1 a t0 (wsM_get ha) (ht _) rfl hd (k p e R s m args below meth c C ls H locs cells slots hl hR hS hc hs)
theorem e_iastore {a n : Nat} {i x : Int32} (hd : decode y.2.1 pc = .ok (.iastore, 1)) (ha : M.1.1[a]? = some (.inr (.int, n))) (hin : vp_in i n) (k : Ev B y d rc rs Φ (pc + 1) L st (sI M a i.toNatClampNeg x)) : Ev B y d rc rs Φ pc L (.int x :: .int i :: .ref a :: st) M := by
  intro p e R s m args below meth c C ls H locs cells slots hl hR hS hc hs
  have hD := wsM_D C.2.2.2.2.2.1.2.1 hR
  have he := wsM_get (dA := bA B) (ad := ba B) ha
  refine W.iast C.1.1 C.1.2.1 (hR.1 a _ he) ((C.2.2.2.1.2 0 _ rfl).1 n (fun j => .int (M.2.1 a j))) (fun q => by cases q) (by show ¬ (i < 0 ∨ (arrV _ _ _).slots.size ≤ _); rw [arrV_size]; exact hin) rfl rfl hd fun H1 e1 z oq => ?_
  refine k p e R s m args below meth c C ls H1 _ cells slots hl (hR.put rfl ha (fun j hj => ⟨u2_ne _ _ _ hj, rfl, rfl⟩) (hR.1.set hD he ?_ oq) z) (hS.put z oq (hD.2 a _ he)) hc hs
  show H1[ba B a]? = some (vp_cell (bA B .int) (n, .inl (u2 M.2.1 a i.toNatClampNeg x a)))
  rw [e1]
  show some ((vp_cell (bA B .int) (n, .inl (M.2.1 a))).setSlot _ _) = _
  rw [vp_cell_i, vp_cell_i, arrV_store, u2_self]
  congr 2
  funext q
  by_cases hq : q = i.toNatClampNeg
  · subst hq; simp [updV]
  · simp [updV, hq]
end RH
