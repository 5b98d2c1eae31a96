theorem Rep.of {B : Bd} {M : Mm} {H : Heap} (hP : va_P (bD B) clz (wsM (bA B) (ba B) M) H) (hA : Adr B) (hb : bs B ≤ H.size) (h1 : M.1.2 = false) (h2 : M.1.1.length ≤ 1000000) : Rep B M H := by
  refine ⟨hP, ?_, (fun h => by rw [h1] at h; cases h), h2⟩
  cases hl : M.1.1.length with
  | zero => omega
  | succ n =>
    have hk : n < M.1.1.length := by omega
    have h3 := (hP n _ (wsM_get (List.getElem?_eq_getElem hk))).lt
    have h4 := hA n (by omega)
    simp only [h4] at h3
    omega
theorem Rep.loose {B : Bd} {M : Mm} {H : Heap} (h : Rep B M H) : Rep B (loose M) H := ⟨h.1, h.2.1, (fun h => by cases h), h.2.2.2⟩
theorem ac_lk5 : Cond.methodLink RX5 158 arraycopyName ∈ TB := TB_in (List.mem_of_getElem? (i := 431) (by decide +kernel)) (by decide +kernel)
theorem ac_lk1 : Cond.methodLink RX1 38 arraycopyName ∈ TB := TB_in (List.mem_of_getElem? (i := 428) (by decide +kernel)) (by decide +kernel)
theorem ac_nat : Cond.native arraycopyName ∈ TB := TB_in (List.mem_of_getElem? (i := 430) (by decide +kernel)) (by decide +kernel)
theorem ac_st : Cond.static arraycopyName ∈ TB := TB_in (List.mem_of_getElem? (i := 429) (by decide +kernel)) (by decide +kernel)
theorem ac_ini : Cond.initialized "java/lang/System" ∈ TB := TB_in (List.mem_of_getElem? (i := 106) (by decide +kernel)) (by decide +kernel)
section RH2
variable {B : Bd} {y : Mt} {d rc rs : Nat} {Φ : Ot → Mm → Prop} {pc : Nat} {L : Lc} {st : List Value} {M : Mm}
theorem e_loose (k : Ev B y d rc rs Φ pc L st (loose M)) : Ev B y d rc rs Φ pc L st M := by
  intro p e R s m args below meth c C ls H locs cells slots hl hR hS hc hs
  exact k p e R s m args below meth c C ls H locs cells slots hl hR.loose hS hc hs
theorem e_storeX {a : Nat} {kd : Kd} {M' : Mm} {p : Program} {e : Env} {R : Room} {s : State} {m : MethodId} {args : Array Value} {below : List Frame} {meth : Method} {c : Code} {ls : Array Slot} {H H1 : Heap} {locs1 : List Loc} {cells slots : Nat} {pc' : Nat} (C : Cx B y d p R s m args meth c) (hl : LR (ba B) ls y.2.2.1 L) (hR : Rep B M H) (h0 : M.1.2 = false) (hM : M'.1 = M.1) (ha : M.1.1[a]? = some kd) (h : ∀ j, j ≠ a → M'.2.1 j = M.2.1 j ∧ M'.2.2.1 j = M.2.2.1 j ∧ M'.2.2.2 j = M.2.2.2 j) (hP : va_P (bD B) clz ((wsM (bA B) (ba B) M).set a (ba B a, ent (bA B) (ba B) M' a kd)) H1) (hS : va_S (fr B) s.heap H1 locs1) (hc : cells + rc ≤ R.cells) (hs : slots + rs ≤ R.slots) (k : Ev B y d rc rs Φ pc' L st M') :
    W p (bl B) e R s m args below meth c H1 locs1 cells slots (vx_MQ below (Qr B Φ) (Qx B Φ) args s R.cells R.slots (fr B)) (F0 m pc' ls (st.map (tr (ba B)))) := by
  rw [wsM_set (by rw [hM]) ha h] at hP
  exact k p e R s m args below meth c C ls H1 locs1 cells slots hl (Rep.of hP C.2.2.2.2.2.1.2.1 (Nat.le_trans C.2.2.2.2.2.1.1 hS.1) (by rw [hM]; exact h0) (by rw [hM]; exact hR.2.2.2)) hS hc hs
theorem e_bastoreB {a n : Nat} {i x : Int32} (hd : decode y.2.1 pc = .ok (.bastore, 1)) (h0 : M.1.2 = false) (ha : M.1.1[a]? = some (.inr (.byte, n))) (hin : vp_in i n) (k : Ev B y d rc rs Φ (pc + 1) L st (sI M a i.toNatClampNeg (vp_nar .byte x))) : Ev B y d rc rs Φ pc L (.int x :: .int i :: .ref a :: st) M := by
  intro p e R s m args below meth c C ls H locs cells slots hl hR hS hc hs
  have hD := wsM_D C.2.2.2.2.2.1.2.1 hR
  refine va_bast C.1.1 C.1.2.1 C.2.2.2.1 hR.1 hD hS a 1 (wsM_get ha) rfl hin hd fun H1 locs1 hP hD1 hS1 => ?_
  refine e_storeX (M' := sI M a i.toNatClampNeg (vp_nar .byte x)) C hl hR h0 rfl ha (fun j hj => ⟨u2_ne _ _ _ hj, rfl, rfl⟩) ?_ hS1 hc hs k
  have e9 : ent (bA B) (ba B) (sI M a i.toNatClampNeg (vp_nar .byte x)) a (.inr (.byte, n)) = .inl (bA B .byte, n, .inl (upd (M.2.1 a) i.toNatClampNeg (vp_nar .byte x))) := by
    show (Sum.inl (bA B .byte, n, Sum.inl (u2 M.2.1 a i.toNatClampNeg (vp_nar .byte x) a)) : va_E) = _
    rw [u2_self]; rfl
  rw [e9]; exact hP
theorem e_bastoreZ {a n : Nat} {i x : Int32} (hd : decode y.2.1 pc = .ok (.bastore, 1)) (h0 : M.1.2 = false) (ha : M.1.1[a]? = some (.inr (.boolean, n))) (hin : vp_in i n) (k : Ev B y d rc rs Φ (pc + 1) L st (sI M a i.toNatClampNeg (vp_nar .boolean x))) : Ev B y d rc rs Φ pc L (.int x :: .int i :: .ref a :: st) M := by
  intro p e R s m args below meth c C ls H locs cells slots hl hR hS hc hs
  have hD := wsM_D C.2.2.2.2.2.1.2.1 hR
  refine va_zast C.1.1 C.1.2.1 C.2.2.2.1 hR.1 hD hS a 2 (wsM_get ha) rfl hin hd fun H1 locs1 hP hD1 hS1 => ?_
  refine e_storeX (M' := sI M a i.toNatClampNeg (vp_nar .boolean x)) C hl hR h0 rfl ha (fun j hj => ⟨u2_ne _ _ _ hj, rfl, rfl⟩) ?_ hS1 hc hs k
  have e9 : ent (bA B) (ba B) (sI M a i.toNatClampNeg (vp_nar .boolean x)) a (.inr (.boolean, n)) = .inl (bA B .boolean, n, .inl (upd (M.2.1 a) i.toNatClampNeg (vp_nar .boolean x))) := by
    show (Sum.inl (bA B .boolean, n, Sum.inl (u2 M.2.1 a i.toNatClampNeg (vp_nar .boolean x) a)) : va_E) = _
    rw [u2_self]; rfl
  rw [e9]; exact hP
theorem e_lastore {a n : Nat} {i : Int32} {x : Int64} (hd : decode y.2.1 pc = .ok (.lastore, 1)) (h0 : M.1.2 = false) (ha : M.1.1[a]? = some (.inr (.long, n))) (hin : vp_in i n) (k : Ev B y d rc rs Φ (pc + 1) L st (sJ M a i.toNatClampNeg x)) : Ev B y d rc rs Φ pc L (.long x :: .int i :: .ref a :: st) M := by
  intro p e R s m args below meth c C ls H locs cells slots hl hR hS hc hs
  have hD := wsM_D C.2.2.2.2.2.1.2.1 hR
  refine va_last C.1.1 C.1.2.1 C.2.2.2.1 hR.1 hD hS a 3 (wsM_get ha) rfl hin hd fun H1 locs1 hP hD1 hS1 => ?_
  refine e_storeX (M' := sJ M a i.toNatClampNeg x) C hl hR h0 rfl ha (fun j hj => ⟨rfl, u2_ne _ _ _ hj, rfl⟩) ?_ hS1 hc hs k
  have e9 : ent (bA B) (ba B) (sJ M a i.toNatClampNeg x) a (.inr (.long, n)) = .inl (bA B .long, n, .inr (.inl (vp_updL (M.2.2.1 a) i.toNatClampNeg x))) := by
    show (Sum.inl (bA B .long, n, Sum.inr (Sum.inl (u2 M.2.2.1 a i.toNatClampNeg x a))) : va_E) = _
    rw [u2_self]; rfl
  rw [e9]; exact hP
theorem e_aastoreN {a n b : Nat} {i : Int32} (hd : decode y.2.1 pc = .ok (.aastore, 1)) (h0 : M.1.2 = false) (ha : M.1.1[a]? = some (.inr (.object RX1, n))) (hb : M.1.1[b]? = some (.inl 1)) (hin : vp_in i n) (k : Ev B y d rc rs Φ (pc + 1) L st (sR M a i.toNatClampNeg (some b))) : Ev B y d rc rs Φ pc L (.ref b :: .int i :: .ref a :: st) M := by
  intro p e R s m args below meth c C ls H locs cells slots hl hR hS hc hs
  have hD := wsM_D C.2.2.2.2.2.1.2.1 hR
  refine va_astq C.1.1 C.1.2.1 C.2.2.2.1 hR.1 hD hS a 4 b 1 (wsM_get ha) (r := (RX1, TX1, 5)) rfl (wsM_get hb) rfl hin hd fun H1 locs1 hP hD1 hS1 => ?_
  refine e_storeX (M' := sR M a i.toNatClampNeg (some b)) C hl hR h0 rfl ha (fun j hj => ⟨rfl, rfl, u2_ne _ _ _ hj⟩) ?_ hS1 hc hs k
  have e9 : ent (bA B) (ba B) (sR M a i.toNatClampNeg (some b)) a (.inr (.object RX1, n)) = .inl (bA B (.object RX1), n, .inr (.inr (.inr (.inr (va_up (fun i => (M.2.2.2 a i).map (ba B)) i.toNatClampNeg (some (ba B b))))))) := by
    show (Sum.inl (bA B (.object RX1), n, Sum.inr (Sum.inr (Sum.inr (Sum.inr (fun j => (u2 M.2.2.2 a i.toNatClampNeg (some b) a j).map (ba B)))))) : va_E) = _
    have e8 : (fun j => (u2 M.2.2.2 a i.toNatClampNeg (some b) a j).map (ba B)) = va_up (fun i => (M.2.2.2 a i).map (ba B)) i.toNatClampNeg (some (ba B b)) := by
      funext j
      rw [u2_self]
      by_cases hj : j = i.toNatClampNeg
      · simp [va_up, hj]
      · simp [va_up, hj]
    rw [e8]
  rw [e9]; exact hP
/-- System.arraycopy of ints -/
theorem e_acopy {i a0 a1 n0 n1 : Nat} {sp dp n : Int32} (hd : decode y.2.1 pc = .ok (.invokestatic i, 3)) (hlk : Cond.methodLink y.1.cls i arraycopyName ∈ TB) (hnat : Cond.native arraycopyName ∈ TB) (hst9 : Cond.static arraycopyName ∈ TB) (hini : Cond.initialized "java/lang/System" ∈ TB) (h0 : M.1.2 = false) (ha0 : M.1.1[a0]? = some (.inr (.int, n0))) (ha1 : M.1.1[a1]? = some (.inr (.int, n1))) (h1 : ¬ sp < 0) (h2 : ¬ dp < 0) (h3 : ¬ n < 0) (h4 : sp.toNatClampNeg + n.toNatClampNeg ≤ n0) (h5 : dp.toNatClampNeg + n.toNatClampNeg ≤ n1) (hst : (st.map fun v => v.category).sum ≤ 8) (hdd : 1 ≤ d)
    (k : Ev B y d rc rs Φ (pc + 3) L st (sA M a1 (va_cpy (M.2.1 a0) (M.2.1 a1) sp.toNatClampNeg dp.toNatClampNeg n.toNatClampNeg))) : Ev B y d rc rs Φ pc L (.int n :: .int dp :: .ref a1 :: .int sp :: .ref a0 :: st) M := by
  intro p e R s m args below meth c C ls H locs cells slots hl hR hS hc hs
  obtain ⟨hfr, hlo⟩ := C.2.2.2.2.2.2
  have hD := wsM_D C.2.2.2.2.2.1.2.1 hR
  have hst' := cat8 hst (ba B)
  have hnf : nativeFrameWords "java/lang/System" "arraycopy" 5 + 11 ≤ 100 := by decide +kernel
  refine va_copyi (ty := .int) C.1.1 C.1.2.1 (C.1.2.2.2.1.trans hl.1.symm) C.1.2.2.2.2 (C.2.1 _ hlk) (C.2.1 _ hnat) (C.2.1 _ hst9) (C.2.1 _ hini) C.2.2.2.1 hR.1 hD hS a0 a1 0 0 (wsM_get ha0) (wsM_get ha1) rfl rfl rfl h1 h2 h3 h4 h5 (fun _ _ => rfl) (by omega) (by omega) hd fun H1 locs1 hP hD1 hS1 => ?_
  refine e_storeX (M' := sA M a1 (va_cpy (M.2.1 a0) (M.2.1 a1) sp.toNatClampNeg dp.toNatClampNeg n.toNatClampNeg)) C hl hR h0 rfl ha1 (fun j hj => ⟨?_, rfl, rfl⟩) ?_ hS1 hc hs k
  · funext q
    show (if j = a1 then _ else M.2.1 j q) = M.2.1 j q
    rw [if_neg hj]
  · have e9 : ent (bA B) (ba B) (sA M a1 (va_cpy (M.2.1 a0) (M.2.1 a1) sp.toNatClampNeg dp.toNatClampNeg n.toNatClampNeg)) a1 (.inr (.int, n1)) = .inl (bA B .int, n1, .inl (va_cpy (M.2.1 a0) (M.2.1 a1) sp.toNatClampNeg dp.toNatClampNeg n.toNatClampNeg)) := by
      show (Sum.inl (bA B .int, n1, Sum.inl (fun j => if a1 = a1 then va_cpy (M.2.1 a0) (M.2.1 a1) sp.toNatClampNeg dp.toNatClampNeg n.toNatClampNeg j else M.2.1 a1 j)) : va_E) = _
      simp
    rw [e9]; exact hP
end RH2
