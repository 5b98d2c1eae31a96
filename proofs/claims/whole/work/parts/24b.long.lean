/-! rows on longs (of the kit's BITS), and numbers packed into one -/
theorem wb_tb (n : Nat) : (lN n).toBitVec = BitVec.ofNat 64 n := rfl
theorem wb_inj {a b : Int64} (h : a.toBitVec = b.toBitVec) : a = b := Int64.toBitVec_inj.mp h
theorem wb_c : ∀ k, k < 64 → ((nI k).toInt64 &&& 63) = lN k := by decide +kernel
theorem wb_sm : ∀ k, k < 64 → (BitVec.ofNat 64 k).smod 64 = BitVec.ofNat 64 k := by decide +kernel
theorem wb_shl (n : Nat) {k : Nat} (hk : k < 64) : lN n <<< ((nI k).toInt64 &&& 63) = lN (n * 2 ^ k) := by
  rw [wb_c k hk]
  apply wb_inj
  rw [Int64.toBitVec_shiftLeft, wb_tb, wb_tb, wb_tb, wb_sm k hk]
  apply BitVec.eq_of_toNat_eq
  rw [BitVec.shiftLeft_eq', BitVec.toNat_shiftLeft, BitVec.toNat_ofNat, BitVec.toNat_ofNat, BitVec.toNat_ofNat, Nat.mod_eq_of_lt (show k < 2 ^ 64 by omega), Nat.shiftLeft_eq, Nat.mul_mod, Nat.mod_mod, ← Nat.mul_mod]
theorem u_tn {n : Nat} (h : n < 2 ^ 64) : (UInt64.ofNat n).toNat = n := Nat.mod_eq_of_lt h
theorem g_and {a b c : Nat} (ha : a < 2 ^ 64) (hb : b < 2 ^ 64) (hc : a &&& b = c) : lN a &&& lN b = lN c := by
  subst hc
  have h : UInt64.ofNat a &&& UInt64.ofNat b = UInt64.ofNat (a &&& b) := UInt64.toNat_inj.mp (by rw [UInt64.toNat_and, u_tn ha, u_tn hb, u_tn (Nat.and_lt_two_pow a hb)])
  have h2 := congrArg UInt64.toInt64 h
  exact h2
theorem g_mask {a s p : Nat} (hp : 2 ^ s = p) (hs : s < 64) (ha : a < 2 ^ 64) : lN a &&& lN (p - 1) = lN (a % p) := by
  subst hp
  have := Nat.pow_lt_pow_right (show 1 < 2 by decide) hs
  exact g_and ha (by omega) (Nat.and_two_pow_sub_one_eq_mod a s)
theorem g_or {k p a b : Nat} (hp : 2 ^ k = p) (ha : a < p) (h : b * p + a < 2 ^ 64) : lN (b * p) ||| lN a = lN (b * p + a) := by
  subst hp
  have h1 : b * 2 ^ k ||| a = b * 2 ^ k + a := by rw [← Nat.shiftLeft_eq, Nat.shiftLeft_add_eq_or_of_lt ha]
  have h3 : UInt64.ofNat (b * 2 ^ k) ||| UInt64.ofNat a = UInt64.ofNat (b * 2 ^ k + a) := UInt64.toNat_inj.mp (by rw [UInt64.toNat_or, u_tn (by omega), u_tn (by omega), u_tn h, h1])
  have h2 := congrArg UInt64.toInt64 h3
  exact h2
theorem pf_lI {a : Nat} (h : a < 2 ^ 63) : (lN a).toInt = (a : Int) := lg_ofNat_toInt h
theorem pf_shr {a d : Nat} {D : Int64} (hD : (D.toBitVec.smod 64).toNat = d) (h : a < 2 ^ 62) : lN a >>> D = lN (a / 2 ^ d) := by
  have hd : a / 2 ^ d ≤ a := Nat.div_le_self _ _
  apply Int64.toInt_inj.mp
  have e : (lN a >>> D).toInt = (lN a).toInt >>> d := by
    rw [← hD]
    exact BitVec.toInt_sshiftRight ..
  rw [e, Int.shiftRight_eq_div_pow, pf_lI (by omega), pf_lI (by omega)]
  rfl
/-- four numbers in one long -/
def pkN (q : Qt) : Nat := ((q.1 * 65536 + q.2.1) * 65536 + q.2.2.1) * 65536 + q.2.2.2
def pk (q : Qt) : Int64 := lN (pkN q)
def Qb (q : Qt) : Prop := q.1 ≤ 16 ∧ q.2.1 < 65536 ∧ q.2.2.1 < 65536 ∧ q.2.2.2 < 65536
theorem pkN_lt {q : Qt} (h : Qb q) : pkN q < 2 ^ 62 := by
  obtain ⟨h1, h2, h3, h4⟩ := h
  unfold pkN
  omega
theorem sm16 : (((16 : Int32).toInt64 &&& 63).toBitVec.smod 64).toNat = 16 := by decide +kernel
theorem sm32 : (((32 : Int32).toInt64 &&& 63).toBitVec.smod 64).toNat = 32 := by decide +kernel
theorem sm48 : (((48 : Int32).toInt64 &&& 63).toBitVec.smod 64).toNat = 48 := by decide +kernel
theorem lmask {n : Nat} (h : n < 2 ^ 62) : lN n &&& 65535 = lN (n % 65536) := g_mask (s := 16) (p := 65536) (by decide) (by decide) (by omega)
theorem pk_sz {q : Qt} (h : Qb q) : (pk q >>> ((48 : Int32).toInt64 &&& 63) &&& 65535).toInt32 = nI q.1 := by
  have h1 := pkN_lt h
  obtain ⟨a1, a2, a3, a4⟩ := h
  unfold pk
  have e : pkN q / 2 ^ 48 = q.1 := by unfold pkN; omega
  rw [pf_shr sm48 h1, e, lmask (by omega), lN_i]
  congr 1; omega
theorem pk_ct {q : Qt} (h : Qb q) : (pk q >>> ((32 : Int32).toInt64 &&& 63) &&& 65535).toInt32 = nI q.2.1 := by
  have h1 := pkN_lt h
  obtain ⟨a1, a2, a3, a4⟩ := h
  unfold pk
  have e : pkN q / 2 ^ 32 = q.1 * 65536 + q.2.1 := by unfold pkN; omega
  rw [pf_shr sm32 h1, e, lmask (by omega), lN_i]
  congr 1; omega
theorem pk_hv {q : Qt} (h : Qb q) : (pk q >>> ((16 : Int32).toInt64 &&& 63) &&& 65535).toInt32 = nI q.2.2.1 := by
  have h1 := pkN_lt h
  obtain ⟨a1, a2, a3, a4⟩ := h
  unfold pk
  have e : pkN q / 2 ^ 16 = (q.1 * 65536 + q.2.1) * 65536 + q.2.2.1 := by unfold pkN; omega
  rw [pf_shr sm16 h1, e, lmask (by omega), lN_i]
  congr 1; omega
theorem pk_lg {q : Qt} (h : Qb q) : (pk q &&& 65535).toInt32 = nI q.2.2.2 := by
  have h1 := pkN_lt h
  obtain ⟨a1, a2, a3, a4⟩ := h
  unfold pk
  rw [lmask h1, lN_i]
  congr 1
  unfold pkN; omega
theorem pk_qsh (k : Nat) (q : Qt) : pk q + pk (1, 0, k, k) = pk (qsh k q) := by
  have e : pkN q + pkN (1, 0, k, k) = pkN (qsh k q) := by
    unfold pkN qsh
    dsimp only
    omega
  unfold pk
  rw [lN_add, e]
theorem lw16 (n : Nat) : lN n <<< ((16 : Int32).toInt64 &&& 63) = lN (n * 65536) := wb_shl n (k := 16) (by decide)
theorem lw32 (n : Nat) : lN n <<< ((32 : Int32).toInt64 &&& 63) = lN (n * 4294967296) := wb_shl n (k := 32) (by decide)
theorem lw48 (n : Nat) : lN n <<< ((48 : Int32).toInt64 &&& 63) = lN (n * 281474976710656) := wb_shl n (k := 48) (by decide)
theorem or1 {y d : Nat} (hy : y < 2 ^ 40) (hd : d < 65536) : lN (y * 65536) ||| lN d = lN (y * 65536 + d) := g_or (k := 16) (by decide) hd (by omega)
theorem or2 {x c d : Nat} (hx : x < 2 ^ 22) (hc : c < 65536) (hd : d < 65536) : lN (x * 4294967296) ||| lN (c * 65536) ||| lN d = lN ((x * 65536 + c) * 65536 + d) := by
  have e4 : x * 4294967296 = x * 65536 * 65536 := by rw [Nat.mul_assoc]
  rw [g_or (k := 32) (by decide) (by omega) (by omega), e4, ← Nat.add_mul, or1 (by omega) hd]
theorem or3 {a b : Nat} (ha : a ≤ 16) (hb : b < 65536) : lN (a * 281474976710656) ||| lN (b * 4294967296) = lN ((a * 65536 + b) * 4294967296) := by
  have e4 : a * 281474976710656 = a * 65536 * 4294967296 := by rw [Nat.mul_assoc]
  rw [g_or (k := 48) (by decide) (by omega) (by omega), e4, ← Nat.add_mul]
theorem pk_pack {a b c d : Nat} (h : Qb (a, b, c, d)) : lN (a * 281474976710656) ||| lN (b * 4294967296) ||| lN (c * 65536) ||| lN d = pk (a, b, c, d) := by
  obtain ⟨a1, a2, a3, a4⟩ := h
  dsimp only at a1 a2 a3 a4
  rw [or3 a1 a2, or2 (by omega) a3 a4]
  rfl
/-- nothing but longs of the cell 16 -/
def Fj (M N : Mm) : Prop := N.1 = M.1 ∧ N.2.1 = M.2.1 ∧ N.2.2.2 = M.2.2.2 ∧ ∀ a, a ≠ 16 → N.2.2.1 a = M.2.2.1 a
theorem Fj.rf {M : Mm} : Fj M M := ⟨rfl, rfl, rfl, fun _ _ => rfl⟩
theorem Fj.trans {M N K : Mm} (h1 : Fj M N) (h2 : Fj N K) : Fj M K := ⟨h2.1.trans h1.1, h2.2.1.trans h1.2.1, h2.2.2.1.trans h1.2.2.1, fun a ha => (h2.2.2.2 a ha).trans (h1.2.2.2 a ha)⟩
theorem Fj.sJ {M N : Mm} {i : Nat} {x : Int64} (h : Fj M N) : Fj M (sJ N 16 i x) := ⟨h.1, h.2.1, h.2.2.1, fun a ha => (u2_ne _ _ _ ha).trans (h.2.2.2 a ha)⟩
/-- nothing but the cells of Greatest -/
def Fg (M N : Mm) : Prop := N.1 = M.1 ∧ (∀ a, a < 14 ∨ 15 < a → N.2.1 a = M.2.1 a) ∧ N.2.2.2 = M.2.2.2 ∧ ∀ a, a ≠ 16 → N.2.2.1 a = M.2.2.1 a
theorem Fg.trans {M N K : Mm} (h1 : Fg M N) (h2 : Fg N K) : Fg M K := ⟨h2.1.trans h1.1, fun a ha => (h2.2.1 a ha).trans (h1.2.1 a ha), h2.2.2.1.trans h1.2.2.1, fun a ha => (h2.2.2.2 a ha).trans (h1.2.2.2 a ha)⟩
theorem Fj.g {M N : Mm} (h : Fj M N) : Fg M N := ⟨h.1, fun a _ => by rw [h.2.1], h.2.2.1, h.2.2.2⟩
theorem Fr.g {M N : Mm} {lo hi : Nat} (h : Fr lo hi M N) (h1 : 14 ≤ lo) (h2 : hi ≤ 15) : Fg M N := ⟨h.1, fun a ha => h.2.2 a (by omega), by rw [h.2.1], fun a _ => by rw [h.2.1]⟩
theorem Fg.rf {M : Mm} : Fg M M := Fj.rf.g
theorem OkM.fg {M N : Mm} (h : OkM M) (hf : Fg M N) : OkM N := by unfold OkM; rw [hf.1, hf.2.2.1]; exact h
theorem OkM.fl {M N : Mm} (h : OkM M) (hf : Fj M N) : OkM N := h.fg hf.g
theorem NetRep.fg {M N : Mm} {n : Nat} {g : Nw} (h : NetRep M n g) (hf : Fg M N) (ho : n + 3 < 14 ∨ 15 < n) : NetRep N n g := by
  obtain ⟨h1, h2, h3, h4, h5, h6⟩ := h
  have e : ∀ k, k ≤ 3 → N.2.1 (n + k) = M.2.1 (n + k) := fun k hk => hf.2.1 _ (by omega)
  have e0 := e 0 (by omega)
  rw [Nat.add_zero] at e0
  refine ⟨?_, ?_, ?_, fun a b ha hb => ?_, fun a ha => ?_, fun a ha => ?_⟩
  · unfold NetAt; rw [hf.1, hf.2.2.1]; exact h1
  · rw [e0]; exact h2
  · rw [e0]; exact h3
  · rw [e 1 (by omega)]; exact h4 a b ha hb
  · rw [e 2 (by omega)]; exact h5 a ha
  · rw [e 3 (by omega)]; exact h6 a ha
theorem NetRep.fl {M N : Mm} {n : Nat} {g : Nw} (h : NetRep M n g) (hf : Fj M N) : NetRep N n g := by
  unfold NetRep NetAt
  rw [hf.1, hf.2.1, hf.2.2.1]; exact h
/-- the first n longs of the row a are v -/
def sG (M : Mm) (a n : Nat) (v : Int64) : Mm := (M.1, M.2.1, (fun b j => if b = a ∧ j < n then v else M.2.2.1 b j), M.2.2.2)
theorem sG_s (M : Mm) (a n : Nat) (v : Int64) : sJ (sG M a n v) a n v = sG M a (n + 1) v := by
  unfold sJ sG u2
  congr 1
  congr 1
  congr 1
  funext b j
  by_cases h : b = a
  · by_cases h2 : j = n
    · simp [h, h2]
    · have h3 : j < n + 1 ↔ j < n := by omega
      simp [h, h2, h3]
  · simp [h]
/-! methods with longs among their arguments -/
def lj : List Value → Lc
  | [] => []
  | v :: vs => if v.category = 2 then some v :: none :: lj vs else some v :: lj vs
def LinJ (y : Mt) (As : List Value) : Lc := lj As ++ List.replicate (y.2.2.1 - (lj As).length) none
theorem lj_len (ad : Nat → Nat) : ∀ (vs : List Value), (lg_sl (vs.map (tr ad))).length = (lj vs).length
  | [] => rfl
  | v :: vs => by
    have ih := lj_len ad vs
    have e : lg_sl ((v :: vs).map (tr ad)) = (if (tr ad v).category = 2 then [.val (tr ad v), .second] else [.val (tr ad v)]) ++ lg_sl (vs.map (tr ad)) := rfl
    have e2 : lj (v :: vs) = if v.category = 2 then some v :: none :: lj vs else some v :: lj vs := rfl
    rw [e, e2, tr_cat, List.length_append, ih]
    by_cases h : v.category = 2
    · rw [if_pos h, if_pos h]; simp; omega
    · rw [if_neg h, if_neg h]; simp; omega
theorem lj_mem (ad : Nat → Nat) : ∀ (vs : List Value) (k i : Nat) (w : Value), (lj vs)[i]? = some (some w) → (k + i, tr ad w) ∈ lv_args k (vs.map (tr ad))
  | [], _, _, _, h => by simp [lj] at h
  | v :: vs, k, i, w, h => by
    have e2 : lj (v :: vs) = if v.category = 2 then some v :: none :: lj vs else some v :: lj vs := rfl
    have e3 : lv_args k ((v :: vs).map (tr ad)) = (k, tr ad v) :: lv_args (if (tr ad v).category = 2 then k + 2 else k + 1) (vs.map (tr ad)) := by
      show lv_args k (tr ad v :: vs.map (tr ad)) = _
      first | rfl | (conv => lhs; unfold lv_args) | simp [lv_args]
    rw [e3, tr_cat]
    rw [e2] at h
    by_cases hc : v.category = 2
    · rw [if_pos hc] at h ⊢
      match i, h with
      | 0, h => simp at h; subst h; exact List.mem_cons_self
      | 1, h => simp at h
      | i + 2, h =>
        simp only [List.getElem?_cons_succ] at h
        have := lj_mem ad vs (k + 2) i w h
        rw [show k + (i + 2) = k + 2 + i by omega]
        exact List.mem_cons_of_mem _ this
    · rw [if_neg hc] at h ⊢
      match i, h with
      | 0, h => simp at h; subst h; exact List.mem_cons_self
      | i + 1, h =>
        simp only [List.getElem?_cons_succ] at h
        have := lj_mem ad vs (k + 1) i w h
        rw [show k + (i + 1) = k + 1 + i by omega]
        exact List.mem_cons_of_mem _ this
theorem LR_inJ {ad : Nat → Nat} {As : List Value} {n : Nat} (hn : (lj As).length ≤ n) : LR ad ((lg_sl (As.map (tr ad)) ++ List.replicate (n - (lg_sl (As.map (tr ad))).length) Slot.unset).toArray) n (lj As ++ List.replicate (n - (lj As).length) none) := by
  have hle : (lg_sl (As.map (tr ad))).length ≤ n := by rw [lj_len]; exact hn
  have h := lv_entry (As.map (tr ad)) hle
  refine ⟨h.1, h.2.1, fun i v hi => ?_⟩
  have hm : (lj As)[i]? = some (some v) := by
    by_cases hl : i < (lj As).length
    · rw [List.getElem?_append_left hl] at hi; exact hi
    · rw [List.getElem?_append_right (by omega)] at hi
      rw [List.getElem?_replicate] at hi
      split at hi
      · cases hi
      · cases hi
  have := h.2.2 _ (lj_mem ad As 0 i v hm)
  simpa using this
set_option maxHeartbeats 4000000 in
theorem Ct.ofJ {B : Bd} {y : Mt} {d rc rs : Nat} {As : List Value} {M : Mm} {Φ : Ot → Mm → Prop} (hy : plainName y.1.cls = true) (hh : y.2.2.2.2 = []) (hn : (lj As).length ≤ y.2.2.1) (h : Ev B y d rc rs Φ 0 (LinJ y As) [] M) : Ct B y d rc rs As M Φ := by
  obtain ⟨yn, bytes, maxL, ret, tb⟩ := y
  dsimp only at hy hh hn
  subst hh
  refine vx_ofW (cc := bytes) (maxL := maxL) (ret := ret) hy rfl ?_
  intro p e s m args below meth c s₁ D hml htab hv
  obtain ⟨rfl, hR, hK, hX, hbs, hA, htr⟩ := hv
  have hts := atoms_spec (ws := wsY (yn, bytes, maxL, ret, [])) D.pre
  rw [lg_entry_eq]
  exact h p e _ s m _ below meth c ⟨⟨D.exec, D.bytes, D.returns, hml, findClass_of_methodNamed D.named⟩, fun w hw => hts w (List.mem_cons_of_mem _ hw), ⟨D.notSynchronized, (name_of_methodNamed D.named D.method).1, tab_nil htab⟩, hK, hX, ⟨hbs, hA, htr⟩, ⟨Nat.le_refl _, Nat.le_refl _⟩⟩ _ s.heap [] 0 0 (LR_inJ hn) hR va_S.rf (by show 0 + rc ≤ rc; omega) (by show 0 + rs ≤ rs; omega)
section RJ
variable {B : Bd} {y : Mt} {d rc rs : Nat} {Φ : Ot → Mm → Prop} {pc : Nat} {L : Lc} {st : List Value} {M : Mm}
theorem e_callS0l {i n d1 : Nat} {q : Mt} {r : Int64} {M1 : Mm} {stk : List Value} (As : List Value) (hd : decode y.2.1 pc = .ok (.invokestatic i, 3)) (hm : MdS q n) (hlk : Cond.methodLink y.1.cls i q.1 ∈ TB) (hn : As.length = n) (hstk : stk = As.reverse ++ st) (hst : (st.map fun v => v.category).sum ≤ 8) (hdd : d1 + 1 ≤ d)
    (hct : Ct B q d1 0 0 As M (Is (some (.long r)) M1)) (kk : Ev B y d rc rs Φ (pc + 3) L (.long r :: st) M1) : Ev B y d rc rs Φ pc L stk M := e_callS0 As hd hm hlk hn hstk hst hdd hct kk
/-- an answer, and what the memory keeps -/
theorem e_callV1i {i n ci b d1 : Nat} {q : Mt} {r : Int32} {Ψ : Mm → Prop} {stk : List Value} (As : List Value) (hd : decode y.2.1 pc = .ok (.invokevirtual i, 3)) (hm : MdV q n) (hlk : Cond.methodLink y.1.cls i q.1 ∈ TB) (hb : M.1.1[b]? = some (.inl ci)) (hci : ci < 7 ∧ Rz ci = q.1.cls) (hn : As.length = n) (hstk : stk = As.reverse ++ .ref b :: st) (hst : (st.map fun v => v.category).sum ≤ 8) (hdd : d1 + 1 ≤ d)
    (hct : Ct B q d1 0 0 (.ref b :: As) M (Rt (fun v N => v = some (.int r) ∧ Ψ N))) (kk : ∀ N, Ψ N → Ev B y d rc rs Φ (pc + 3) L (.int r :: st) N) : Ev B y d rc rs Φ pc L stk M :=
  e_callV1 As hd hm hlk hb hci hn hstk hst hdd hct (fun v N h => by obtain ⟨rfl, h2⟩ := h; exact kk N h2)
theorem e_callV1l {i n ci b d1 : Nat} {q : Mt} {r : Int64} {Ψ : Mm → Prop} {stk : List Value} (As : List Value) (hd : decode y.2.1 pc = .ok (.invokevirtual i, 3)) (hm : MdV q n) (hlk : Cond.methodLink y.1.cls i q.1 ∈ TB) (hb : M.1.1[b]? = some (.inl ci)) (hci : ci < 7 ∧ Rz ci = q.1.cls) (hn : As.length = n) (hstk : stk = As.reverse ++ .ref b :: st) (hst : (st.map fun v => v.category).sum ≤ 8) (hdd : d1 + 1 ≤ d)
    (hct : Ct B q d1 0 0 (.ref b :: As) M (Rt (fun v N => v = some (.long r) ∧ Ψ N))) (kk : ∀ N, Ψ N → Ev B y d rc rs Φ (pc + 3) L (.long r :: st) N) : Ev B y d rc rs Φ pc L stk M :=
  e_callV1 As hd hm hlk hb hci hn hstk hst hdd hct (fun v N h => by obtain ⟨rfl, h2⟩ := h; exact kk N h2)
end RJ
theorem c_fillJ {B : Bd} {M : Mm} {a n : Nat} {v : Int64} (h0 : M.1.2 = false) (ha : M.1.1[a]? = some (.inr (.long, n))) (hn : n < 2 ^ 31) : Ct B mJ7_fill_d0a16 0 0 0 [.ref a, .long v] M (Is none (sG M a n v)) := by
  refine Ct.ofJ (by decide) rfl (Nat.le_of_ble_eq_true rfl) ?_
  have loop : ∀ k i, i + k = n → Ev B mJ7_fill_d0a16 0 0 0 (Is none (sG M a n v)) 6 [some (.ref a), some (.long v), none, some (.int (nI i)), some (.int (nI n))] [] (sG M a i v) := by
    intro k
    induction k with
    | zero =>
      intro i hi
      refine e_iload_n dJ7_fill_d0a16_6 rfl rfl ?_
      refine e_iload dJ7_fill_d0a16_7 rfl ?_
      refine e_icmp_ge (tgt := 22) dJ7_fill_d0a16_9 (by decide) (fun hq => ?_) (fun hq => ?_)
      · have hin : i = n := by omega
        exact e_vret dJ7_fill_d0a16_22 rfl (⟨rfl, by rw [hin]⟩)
      · exact absurd (nI_le (by omega : n ≤ i) (by omega)) hq
    | succ k ih =>
      intro i hi
      refine e_iload_n dJ7_fill_d0a16_6 rfl rfl ?_
      refine e_iload dJ7_fill_d0a16_7 rfl ?_
      refine e_icmp_ge (tgt := 22) dJ7_fill_d0a16_9 (by decide) (fun hq => ?_) (fun hq => ?_)
      · exact absurd hq (nI_ge (by omega) hn)
      · refine e_aload_n dJ7_fill_d0a16_12 rfl rfl ?_
        refine e_iload_n dJ7_fill_d0a16_13 rfl rfl ?_
        refine e_lload_n dJ7_fill_d0a16_14 rfl rfl ?_
        refine e_lastore dJ7_fill_d0a16_15 (by exact h0) (by exact ha) (by exact vp_in_nI (by omega) hn) ?_
        refine e_iinc (v := nI (i + 1)) dJ7_fill_d0a16_16 rfl (nI_1 i) (by decide) rfl rfl ?_
        refine e_goto (tgt := 6) dJ7_fill_d0a16_19 (by decide) ?_
        rw [nI_clamp (by omega), sG_s]
        exact ih (i + 1) (by omega)
  refine e_iconst (v := 0) dJ7_fill_d0a16_0 (by decide) ?_
  refine e_istore_n dJ7_fill_d0a16_1 rfl (by decide) rfl rfl ?_
  refine e_aload_n dJ7_fill_d0a16_2 rfl rfl ?_
  refine e_alen (t0 := 3) dJ7_fill_d0a16_3 (by exact ha) (fun _ => rfl) ?_
  refine e_istore dJ7_fill_d0a16_4 (by decide) rfl rfl ?_
  have h := loop n 0 (by omega)
  have e : sG M a 0 v = M := by
    unfold sG
    obtain ⟨m1, m2, m3, m4⟩ := M
    congr 1
    congr 1
    congr 1
    funext b j
    simp
  rw [e] at h
  exact h

