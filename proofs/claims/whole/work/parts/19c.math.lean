theorem mx_st : Cond.static Lib.Math.max.name ∈ TB := TB_in (List.mem_of_getElem? (i := 404) (by decide +kernel)) (by decide +kernel)
theorem mx_cd : Cond.code Lib.Math.max.name Lib.Math.max.code 2 (some .int) ∈ TB := TB_in (List.mem_of_getElem? (i := 405) (by decide +kernel)) (by decide +kernel)
theorem mn_st : Cond.static Lib.Math.min.name ∈ TB := TB_in (List.mem_of_getElem? (i := 410) (by decide +kernel)) (by decide +kernel)
theorem mn_cd : Cond.code Lib.Math.min.name Lib.Math.min.code 2 (some .int) ∈ TB := TB_in (List.mem_of_getElem? (i := 411) (by decide +kernel)) (by decide +kernel)
theorem mx_ini : Cond.initialized "java/lang/Math" ∈ TB := ini_RJ9
section RM
variable {B : Bd} {y : Mt} {d rc rs : Nat} {Φ : Ot → Mm → Prop} {pc : Nat} {L : Lc} {st : List Value} {M : Mm}
theorem e_mmax {i : Nat} {x z : Int32} (hd : decode y.2.1 pc = .ok (.invokestatic i, 3)) (hlk : Cond.methodLink y.1.cls i Lib.Math.max.name ∈ TB) (hst : (st.map fun v => v.category).sum ≤ 8) (hdd : 1 ≤ d) (k : Ev B y d rc rs Φ (pc + 3) L (.int (if x < z then z else x) :: st) M) : Ev B y d rc rs Φ pc L (.int z :: .int x :: st) M := by
  intro p e R s m args below meth c C ls H locs cells slots hl hR hS hc hs
  obtain ⟨hfr, hlo⟩ := C.2.2.2.2.2.2
  have hst' := cat8 hst (ba B)
  exact va_mmax C.1.1 C.1.2.1 (C.1.2.2.2.1.trans hl.1.symm) C.1.2.2.2.2 (C.2.1 _ hlk) (C.2.1 _ mx_st) (C.2.1 _ mx_ini) (C.2.1 _ mx_cd) (by omega) (by omega) (by omega) (by omega) hd (k p e R s m args below meth c C ls H locs cells slots hl hR hS hc hs)
theorem e_mmin {i : Nat} {x z : Int32} (hd : decode y.2.1 pc = .ok (.invokestatic i, 3)) (hlk : Cond.methodLink y.1.cls i Lib.Math.min.name ∈ TB) (hst : (st.map fun v => v.category).sum ≤ 8) (hdd : 1 ≤ d) (k : Ev B y d rc rs Φ (pc + 3) L (.int (if z < x then z else x) :: st) M) : Ev B y d rc rs Φ pc L (.int z :: .int x :: st) M := by
  intro p e R s m args below meth c C ls H locs cells slots hl hR hS hc hs
  obtain ⟨hfr, hlo⟩ := C.2.2.2.2.2.2
  have hst' := cat8 hst (ba B)
  exact va_mmin C.1.1 C.1.2.1 (C.1.2.2.2.1.trans hl.1.symm) C.1.2.2.2.2 (C.2.1 _ hlk) (C.2.1 _ mn_st) (C.2.1 _ mx_ini) (C.2.1 _ mn_cd) (by omega) (by omega) (by omega) (by omega) hd (k p e R s m args below meth c C ls H locs cells slots hl hR hS hc hs)
theorem e_mmaxN {i a b : Nat} (ha : a < 2 ^ 31) (hb : b < 2 ^ 31) (hd : decode y.2.1 pc = .ok (.invokestatic i, 3)) (hlk : Cond.methodLink y.1.cls i Lib.Math.max.name ∈ TB) (hst : (st.map fun v => v.category).sum ≤ 8) (hdd : 1 ≤ d) (k : Ev B y d rc rs Φ (pc + 3) L (.int (nI (max a b)) :: st) M) : Ev B y d rc rs Φ pc L (.int (nI b) :: .int (nI a) :: st) M := by
  refine e_mmax hd hlk hst hdd ?_
  have e : (if nI a < nI b then nI b else nI a) = nI (max a b) := by
    by_cases h : a < b
    · rw [if_pos (nI_lt h hb), Nat.max_eq_right (by omega)]
    · rw [if_neg (nI_nlt (by omega) ha), Nat.max_eq_left (by omega)]
  rw [e]; exact k
theorem e_mminN {i a b : Nat} (ha : a < 2 ^ 31) (hb : b < 2 ^ 31) (hd : decode y.2.1 pc = .ok (.invokestatic i, 3)) (hlk : Cond.methodLink y.1.cls i Lib.Math.min.name ∈ TB) (hst : (st.map fun v => v.category).sum ≤ 8) (hdd : 1 ≤ d) (k : Ev B y d rc rs Φ (pc + 3) L (.int (nI (min a b)) :: st) M) : Ev B y d rc rs Φ pc L (.int (nI b) :: .int (nI a) :: st) M := by
  refine e_mmin hd hlk hst hdd ?_
  have e : (if nI b < nI a then nI b else nI a) = nI (min a b) := by
    by_cases h : b < a
    · rw [if_pos (nI_lt h ha), Nat.min_eq_right (by omega)]
    · rw [if_neg (nI_nlt (by omega) hb), Nat.min_eq_left (by omega)]
  rw [e]; exact k
end RM
