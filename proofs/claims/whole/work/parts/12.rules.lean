section RL
variable {B : Bd} {y : Mt} {d rc rs : Nat} {Φ : Ot → Mm → Prop} {pc : Nat} {L : Lc} {st : List Value} {M : Mm}
theorem e_iconst {n : Int} {v : Int32} (hd : decode y.2.1 pc = .ok (.iconst n, 1)) (hv : Int32.ofInt n = v) (k : Ev B y d rc rs Φ (pc + 1) L (.int v :: st) M) : Ev B y d rc rs Φ pc L (st) M := by
  intro p e R s m args below meth c C ls H locs cells slots hl hR hS hc hs
  exact lv_iconst C.1.1 C.1.2.1 hd hv (k p e R s m args below meth c C ls H locs cells slots hl hR hS hc hs)
theorem e_bipush {n : Int} {v : Int32} (hd : decode y.2.1 pc = .ok (.bipush n, 2)) (hv : (Int8.ofInt n).toInt32 = v) (k : Ev B y d rc rs Φ (pc + 2) L (.int v :: st) M) : Ev B y d rc rs Φ pc L (st) M := by
  intro p e R s m args below meth c C ls H locs cells slots hl hR hS hc hs
  exact lv_bipush C.1.1 C.1.2.1 hd hv (k p e R s m args below meth c C ls H locs cells slots hl hR hS hc hs)
theorem e_sipush {n : Int} {v : Int32} (hd : decode y.2.1 pc = .ok (.sipush n, 3)) (hv : (Int16.ofInt n).toInt32 = v) (k : Ev B y d rc rs Φ (pc + 3) L (.int v :: st) M) : Ev B y d rc rs Φ pc L (st) M := by
  intro p e R s m args below meth c C ls H locs cells slots hl hR hS hc hs
  exact lv_sipush C.1.1 C.1.2.1 hd hv (k p e R s m args below meth c C ls H locs cells slots hl hR hS hc hs)
theorem e_lconst {n : Fin 2} {v : Int64} (hd : decode y.2.1 pc = .ok (.lconst n, 1)) (hv : Int64.ofNat (n : Nat) = v) (k : Ev B y d rc rs Φ (pc + 1) L (.long v :: st) M) : Ev B y d rc rs Φ pc L (st) M := by
  intro p e R s m args below meth c C ls H locs cells slots hl hR hS hc hs
  exact lv_lconst C.1.1 C.1.2.1 hd hv (k p e R s m args below meth c C ls H locs cells slots hl hR hS hc hs)
theorem e_ldc {i : Nat} {v : Int32} (hd : decode y.2.1 pc = .ok (.ldc i, 2)) (hw : Cond.constant y.1.cls i v ∈ TB) (k : Ev B y d rc rs Φ (pc + 2) L (.int v :: st) M) : Ev B y d rc rs Φ pc L (st) M := by
  intro p e R s m args below meth c C ls H locs cells slots hl hR hS hc hs
  exact lv_ldc C.1.1 C.1.2.1 C.1.2.2.2.2 (C.2.1 _ hw) hd (k p e R s m args below meth c C ls H locs cells slots hl hR hS hc hs)
theorem e_ldcw {i : Nat} {v : Int32} (hd : decode y.2.1 pc = .ok (.ldc_w i, 3)) (hw : Cond.constant y.1.cls i v ∈ TB) (k : Ev B y d rc rs Φ (pc + 3) L (.int v :: st) M) : Ev B y d rc rs Φ pc L (st) M := by
  intro p e R s m args below meth c C ls H locs cells slots hl hR hS hc hs
  exact lv_ldcw C.1.1 C.1.2.1 C.1.2.2.2.2 (C.2.1 _ hw) hd (k p e R s m args below meth c C ls H locs cells slots hl hR hS hc hs)
theorem e_ldc2 {i : Nat} {v : Int64} (hd : decode y.2.1 pc = .ok (.ldc2_w i, 3)) (hw : Cond.constantLong y.1.cls i v ∈ TB) (k : Ev B y d rc rs Φ (pc + 3) L (.long v :: st) M) : Ev B y d rc rs Φ pc L (st) M := by
  intro p e R s m args below meth c C ls H locs cells slots hl hR hS hc hs
  exact lv_ldc2 C.1.1 C.1.2.1 C.1.2.2.2.2 (C.2.1 _ hw) hd (k p e R s m args below meth c C ls H locs cells slots hl hR hS hc hs)
theorem e_ldcS {i k0 : Nat} {tx : String} (hd : decode y.2.1 pc = .ok (.ldc i, 2)) (hw : (y.1.cls, i, tx, k0) ∈ ldcs) (k : Ev B y d rc rs Φ (pc + 2) L (.ref (1000001 + k0) :: st) M) : Ev B y d rc rs Φ pc L (st) M := by
  intro p e R s m args below meth c C ls H locs cells slots hl hR hS hc hs
  exact va_ldcS C.1.1 C.1.2.1 C.1.2.2.2.2 (C.2.2.2.2.1.2.2.1 _ hw) hd (k p e R s m args below meth c C ls H locs cells slots hl hR hS hc hs)
theorem e_iload_n {n : Fin 4} {i : Nat} {x : Int32} (hd : decode y.2.1 pc = .ok (.iload_n n, 1)) (hi : (n : Nat) = i) (hx : L[i]? = some (some (.int x))) (k : Ev B y d rc rs Φ (pc + 1) L (.int x :: st) M) : Ev B y d rc rs Φ pc L (st) M := by
  intro p e R s m args below meth c C ls H locs cells slots hl hR hS hc hs
  exact lv_iload_n C.1.1 C.1.2.1 hd hi (hl.at hx) (k p e R s m args below meth c C ls H locs cells slots hl hR hS hc hs)
theorem e_iload {i : Nat} {x : Int32} (hd : decode y.2.1 pc = .ok (.iload i, 2)) (hx : L[i]? = some (some (.int x))) (k : Ev B y d rc rs Φ (pc + 2) L (.int x :: st) M) : Ev B y d rc rs Φ pc L (st) M := by
  intro p e R s m args below meth c C ls H locs cells slots hl hR hS hc hs
  exact lv_iload C.1.1 C.1.2.1 hd (hl.at hx) (k p e R s m args below meth c C ls H locs cells slots hl hR hS hc hs)
theorem e_lload_n {n : Fin 4} {i : Nat} {x : Int64} (hd : decode y.2.1 pc = .ok (.lload_n n, 1)) (hi : (n : Nat) = i) (hx : L[i]? = some (some (.long x))) (k : Ev B y d rc rs Φ (pc + 1) L (.long x :: st) M) : Ev B y d rc rs Φ pc L (st) M := by
  intro p e R s m args below meth c C ls H locs cells slots hl hR hS hc hs
  exact lv_lload_n C.1.1 C.1.2.1 hd hi (hl.at hx) (k p e R s m args below meth c C ls H locs cells slots hl hR hS hc hs)
theorem e_lload {i : Nat} {x : Int64} (hd : decode y.2.1 pc = .ok (.lload i, 2)) (hx : L[i]? = some (some (.long x))) (k : Ev B y d rc rs Φ (pc + 2) L (.long x :: st) M) : Ev B y d rc rs Φ pc L (st) M := by
  intro p e R s m args below meth c C ls H locs cells slots hl hR hS hc hs
  exact lv_lload C.1.1 C.1.2.1 hd (hl.at hx) (k p e R s m args below meth c C ls H locs cells slots hl hR hS hc hs)
theorem e_aload_n {n : Fin 4} {i x : Nat} (hd : decode y.2.1 pc = .ok (.aload_n n, 1)) (hi : (n : Nat) = i) (hx : L[i]? = some (some (.ref x))) (k : Ev B y d rc rs Φ (pc + 1) L (.ref x :: st) M) : Ev B y d rc rs Φ pc L (st) M := by
  intro p e R s m args below meth c C ls H locs cells slots hl hR hS hc hs
  exact lv_aload_n C.1.1 C.1.2.1 hd hi (hl.at hx) (k p e R s m args below meth c C ls H locs cells slots hl hR hS hc hs)
theorem e_aload {i x : Nat} (hd : decode y.2.1 pc = .ok (.aload i, 2)) (hx : L[i]? = some (some (.ref x))) (k : Ev B y d rc rs Φ (pc + 2) L (.ref x :: st) M) : Ev B y d rc rs Φ pc L (st) M := by
  intro p e R s m args below meth c C ls H locs cells slots hl hR hS hc hs
  exact lv_aload C.1.1 C.1.2.1 hd (hl.at hx) (k p e R s m args below meth c C ls H locs cells slots hl hR hS hc hs)
theorem e_istore_n {n : Fin 4} {i : Nat} {x : Int32} {L' : Lc} (hd : decode y.2.1 pc = .ok (.istore_n n, 1)) (hi : (n : Nat) = i) (hn : i < y.2.2.1) (hg : nlg L i = true) (hL : (L.set i (some (.int x))) = L') (k : Ev B y d rc rs Φ (pc + 1) L' st M) : Ev B y d rc rs Φ pc L (.int x :: st) M := by
  intro p e R s m args below meth c C ls H locs cells slots hl hR hS hc hs
  subst hL
  exact lv_istore_n C.1.1 C.1.2.1 hd hi hl.has hn rfl (fun ls' h' => k p e R s m args below meth c C ls' H locs cells slots (LR.st1 (v := .int x) hg h') hR hS hc hs)
theorem e_istore {i : Nat} {x : Int32} {L' : Lc} (hd : decode y.2.1 pc = .ok (.istore i, 2)) (hn : i < y.2.2.1) (hg : nlg L i = true) (hL : (L.set i (some (.int x))) = L') (k : Ev B y d rc rs Φ (pc + 2) L' st M) : Ev B y d rc rs Φ pc L (.int x :: st) M := by
  intro p e R s m args below meth c C ls H locs cells slots hl hR hS hc hs
  subst hL
  exact lv_istore C.1.1 C.1.2.1 hd hl.has hn rfl (fun ls' h' => k p e R s m args below meth c C ls' H locs cells slots (LR.st1 (v := .int x) hg h') hR hS hc hs)
theorem e_astore_n {n : Fin 4} {i : Nat} {x : Nat} {L' : Lc} (hd : decode y.2.1 pc = .ok (.astore_n n, 1)) (hi : (n : Nat) = i) (hn : i < y.2.2.1) (hg : nlg L i = true) (hL : (L.set i (some (.ref x))) = L') (k : Ev B y d rc rs Φ (pc + 1) L' st M) : Ev B y d rc rs Φ pc L (.ref x :: st) M := by
  intro p e R s m args below meth c C ls H locs cells slots hl hR hS hc hs
  subst hL
  exact lv_astore_n C.1.1 C.1.2.1 hd hi hl.has hn rfl (fun ls' h' => k p e R s m args below meth c C ls' H locs cells slots (LR.st1 (v := .ref x) hg h') hR hS hc hs)
theorem e_astore {i : Nat} {x : Nat} {L' : Lc} (hd : decode y.2.1 pc = .ok (.astore i, 2)) (hn : i < y.2.2.1) (hg : nlg L i = true) (hL : (L.set i (some (.ref x))) = L') (k : Ev B y d rc rs Φ (pc + 2) L' st M) : Ev B y d rc rs Φ pc L (.ref x :: st) M := by
  intro p e R s m args below meth c C ls H locs cells slots hl hR hS hc hs
  subst hL
  exact lv_astore C.1.1 C.1.2.1 hd hl.has hn rfl (fun ls' h' => k p e R s m args below meth c C ls' H locs cells slots (LR.st1 (v := .ref x) hg h') hR hS hc hs)
theorem e_lstore_n {n : Fin 4} {i : Nat} {x : Int64} {L' : Lc} (hd : decode y.2.1 pc = .ok (.lstore_n n, 1)) (hi : (n : Nat) = i) (hn : i + 1 < y.2.2.1) (hg : nlg L i = true) (hL : ((L.set i (some (.long x))).set (i + 1) none) = L') (k : Ev B y d rc rs Φ (pc + 1) L' st M) : Ev B y d rc rs Φ pc L (.long x :: st) M := by
  intro p e R s m args below meth c C ls H locs cells slots hl hR hS hc hs
  subst hL
  exact lv_lstore_n C.1.1 C.1.2.1 hd hi hl.has hn rfl (fun ls' h' => k p e R s m args below meth c C ls' H locs cells slots (LR.st2 (v := .long x) hg h') hR hS hc hs)
theorem e_lstore {i : Nat} {x : Int64} {L' : Lc} (hd : decode y.2.1 pc = .ok (.lstore i, 2)) (hn : i + 1 < y.2.2.1) (hg : nlg L i = true) (hL : ((L.set i (some (.long x))).set (i + 1) none) = L') (k : Ev B y d rc rs Φ (pc + 2) L' st M) : Ev B y d rc rs Φ pc L (.long x :: st) M := by
  intro p e R s m args below meth c C ls H locs cells slots hl hR hS hc hs
  subst hL
  exact lv_lstore C.1.1 C.1.2.1 hd hl.has hn rfl (fun ls' h' => k p e R s m args below meth c C ls' H locs cells slots (LR.st2 (v := .long x) hg h') hR hS hc hs)
theorem e_iinc {i : Nat} {n : Int} {x v : Int32} {L' : Lc} (hd : decode y.2.1 pc = .ok (.iinc i n, 3)) (hx : L[i]? = some (some (.int x))) (hv : x + Int32.ofInt n = v) (hn : i < y.2.2.1) (hg : nlg L i = true) (hL : L.set i (some (.int v)) = L') (k : Ev B y d rc rs Φ (pc + 3) L' st M) : Ev B y d rc rs Φ pc L st M := by
  intro p e R s m args below meth c C ls H locs cells slots hl hR hS hc hs
  subst hL
  obtain ⟨k9, hk9⟩ := List.getElem?_of_mem (lvOf_mem.mpr ⟨_, hx, rfl⟩)
  exact lv_iinc C.1.1 C.1.2.1 hd hl.has (k := k9) hk9 hv hn rfl (fun ls' h' => k p e R s m args below meth c C ls' H locs cells slots (LR.st1 (v := .int v) hg h') hR hS hc hs)
theorem e_iadd {x z : Int32} (hd : decode y.2.1 pc = .ok (.iadd, 1)) (k : Ev B y d rc rs Φ (pc + 1) L (.int (x + z) :: st) M) : Ev B y d rc rs Φ pc L (.int z :: .int x :: st) M := by
  intro p e R s m args below meth c C ls H locs cells slots hl hR hS hc hs
  exact lv_iadd C.1.1 C.1.2.1 hd (k p e R s m args below meth c C ls H locs cells slots hl hR hS hc hs)
theorem e_isub {x z : Int32} (hd : decode y.2.1 pc = .ok (.isub, 1)) (k : Ev B y d rc rs Φ (pc + 1) L (.int (x - z) :: st) M) : Ev B y d rc rs Φ pc L (.int z :: .int x :: st) M := by
  intro p e R s m args below meth c C ls H locs cells slots hl hR hS hc hs
  exact lv_isub C.1.1 C.1.2.1 hd (k p e R s m args below meth c C ls H locs cells slots hl hR hS hc hs)
theorem e_imul {x z : Int32} (hd : decode y.2.1 pc = .ok (.imul, 1)) (k : Ev B y d rc rs Φ (pc + 1) L (.int (x * z) :: st) M) : Ev B y d rc rs Φ pc L (.int z :: .int x :: st) M := by
  intro p e R s m args below meth c C ls H locs cells slots hl hR hS hc hs
  exact lv_imul C.1.1 C.1.2.1 hd (k p e R s m args below meth c C ls H locs cells slots hl hR hS hc hs)
theorem e_iand {x z : Int32} (hd : decode y.2.1 pc = .ok (.iand, 1)) (k : Ev B y d rc rs Φ (pc + 1) L (.int (x &&& z) :: st) M) : Ev B y d rc rs Φ pc L (.int z :: .int x :: st) M := by
  intro p e R s m args below meth c C ls H locs cells slots hl hR hS hc hs
  exact lv_iand C.1.1 C.1.2.1 hd (k p e R s m args below meth c C ls H locs cells slots hl hR hS hc hs)
theorem e_ior {x z : Int32} (hd : decode y.2.1 pc = .ok (.ior, 1)) (k : Ev B y d rc rs Φ (pc + 1) L (.int (x ||| z) :: st) M) : Ev B y d rc rs Φ pc L (.int z :: .int x :: st) M := by
  intro p e R s m args below meth c C ls H locs cells slots hl hR hS hc hs
  exact lv_ior C.1.1 C.1.2.1 hd (k p e R s m args below meth c C ls H locs cells slots hl hR hS hc hs)
theorem e_ixor {x z : Int32} (hd : decode y.2.1 pc = .ok (.ixor, 1)) (k : Ev B y d rc rs Φ (pc + 1) L (.int (x ^^^ z) :: st) M) : Ev B y d rc rs Φ pc L (.int z :: .int x :: st) M := by
  intro p e R s m args below meth c C ls H locs cells slots hl hR hS hc hs
  exact lv_ixor C.1.1 C.1.2.1 hd (k p e R s m args below meth c C ls H locs cells slots hl hR hS hc hs)
theorem e_ishl {x z : Int32} (hd : decode y.2.1 pc = .ok (.ishl, 1)) (k : Ev B y d rc rs Φ (pc + 1) L (.int (x <<< (z &&& 31)) :: st) M) : Ev B y d rc rs Φ pc L (.int z :: .int x :: st) M := by
  intro p e R s m args below meth c C ls H locs cells slots hl hR hS hc hs
  exact lv_ishl C.1.1 C.1.2.1 hd (k p e R s m args below meth c C ls H locs cells slots hl hR hS hc hs)
theorem e_ishr {x z : Int32} (hd : decode y.2.1 pc = .ok (.ishr, 1)) (k : Ev B y d rc rs Φ (pc + 1) L (.int (x >>> (z &&& 31)) :: st) M) : Ev B y d rc rs Φ pc L (.int z :: .int x :: st) M := by
  intro p e R s m args below meth c C ls H locs cells slots hl hR hS hc hs
  exact lv_ishr C.1.1 C.1.2.1 hd (k p e R s m args below meth c C ls H locs cells slots hl hR hS hc hs)
theorem e_irem {x z : Int32} (hd : decode y.2.1 pc = .ok (.irem, 1)) (hz : ¬ z = 0) (k : Ev B y d rc rs Φ (pc + 1) L (.int (x - x / z * z) :: st) M) : Ev B y d rc rs Φ pc L (.int z :: .int x :: st) M := by
  intro p e R s m args below meth c C ls H locs cells slots hl hR hS hc hs
  exact lv_irem C.1.1 C.1.2.1 hd hz (k p e R s m args below meth c C ls H locs cells slots hl hR hS hc hs)
theorem e_iushr {x z : Int32} (hd : decode y.2.1 pc = .ok (.iushr, 1)) (k : Ev B y d rc rs Φ (pc + 1) L (.int ((x.toUInt32 >>> (z.toUInt32 &&& Int32.toUInt32 31)).toInt32) :: st) M) : Ev B y d rc rs Φ pc L (.int z :: .int x :: st) M := by
  intro p e R s m args below meth c C ls H locs cells slots hl hR hS hc hs
  exact lv_iushr C.1.1 C.1.2.1 hd rfl (k p e R s m args below meth c C ls H locs cells slots hl hR hS hc hs)
theorem e_ladd {x z : Int64} (hd : decode y.2.1 pc = .ok (.ladd, 1)) (k : Ev B y d rc rs Φ (pc + 1) L (.long (x + z) :: st) M) : Ev B y d rc rs Φ pc L (.long z :: .long x :: st) M := by
  intro p e R s m args below meth c C ls H locs cells slots hl hR hS hc hs
  exact lv_ladd C.1.1 C.1.2.1 hd (k p e R s m args below meth c C ls H locs cells slots hl hR hS hc hs)
theorem e_lmul {x z : Int64} (hd : decode y.2.1 pc = .ok (.lmul, 1)) (k : Ev B y d rc rs Φ (pc + 1) L (.long (x * z) :: st) M) : Ev B y d rc rs Φ pc L (.long z :: .long x :: st) M := by
  intro p e R s m args below meth c C ls H locs cells slots hl hR hS hc hs
  exact lv_lmul C.1.1 C.1.2.1 hd (k p e R s m args below meth c C ls H locs cells slots hl hR hS hc hs)
theorem e_land {x z : Int64} (hd : decode y.2.1 pc = .ok (.land, 1)) (k : Ev B y d rc rs Φ (pc + 1) L (.long (x &&& z) :: st) M) : Ev B y d rc rs Φ pc L (.long z :: .long x :: st) M := by
  intro p e R s m args below meth c C ls H locs cells slots hl hR hS hc hs
  exact lv_land C.1.1 C.1.2.1 hd (k p e R s m args below meth c C ls H locs cells slots hl hR hS hc hs)
theorem e_lor {x z : Int64} (hd : decode y.2.1 pc = .ok (.lor, 1)) (k : Ev B y d rc rs Φ (pc + 1) L (.long (x ||| z) :: st) M) : Ev B y d rc rs Φ pc L (.long z :: .long x :: st) M := by
  intro p e R s m args below meth c C ls H locs cells slots hl hR hS hc hs
  exact lv_lor C.1.1 C.1.2.1 hd (k p e R s m args below meth c C ls H locs cells slots hl hR hS hc hs)
theorem e_lshl {x : Int64} {z : Int32} (hd : decode y.2.1 pc = .ok (.lshl, 1)) (k : Ev B y d rc rs Φ (pc + 1) L (.long (x <<< (z.toInt64 &&& 63)) :: st) M) : Ev B y d rc rs Φ pc L (.int z :: .long x :: st) M := by
  intro p e R s m args below meth c C ls H locs cells slots hl hR hS hc hs
  exact lv_lshl C.1.1 C.1.2.1 hd rfl (k p e R s m args below meth c C ls H locs cells slots hl hR hS hc hs)
theorem e_lshr {x : Int64} {z : Int32} (hd : decode y.2.1 pc = .ok (.lshr, 1)) (k : Ev B y d rc rs Φ (pc + 1) L (.long (x >>> (z.toInt64 &&& 63)) :: st) M) : Ev B y d rc rs Φ pc L (.int z :: .long x :: st) M := by
  intro p e R s m args below meth c C ls H locs cells slots hl hR hS hc hs
  exact lv_lshr C.1.1 C.1.2.1 hd rfl (k p e R s m args below meth c C ls H locs cells slots hl hR hS hc hs)
theorem e_lcmp {x z : Int64} (hd : decode y.2.1 pc = .ok (.lcmp, 1)) (k : Ev B y d rc rs Φ (pc + 1) L (.int (lg_cmp x z) :: st) M) : Ev B y d rc rs Φ pc L (.long z :: .long x :: st) M := by
  intro p e R s m args below meth c C ls H locs cells slots hl hR hS hc hs
  exact W.lcmp C.1.1 C.1.2.1 hd (k p e R s m args below meth c C ls H locs cells slots hl hR hS hc hs)
theorem e_i2l {x : Int32} (hd : decode y.2.1 pc = .ok (.i2l, 1)) (k : Ev B y d rc rs Φ (pc + 1) L (.long x.toInt64 :: st) M) : Ev B y d rc rs Φ pc L (.int x :: st) M := by
  intro p e R s m args below meth c C ls H locs cells slots hl hR hS hc hs
  exact lv_i2l C.1.1 C.1.2.1 hd rfl (k p e R s m args below meth c C ls H locs cells slots hl hR hS hc hs)
theorem e_l2i {x : Int64} (hd : decode y.2.1 pc = .ok (.l2i, 1)) (k : Ev B y d rc rs Φ (pc + 1) L (.int x.toInt32 :: st) M) : Ev B y d rc rs Φ pc L (.long x :: st) M := by
  intro p e R s m args below meth c C ls H locs cells slots hl hR hS hc hs
  exact lv_l2i C.1.1 C.1.2.1 hd rfl (k p e R s m args below meth c C ls H locs cells slots hl hR hS hc hs)
theorem e_i2b {x : Int32} (hd : decode y.2.1 pc = .ok (.i2b, 1)) (k : Ev B y d rc rs Φ (pc + 1) L (.int x.toInt8.toInt32 :: st) M) : Ev B y d rc rs Φ pc L (.int x :: st) M := by
  intro p e R s m args below meth c C ls H locs cells slots hl hR hS hc hs
  exact lv_i2b C.1.1 C.1.2.1 hd rfl (k p e R s m args below meth c C ls H locs cells slots hl hR hS hc hs)
theorem e_i2c {x : Int32} (hd : decode y.2.1 pc = .ok (.i2c, 1)) (k : Ev B y d rc rs Φ (pc + 1) L (.int (x.toUInt32 % 65536).toInt32 :: st) M) : Ev B y d rc rs Φ pc L (.int x :: st) M := by
  intro p e R s m args below meth c C ls H locs cells slots hl hR hS hc hs
  exact lv_i2c C.1.1 C.1.2.1 hd rfl (k p e R s m args below meth c C ls H locs cells slots hl hR hS hc hs)
theorem e_dup {v : Value} (hd : decode y.2.1 pc = .ok (.dup, 1)) (hv : v.category = 1) (k : Ev B y d rc rs Φ (pc + 1) L (v :: v :: st) M) : Ev B y d rc rs Φ pc L (v :: st) M := by
  intro p e R s m args below meth c C ls H locs cells slots hl hR hS hc hs
  exact lv_dup C.1.1 C.1.2.1 hd ((tr_cat _ _).trans hv) (k p e R s m args below meth c C ls H locs cells slots hl hR hS hc hs)
theorem e_pop {v : Value} (hd : decode y.2.1 pc = .ok (.pop, 1)) (hv : v.category = 1) (k : Ev B y d rc rs Φ (pc + 1) L (st) M) : Ev B y d rc rs Φ pc L (v :: st) M := by
  intro p e R s m args below meth c C ls H locs cells slots hl hR hS hc hs
  exact lv_pop C.1.1 C.1.2.1 hd ((tr_cat _ _).trans hv) (k p e R s m args below meth c C ls H locs cells slots hl hR hS hc hs)
theorem e_dup2 {v w : Value} (hd : decode y.2.1 pc = .ok (.dup2, 1)) (hv : v.category = 1) (hw : w.category = 1) (k : Ev B y d rc rs Φ (pc + 1) L (v :: w :: v :: w :: st) M) : Ev B y d rc rs Φ pc L (v :: w :: st) M := by
  intro p e R s m args below meth c C ls H locs cells slots hl hR hS hc hs
  exact lv_dup2_11 C.1.1 C.1.2.1 hd ((tr_cat _ _).trans hv) ((tr_cat _ _).trans hw) (k p e R s m args below meth c C ls H locs cells slots hl hR hS hc hs)
theorem e_if_eq {x : Int32} {off : Int} {tgt : Nat} (hd : decode y.2.1 pc = .ok (.ifCond .eq off, 3)) (ht : (pc : Int) + off = (tgt : Int)) (kt : x = 0 → Ev B y d rc rs Φ tgt L st M) (kf : ¬ (x = 0) → Ev B y d rc rs Φ (pc + 3) L st M) : Ev B y d rc rs Φ pc L (.int x :: st) M := by
  intro p e R s m args below meth c C ls H locs cells slots hl hR hS hc hs
  exact lv_if_eq C.1.1 C.1.2.1 hd ht (fun h => kt h p e R s m args below meth c C ls H locs cells slots hl hR hS hc hs) (fun h => kf h p e R s m args below meth c C ls H locs cells slots hl hR hS hc hs)
theorem e_if_ne {x : Int32} {off : Int} {tgt : Nat} (hd : decode y.2.1 pc = .ok (.ifCond .ne off, 3)) (ht : (pc : Int) + off = (tgt : Int)) (kt : ¬ x = 0 → Ev B y d rc rs Φ tgt L st M) (kf : x = 0 → Ev B y d rc rs Φ (pc + 3) L st M) : Ev B y d rc rs Φ pc L (.int x :: st) M := by
  intro p e R s m args below meth c C ls H locs cells slots hl hR hS hc hs
  exact lv_if_ne C.1.1 C.1.2.1 hd ht (fun h => kt h p e R s m args below meth c C ls H locs cells slots hl hR hS hc hs) (fun h => kf h p e R s m args below meth c C ls H locs cells slots hl hR hS hc hs)
theorem e_if_lt {x : Int32} {off : Int} {tgt : Nat} (hd : decode y.2.1 pc = .ok (.ifCond .lt off, 3)) (ht : (pc : Int) + off = (tgt : Int)) (kt : x < 0 → Ev B y d rc rs Φ tgt L st M) (kf : ¬ (x < 0) → Ev B y d rc rs Φ (pc + 3) L st M) : Ev B y d rc rs Φ pc L (.int x :: st) M := by
  intro p e R s m args below meth c C ls H locs cells slots hl hR hS hc hs
  exact lv_if_lt C.1.1 C.1.2.1 hd ht (fun h => kt h p e R s m args below meth c C ls H locs cells slots hl hR hS hc hs) (fun h => kf h p e R s m args below meth c C ls H locs cells slots hl hR hS hc hs)
theorem e_if_ge {x : Int32} {off : Int} {tgt : Nat} (hd : decode y.2.1 pc = .ok (.ifCond .ge off, 3)) (ht : (pc : Int) + off = (tgt : Int)) (kt : 0 ≤ x → Ev B y d rc rs Φ tgt L st M) (kf : ¬ (0 ≤ x) → Ev B y d rc rs Φ (pc + 3) L st M) : Ev B y d rc rs Φ pc L (.int x :: st) M := by
  intro p e R s m args below meth c C ls H locs cells slots hl hR hS hc hs
  exact lv_if_ge C.1.1 C.1.2.1 hd ht (fun h => kt h p e R s m args below meth c C ls H locs cells slots hl hR hS hc hs) (fun h => kf h p e R s m args below meth c C ls H locs cells slots hl hR hS hc hs)
theorem e_if_gt {x : Int32} {off : Int} {tgt : Nat} (hd : decode y.2.1 pc = .ok (.ifCond .gt off, 3)) (ht : (pc : Int) + off = (tgt : Int)) (kt : 0 < x → Ev B y d rc rs Φ tgt L st M) (kf : ¬ (0 < x) → Ev B y d rc rs Φ (pc + 3) L st M) : Ev B y d rc rs Φ pc L (.int x :: st) M := by
  intro p e R s m args below meth c C ls H locs cells slots hl hR hS hc hs
  exact lv_if_gt C.1.1 C.1.2.1 hd ht (fun h => kt h p e R s m args below meth c C ls H locs cells slots hl hR hS hc hs) (fun h => kf h p e R s m args below meth c C ls H locs cells slots hl hR hS hc hs)
theorem e_if_le {x : Int32} {off : Int} {tgt : Nat} (hd : decode y.2.1 pc = .ok (.ifCond .le off, 3)) (ht : (pc : Int) + off = (tgt : Int)) (kt : x ≤ 0 → Ev B y d rc rs Φ tgt L st M) (kf : ¬ (x ≤ 0) → Ev B y d rc rs Φ (pc + 3) L st M) : Ev B y d rc rs Φ pc L (.int x :: st) M := by
  intro p e R s m args below meth c C ls H locs cells slots hl hR hS hc hs
  exact lv_if_le C.1.1 C.1.2.1 hd ht (fun h => kt h p e R s m args below meth c C ls H locs cells slots hl hR hS hc hs) (fun h => kf h p e R s m args below meth c C ls H locs cells slots hl hR hS hc hs)
theorem e_icmp_eq {x z : Int32} {off : Int} {tgt : Nat} (hd : decode y.2.1 pc = .ok (.if_icmp .eq off, 3)) (ht : (pc : Int) + off = (tgt : Int)) (kt : x = z → Ev B y d rc rs Φ tgt L st M) (kf : ¬ (x = z) → Ev B y d rc rs Φ (pc + 3) L st M) : Ev B y d rc rs Φ pc L (.int z :: .int x :: st) M := by
  intro p e R s m args below meth c C ls H locs cells slots hl hR hS hc hs
  exact lv_icmp_eq C.1.1 C.1.2.1 hd ht (fun h => kt h p e R s m args below meth c C ls H locs cells slots hl hR hS hc hs) (fun h => kf h p e R s m args below meth c C ls H locs cells slots hl hR hS hc hs)
theorem e_icmp_ne {x z : Int32} {off : Int} {tgt : Nat} (hd : decode y.2.1 pc = .ok (.if_icmp .ne off, 3)) (ht : (pc : Int) + off = (tgt : Int)) (kt : ¬ x = z → Ev B y d rc rs Φ tgt L st M) (kf : x = z → Ev B y d rc rs Φ (pc + 3) L st M) : Ev B y d rc rs Φ pc L (.int z :: .int x :: st) M := by
  intro p e R s m args below meth c C ls H locs cells slots hl hR hS hc hs
  exact lv_icmp_ne C.1.1 C.1.2.1 hd ht (fun h => kt h p e R s m args below meth c C ls H locs cells slots hl hR hS hc hs) (fun h => kf h p e R s m args below meth c C ls H locs cells slots hl hR hS hc hs)
theorem e_icmp_lt {x z : Int32} {off : Int} {tgt : Nat} (hd : decode y.2.1 pc = .ok (.if_icmp .lt off, 3)) (ht : (pc : Int) + off = (tgt : Int)) (kt : x < z → Ev B y d rc rs Φ tgt L st M) (kf : ¬ (x < z) → Ev B y d rc rs Φ (pc + 3) L st M) : Ev B y d rc rs Φ pc L (.int z :: .int x :: st) M := by
  intro p e R s m args below meth c C ls H locs cells slots hl hR hS hc hs
  exact lv_icmp_lt C.1.1 C.1.2.1 hd ht (fun h => kt h p e R s m args below meth c C ls H locs cells slots hl hR hS hc hs) (fun h => kf h p e R s m args below meth c C ls H locs cells slots hl hR hS hc hs)
theorem e_icmp_ge {x z : Int32} {off : Int} {tgt : Nat} (hd : decode y.2.1 pc = .ok (.if_icmp .ge off, 3)) (ht : (pc : Int) + off = (tgt : Int)) (kt : z ≤ x → Ev B y d rc rs Φ tgt L st M) (kf : ¬ (z ≤ x) → Ev B y d rc rs Φ (pc + 3) L st M) : Ev B y d rc rs Φ pc L (.int z :: .int x :: st) M := by
  intro p e R s m args below meth c C ls H locs cells slots hl hR hS hc hs
  exact lv_icmp_ge C.1.1 C.1.2.1 hd ht (fun h => kt h p e R s m args below meth c C ls H locs cells slots hl hR hS hc hs) (fun h => kf h p e R s m args below meth c C ls H locs cells slots hl hR hS hc hs)
theorem e_icmp_gt {x z : Int32} {off : Int} {tgt : Nat} (hd : decode y.2.1 pc = .ok (.if_icmp .gt off, 3)) (ht : (pc : Int) + off = (tgt : Int)) (kt : z < x → Ev B y d rc rs Φ tgt L st M) (kf : ¬ (z < x) → Ev B y d rc rs Φ (pc + 3) L st M) : Ev B y d rc rs Φ pc L (.int z :: .int x :: st) M := by
  intro p e R s m args below meth c C ls H locs cells slots hl hR hS hc hs
  exact lv_icmp_gt C.1.1 C.1.2.1 hd ht (fun h => kt h p e R s m args below meth c C ls H locs cells slots hl hR hS hc hs) (fun h => kf h p e R s m args below meth c C ls H locs cells slots hl hR hS hc hs)
theorem e_icmp_le {x z : Int32} {off : Int} {tgt : Nat} (hd : decode y.2.1 pc = .ok (.if_icmp .le off, 3)) (ht : (pc : Int) + off = (tgt : Int)) (kt : x ≤ z → Ev B y d rc rs Φ tgt L st M) (kf : ¬ (x ≤ z) → Ev B y d rc rs Φ (pc + 3) L st M) : Ev B y d rc rs Φ pc L (.int z :: .int x :: st) M := by
  intro p e R s m args below meth c C ls H locs cells slots hl hR hS hc hs
  exact lv_icmp_le C.1.1 C.1.2.1 hd ht (fun h => kt h p e R s m args below meth c C ls H locs cells slots hl hR hS hc hs) (fun h => kf h p e R s m args below meth c C ls H locs cells slots hl hR hS hc hs)
theorem e_goto {off : Int} {tgt : Nat} (hd : decode y.2.1 pc = .ok (.goto off, 3)) (ht : (pc : Int) + off = (tgt : Int)) (k : Ev B y d rc rs Φ tgt L st M) : Ev B y d rc rs Φ pc L st M := by
  intro p e R s m args below meth c C ls H locs cells slots hl hR hS hc hs
  exact lv_goto C.1.1 C.1.2.1 hd ht (k p e R s m args below meth c C ls H locs cells slots hl hR hS hc hs)
theorem e_swIn {dflt lo hi : Int} {offs : Array Int} {len : Nat} {x : Int32} {off : Int} {tgt : Nat} (hd : decode y.2.1 pc = .ok (.tableswitch dflt lo hi offs, len)) (h1 : ¬ x.toInt < lo) (h2 : ¬ hi < x.toInt) (ho : offs[(x.toInt - lo).toNat]? = some off) (ht : (pc : Int) + off = (tgt : Int)) (k : Ev B y d rc rs Φ tgt L st M) : Ev B y d rc rs Φ pc L (.int x :: st) M := by
  intro p e R s m args below meth c C ls H locs cells slots hl hR hS hc hs
  exact lv_tableIn C.1.1 C.1.2.1 hd h1 h2 ho ht (k p e R s m args below meth c C ls H locs cells slots hl hR hS hc hs)
theorem e_swOut {dflt lo hi : Int} {offs : Array Int} {len : Nat} {x : Int32} {tgt : Nat} (hd : decode y.2.1 pc = .ok (.tableswitch dflt lo hi offs, len)) (h : x.toInt < lo ∨ hi < x.toInt) (ht : (pc : Int) + dflt = (tgt : Int)) (k : Ev B y d rc rs Φ tgt L st M) : Ev B y d rc rs Φ pc L (.int x :: st) M := by
  intro p e R s m args below meth c C ls H locs cells slots hl hR hS hc hs
  exact lv_tableOut C.1.1 C.1.2.1 hd h ht (k p e R s m args below meth c C ls H locs cells slots hl hR hS hc hs)
end RL
