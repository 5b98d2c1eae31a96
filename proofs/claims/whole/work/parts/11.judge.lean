-- values: logical to true ones
def tr (ad : Nat → Nat) (v : Value) : Value := match v with
  | .ref k => .ref (ad k)
  | v => v
theorem tr_cat (ad : Nat → Nat) (v : Value) : (tr ad v).category = v.category := by cases v <;> rfl
theorem tr_int (ad : Nat → Nat) (x : Int32) : tr ad (.int x) = .int x := rfl
theorem tr_long (ad : Nat → Nat) (x : Int64) : tr ad (.long x) = .long x := rfl
theorem tr_ref (ad : Nat → Nat) (x : Nat) : tr ad (.ref x) = .ref (ad x) := rfl
def rv (r : Option Nat) : Value := va_rf r
theorem tr_rv (ad : Nat → Nat) (r : Option Nat) : tr ad (va_rf r) = va_rf (r.map ad) := by cases r <;> rfl
-- locals
abbrev Lc : Type := List (Option Value)
def LR (ad : Nat → Nat) (ls : Array Slot) (nL : Nat) (L : Lc) : Prop := ls.size = nL ∧ lv_wf ls ∧ ∀ (i : Nat) (v : Value), L[i]? = some (some v) → ls[i]? = some (.val (tr ad v))
def lvOf (ad : Nat → Nat) (L : Lc) : List (Nat × Value) := L.zipIdx.filterMap (fun q => q.1.map (fun v => (q.2, tr ad v)))
theorem lvOf_mem {ad : Nat → Nat} {L : Lc} {i : Nat} {w : Value} : (i, w) ∈ lvOf ad L ↔ ∃ v, L[i]? = some (some v) ∧ w = tr ad v := by
  unfold lvOf
  rw [List.mem_filterMap]
  constructor
  · rintro ⟨⟨o, j⟩, h1, h2⟩
    have h3 := List.mk_mem_zipIdx_iff_getElem?.mp h1
    cases o with
    | none => cases h2
    | some v =>
      simp only [Option.map_some, Option.some.injEq, Prod.mk.injEq] at h2
      obtain ⟨rfl, rfl⟩ := h2
      exact ⟨v, h3, rfl⟩
  · rintro ⟨v, h1, rfl⟩
    exact ⟨(some v, i), List.mk_mem_zipIdx_iff_getElem?.mpr h1, rfl⟩
theorem LR.has {ad : Nat → Nat} {ls : Array Slot} {nL : Nat} {L : Lc} (h : LR ad ls nL L) : lv_has ls nL (lvOf ad L) := by
  refine ⟨h.1, h.2.1, fun q hq => ?_⟩
  obtain ⟨i, w⟩ := q
  obtain ⟨v, h1, rfl⟩ := lvOf_mem.mp hq
  exact h.2.2 i v h1
def nlg (L : Lc) (i : Nat) : Bool := match i with
  | 0 => true
  | j + 1 => match L[j]? with
    | some (some w) => !(w.category == 2)
    | _ => true
theorem LR.st1 {ad : Nat → Nat} {ls : Array Slot} {nL : Nat} {L : Lc} {i : Nat} {v : Value} (hn : nlg L i = true) (h : lv_has ls nL ((i, tr ad v) :: (lvOf ad L).filter (fun q => !(q.1 == i) && !(q.1 + 1 == i && q.2.category == 2)))) : LR ad ls nL (L.set i (some v)) := by
  refine ⟨h.1, h.2.1, fun j w hj => ?_⟩
  by_cases hji : j = i
  · subst hji
    have hlt : j < L.length := by
      have := (List.getElem?_eq_some_iff.mp hj).1
      rwa [List.length_set] at this
    rw [List.getElem?_set_self hlt] at hj
    simp only [Option.some.injEq] at hj
    subst hj
    exact h.2.2 (j, tr ad v) List.mem_cons_self
  · rw [List.getElem?_set_ne (Ne.symm hji)] at hj
    refine h.2.2 (j, tr ad w) (List.mem_cons_of_mem _ (List.mem_filter.mpr ⟨lvOf_mem.mpr ⟨w, hj, rfl⟩, ?_⟩))
    have h1 : (j == i) = false := by simpa using hji
    by_cases h2 : j + 1 = i
    · subst h2
      have hc : (w.category == 2) = false := by
        simp only [nlg, hj] at hn
        simpa using hn
      simp only [tr_cat]
      rw [h1, hc]; simp
    · have h3 : (j + 1 == i) = false := by simpa using h2
      simp only
      rw [h1, h3]; rfl
theorem LR.st2 {ad : Nat → Nat} {ls : Array Slot} {nL : Nat} {L : Lc} {i : Nat} {v : Value} (hn : nlg L i = true) (h : lv_has ls nL ((i, tr ad v) :: (lvOf ad L).filter (fun q => !(q.1 == i) && (!(q.1 == i + 1) && !(q.1 + 1 == i && q.2.category == 2))))) : LR ad ls nL ((L.set i (some v)).set (i + 1) none) := by
  refine ⟨h.1, h.2.1, fun j w hj => ?_⟩
  by_cases hj1 : j = i + 1
  · subst hj1
    have hlt : i + 1 < (L.set i (some v)).length := by
      have := (List.getElem?_eq_some_iff.mp hj).1
      rwa [List.length_set] at this
    rw [List.getElem?_set_self hlt] at hj
    cases hj
  · rw [List.getElem?_set_ne (Ne.symm hj1)] at hj
    by_cases hji : j = i
    · subst hji
      have hlt : j < L.length := by
        have := (List.getElem?_eq_some_iff.mp hj).1
        rwa [List.length_set] at this
      rw [List.getElem?_set_self hlt] at hj
      simp only [Option.some.injEq] at hj
      subst hj
      exact h.2.2 (j, tr ad v) List.mem_cons_self
    · rw [List.getElem?_set_ne (Ne.symm hji)] at hj
      refine h.2.2 (j, tr ad w) (List.mem_cons_of_mem _ (List.mem_filter.mpr ⟨lvOf_mem.mpr ⟨w, hj, rfl⟩, ?_⟩))
      have h1 : (j == i) = false := by simpa using hji
      have h4 : (j == i + 1) = false := by simpa using hj1
      by_cases h2 : j + 1 = i
      · subst h2
        have hc : (w.category == 2) = false := by
          simp only [nlg, hj] at hn
          simpa using hn
        simp only [tr_cat]
        rw [h1, h4, hc]; simp
      · have h3 : (j + 1 == i) = false := by simpa using h2
        simp only
        rw [h1, h4, h3]; rfl
theorem LR.at {ad : Nat → Nat} {ls : Array Slot} {nL : Nat} {L : Lc} (h : LR ad ls nL L) {i : Nat} {v : Value} (hi : L[i]? = some (some v)) : ls[i]? = some (.val (tr ad v)) := h.2.2 i v hi
-- the words
def TB : List Cond := lw_tbl.filter goodWord
theorem TB_good : GoodIn TB TB := fun w h => ⟨h, good_of_word (List.mem_filter.mp h).2⟩
theorem TB_in {w : Cond} (h : w ∈ lw_tbl) (hg : goodWord w = true) : w ∈ TB := List.mem_filter.mpr ⟨h, hg⟩
-- what stands outside: the script, the texts, statics, words that are kept apart
def slen : List Nat := [26, 5, 4, 4, 3, 4, 12, 19, 13]
def sbyt : List (List Int32) := [[97, 32, 110, 117, 109, 98, 101, 114, 32, 116, 104, 97, 116, 32, 105, 115, 32, 110, 111, 110, 101, 32, 115, 117, 99, 104], [110, 111, 100, 101, 115], [108, 105, 110, 101], [114, 105, 110, 103], [97, 108, 108], [112, 97, 105, 114], [110, 111, 32, 115, 117, 99, 104, 32, 110, 111, 100, 101], [110, 111, 116, 32, 97, 115, 32, 116, 104, 105, 110, 103, 115, 32, 115, 116, 97, 110, 100], [110, 111, 32, 115, 117, 99, 104, 32, 112, 108, 97, 99, 101]]
def ldcs : List (String × Nat × String × Nat) := [(RX5, 271, "a number that is none such", 0), (RX3, 56, "nodes", 1), (RX3, 73, "line", 2), (RX3, 78, "ring", 3), (RX3, 82, "all", 4), (RX3, 87, "pair", 5), (RX5, 264, "no such node", 6), (RX5, 276, "not as things stand", 7), (RX5, 279, "no such place", 8), (RX6, 163, "nodes", 1), (RX6, 137, "line", 2), (RX6, 143, "ring", 3), (RX6, 148, "all", 4), (RX6, 150, "pair", 5)]
def nests : List (String × Nat × MethodName) := [(RX5, 55, yX2_init), (RX5, 62, yX4_init), (RX1, 44, yX5_hasBit), (RX0, 50, yX5_hasBit), (RX3, 104, yX5_hasBit), (RX4, 74, yX5_hasBit)]
abbrev xNS : String := "java/util/NoSuchElementException"
abbrev xIA : String := "java/lang/IllegalArgumentException"
abbrev xIS : String := "java/lang/IllegalStateException"
def ncs : List (String × String) := [(xNS, xIA), (xIS, xIA), (xIA, xNS), (xIS, xNS), (xIA, xIS), (xNS, xIS)]
def excs : List String := [xNS, xIA, xIS]
def sups : List String := ["java/lang/RuntimeException", "java/lang/Exception", "java/lang/Throwable"]
def AOA (U : State) : Prop := (Cond.arrayOver (.array .int)).before #[] U = true
theorem AOA.moved {u U : State} (hvm : u.vm.Alike U.vm) (h : AOA u) : AOA U := by
  have hi : ∀ comp : ClassId, (U.vm.classes.findIdx? fun (x : Class) => match x.kind with | .array component _ => component == comp | _ => false) = (u.vm.classes.findIdx? fun (x : Class) => match x.kind with | .array component _ => component == comp | _ => false) := by
    intro comp
    refine Eq.trans (va_idx_bare U.vm comp).symm (Eq.trans ?_ (va_idx_bare u.vm comp))
    first | rw [hvm.bare_eq] | rw [← hvm.bare_eq]
  unfold AOA Cond.before Cond.holds at h ⊢
  simp only [Cond.value] at h ⊢
  rw [hvm.findClass]
  cases hc : u.vm.findClass (FieldType.array FieldType.int).toString with
  | none => rw [hc] at h; simp at h
  | some comp =>
    rw [hc, Option.bind_some] at h
    rw [Option.bind_some]
    refine (congrArg (fun o : Option Nat => (o.bind (fun c => (U.vm.classes[c]?).map fun (k : Class) => match k.kind with | .array _ ty => decide (ty = FieldType.array FieldType.int) && decide (U.vm.findClass ("[" ++ (FieldType.array FieldType.int).toString) = some c) | _ => false) == some true)) (hi comp)).trans ?_
    cases hf : (u.vm.classes.findIdx? fun (x : Class) => match x.kind with | .array component _ => component == comp | _ => false) with
    | none =>
      have h9 := (congrArg (fun o : Option Nat => (o.bind (fun c => (u.vm.classes[c]?).map fun (k : Class) => match k.kind with | .array _ ty => decide (ty = FieldType.array FieldType.int) && decide (u.vm.findClass ("[" ++ (FieldType.array FieldType.int).toString) = some c) | _ => false) == some true)) hf).symm.trans h
      cases h9
    | some cc =>
      have h9 := (congrArg (fun o : Option Nat => (o.bind (fun c => (u.vm.classes[c]?).map fun (k : Class) => match k.kind with | .array _ ty => decide (ty = FieldType.array FieldType.int) && decide (u.vm.findClass ("[" ++ (FieldType.array FieldType.int).toString) = some c) | _ => false) == some true)) hf).symm.trans h
      simp only [Option.bind_some] at h9 ⊢
      cases hk : u.vm.classes[cc]? with
      | none => rw [hk] at h9; cases h9
      | some k =>
        obtain ⟨k', hk', he⟩ := hvm.2.2 _ _ hk
        rw [hk] at h9
        rw [hk']
        have hkind : k'.kind = k.kind := by rw [he]
        simp only [Option.map_some] at h9 ⊢
        rw [hkind, hvm.findClass]
        exact h9
def XE (B : Bd) (U : State) (H : Heap) : Prop :=
  (va_X (ba B 1000000) (bL B) (bX B) U H ∧ ba B 1000000 < bs B ∧ bL B ≤ 3072) ∧
  vk_S 9 slen sbyt (fun i => ba B (1000001 + i)) (fun i => ba B (1000101 + i)) (fr B) U H ∧
  (∀ q ∈ ldcs, vk_R q.1 q.2.1 q.2.2.1 (ba B (1000001 + q.2.2.2)) U) ∧
  (va_Z "java/lang/String" "COMPACT_STRINGS" "Z" (.int 1) (fr B) U H ∧ (va_Z "jdk/internal/util/Preconditions" "SIOOBE_FORMATTER" "Ljava/util/function/BiFunction;" .null (fr B) U H ∨ va_Z "jdk/internal/util/Preconditions" "SIOOBE_FORMATTER" "Ljava/util/function/BiFunction;" (.ref (ba B 1000200)) (fr B) U H)) ∧
  (vx_Zq Bundle.tN "UNASSIGNED_STACK" Bundle.steD (fr B) U H ∧ vx_Zq Bundle.tN "SUPPRESSED_SENTINEL" Bundle.listD (fr B) U H) ∧
  (∀ q ∈ nests, va_Nw (.methodLinkNest q.1 q.2.1 q.2.2 RX5) U) ∧ (∀ q ∈ ncs, va_Nc q.1 q.2 U) ∧ ((∀ q ∈ excs, va_Nw (.castable q q) U) ∧ ∀ q ∈ sups, va_Nw (.declares (Bundle.initS q)) U) ∧ va_AO RX1 U ∧ AOA U
theorem XE.moved {B : Bd} {s U : State} {H : Heap} (hW : s.WarmedH U.vm) (h : XE B s s.heap) (hS : ∀ a : Nat, a < s.heap.size → ¬ fr B a → H[a]? = s.heap[a]?) : XE B U H := by
  obtain ⟨⟨h1, h1b, h1c⟩, h2, h3, ⟨h4, h5⟩, ⟨h6, h7⟩, h8, h9, ⟨h10, h10b⟩, h11, h12⟩ := h
  have hb : ba B 1000000 < s.heap.size := by
    obtain ⟨scr, q, -⟩ := h1
    exact (Array.getElem?_eq_some_iff.mp q).1
  have hal := hW.alike
  refine ⟨⟨va_X.moved hal (h1.kept (hS _ hb (Nat.not_le.mpr h1b))), h1b, h1c⟩, vk_S.moved hal (h2.kept hS), fun q hq => vk_R.warm hW (h3 q hq), ⟨va_Z.moved hal (h4.kept hS), h5.elim (fun h => Or.inl (va_Z.moved hal (h.kept hS))) (fun h => Or.inr (va_Z.moved hal (h.kept hS)))⟩, ⟨vx_Zq.moved hal (h6.kept hS), vx_Zq.moved hal (h7.kept hS)⟩, fun q hq => va_Nw.warmM hW (h8 q hq), fun q hq => va_Nc.moved hal (h9 q hq), ⟨fun q hq => va_Nw.warmC hW (h10 q hq), fun q hq => va_Nw.warmD hW (h10b q hq)⟩, va_AO.moved hal h11, h12.moved hal⟩
-- a method: its name, bytes, locals, answer, table
abbrev Mt : Type := MethodName × ByteArray × Nat × Option FieldType × List (Nat × Nat × Nat × Nat)
def Cx (B : Bd) (y : Mt) (d : Nat) (p : Program) (R : Room) (s : State) (m : MethodId) (args : Array Value) (meth : Method) (c : Code) : Prop :=
  (p.tables.exec = Jvm.exec ∧ c.code = y.2.1 ∧ meth.sig.returnType = y.2.2.2.1 ∧ c.maxLocals = y.2.2.1 ∧ s.vm.findClass y.1.cls = some m.cls) ∧
  (∀ w ∈ TB, w.before args s = true) ∧ (meth.locks = false ∧ meth.name = y.1.name ∧ c.exceptionTable.toList = tableOf y.2.2.2.2) ∧
  va_K (bD B) clz (tysM (bA B)) s ∧ XE B s s.heap ∧ (bs B ≤ s.heap.size ∧ Adr B ∧ (bl B).stackTraces = false) ∧ (d ≤ R.frames ∧ 128 * d ≤ R.locals)
abbrev Ot : Type := Option Value ⊕ String
def Qr (B : Bd) (Φ : Ot → Mm → Prop) : Array Value → State → Outcome → State → Prop := fun _ st o t => (∃ (v : Option Value) (M : Mm), o = .returned (v.map (tr (ba B))) ∧ Φ (.inl v) M ∧ Rep B M t.heap) ∧ va_F (fr B) st t
def Qx (B : Bd) (Φ : Ot → Mm → Prop) : String → State → State → Prop := fun E st t => (∃ M : Mm, Φ (.inr E) M ∧ Rep B M t.heap) ∧ va_F (fr B) st t
/-- from here the method y comes to an end that Φ allows; rc, rs: how many cells and slots it may still make -/
def Ev (B : Bd) (y : Mt) (d rc rs : Nat) (Φ : Ot → Mm → Prop) (pc : Nat) (L : Lc) (st : List Value) (M : Mm) : Prop :=
  ∀ (p : Program) (e : Env) (R : Room) (s : State) (m : MethodId) (args : Array Value) (below : List Frame) (meth : Method) (c : Code), Cx B y d p R s m args meth c →
  ∀ (ls : Array Slot) (H : Heap) (locs : List Loc) (cells slots : Nat), LR (ba B) ls y.2.2.1 L → Rep B M H → va_S (fr B) s.heap H locs → cells + rc ≤ R.cells → slots + rs ≤ R.slots →
  W p (bl B) e R s m args below meth c H locs cells slots (vx_MQ below (Qr B Φ) (Qx B Φ) args s R.cells R.slots (fr B)) (F0 m pc ls (st.map (tr (ba B))))
/-- .. with an exception of the class E thrown at pc -/
def EvX (B : Bd) (y : Mt) (d rc rs : Nat) (Φ : Ot → Mm → Prop) (E : String) (pc : Nat) (L : Lc) (M : Mm) : Prop :=
  ∀ (p : Program) (e : Env) (R : Room) (s : State) (m : MethodId) (args : Array Value) (below : List Frame) (meth : Method) (c : Code), Cx B y d p R s m args meth c →
  ∀ (ls : Array Slot) (H : Heap) (locs : List Loc) (cells slots : Nat) (st : List Value) (q : Addr) (ce : Cell), LR (ba B) ls y.2.2.1 L → Rep B M H → va_S (fr B) s.heap H locs → cells + rc ≤ R.cells → slots + rs ≤ R.slots →
  H[q]? = some ce → ce.vm = .none → s.vm.findClass E = some ce.cls →
  vx_W p (bl B) e R s m args below meth c H locs cells slots (vx_MQ below (Qr B Φ) (Qx B Φ) args s R.cells R.slots (fr B)) (F0 m pc ls st) q
def wsY (y : Mt) : List Cond := (match y.2.2.2.2 with
  | [] => Cond.code y.1 y.2.1 y.2.2.1 y.2.2.2.1
  | _ => Cond.codeWith y.1 y.2.1 y.2.2.1 y.2.2.2.1 y.2.2.2.2) :: TB
def Ct (B : Bd) (y : Mt) (d rc rs : Nat) (As : List Value) (M : Mm) (Φ : Ot → Mm → Prop) : Prop :=
  vx_Met (bl B) y.1 (wsY y) ({ frames := d, cells := rc, slots := rs, locals := 128 * d }) (va_Pc (As.map (tr (ba B))) (fun U => Rep B M U.heap ∧ va_K (bD B) clz (tysM (bA B)) U ∧ XE B U U.heap ∧ bs B ≤ U.heap.size ∧ Adr B ∧ (bl B).stackTraces = false)) (Qr B Φ) (Qx B Φ) rc rs (fr B)
