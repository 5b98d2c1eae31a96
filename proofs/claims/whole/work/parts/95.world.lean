/-! the world at the law's entry -/
def tmL : List (String × Nat) := [(RX5, 271), (RX3, 56), (RX3, 73), (RX3, 78), (RX3, 82), (RX3, 87), (RX5, 264), (RX5, 276), (RX5, 279)]
def tm9 (i : Nat) : Term := .string (tmL.getD i (RX5, 0)).1 (tmL.getD i (RX5, 0)).2
def FL0 : List Cond := flatC (Jvm.Cond.and given_1 narrow_1)
theorem w_ex : ∀ i, i < 9 → Cond.exactly (tm9 i) "java/lang/String" ∈ FL0 := by decide +kernel
theorem w_co : ∀ i, i < 9 → Cond.eq (.field (tm9 i) "java/lang/String" "coder" "B") (.int 0) ∈ FL0 := by decide +kernel
theorem w_ar : ∀ i, i < 9 → Cond.arrayOf (.field (tm9 i) "java/lang/String" "value" "[B") .byte ∈ FL0 := by decide +kernel
theorem w_le : ∀ i, i < 9 → Cond.eq (.length (.field (tm9 i) "java/lang/String" "value" "[B")) (.int (Int32.ofNat (slen.getD i 0))) ∈ FL0 := by decide +kernel
theorem w_el : ∀ i, i < 9 → ∀ j, j < slen.getD i 0 → Cond.eq (.elem (.field (tm9 i) "java/lang/String" "value" "[B") (.int (Int32.ofNat j))) (.int ((sbyt.getD i []).getD j 0)) ∈ FL0 := by decide +kernel
theorem w_ne : ∀ i, i < 9 → ∀ j, j < 9 → i ≠ j → (Cond.not (Cond.eq (tm9 i) (tm9 j)) ∈ FL0 ∨ Cond.not (Cond.eq (tm9 j) (tm9 i)) ∈ FL0) := by decide +kernel
theorem w_sr : ∀ q ∈ ldcs, Cond.stringRef q.1 q.2.1 q.2.2.1 ∈ lw_tbl ∧ q.2.2.2 < 9 := by decide +kernel
theorem w_eq : ∀ q ∈ ldcs, (tm9 q.2.2.2 = Term.string q.1 q.2.1) ∨ Cond.eq (tm9 q.2.2.2) (.string q.1 q.2.1) ∈ FL0 := by decide +kernel
theorem w_nest : ∀ q ∈ nests, Cond.methodLinkNest q.1 q.2.1 q.2.2 RX5 ∈ lw_tbl := by decide +kernel
theorem w_nc : ∀ q ∈ ncs, Cond.not (.castable q.1 q.2) ∈ FL0 := by decide +kernel
theorem w_exc : ∀ q ∈ excs, Cond.castable q q ∈ lw_tbl := by decide +kernel
theorem w_sup : ∀ q ∈ sups, Cond.declares (Bundle.initS q) ∈ lw_tbl := by decide +kernel
theorem w_ao : Cond.arrayOver (.object RX1) ∈ lw_tbl ∧ Cond.arrayOver (.array .int) ∈ lw_tbl := by decide +kernel
theorem w_cs : Cond.laysStatic "java/lang/String" "COMPACT_STRINGS" "Z" ∈ lw_tbl ∧ Cond.initialized "java/lang/String" ∈ lw_tbl ∧ Cond.eq (.static "java/lang/String" "COMPACT_STRINGS" "Z") (.int 1) ∈ FL0 := by decide +kernel
theorem w_sf : Cond.laysStatic "jdk/internal/util/Preconditions" "SIOOBE_FORMATTER" "Ljava/util/function/BiFunction;" ∈ lw_tbl ∧ Cond.initialized "jdk/internal/util/Preconditions" ∈ lw_tbl ∧ Cond.isRef (.static "jdk/internal/util/Preconditions" "SIOOBE_FORMATTER" "Ljava/util/function/BiFunction;") ∈ FL0 := by decide +kernel
theorem w_us : Cond.laysStatic Bundle.tN "UNASSIGNED_STACK" Bundle.steD ∈ lw_tbl ∧ Cond.initialized Bundle.tN ∈ lw_tbl ∧ Cond.isRef (.static Bundle.tN "UNASSIGNED_STACK" Bundle.steD) ∈ FL0 := by decide +kernel
theorem w_ss : Cond.laysStatic Bundle.tN "SUPPRESSED_SENTINEL" Bundle.listD ∈ lw_tbl ∧ Cond.isRef (.static Bundle.tN "SUPPRESSED_SENTINEL" Bundle.listD) ∈ FL0 := by decide +kernel
theorem w_len : ∀ i, i < 9 → slen.getD i 0 < 2 ^ 31 := by decide
