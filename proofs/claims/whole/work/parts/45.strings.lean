/-! string constants: their fields, length, charAt -/
theorem sw_value : Cond.fieldLink RJ0 9 "java/lang/String" "value" "[B" ∈ TB := TB_in (List.mem_of_getElem? (i := 1421) (by decide +kernel)) (by decide +kernel)
theorem sw_coder : Cond.fieldLink RJ0 15 "java/lang/String" "coder" "B" ∈ TB := TB_in (List.mem_of_getElem? (i := 1422) (by decide +kernel)) (by decide +kernel)
theorem sw_comp : Cond.fieldLink RJ0 38 "java/lang/String" "COMPACT_STRINGS" "Z" ∈ TB := TB_in (List.mem_of_getElem? (i := 563) (by decide +kernel)) (by decide +kernel)
theorem sw_form : Cond.fieldLink RJ0 1053 "jdk/internal/util/Preconditions" "SIOOBE_FORMATTER" "Ljava/util/function/BiFunction;" ∈ TB := TB_in (List.mem_of_getElem? (i := 579) (by decide +kernel)) (by decide +kernel)
section RS
variable {B : Bd} {y : Mt} {d rc rs : Nat} {Φ : Ot → Mm → Prop} {pc : Nat} {L : Lc} {st : List Value} {M : Mm}
theorem e_getSV {i k : Nat} (hd : decode y.2.1 pc = .ok (.getfield i, 3)) (hf : Cond.fieldLink y.1.cls i "java/lang/String" "value" "[B" ∈ TB) (hk : k < 9) (kk : Ev B y d rc rs Φ (pc + 3) L (.ref (1000101 + k) :: st) M) : Ev B y d rc rs Φ pc L (.ref (1000001 + k) :: st) M := by
  intro p e R s m args below meth c C ls H locs cells slots hl hR hS hc hs
  exact vk_getf C.1.1 C.1.2.1 (C.2.2.2.2.1.2.1.1 k hk).2.2.1 hS C.1.2.2.2.2 (C.2.1 _ hf) (fun _ h => h) hd (kk p e R s m args below meth c C ls H locs cells slots hl hR hS hc hs)
theorem e_getSC {i k : Nat} (hd : decode y.2.1 pc = .ok (.getfield i, 3)) (hf : Cond.fieldLink y.1.cls i "java/lang/String" "coder" "B" ∈ TB) (hk : k < 9) (kk : Ev B y d rc rs Φ (pc + 3) L (.int 0 :: st) M) : Ev B y d rc rs Φ pc L (.ref (1000001 + k) :: st) M := by
  intro p e R s m args below meth c C ls H locs cells slots hl hR hS hc hs
  exact vk_getf C.1.1 C.1.2.1 (C.2.2.2.2.1.2.1.1 k hk).2.1 hS C.1.2.2.2.2 (C.2.1 _ hf) (fun _ h => h) hd (kk p e R s m args below meth c C ls H locs cells slots hl hR hS hc hs)
theorem e_alenS {k : Nat} (hd : decode y.2.1 pc = .ok (.arraylength, 1)) (hk : k < 9) (kk : Ev B y d rc rs Φ (pc + 1) L (.int (nI (slen.getD k 0)) :: st) M) : Ev B y d rc rs Φ pc L (.ref (1000101 + k) :: st) M := by
  intro p e R s m args below meth c C ls H locs cells slots hl hR hS hc hs
  exact va_tlen C.1.1 C.1.2.1 (C.2.2.2.2.1.2.1.1 k hk).2.2.2 hS rfl hd (kk p e R s m args below meth c C ls H locs cells slots hl hR hS hc hs)
theorem e_baloadS {k : Nat} {i : Int32} (hd : decode y.2.1 pc = .ok (.baload, 1)) (hk : k < 9) (hin : vp_in i (slen.getD k 0)) (kk : Ev B y d rc rs Φ (pc + 1) L (.int ((sbyt.getD k []).getD i.toNatClampNeg 0) :: st) M) : Ev B y d rc rs Φ pc L (.int i :: .ref (1000101 + k) :: st) M := by
  intro p e R s m args below meth c C ls H locs cells slots hl hR hS hc hs
  exact va_tb C.1.1 C.1.2.1 (C.2.2.2.2.1.2.1.1 k hk).2.2.2 hS hin rfl hd (kk p e R s m args below meth c C ls H locs cells slots hl hR hS hc hs)
theorem e_gsZ {i : Nat} (hd : decode y.2.1 pc = .ok (.getstatic i, 3)) (hf : Cond.fieldLink y.1.cls i "java/lang/String" "COMPACT_STRINGS" "Z" ∈ TB) (kk : Ev B y d rc rs Φ (pc + 3) L (.int 1 :: st) M) : Ev B y d rc rs Φ pc L st M := by
  intro p e R s m args below meth c C ls H locs cells slots hl hR hS hc hs
  exact va_gets C.1.1 C.1.2.1 C.2.2.2.2.1.2.2.2.1.1 hS C.1.2.2.2.2 (C.2.1 _ hf) (fun _ h => h) hd (kk p e R s m args below meth c C ls H locs cells slots hl hR hS hc hs)
theorem e_gsF {i : Nat} (hd : decode y.2.1 pc = .ok (.getstatic i, 3)) (hf : Cond.fieldLink y.1.cls i "jdk/internal/util/Preconditions" "SIOOBE_FORMATTER" "Ljava/util/function/BiFunction;" ∈ TB) (kk : ∀ v : Value, (v = .null ∨ v = .ref 1000200) → Ev B y d rc rs Φ (pc + 3) L (v :: st) M) : Ev B y d rc rs Φ pc L st M := by
  intro p e R s m args below meth c C ls H locs cells slots hl hR hS hc hs
  rcases C.2.2.2.2.1.2.2.2.1.2 with h | h
  · exact va_gets C.1.1 C.1.2.1 h hS C.1.2.2.2.2 (C.2.1 _ hf) (fun _ h => h) hd (kk .null (Or.inl rfl) p e R s m args below meth c C ls H locs cells slots hl hR hS hc hs)
  · exact va_gets C.1.1 C.1.2.1 h hS C.1.2.2.2.2 (C.2.1 _ hf) (fun _ h => h) hd (kk (.ref 1000200) (Or.inr rfl) p e R s m args below meth c C ls H locs cells slots hl hR hS hc hs)
set_option maxHeartbeats 4000000 in
/-- a virtual call of a text -/
theorem e_callT {i n k d1 rc1 rs1 rc2 rs2 : Nat} {q : Mt} {Φ1 : Ot → Mm → Prop} {stk : List Value} (As : List Value) (hd : decode y.2.1 pc = .ok (.invokevirtual i, 3)) (hm : MdV q n) (hlk : Cond.methodLink y.1.cls i q.1 ∈ TB) (hk : k < 9) (hci : "java/lang/String" = q.1.cls) (hn : As.length = n) (hstk : stk = As.reverse ++ .ref (1000001 + k) :: st) (hst : (st.map fun v => v.category).sum ≤ 8) (hdd : d1 + 1 ≤ d) (hr1 : rc1 + rc2 ≤ rc) (hr2 : rs1 + rs2 ≤ rs)
    (hct : Ct B q d1 rc1 rs1 (.ref (1000001 + k) :: As) M Φ1) (kk : ∀ v N, Φ1 (.inl v) N → Ev B y d rc2 rs2 Φ (pc + 3) L (v.toList ++ st) N) (kx : ∀ E N, Φ1 (.inr E) N → EvX B y d rc2 rs2 Φ E pc L N) : Ev B y d rc rs Φ pc L stk M := by
  intro p e R s m args below meth c C ls H locs cells slots hl hR hS hc hs
  obtain ⟨hfr, hlo⟩ := C.2.2.2.2.2.2
  obtain ⟨⟨m1, m2, m3, m4, m5⟩, m6, m7⟩ := id hm
  refine run_on (Φ1 := Φ1) (a9 := ((.ref (1000001 + k) :: As).map (tr (ba B))).toArray) (rc1 := rc1) (rs1 := rs1) (rc2 := rc2) (rs2 := rs2) (st := st) C hl hS (by omega) (by omega) ?_ kk kx
  refine vx_runV (As := As.map (tr (ba B))) (nL := y.2.2.1) (n := n) ⟨C.1.1, C.1.2.1, C.1.2.2.2.1, C.1.2.2.2.2, C.2.1⟩ hct (cwV (C := q.1.cls) n C.2.1 ?_ (wsY_nil m4) rfl rfl ⟨rfl, m3⟩ ⟨?_, ?_⟩) ⟨Pcx_blind, ?_, Pcx_of C hR hS (.ref (1000001 + k) :: As)⟩ rfl (by rw [List.length_map]; exact hn) hl.1 (by rw [hstk]; exact stk_eq _) (lv_room (cat8 hst _)) hd ⟨by omega, by omega⟩
  · intro w hw
    rcases List.mem_append.mp hw with h9 | h9
    · rcases List.mem_cons.mp h9 with rfl | h9
      · exact TB_good _ hlk
      · rcases List.mem_cons.mp h9 with rfl | h9
        · exact TB_good _ m6
        · rcases List.mem_cons.mp h9 with rfl | h9
          · exact TB_good _ m7
          · rw [List.mem_singleton.mp h9]; exact TB_good _ m2
    · exact wsY_good hm.1 _ h9
  · show d1 + 1 ≤ R.frames
    omega
  · show 8 + (q.2.2.1 + 11) + 128 * d1 ≤ R.locals
    omega
  · rw [← hci]
    exact vk_recv (i := k) (adK := fun i => ba B (1000001 + i)) C.2.2.2.2.1.2.1 hk hS
theorem e_callT0i {i n k d1 : Nat} {q : Mt} {r : Int32} {M1 : Mm} {stk : List Value} (As : List Value) (hd : decode y.2.1 pc = .ok (.invokevirtual i, 3)) (hm : MdV q n) (hlk : Cond.methodLink y.1.cls i q.1 ∈ TB) (hk : k < 9) (hci : "java/lang/String" = q.1.cls) (hn : As.length = n) (hstk : stk = As.reverse ++ .ref (1000001 + k) :: st) (hst : (st.map fun v => v.category).sum ≤ 8) (hdd : d1 + 1 ≤ d)
    (hct : Ct B q d1 0 0 (.ref (1000001 + k) :: As) M (Is (some (.int r)) M1)) (kk : Ev B y d rc rs Φ (pc + 3) L (.int r :: st) M1) : Ev B y d rc rs Φ pc L stk M :=
  e_callT (rc1 := 0) (rs1 := 0) (rc2 := rc) (rs2 := rs) As hd hm hlk hk hci hn hstk hst hdd (by omega) (by omega) hct (fun v' N h => by obtain ⟨h1, h2⟩ := h; cases h1; rw [h2]; exact kk) (fun E N h => by obtain ⟨h1, h2⟩ := h; cases h1)
end RS
theorem c_coder {B : Bd} {M : Mm} {k : Nat} (hk : k < 9) : Ct B mJ0_coder_7d493 0 0 0 [.ref (1000001 + k)] M (Is (some (.int 0)) M) := by
  refine Ct.of (by decide) rfl rfl (Nat.le_of_ble_eq_true rfl) ?_
  refine e_gsZ dJ0_coder_7d493_0 sw_comp ?_
  refine e_if_eq (tgt := 13) dJ0_coder_7d493_3 (by decide) (fun h => absurd h (by decide)) (fun _ => ?_)
  refine e_aload_n dJ0_coder_7d493_6 rfl rfl ?_
  refine e_getSC dJ0_coder_7d493_7 sw_coder hk ?_
  refine e_goto (tgt := 14) dJ0_coder_7d493_10 (by decide) ?_
  exact e_iret dJ0_coder_7d493_14 rfl rfl ⟨rfl, rfl⟩
theorem c_isLatin1 {B : Bd} {M : Mm} {k : Nat} (hk : k < 9) : Ct B mJ0_isLatin1_aae02 0 0 0 [.ref (1000001 + k)] M (Is (some (.int 1)) M) := by
  refine Ct.of (by decide) rfl rfl (Nat.le_of_ble_eq_true rfl) ?_
  refine e_gsZ dJ0_isLatin1_aae02_0 sw_comp ?_
  refine e_if_eq (tgt := 17) dJ0_isLatin1_aae02_3 (by decide) (fun h => absurd h (by decide)) (fun _ => ?_)
  refine e_aload_n dJ0_isLatin1_aae02_6 rfl rfl ?_
  refine e_getSC dJ0_isLatin1_aae02_7 sw_coder hk ?_
  refine e_if_ne (tgt := 17) dJ0_isLatin1_aae02_10 (by decide) (fun h => absurd rfl h) (fun _ => ?_)
  refine e_iconst (v := 1) dJ0_isLatin1_aae02_13 (by decide) ?_
  refine e_goto (tgt := 18) dJ0_isLatin1_aae02_14 (by decide) ?_
  exact e_iret dJ0_isLatin1_aae02_18 rfl rfl ⟨rfl, rfl⟩
theorem c_strlen {B : Bd} {M : Mm} {k : Nat} (hk : k < 9) : Ct B mJ0_length_8abf5 1 0 0 [.ref (1000001 + k)] M (Is (some (.int (nI (slen.getD k 0)))) M) := by
  refine Ct.of (by decide) rfl rfl (Nat.le_of_ble_eq_true rfl) ?_
  refine e_aload_n dJ0_length_8abf5_0 rfl rfl ?_
  refine e_getSV dJ0_length_8abf5_1 sw_value hk ?_
  refine e_alenS dJ0_length_8abf5_4 hk ?_
  refine e_aload_n dJ0_length_8abf5_5 rfl rfl ?_
  refine e_callT0i [] dJ0_length_8abf5_6 mvmJ0_coder_7d493 lkRJ0_335 hk rfl rfl rfl (Nat.le_of_ble_eq_true rfl) (by decide) (c_coder hk) ?_
  refine e_ishr dJ0_length_8abf5_9 ?_
  refine e_iret dJ0_length_8abf5_10 rfl rfl ⟨?_, rfl⟩
  have h : ∀ k, k < 9 → (nI (slen.getD k 0) >>> ((0 : Int32) &&& 31)) = nI (slen.getD k 0) := by decide
  exact congrArg (fun z => Sum.inl (some (Value.int z))) (h k hk)
theorem c_pci {B : Bd} {M : Mm} {i n : Nat} {v : Value} (hin : i < n) (hn : n < 2 ^ 31) (hv : v = .null ∨ v = .ref 1000200) : Ct B mJ3_checkIndex_8e157 0 0 0 [.int (nI i), .int (nI n), v] M (Is (some (.int (nI i))) M) := by
  have hl : Lin mJ3_checkIndex_8e157 [.int (nI i), .int (nI n), v] = [some (.int (nI i)), some (.int (nI n)), some v] := by
    rcases hv with rfl | rfl <;> rfl
  refine Ct.of (by rcases hv with rfl | rfl <;> decide) rfl (by rcases hv with rfl | rfl <;> rfl) (Nat.le_of_ble_eq_true rfl) ?_
  rw [hl]
  refine e_iload_n dJ3_checkIndex_8e157_0 rfl rfl ?_
  refine e_if_lt (tgt := 9) dJ3_checkIndex_8e157_1 (by decide) (fun h => absurd h (nI_pos (by omega))) (fun _ => ?_)
  refine e_iload_n dJ3_checkIndex_8e157_4 rfl rfl ?_
  refine e_iload_n dJ3_checkIndex_8e157_5 rfl rfl ?_
  refine e_icmp_lt (tgt := 16) dJ3_checkIndex_8e157_6 (by decide) (fun _ => ?_) (fun h => absurd (nI_lt hin hn) h)
  refine e_iload_n dJ3_checkIndex_8e157_16 rfl rfl ?_
  exact e_iret dJ3_checkIndex_8e157_17 rfl rfl ⟨rfl, rfl⟩
theorem c_sci {B : Bd} {M : Mm} {i n : Nat} (hin : i < n) (hn : n < 2 ^ 31) : Ct B mJ0_checkIndex_df160 1 0 0 [.int (nI i), .int (nI n)] M (Is none M) := by
  refine Ct.of (by decide) rfl rfl (Nat.le_of_ble_eq_true rfl) ?_
  refine e_iload_n dJ0_checkIndex_df160_0 rfl rfl ?_
  refine e_iload_n dJ0_checkIndex_df160_1 rfl rfl ?_
  refine e_gsF dJ0_checkIndex_df160_2 sw_form (fun v hv => ?_)
  refine e_callS0i [_, _, _] dJ0_checkIndex_df160_5 msmJ3_checkIndex_8e157 lkRJ0_1059 rfl rfl (Nat.le_of_ble_eq_true rfl) (by decide) (c_pci hin hn hv) ?_
  refine e_pop dJ0_checkIndex_df160_8 rfl ?_
  exact e_vret dJ0_checkIndex_df160_9 rfl ⟨rfl, rfl⟩
def sch (k i : Nat) : Int32 := (sbyt.getD k []).getD i 0
theorem sch_ok : ∀ k, k < 9 → ∀ i, i < slen.getD k 0 → ((sch k i &&& 255).toUInt32 % 65536).toInt32 = sch k i ∧ narrow .char (.int (sch k i)) = .int (sch k i) := by decide +kernel
theorem slen_lt : ∀ k, k < 9 → slen.getD k 0 < 100 := by decide
theorem c_lcharAt {B : Bd} {M : Mm} {k i : Nat} (hk : k < 9) (hi : i < slen.getD k 0) : Ct B mJ1_charAt_3b067 2 0 0 [.ref (1000101 + k), .int (nI i)] M (Is (some (.int (sch k i))) M) := by
  have hl := slen_lt k hk
  obtain ⟨h1, h2⟩ := sch_ok k hk i hi
  refine Ct.of (by decide) rfl rfl (Nat.le_of_ble_eq_true rfl) ?_
  refine e_iload_n dJ1_charAt_3b067_0 rfl rfl ?_
  refine e_aload_n dJ1_charAt_3b067_1 rfl rfl ?_
  refine e_alenS dJ1_charAt_3b067_2 hk ?_
  refine e_callS0v [_, _] dJ1_charAt_3b067_3 msmJ0_checkIndex_df160 lkRJ1_9 rfl rfl (Nat.le_of_ble_eq_true rfl) (by decide) (c_sci hi (by omega)) ?_
  refine e_aload_n dJ1_charAt_3b067_6 rfl rfl ?_
  refine e_iload_n dJ1_charAt_3b067_7 rfl rfl ?_
  refine e_baloadS dJ1_charAt_3b067_8 hk (vp_in_nI hi (by omega)) ?_
  rw [nI_clamp (by omega)]
  refine e_sipush (v := 255) dJ1_charAt_3b067_9 (by decide) ?_
  refine e_iand dJ1_charAt_3b067_12 ?_
  refine e_i2c dJ1_charAt_3b067_13 ?_
  have e9 : ((((sbyt.getD k []).getD i 0) &&& 255).toUInt32 % 65536).toInt32 = sch k i := h1
  rw [e9]
  exact e_iret (ty := .char) dJ1_charAt_3b067_14 rfl h2 ⟨rfl, rfl⟩
theorem c_charAt {B : Bd} {M : Mm} {k i : Nat} (hk : k < 9) (hi : i < slen.getD k 0) : Ct B mJ0_charAt_5068e 3 0 0 [.ref (1000001 + k), .int (nI i)] M (Is (some (.int (sch k i))) M) := by
  have hl := slen_lt k hk
  obtain ⟨h1, h2⟩ := sch_ok k hk i hi
  refine Ct.of (by decide) rfl rfl (Nat.le_of_ble_eq_true rfl) ?_
  refine e_aload_n dJ0_charAt_5068e_0 rfl rfl ?_
  refine e_callT0i [] dJ0_charAt_5068e_1 mvmJ0_isLatin1_aae02 lkRJ0_492 hk rfl rfl rfl (Nat.le_of_ble_eq_true rfl) (by decide) (c_isLatin1 hk) ?_
  refine e_if_eq (tgt := 16) dJ0_charAt_5068e_4 (by decide) (fun h => absurd h (by decide)) (fun _ => ?_)
  refine e_aload_n dJ0_charAt_5068e_7 rfl rfl ?_
  refine e_getSV dJ0_charAt_5068e_8 sw_value hk ?_
  refine e_iload_n dJ0_charAt_5068e_11 rfl rfl ?_
  refine e_callS0i [_, _] dJ0_charAt_5068e_12 msmJ1_charAt_3b067 lkRJ0_495 rfl rfl (Nat.le_of_ble_eq_true rfl) (by decide) (c_lcharAt hk hi) ?_
  exact e_iret (ty := .char) dJ0_charAt_5068e_15 rfl h2 ⟨rfl, rfl⟩
