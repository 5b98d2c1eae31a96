/-! the Model: bits, tables -/
theorem lb_all : ∀ a, a < 64 → ∀ b, b < 64 → (a * 64 + b ≠ 0 → pop ((a * 64 + b) &&& (a * 64 + b - 1)) + 1 = pop (a * 64 + b) ∧ ((a * 64 + b) &&& (a * 64 + b - 1)) < a * 64 + b) := by decide +kernel
theorem lb_ok {S : Nat} (hS : S < 4096) (h0 : S ≠ 0) : pop (S &&& (S - 1)) + 1 = pop S ∧ (S &&& (S - 1)) < S := by
  have h := lb_all (S / 64) (by omega) (S % 64) (by omega)
  rw [show S / 64 * 64 + S % 64 = S by omega] at h
  exact h h0
theorem c_bits {B : Bd} {M : Mm} {k : Nat} (hk : k < 4096) : Ct B mX6_bits 0 0 0 [.int (nI k)] M (Is (some (.int (nI (pop k)))) M) := by
  refine Ct.of (by decide) rfl rfl (Nat.le_of_ble_eq_true rfl) ?_
  have loop : ∀ S n, S < 4096 → n + pop S = pop k → Ev B mX6_bits 0 0 0 (Is (some (.int (nI (pop k)))) M) 4 [some (.int (nI k)), some (.int (nI n)), some (.int (nI S))] [] M := by
    intro S
    induction S using Nat.strongRecOn with
    | ind S ih =>
      intro n hS hn
      refine e_iload_n dX6_bits_4 rfl rfl ?_
      by_cases h0 : S = 0
      · subst h0
        rw [pop_0] at hn
        refine e_if_eq (tgt := 20) dX6_bits_5 (by decide) (fun _ => ?_) (fun hz => absurd rfl hz)
        refine e_iload_n dX6_bits_20 rfl rfl ?_
        rw [show n = pop k by omega]
        exact e_iret dX6_bits_21 rfl rfl ⟨rfl, rfl⟩
      · obtain ⟨l1, l2⟩ := lb_ok hS h0
        refine e_if_eq (tgt := 20) dX6_bits_5 (by decide) (fun hz => absurd hz (nI_ne0 (by omega) (by omega))) (fun _ => ?_)
        refine e_iinc (v := nI (n + 1)) dX6_bits_8 rfl (nI_1 n) (by decide) rfl rfl ?_
        refine e_iload_n dX6_bits_11 rfl rfl ?_
        refine e_iload_n dX6_bits_12 rfl rfl ?_
        refine e_iconst (v := 1) dX6_bits_13 (by decide) ?_
        refine e_isub dX6_bits_14 ?_
        rw [nI_m1 (by omega)]
        refine e_iand dX6_bits_15 ?_
        rw [fa_and]
        refine e_istore_n dX6_bits_16 rfl (by decide) rfl rfl ?_
        refine e_goto (tgt := 4) dX6_bits_17 (by decide) ?_
        exact ih (S &&& (S - 1)) l2 (n + 1) (by omega) (by omega)
  refine e_iconst (v := 0) dX6_bits_0 (by decide) ?_
  refine e_istore_n dX6_bits_1 rfl (by decide) rfl rfl ?_
  refine e_iload_n dX6_bits_2 rfl rfl ?_
  refine e_istore_n dX6_bits_3 rfl (by decide) rfl rfl ?_
  exact loop k 0 hk (by omega)
theorem c_first {B : Bd} {M : Mm} {S : Nat} (hS : S < 4096) (h0 : S ≠ 0) : Ct B mX6_first 1 0 0 [.int (nI S)] M (Rt (fun u N => N = M ∧ ∃ a, u = some (.int (nI a)) ∧ a < 12 ∧ S.testBit a = true ∧ ∀ j, j < a → S.testBit j = false)) := by
  obtain ⟨v, hv⟩ := ex_some h0
  have hv12 := in12 hS hv
  refine Ct.of (by decide) rfl rfl (Nat.le_of_ble_eq_true rfl) ?_
  have loop : ∀ j k, k + j = v → (∀ i, i < k → S.testBit i = false) → Ev B mX6_first 1 0 0 (Rt (fun u N => N = M ∧ ∃ a, u = some (.int (nI a)) ∧ a < 12 ∧ S.testBit a = true ∧ ∀ j, j < a → S.testBit j = false)) 2 [some (.int (nI S)), some (.int (nI k))] [] M := by
    intro j
    induction j with
    | zero =>
      intro k hk hlo
      have : k = v := by omega
      subst this
      refine e_iload_n dX6_first_2 rfl rfl ?_
      refine e_iload_n dX6_first_3 rfl rfl ?_
      refine e_callS0i [_, _] dX6_first_4 msmX6_has lkRX6_183 rfl rfl (Nat.le_of_ble_eq_true rfl) (by decide) (c_has (by omega) (by omega)) ?_
      rw [if_pos hv]
      refine e_if_ne (tgt := 16) dX6_first_7 (by decide) (fun _ => ?_) (fun hz => absurd hz (by decide))
      refine e_iload_n dX6_first_16 rfl rfl ?_
      exact e_iret dX6_first_17 rfl rfl ⟨_, rfl, rfl, k, rfl, hv12, hv, hlo⟩
    | succ j ih =>
      intro k hk hlo
      refine e_iload_n dX6_first_2 rfl rfl ?_
      refine e_iload_n dX6_first_3 rfl rfl ?_
      refine e_callS0i [_, _] dX6_first_4 msmX6_has lkRX6_183 rfl rfl (Nat.le_of_ble_eq_true rfl) (by decide) (c_has (by omega) (by omega)) ?_
      by_cases hb : S.testBit k = true
      · rw [if_pos hb]
        refine e_if_ne (tgt := 16) dX6_first_7 (by decide) (fun _ => ?_) (fun hz => absurd hz (by decide))
        refine e_iload_n dX6_first_16 rfl rfl ?_
        exact e_iret dX6_first_17 rfl rfl ⟨_, rfl, rfl, k, rfl, by omega, hb, hlo⟩
      · rw [if_neg hb]
        refine e_if_ne (tgt := 16) dX6_first_7 (by decide) (fun hz => absurd rfl hz) (fun _ => ?_)
        refine e_iinc (v := nI (k + 1)) dX6_first_10 rfl (nI_1 k) (by decide) rfl rfl ?_
        refine e_goto (tgt := 2) dX6_first_13 (by decide) ?_
        refine ih (k + 1) (by omega) (fun i hi => ?_)
        by_cases hik : i = k
        · rw [hik]; simpa using hb
        · exact hlo i (by omega)
  refine e_iconst (v := 0) dX6_first_0 (by decide) ?_
  refine e_istore_n dX6_first_1 rfl (by decide) rfl rfl ?_
  exact loop v 0 (by omega) (fun i hi => by omega)
/-- size and weights are small -/
def qsm (q : Qt) : Prop := q.1 < 2 ^ 30 ∧ q.2.2.1 < 2 ^ 30 ∧ q.2.2.2 < 2 ^ 30
theorem qsm_add {x y : Qt} (hx : qsm x) (hy : qsm y) : qsm (qadd x y) := by
  obtain ⟨a1, a2, a3⟩ := hx
  obtain ⟨b1, b2, b3⟩ := hy
  unfold qadd
  by_cases h1 : x.1 < y.1
  · rw [if_pos h1]; exact ⟨b1, b2, b3⟩
  · rw [if_neg h1]
    by_cases h2 : y.1 < x.1
    · rw [if_pos h2]; exact ⟨a1, a2, a3⟩
    · rw [if_neg h2]
      refine ⟨a1, ?_, ?_⟩
      · show max x.2.2.1 y.2.2.1 < 2 ^ 30
        omega
      · show min x.2.2.2 y.2.2.2 < 2 ^ 30
        omega
theorem qbd.sm {q : Qt} (h : qbd q) : qsm q := by
  obtain ⟨a, b, c, d⟩ := h
  exact ⟨by omega, by omega, by omega⟩
/-- of the tables only the place S changes -/
def Mq (S : Nat) (M N : Mm) : Prop := N.1 = M.1 ∧ N.2.2.2 = M.2.2.2 ∧ (∀ a j, (a < 75 ∨ 77 < a ∨ j ≠ S) → N.2.1 a j = M.2.1 a j) ∧ ∀ a j, (a ≠ 78 ∨ j ≠ S) → N.2.2.1 a j = M.2.2.1 a j
theorem Mq.rf {S : Nat} {M : Mm} : Mq S M M := ⟨rfl, rfl, fun _ _ _ => rfl, fun _ _ _ => rfl⟩
theorem Mq.trans {S : Nat} {M N K : Mm} (h1 : Mq S M N) (h2 : Mq S N K) : Mq S M K := ⟨h2.1.trans h1.1, h2.2.1.trans h1.2.1, fun a j h => (h2.2.2.1 a j h).trans (h1.2.2.1 a j h), fun a j h => (h2.2.2.2 a j h).trans (h1.2.2.2 a j h)⟩
theorem Mq.s {S a : Nat} {v : Int32} {M N : Mm} (h : Mq S M N) (h1 : 75 ≤ a) (h2 : a ≤ 77) : Mq S M (sI N a S v) := ⟨h.1, h.2.1, fun b j hb => by rw [rd_sI, if_neg (by omega)]; exact h.2.2.1 b j hb, h.2.2.2⟩
theorem rdJ (M : Mm) (a i : Nat) (v : Int64) (b j : Nat) : (sJ M a i v).2.2.1 b j = if b = a ∧ j = i then v else M.2.2.1 b j := by
  show u2 M.2.2.1 a i v b j = _
  unfold u2
  by_cases h : b = a
  · by_cases h2 : j = i
    · simp [h, h2]
    · simp [h, h2]
  · simp [h]
theorem Mq.j {S : Nat} {v : Int64} {M N : Mm} (h : Mq S M N) : Mq S M (sJ N 78 S v) := ⟨h.1, h.2.1, h.2.2.1, fun b j hb => by rw [rdJ, if_neg (by omega)]; exact h.2.2.2 b j hb⟩
theorem OkM.mq {M N : Mm} {S : Nat} (h : OkM M) (hq : Mq S M N) : OkM N := by unfold OkM; rw [hq.1, hq.2.1]; exact h
theorem Mq.row {S : Nat} {M N : Mm} (h : Mq S M N) {a : Nat} (ha : a < 75 ∨ 77 < a) : N.2.1 a = M.2.1 a := funext (fun j => h.2.2.1 a j (by omega))
theorem MQt.mq {M N : Mm} {S T : Nat} {q : Qt} (h : MQt M T q) (hf : Mq S M N) (hne : T ≠ S) : MQt N T q := by
  unfold MQt
  rw [hf.2.2.1 75 T (by omega), hf.2.2.1 76 T (by omega), hf.2.2.1 77 T (by omega), hf.2.2.2 78 T (by omega)]
  exact h
def moP (M : Mm) (S : Nat) : Option Qt → Prop
  | none => M.2.1 75 S = -1
  | some q => MQt M S q ∧ qsm q
def oqd : Option Qt → Qt → Qt
  | none, y => y
  | some x, y => qadd x y
theorem sJ_i (M : Mm) (a i : Nat) (v : Int64) (b j : Nat) : (sJ M a i v).2.1 b j = M.2.1 b j := rfl
theorem sI_j (M : Mm) (a i : Nat) (v : Int32) (b j : Nat) : (sI M a i v).2.2.1 b j = M.2.2.1 b j := rfl
theorem c_adds {B : Bd} {M : Mm} {S T pr k : Nat} {o : Option Qt} {q2 : Qt} (ok : OkM M) (hS : S < 4096) (hT : T < 4096) (hne : T ≠ S) (h1 : moP M S o) (h2 : MQt M T q2) (b2 : qsm q2) (hp : pr ≤ 1) (hk : k ≤ 999) (b3 : qsm (q2.1 + pr, q2.2.1, q2.2.2.1 + k, q2.2.2.2 + k)) : Ct B mX6_adds 1 0 0 [.ref 60, .int (nI S), .int (nI T), .int (nI pr), .int (nI k)] M (Rt (fun v N => v = none ∧ MQt N S (oqd o (q2.1 + pr, q2.2.1, q2.2.2.1 + k, q2.2.2.2 + k)) ∧ Mq S M N)) := by
  obtain ⟨m2', h2', l2', w2'⟩ := id h2
  obtain ⟨c1, c2, c3⟩ := b3
  have c1' : q2.1 + pr < 2 ^ 30 := c1
  have c2' : q2.2.2.1 + k < 2 ^ 30 := c2
  have c3' : q2.2.2.2 + k < 2 ^ 30 := c3
  generalize hΦ : (Rt (fun v N => v = none ∧ MQt N S (oqd o (q2.1 + pr, q2.2.1, q2.2.2.1 + k, q2.2.2.2 + k)) ∧ Mq S M N)) = Φ
  refine Ct.of (by decide) rfl rfl (Nat.le_of_ble_eq_true rfl) ?_
  -- from 55 on: counts and weights come together
  have tail : ∀ N (c0 : Nat) (h0 : Int32) (l0 rh rl : Nat), Mq S M N → N.2.2.1 78 S = lN c0 → N.2.1 76 S = h0 → N.2.1 77 S = nI l0 → l0 < 2 ^ 31 → ((h0 ≤ nI (q2.2.2.1 + k) ∧ rh = q2.2.2.1 + k) ∨ (¬ h0 ≤ nI (q2.2.2.1 + k) ∧ h0 = nI rh)) → rl = min l0 (q2.2.2.2 + k) → (∀ K, Mq S M K → MQt K S (q2.1 + pr, c0 + q2.2.1, rh, rl) → Φ (.inl none) K) → Ev B mX6_adds 1 0 0 Φ 55 [some (.ref 60), some (.int (nI S)), some (.int (nI T)), some (.int (nI pr)), some (.int (nI k)), some (.int (nI (q2.1 + pr)))] [] N := by
    intro N c0 h0 l0 rh rl fN e80 e78 e79 hl0 hrh hrl hk9
    have okN : OkM N := ok.mq fN
    refine e_aload_n dX6_adds_55 rfl rfl ?_
    refine e_getR dX6_adds_56 fRX6_34 (by exact okN.sh rfl) (by exact okN.rf rfl) (fun _ => rfl) ?_
    refine e_iload_n dX6_adds_59 rfl rfl ?_
    refine e_iload dX6_adds_60 rfl ?_
    refine e_iastore dX6_adds_62 (by exact okN.sh rfl) (by first | exact vp_in_nI (show S < 4096 by omega) (by decide) | exact vp_in_nI (show T < 4096 by omega) (by decide)) ?_
    rw [nI_clamp (by omega)]
    generalize hN1 : sI N 75 S (nI (q2.1 + pr)) = N1
    have f1 : Mq S M N1 := by rw [← hN1]; exact fN.s (by decide) (by decide)
    have ok1 : OkM N1 := ok.mq f1
    have s77 : N1.2.1 75 S = nI (q2.1 + pr) := by rw [← hN1, rd_self]
    have s78 : N1.2.1 76 S = h0 := by rw [← hN1, rd_na (by decide)]; exact e78
    have s79 : N1.2.1 77 S = nI l0 := by rw [← hN1, rd_na (by decide)]; exact e79
    have s80 : N1.2.2.1 78 S = lN c0 := by rw [← hN1, sI_j]; exact e80
    refine e_aload_n dX6_adds_63 rfl rfl ?_
    refine e_getR dX6_adds_64 fRX6_43 (by exact ok1.sh rfl) (by exact ok1.rf rfl) (fun _ => rfl) ?_
    refine e_iload_n dX6_adds_67 rfl rfl ?_
    refine e_dup2 dX6_adds_68 rfl rfl ?_
    refine e_laload dX6_adds_69 (by exact ok1.sh rfl) (by first | exact vp_in_nI (show S < 4096 by omega) (by decide) | exact vp_in_nI (show T < 4096 by omega) (by decide)) ?_
    rw [nI_clamp (by omega), s80]
    refine e_aload_n dX6_adds_70 rfl rfl ?_
    refine e_getR dX6_adds_71 fRX6_43 (by exact ok1.sh rfl) (by exact ok1.rf rfl) (fun _ => rfl) ?_
    refine e_iload_n dX6_adds_74 rfl rfl ?_
    refine e_laload dX6_adds_75 (by exact ok1.sh rfl) (by first | exact vp_in_nI (show S < 4096 by omega) (by decide) | exact vp_in_nI (show T < 4096 by omega) (by decide)) ?_
    rw [nI_clamp (by omega), f1.2.2.2 78 T (by omega), w2']
    refine e_ladd dX6_adds_76 ?_
    rw [lN_add]
    refine e_lastore dX6_adds_77 (by exact ok1.lo) (by exact ok1.sh rfl) (by first | exact vp_in_nI (show S < 4096 by omega) (by decide) | exact vp_in_nI (show T < 4096 by omega) (by decide)) ?_
    rw [nI_clamp (by omega)]
    generalize hN2 : sJ N1 78 S (lN (c0 + q2.2.1)) = N2
    have f2 : Mq S M N2 := by rw [← hN2]; exact f1.j
    have ok2 : OkM N2 := ok.mq f2
    have t77 : N2.2.1 75 S = nI (q2.1 + pr) := by rw [← hN2, sJ_i]; exact s77
    have t78 : N2.2.1 76 S = h0 := by rw [← hN2, sJ_i]; exact s78
    have t79 : N2.2.1 77 S = nI l0 := by rw [← hN2, sJ_i]; exact s79
    have t80 : N2.2.2.1 78 S = lN (c0 + q2.2.1) := by rw [← hN2, rdJ, if_pos ⟨rfl, rfl⟩]
    have tT78 : N2.2.1 76 T = nI q2.2.2.1 := by rw [f2.2.2.1 76 T (by omega)]; exact h2'
    have tT79 : N2.2.1 77 T = nI q2.2.2.2 := by rw [f2.2.2.1 77 T (by omega)]; exact l2'
    -- the lightest
    have light : ∀ K, K = sI N2 76 S (nI rh) → Ev B mX6_adds 1 0 0 Φ 120 [some (.ref 60), some (.int (nI S)), some (.int (nI T)), some (.int (nI pr)), some (.int (nI k)), some (.int (nI (q2.1 + pr)))] [] K := by
      intro K hK
      have fK : Mq S M K := by rw [hK]; exact f2.s (by decide) (by decide)
      have okK : OkM K := ok.mq fK
      have u79 : K.2.1 77 S = nI l0 := by rw [hK, rd_na (by decide)]; exact t79
      have uT79 : K.2.1 77 T = nI q2.2.2.2 := by rw [hK, rd_na (by decide)]; exact tT79
      refine e_aload_n dX6_adds_120 rfl rfl ?_
      refine e_getR dX6_adds_121 fRX6_40 (by exact okK.sh rfl) (by exact okK.rf rfl) (fun _ => rfl) ?_
      refine e_iload_n dX6_adds_124 rfl rfl ?_
      refine e_aload_n dX6_adds_125 rfl rfl ?_
      refine e_getR dX6_adds_126 fRX6_40 (by exact okK.sh rfl) (by exact okK.rf rfl) (fun _ => rfl) ?_
      refine e_iload_n dX6_adds_129 rfl rfl ?_
      refine e_iaload dX6_adds_130 (by exact okK.sh rfl) (by first | exact vp_in_nI (show S < 4096 by omega) (by decide) | exact vp_in_nI (show T < 4096 by omega) (by decide)) ?_
      rw [nI_clamp (by omega), u79]
      refine e_aload_n dX6_adds_131 rfl rfl ?_
      refine e_getR dX6_adds_132 fRX6_40 (by exact okK.sh rfl) (by exact okK.rf rfl) (fun _ => rfl) ?_
      refine e_iload_n dX6_adds_135 rfl rfl ?_
      refine e_iaload dX6_adds_136 (by exact okK.sh rfl) (by first | exact vp_in_nI (show S < 4096 by omega) (by decide) | exact vp_in_nI (show T < 4096 by omega) (by decide)) ?_
      rw [nI_clamp (by omega), uT79]
      refine e_iload dX6_adds_137 rfl ?_
      refine e_iadd dX6_adds_139 ?_
      rw [nI_add]
      refine e_callS0i [_, _] dX6_adds_140 msmX6_less lkRX6_124 rfl rfl (Nat.le_of_ble_eq_true rfl) (by decide) (c_less (a := l0) (b := q2.2.2.2 + k) hl0 (by omega)) ?_
      rw [← hrl]
      refine e_iastore dX6_adds_143 (by exact okK.sh rfl) (by first | exact vp_in_nI (show S < 4096 by omega) (by decide) | exact vp_in_nI (show T < 4096 by omega) (by decide)) ?_
      rw [nI_clamp (by omega)]
      refine e_vret dX6_adds_144 rfl (hk9 _ (fK.s (by decide) (by decide)) ⟨?_, ?_, ?_, ?_⟩)
      · rw [rd_na (by decide), hK, rd_na (by decide)]; exact t77
      · rw [rd_na (by decide), hK, rd_self]
      · rw [rd_self]
      · rw [sI_j, hK, sI_j]; exact t80
    refine e_aload_n dX6_adds_78 rfl rfl ?_
    refine e_getR dX6_adds_79 fRX6_37 (by exact ok2.sh rfl) (by exact ok2.rf rfl) (fun _ => rfl) ?_
    refine e_iload_n dX6_adds_82 rfl rfl ?_
    refine e_aload_n dX6_adds_83 rfl rfl ?_
    refine e_getR dX6_adds_84 fRX6_37 (by exact ok2.sh rfl) (by exact ok2.rf rfl) (fun _ => rfl) ?_
    refine e_iload_n dX6_adds_87 rfl rfl ?_
    refine e_iaload dX6_adds_88 (by exact ok2.sh rfl) (by first | exact vp_in_nI (show S < 4096 by omega) (by decide) | exact vp_in_nI (show T < 4096 by omega) (by decide)) ?_
    rw [nI_clamp (by omega), t78]
    refine e_aload_n dX6_adds_89 rfl rfl ?_
    refine e_getR dX6_adds_90 fRX6_37 (by exact ok2.sh rfl) (by exact ok2.rf rfl) (fun _ => rfl) ?_
    refine e_iload_n dX6_adds_93 rfl rfl ?_
    refine e_iaload dX6_adds_94 (by exact ok2.sh rfl) (by first | exact vp_in_nI (show S < 4096 by omega) (by decide) | exact vp_in_nI (show T < 4096 by omega) (by decide)) ?_
    rw [nI_clamp (by omega), tT78]
    refine e_iload dX6_adds_95 rfl ?_
    refine e_iadd dX6_adds_97 ?_
    rw [nI_add]
    rcases hrh with ⟨hr1, hr2⟩ | ⟨hr1, hr2⟩
    · refine e_icmp_le (tgt := 110) dX6_adds_98 (by decide) (fun _ => ?_) (fun hz => absurd hr1 hz)
      refine e_aload_n dX6_adds_110 rfl rfl ?_
      refine e_getR dX6_adds_111 fRX6_37 (by exact ok2.sh rfl) (by exact ok2.rf rfl) (fun _ => rfl) ?_
      refine e_iload_n dX6_adds_114 rfl rfl ?_
      refine e_iaload dX6_adds_115 (by exact ok2.sh rfl) (by first | exact vp_in_nI (show S < 4096 by omega) (by decide) | exact vp_in_nI (show T < 4096 by omega) (by decide)) ?_
      rw [nI_clamp (by omega), tT78]
      refine e_iload dX6_adds_116 rfl ?_
      refine e_iadd dX6_adds_118 ?_
      rw [nI_add, ← hr2]
      refine e_iastore dX6_adds_119 (by exact ok2.sh rfl) (by first | exact vp_in_nI (show S < 4096 by omega) (by decide) | exact vp_in_nI (show T < 4096 by omega) (by decide)) ?_
      rw [nI_clamp (by omega)]
      exact light _ rfl
    · refine e_icmp_le (tgt := 110) dX6_adds_98 (by decide) (fun hz => absurd hz hr1) (fun _ => ?_)
      refine e_aload_n dX6_adds_101 rfl rfl ?_
      refine e_getR dX6_adds_102 fRX6_37 (by exact ok2.sh rfl) (by exact ok2.rf rfl) (fun _ => rfl) ?_
      refine e_iload_n dX6_adds_105 rfl rfl ?_
      refine e_iaload dX6_adds_106 (by exact ok2.sh rfl) (by first | exact vp_in_nI (show S < 4096 by omega) (by decide) | exact vp_in_nI (show T < 4096 by omega) (by decide)) ?_
      rw [nI_clamp (by omega), t78, hr2]
      refine e_goto (tgt := 119) dX6_adds_107 (by decide) ?_
      refine e_iastore dX6_adds_119 (by exact ok2.sh rfl) (by first | exact vp_in_nI (show S < 4096 by omega) (by decide) | exact vp_in_nI (show T < 4096 by omega) (by decide)) ?_
      rw [nI_clamp (by omega)]
      exact light _ rfl
  refine e_aload_n dX6_adds_0 rfl rfl ?_
  refine e_getR dX6_adds_1 fRX6_34 (by exact ok.sh rfl) (by exact ok.rf rfl) (fun _ => rfl) ?_
  refine e_iload_n dX6_adds_4 rfl rfl ?_
  refine e_iaload dX6_adds_5 (by exact ok.sh rfl) (by first | exact vp_in_nI (show S < 4096 by omega) (by decide) | exact vp_in_nI (show T < 4096 by omega) (by decide)) ?_
  rw [nI_clamp (by omega), m2']
  refine e_iload_n dX6_adds_6 rfl rfl ?_
  refine e_iadd dX6_adds_7 ?_
  rw [nI_add]
  refine e_istore dX6_adds_8 (by decide) rfl rfl ?_
  refine e_iload dX6_adds_10 rfl ?_
  refine e_aload_n dX6_adds_12 rfl rfl ?_
  refine e_getR dX6_adds_13 fRX6_34 (by exact ok.sh rfl) (by exact ok.rf rfl) (fun _ => rfl) ?_
  refine e_iload_n dX6_adds_16 rfl rfl ?_
  refine e_iaload dX6_adds_17 (by exact ok.sh rfl) (by first | exact vp_in_nI (show S < 4096 by omega) (by decide) | exact vp_in_nI (show T < 4096 by omega) (by decide)) ?_
  rw [nI_clamp (by omega)]
  -- the place is laid anew
  have anew : (∀ K, Mq S M K → MQt K S (q2.1 + pr, q2.2.1, q2.2.2.1 + k, q2.2.2.2 + k) → Φ (.inl none) K) → Ev B mX6_adds 1 0 0 Φ 33 [some (.ref 60), some (.int (nI S)), some (.int (nI T)), some (.int (nI pr)), some (.int (nI k)), some (.int (nI (q2.1 + pr)))] [] M := by
    intro hk9
    refine e_aload_n dX6_adds_33 rfl rfl ?_
    refine e_getR dX6_adds_34 fRX6_43 (by exact ok.sh rfl) (by exact ok.rf rfl) (fun _ => rfl) ?_
    refine e_iload_n dX6_adds_37 rfl rfl ?_
    refine e_lconst (v := 0) dX6_adds_38 (by decide) ?_
    refine e_lastore dX6_adds_39 (by exact ok.lo) (by exact ok.sh rfl) (by first | exact vp_in_nI (show S < 4096 by omega) (by decide) | exact vp_in_nI (show T < 4096 by omega) (by decide)) ?_
    rw [nI_clamp (by omega)]
    generalize hN1 : sJ M 78 S 0 = N1
    have f1 : Mq S M N1 := by rw [← hN1]; exact Mq.rf.j
    have ok1 : OkM N1 := ok.mq f1
    refine e_aload_n dX6_adds_40 rfl rfl ?_
    refine e_getR dX6_adds_41 fRX6_37 (by exact ok1.sh rfl) (by exact ok1.rf rfl) (fun _ => rfl) ?_
    refine e_iload_n dX6_adds_44 rfl rfl ?_
    refine e_iconst (v := (-1)) dX6_adds_45 (by decide) ?_
    refine e_iastore dX6_adds_46 (by exact ok1.sh rfl) (by first | exact vp_in_nI (show S < 4096 by omega) (by decide) | exact vp_in_nI (show T < 4096 by omega) (by decide)) ?_
    rw [nI_clamp (by omega)]
    refine e_aload_n dX6_adds_47 rfl rfl ?_
    refine e_getR dX6_adds_48 fRX6_40 (by exact ok1.sh rfl) (by exact ok1.rf rfl) (fun _ => rfl) ?_
    refine e_iload_n dX6_adds_51 rfl rfl ?_
    refine e_ldc dX6_adds_52 kRX6_193 ?_
    refine e_iastore dX6_adds_54 (by exact ok1.sh rfl) (by first | exact vp_in_nI (show S < 4096 by omega) (by decide) | exact vp_in_nI (show T < 4096 by omega) (by decide)) ?_
    rw [nI_clamp (by omega)]
    refine tail _ 0 (-1) 2147483647 (q2.2.2.1 + k) (q2.2.2.2 + k) ((f1.s (by decide) (by decide)).s (by decide) (by decide)) ?_ ?_ ?_ (by decide) (Or.inl ⟨?_, rfl⟩) (by omega) (fun K h1 h2 => hk9 K h1 (by rw [Nat.zero_add] at h2; exact h2))
    · rw [sI_j, sI_j, ← hN1, rdJ, if_pos ⟨rfl, rfl⟩]; rfl
    · rw [rd_na (by decide), rd_self]
    · rw [rd_self]; rfl
    · rw [fa_le, nI_toInt (by omega)]
      have h2 : (-1 : Int32).toInt = -1 := by decide
      omega
  cases o with
  | none =>
    have h1' : M.2.1 75 S = -1 := h1
    have hm : (-1 : Int32) ≤ nI (q2.1 + pr) := by
      rw [fa_le, nI_toInt (by omega)]
      have h2 : (-1 : Int32).toInt = -1 := by decide
      omega
    have hm2 : ¬ nI (q2.1 + pr) ≤ (-1 : Int32) := by
      rw [fa_le, nI_toInt (by omega)]
      have h2 : (-1 : Int32).toInt = -1 := by decide
      omega
    rw [h1']
    refine e_icmp_ge (tgt := 22) dX6_adds_18 (by decide) (fun _ => ?_) (fun hz => absurd hm hz)
    refine e_iload dX6_adds_22 rfl ?_
    refine e_aload_n dX6_adds_24 rfl rfl ?_
    refine e_getR dX6_adds_25 fRX6_34 (by exact ok.sh rfl) (by exact ok.rf rfl) (fun _ => rfl) ?_
    refine e_iload_n dX6_adds_28 rfl rfl ?_
    refine e_iaload dX6_adds_29 (by exact ok.sh rfl) (by first | exact vp_in_nI (show S < 4096 by omega) (by decide) | exact vp_in_nI (show T < 4096 by omega) (by decide)) ?_
    rw [nI_clamp (by omega), h1']
    refine e_icmp_le (tgt := 55) dX6_adds_30 (by decide) (fun hz => absurd hz hm2) (fun _ => ?_)
    exact anew (fun K f1 f2 => by rw [← hΦ]; exact ⟨none, rfl, rfl, f2, f1⟩)
  | some q =>
    obtain ⟨⟨m1, hv1, l1, w1'⟩, b1, b1h, b1l⟩ := id h1
    rw [m1]
    rcases Nat.lt_trichotomy (q2.1 + pr) q.1 with hlt | heq | hgt
    · refine e_icmp_ge (tgt := 22) dX6_adds_18 (by decide) (fun hz => absurd hz (nI_ge hlt (by omega))) (fun _ => ?_)
      refine e_vret dX6_adds_21 rfl ?_
      rw [← hΦ]
      refine ⟨none, rfl, rfl, ?_, Mq.rf⟩
      have e : qadd q (q2.1 + pr, q2.2.1, q2.2.2.1 + k, q2.2.2.2 + k) = q := by
        unfold qadd
        rw [if_neg (by show ¬ q.1 < q2.1 + pr; omega), if_pos hlt]
      show MQt M S (qadd q _)
      rw [e]; exact h1.1
    · refine e_icmp_ge (tgt := 22) dX6_adds_18 (by decide) (fun _ => ?_) (fun hz => absurd (nI_le (by omega) (by omega)) hz)
      refine e_iload dX6_adds_22 rfl ?_
      refine e_aload_n dX6_adds_24 rfl rfl ?_
      refine e_getR dX6_adds_25 fRX6_34 (by exact ok.sh rfl) (by exact ok.rf rfl) (fun _ => rfl) ?_
      refine e_iload_n dX6_adds_28 rfl rfl ?_
      refine e_iaload dX6_adds_29 (by exact ok.sh rfl) (by first | exact vp_in_nI (show S < 4096 by omega) (by decide) | exact vp_in_nI (show T < 4096 by omega) (by decide)) ?_
      rw [nI_clamp (by omega), m1]
      refine e_icmp_le (tgt := 55) dX6_adds_30 (by decide) (fun _ => ?_) (fun hz => absurd (nI_le (by omega) (by omega)) hz)
      have e : qadd q (q2.1 + pr, q2.2.1, q2.2.2.1 + k, q2.2.2.2 + k) = (q2.1 + pr, q.2.1 + q2.2.1, max q.2.2.1 (q2.2.2.1 + k), min q.2.2.2 (q2.2.2.2 + k)) := by
        unfold qadd
        rw [if_neg (by show ¬ q.1 < q2.1 + pr; omega), if_neg (by show ¬ q2.1 + pr < q.1; omega), heq]
      refine tail M q.2.1 (nI q.2.2.1) q.2.2.2 (max q.2.2.1 (q2.2.2.1 + k)) (min q.2.2.2 (q2.2.2.2 + k)) Mq.rf w1' hv1 l1 (by omega) ?_ rfl (fun K f1 f2 => ?_)
      · by_cases hle : q.2.2.1 ≤ q2.2.2.1 + k
        · exact Or.inl ⟨nI_le hle (by omega), by omega⟩
        · exact Or.inr ⟨fun z => hle ((nI_leI (by omega) (by omega)).mp z), by congr 1; omega⟩
      · rw [← hΦ]
        refine ⟨none, rfl, rfl, ?_, f1⟩
        show MQt K S (qadd q _)
        rw [e]; exact f2
    · refine e_icmp_ge (tgt := 22) dX6_adds_18 (by decide) (fun _ => ?_) (fun hz => absurd (nI_le (by omega) (by omega)) hz)
      refine e_iload dX6_adds_22 rfl ?_
      refine e_aload_n dX6_adds_24 rfl rfl ?_
      refine e_getR dX6_adds_25 fRX6_34 (by exact ok.sh rfl) (by exact ok.rf rfl) (fun _ => rfl) ?_
      refine e_iload_n dX6_adds_28 rfl rfl ?_
      refine e_iaload dX6_adds_29 (by exact ok.sh rfl) (by first | exact vp_in_nI (show S < 4096 by omega) (by decide) | exact vp_in_nI (show T < 4096 by omega) (by decide)) ?_
      rw [nI_clamp (by omega), m1]
      refine e_icmp_le (tgt := 55) dX6_adds_30 (by decide) (fun hz => absurd hz (nI_ge hgt (by omega))) (fun _ => ?_)
      have e : qadd q (q2.1 + pr, q2.2.1, q2.2.2.1 + k, q2.2.2.2 + k) = (q2.1 + pr, q2.2.1, q2.2.2.1 + k, q2.2.2.2 + k) := by
        unfold qadd
        rw [if_pos hgt]
      exact anew (fun K f1 f2 => by rw [← hΦ]; refine ⟨none, rfl, rfl, ?_, f1⟩; show MQt K S (qadd q _); rw [e]; exact f2)
/-- what laying the tables changes -/
def FL (M N : Mm) : Prop := N.1 = M.1 ∧ N.2.2.2 = M.2.2.2 ∧ (∀ a, a ≠ 60 → (a < 75 ∨ 77 < a) → N.2.1 a = M.2.1 a) ∧ (∀ j, j ≠ 19 → N.2.1 60 j = M.2.1 60 j) ∧ ∀ a, a ≠ 78 → N.2.2.1 a = M.2.2.1 a
theorem FL.rf {M : Mm} : FL M M := ⟨rfl, rfl, fun _ _ _ => rfl, fun _ _ => rfl, fun _ _ => rfl⟩
theorem FL.q {S : Nat} {M N K : Mm} (h : FL M N) (hq : Mq S N K) : FL M K := ⟨hq.1.trans h.1, hq.2.1.trans h.2.1, fun a h1 h2 => (hq.row (by omega)).trans (h.2.2.1 a h1 h2), fun j hj => (hq.2.2.1 60 j (by omega)).trans (h.2.2.2.1 j hj), fun a ha => (funext (fun j => hq.2.2.2 a j (by omega))).trans (h.2.2.2.2 a ha)⟩
theorem FL.FM {M N : Mm} (h : FL M N) : FM M N := ⟨h.1, h.2.1, fun a ha => h.2.2.1 a (by omega) (by omega), h.2.2.2.2⟩
theorem FL.ok {M N : Mm} (ok : OkM M) (h : FL M N) : OkM N := by unfold OkM; rw [h.1, h.2.1]; exact ok
theorem MI.laid {M N : Mm} {s : Sx} (h : MI M s) (hf : FL M N) (h19 : N.2.1 60 19 = 1) (hq : MLd N (sgg s)) : MI N s := by
  obtain ⟨ok, ⟨a1, a2, a3, a4, a5⟩, ⟨b1, b2⟩, ⟨c1, c2⟩, d1, e1, f1⟩ := h
  refine ⟨hf.ok ok, ⟨by rw [hf.2.2.2.1 2 (by decide)]; exact a1, a2, by rw [hf.2.2.2.1 5 (by decide)]; exact a3, by rw [hf.2.2.2.1 12 (by decide)]; exact a4, a5⟩, ⟨b1, fun i hi => by rw [hf.2.2.1 62 (by decide) (by decide)]; exact b2 i hi⟩, ⟨c1.at (hf.2.2.1 63 (by decide) (by decide)), c2⟩, fun i g hg => ?_, Or.inr ⟨h19, hq⟩, fun i hi => by rw [hf.2.2.1 61 (by decide) (by decide)]; exact f1 i hi⟩
  have hil : i < (shh s).length := by
    rcases Nat.lt_or_ge i (shh s).length with q | q
    · exact q
    · rw [List.getElem?_eq_none q] at hg; cases hg
  exact ⟨(d1 i g hg).1.at (hf.2.2.1 (66 + i) (by omega) (by omega)), (d1 i g hg).2⟩
theorem hb1_n {w : Nat → Nat → Option Nat} {v S b : Nat} (h : ¬ (S.testBit b = true ∧ b ≠ v) ∨ w v b = none) : hb1 w v S b = none := by
  unfold hb1
  by_cases hc : S.testBit b = true ∧ b ≠ v
  · rw [if_pos hc]
    rcases h with h | h
    · exact absurd hc h
    · rw [h]; rfl
  · rw [if_neg hc]
theorem hb1_s {w : Nat → Nat → Option Nat} {v S b k : Nat} (h : S.testBit b = true ∧ b ≠ v) (hw : w v b = some k) : hb1 w v S b = some (qsh k (Tq w (ex (ex S v) b))) := by
  unfold hb1
  rw [if_pos h, hw]; rfl
theorem c_lays {B : Bd} {M : Mm} {s : Sx} (h : MI M s) : Ct B mX6_lays 2 0 0 [.ref 60] M (Rt (fun u N => u = none ∧ MI N s ∧ MLd N (sgg s) ∧ FL M N)) := by
  have ok := h.1
  have wf := h.wf
  have hg12 := h.g12
  have hp12 := p12 hg12.2
  have hnow := h.now
  generalize hg : sgg s = g at *
  refine Ct.of (by decide) rfl rfl (Nat.le_of_ble_eq_true rfl) ?_
  refine e_aload_n dX6_lays_0 rfl rfl ?_
  refine e_getI dX6_lays_1 fRX6_187 (by exact ok.sh rfl) (fun _ => rfl) ?_
  rcases h.2.2.2.2.2.1 with h0 | ⟨h1, hl⟩
  · rw [h0]
    refine e_if_eq (tgt := 8) dX6_lays_4 (by decide) (fun _ => ?_) (fun hz => absurd rfl hz)
    refine e_aload_n dX6_lays_8 rfl rfl ?_
    refine e_iconst (v := 1) dX6_lays_9 (by decide) ?_
    refine e_putI dX6_lays_10 fRX6_187 (by exact ok.sh rfl) rfl rfl rfl (fun _ _ => rfl) ?_
    refine e_aload_n dX6_lays_13 rfl rfl ?_
    refine e_getR dX6_lays_14 fRX6_43 (by exact ok.sh rfl) (by exact ok.rf rfl) (fun _ => rfl) ?_
    refine e_iconst (v := 0) dX6_lays_17 (by decide) ?_
    refine e_lconst (v := 1) dX6_lays_18 (by decide) ?_
    refine e_lastore dX6_lays_19 (by exact ok.lo) (by exact ok.sh rfl) (by exact vp_in_nI (n := 0) (N := 4096) (by decide) (by decide)) ?_
    generalize hN1 : sJ (sI M 60 19 1) 78 (0 : Int32).toNatClampNeg 1 = N1
    have fl1 : FL M N1 := by
      rw [← hN1]
      refine ⟨rfl, rfl, fun a h1 h2 => ?_, fun j hj => ?_, fun a ha => ?_⟩
      · exact u2_ne _ _ _ h1
      · show (sI M 60 19 1).2.1 60 j = _
        rw [rd_ni hj]
      · exact u2_ne _ _ _ ha
    have n19 : N1.2.1 60 19 = 1 := by rw [← hN1, sJ_i, rd_self]
    have w0 : N1.2.2.1 78 0 = lN 1 := by
      rw [← hN1, rdJ]
      show (if (78 = 78 ∧ 0 = 0) then (1 : Int64) else _) = _
      rw [if_pos ⟨rfl, rfl⟩]; rfl
    have ok1 : OkM N1 := fl1.ok ok
    refine e_aload_n dX6_lays_20 rfl rfl ?_
    refine e_getR dX6_lays_21 fRX6_34 (by exact ok1.sh rfl) (by exact ok1.rf rfl) (fun _ => rfl) ?_
    refine e_iconst (v := 0) dX6_lays_24 (by decide) ?_
    refine e_iconst (v := 0) dX6_lays_25 (by decide) ?_
    refine e_iastore dX6_lays_26 (by exact ok1.sh rfl) (by exact vp_in_nI (n := 0) (N := 4096) (by decide) (by decide)) ?_
    refine e_aload_n dX6_lays_27 rfl rfl ?_
    refine e_getR dX6_lays_28 fRX6_37 (by exact ok1.sh rfl) (by exact ok1.rf rfl) (fun _ => rfl) ?_
    refine e_iconst (v := 0) dX6_lays_31 (by decide) ?_
    refine e_iconst (v := 0) dX6_lays_32 (by decide) ?_
    refine e_iastore dX6_lays_33 (by exact ok1.sh rfl) (by exact vp_in_nI (n := 0) (N := 4096) (by decide) (by decide)) ?_
    refine e_aload_n dX6_lays_34 rfl rfl ?_
    refine e_getR dX6_lays_35 fRX6_40 (by exact ok1.sh rfl) (by exact ok1.rf rfl) (fun _ => rfl) ?_
    refine e_iconst (v := 0) dX6_lays_38 (by decide) ?_
    refine e_iconst (v := 0) dX6_lays_39 (by decide) ?_
    refine e_iastore dX6_lays_40 (by exact ok1.sh rfl) (by exact vp_in_nI (n := 0) (N := 4096) (by decide) (by decide)) ?_
    generalize hN2 : sI (sI (sI N1 75 (0 : Int32).toNatClampNeg 0) 76 (0 : Int32).toNatClampNeg 0) 77 (0 : Int32).toNatClampNeg 0 = N2
    have mq2 : Mq 0 N1 N2 := by rw [← hN2]; exact ((Mq.rf.s (by decide) (by decide)).s (by decide) (by decide)).s (by decide) (by decide)
    have fl2 : FL M N2 := fl1.q mq2
    have q0 : MQt N2 0 (Tq g.2.1 0) := by
      rw [Tq_0, ← hN2]
      refine ⟨?_, ?_, ?_, w0⟩
      · show (sI (sI (sI N1 75 0 0) 76 0 0) 77 0 0).2.1 75 0 = nI 0
        rw [rd_na (by decide), rd_na (by decide), rd_self]; rfl
      · show (sI (sI (sI N1 75 0 0) 76 0 0) 77 0 0).2.1 76 0 = nI 0
        rw [rd_na (by decide), rd_self]; rfl
      · show (sI (sI (sI N1 75 0 0) 76 0 0) 77 0 0).2.1 77 0 = nI 0
        rw [rd_self]; rfl
    have n19' : N2.2.1 60 19 = 1 := by rw [mq2.2.2.1 60 19 (by omega)]; exact n19
    refine e_iconst (v := 1) dX6_lays_41 (by decide) ?_
    refine e_istore_n dX6_lays_42 rfl (by decide) rfl rfl ?_
    have hsm : ∀ T, qsm (Tq g.2.1 T) := fun T => (Tq_bd wf.w T).sm
    have hsm2 : ∀ T k pr, pr ≤ 1 → k ≤ 999 → qsm ((Tq g.2.1 T).1 + pr, (Tq g.2.1 T).2.1, (Tq g.2.1 T).2.2.1 + k, (Tq g.2.1 T).2.2.2 + k) := fun T k pr h1 h2 => by
      obtain ⟨a1, a2, a3, a4⟩ := Tq_bd wf.w T
      refine ⟨?_, ?_, ?_⟩
      · show (Tq g.2.1 T).1 + pr < 2 ^ 30
        omega
      · show (Tq g.2.1 T).2.2.1 + k < 2 ^ 30
        omega
      · show (Tq g.2.1 T).2.2.2 + k < 2 ^ 30
        omega
    have outer : ∀ j S N (t2 t3 t4 : Option Value), S + j = 2 ^ g.1 → 1 ≤ S → FL M N → N.2.1 60 19 = 1 → (∀ T, T < S → MQt N T (Tq g.2.1 T)) → (t2 = none ∨ ∃ i, t2 = some (.int i)) → (t3 = none ∨ ∃ i, t3 = some (.int i)) → Ev B mX6_lays 2 0 0 (Rt (fun u N => u = none ∧ MI N s ∧ MLd N g ∧ FL M N)) 43 [some (.ref 60), some (.int (nI S)), t2, t3, t4] [] N := by
      intro j
      induction j with
      | zero =>
        intro S N t2 t3 t4 hS h1S fN n19 hT _ _
        have okN : OkM N := fN.ok ok
        have nowN : NowR N 63 g := hnow.at (fN.2.2.1 63 (by decide) (by decide))
        refine e_iload_n dX6_lays_43 rfl rfl ?_
        refine e_aload_n dX6_lays_44 rfl rfl ?_
        refine e_callV0i [] dX6_lays_45 mvmX6_all lkRX6_194 (by exact okN.sh rfl) ⟨by decide, rfl⟩ rfl rfl (Nat.le_of_ble_eq_true rfl) (by decide) (c_mall okN nowN hg12.2) ?_
        refine e_icmp_gt (tgt := 146) dX6_lays_48 (by decide) (fun _ => ?_) (fun hz => absurd (nI_lt (by unfold al; omega) (by omega)) hz)
        have hML : MLd N g := fun T hT2 => hT T (by omega)
        exact e_vret dX6_lays_146 rfl ⟨none, rfl, rfl, h.laid fN n19 (by rw [hg]; exact hML), hML, fN⟩
      | succ j ih =>
        intro S N t2 t3 t4 hS h1S fN n19 hT ht2 ht3
        have okN : OkM N := fN.ok ok
        have nowN : NowR N 63 g := hnow.at (fN.2.2.1 63 (by decide) (by decide))
        have hS4 : S < 4096 := by omega
        refine e_iload_n dX6_lays_43 rfl rfl ?_
        refine e_aload_n dX6_lays_44 rfl rfl ?_
        refine e_callV0i [] dX6_lays_45 mvmX6_all lkRX6_194 (by exact okN.sh rfl) ⟨by decide, rfl⟩ rfl rfl (Nat.le_of_ble_eq_true rfl) (by decide) (c_mall okN nowN hg12.2) ?_
        refine e_icmp_gt (tgt := 146) dX6_lays_48 (by decide) (fun hz => absurd hz (nI_nlt (by unfold al; omega) (by unfold al; omega))) (fun _ => ?_)
        refine e_iload_n dX6_lays_51 rfl rfl ?_
        refine e_callS1 [_] dX6_lays_52 msmX6_first lkRX6_196 rfl rfl (Nat.le_of_ble_eq_true rfl) (by decide) (c_first hS4 (by omega)) (fun u N0 hf => ?_)
        obtain ⟨hN0, a, hu, ha12, hab, halo⟩ := hf
        subst hu hN0
        have hS2 : S < 2 ^ g.1 := by omega
        have han : a < g.1 := by
          rcases Nat.lt_or_ge a g.1 with q | q
          · exact q
          · rw [bit_hi hS2 q] at hab; cases hab
        have hexS : ex S a < S := ex_lt hab
        show Ev _ _ _ _ _ _ 55 _ [.int (nI a)] _
        have st2 : ∀ (X : Option Value → Prop), X t2 → True := fun _ _ => trivial
        have h55 : Ev B mX6_lays 2 0 0 (Rt (fun u N => u = none ∧ MI N s ∧ MLd N g ∧ FL M N)) 56 [some (.ref 60), some (.int (nI S)), some (.int (nI a)), t3, t4] [] N0 := by
          refine e_iload_n dX6_lays_56 rfl rfl ?_
          refine e_iconst (v := 1) dX6_lays_57 (by decide) ?_
          refine e_iload_n dX6_lays_58 rfl rfl ?_
          refine e_ishl dX6_lays_59 ?_
          rw [shl_1 (by omega)]
          refine e_iconst (v := (-1)) dX6_lays_60 (by decide) ?_
          refine e_ixor dX6_lays_61 ?_
          refine e_iand dX6_lays_62 ?_
          rw [andn_nI]
          show Ev _ _ _ _ _ _ 63 _ [.int (nI (ex S a))] _
          refine e_istore_n dX6_lays_63 rfl (by decide) rfl rfl ?_
          refine e_aload_n dX6_lays_64 rfl rfl ?_
          refine e_getR dX6_lays_65 fRX6_34 (by exact okN.sh rfl) (by exact okN.rf rfl) (fun _ => rfl) ?_
          refine e_iload_n dX6_lays_68 rfl rfl ?_
          refine e_iconst (v := (-1)) dX6_lays_69 (by decide) ?_
          refine e_iastore dX6_lays_70 (by exact okN.sh rfl) (by exact vp_in_nI (show S < 4096 by omega) (by decide)) ?_
          rw [nI_clamp (by omega)]
          generalize hK1 : sI N0 75 S (-1) = K1
          have mK1 : Mq S N0 K1 := by rw [← hK1]; exact Mq.rf.s (by decide) (by decide)
          have fK1 : FL M K1 := fN.q mK1
          have okK1 : OkM K1 := fK1.ok ok
          refine e_aload_n dX6_lays_71 rfl rfl ?_
          refine e_iload_n dX6_lays_72 rfl rfl ?_
          refine e_iload_n dX6_lays_73 rfl rfl ?_
          refine e_iconst (v := 0) dX6_lays_74 (by decide) ?_
          refine e_iconst (v := 0) dX6_lays_75 (by decide) ?_
          refine e_callV1 [_, _, _, _] dX6_lays_76 mvmX6_adds lkRX6_199 (by exact okK1.sh rfl) ⟨by decide, rfl⟩ rfl rfl (Nat.le_of_ble_eq_true rfl) (by decide) (c_adds (o := none) (S := S) (T := ex S a) (pr := 0) (k := 0) (q2 := Tq g.2.1 (ex S a)) okK1 hS4 (by omega) (by omega) (by show K1.2.1 75 S = -1; rw [← hK1, rd_self]) ((hT _ hexS).mq mK1 (by omega)) (hsm _) (by decide) (by decide) (hsm2 _ 0 0 (by decide) (by decide))) (fun u K2 hq => ?_)
          obtain ⟨hu, k1, k2⟩ := hq
          subst hu
          have mK2 : Mq S N0 K2 := mK1.trans k2
          have k1' : MQt K2 S (Tq g.2.1 (ex S a)) := k1
          refine e_iload_n dX6_lays_79 rfl rfl ?_
          refine e_iconst (v := 1) dX6_lays_80 (by decide) ?_
          refine e_iadd dX6_lays_81 ?_
          rw [nI_1]
          refine e_istore dX6_lays_82 (by decide) rfl rfl ?_
          have inner : ∀ j2 b K q, b + j2 = g.1 → a < b → Mq S N0 K → MQt K S q → qsm q → oq (tt g.2.1 (ex S a)) (osu (hb1 g.2.1 a S) b) = some q → Ev B mX6_lays 2 0 0 (Rt (fun u N => u = none ∧ MI N s ∧ MLd N g ∧ FL M N)) 84 [some (.ref 60), some (.int (nI S)), some (.int (nI a)), some (.int (nI (ex S a))), some (.int (nI b))] [] K := by
            intro j2
            induction j2 with
            | zero =>
              intro b K q hb hab2 mK hq hqs hoq
              have hbg : b = g.1 := by omega
              subst hbg
              have fK : FL M K := fN.q mK
              have okK : OkM K := fK.ok ok
              have nowK : NowR K 63 g := hnow.at (fK.2.2.1 63 (by decide) (by decide))
              have hTq : Tq g.2.1 S = q := by
                have e1 := XX_all wf.2.1 S hS4 a ha12 hab
                unfold XX at e1
                rw [osu_up (n := g.1) (fun b hb => hb1_n (Or.inl (fun z => by rw [bit_hi hS2 hb] at z; cases z.1))) hg12.2, hoq] at e1
                exact Option.some.inj e1
              refine e_iload dX6_lays_84 rfl ?_
              refine e_aload_n dX6_lays_86 rfl rfl ?_
              refine e_callV0i [] dX6_lays_87 mvmX6_nodes lkRX6_181 (by exact okK.sh rfl) ⟨by decide, rfl⟩ rfl rfl (Nat.le_of_ble_eq_true rfl) (by decide) (c_nodes okK nowK) ?_
              refine e_icmp_ge (tgt := 140) dX6_lays_90 (by decide) (fun _ => ?_) (fun hz => absurd (nI_le (by omega) (by omega)) hz)
              refine e_iinc (v := nI (S + 1)) dX6_lays_140 rfl (nI_1 S) (by decide) rfl rfl ?_
              refine e_goto (tgt := 43) dX6_lays_143 (by decide) ?_
              refine ih (S + 1) K _ _ _ (by omega) (by omega) fK (by rw [mK.2.2.1 60 19 (by omega)]; exact n19) (fun T hTS => ?_) (Or.inr ⟨_, rfl⟩) (Or.inr ⟨_, rfl⟩)
              by_cases hTe : T = S
              · rw [hTe, hTq]; exact hq
              · exact (hT T (by omega)).mq mK hTe
            | succ j2 ih2 =>
              intro b K q hb hab2 mK hq hqs hoq
              have fK : FL M K := fN.q mK
              have okK : OkM K := fK.ok ok
              have nowK : NowR K 63 g := hnow.at (fK.2.2.1 63 (by decide) (by decide))
              have skip : hb1 g.2.1 a S b = none → Ev B mX6_lays 2 0 0 (Rt (fun u N => u = none ∧ MI N s ∧ MLd N g ∧ FL M N)) 134 [some (.ref 60), some (.int (nI S)), some (.int (nI a)), some (.int (nI (ex S a))), some (.int (nI b))] [] K := by
                intro hn
                refine e_iinc (v := nI (b + 1)) dX6_lays_134 rfl (nI_1 b) (by decide) rfl rfl ?_
                refine e_goto (tgt := 84) dX6_lays_137 (by decide) ?_
                exact ih2 (b + 1) K q (by omega) (by omega) mK hq hqs (by rw [osu_s, hn, oq_n]; exact hoq)
              refine e_iload dX6_lays_84 rfl ?_
              refine e_aload_n dX6_lays_86 rfl rfl ?_
              refine e_callV0i [] dX6_lays_87 mvmX6_nodes lkRX6_181 (by exact okK.sh rfl) ⟨by decide, rfl⟩ rfl rfl (Nat.le_of_ble_eq_true rfl) (by decide) (c_nodes okK nowK) ?_
              refine e_icmp_ge (tgt := 140) dX6_lays_90 (by decide) (fun hz => absurd hz (nI_ge (by omega) (by omega))) (fun _ => ?_)
              refine e_iload_n dX6_lays_93 rfl rfl ?_
              refine e_iload dX6_lays_94 rfl ?_
              refine e_callS0i [_, _] dX6_lays_96 msmX6_has lkRX6_183 rfl rfl (Nat.le_of_ble_eq_true rfl) (by decide) (c_has (by omega) (by omega)) ?_
              by_cases hbit : (ex S a).testBit b = true
              · rw [if_pos hbit]
                have hb2 := ex_in.mp hbit
                refine e_if_eq (tgt := 134) dX6_lays_99 (by decide) (fun hz => absurd hz (by decide)) (fun _ => ?_)
                refine e_aload_n dX6_lays_102 rfl rfl ?_
                refine e_iload_n dX6_lays_103 rfl rfl ?_
                refine e_iload dX6_lays_104 rfl ?_
                refine e_callV0i [_, _] dX6_lays_106 mvmX6_weight lkRX6_203 (by exact okK.sh rfl) ⟨by decide, rfl⟩ rfl rfl (Nat.le_of_ble_eq_true rfl) (by decide) (c_weight okK nowK (by omega) (by omega)) ?_
                refine e_iconst (v := (-1)) dX6_lays_109 (by decide) ?_
                have hn := wI_none (wf.wb a b)
                refine e_icmp_eq (tgt := 134) dX6_lays_110 (by decide) (fun hz => skip (hb1_n (Or.inr (hn.mp hz)))) (fun hz => ?_)
                cases hw : g.2.1 a b with
                | none => rw [hw] at hz; exact absurd rfl hz
                | some k =>
                  have hk9 := wf.w a b k hw
                  refine e_aload_n dX6_lays_113 rfl rfl ?_
                  refine e_iload_n dX6_lays_114 rfl rfl ?_
                  refine e_iload_n dX6_lays_115 rfl rfl ?_
                  refine e_iconst (v := 1) dX6_lays_116 (by decide) ?_
                  refine e_iload dX6_lays_117 rfl ?_
                  refine e_ishl dX6_lays_119 ?_
                  rw [shl_1 (by omega)]
                  refine e_iconst (v := (-1)) dX6_lays_120 (by decide) ?_
                  refine e_ixor dX6_lays_121 ?_
                  refine e_iand dX6_lays_122 ?_
                  rw [andn_nI]
                  show Ev _ _ _ _ _ _ 123 _ [.int (nI (ex (ex S a) b)), _, _] _
                  refine e_iconst (v := 1) dX6_lays_123 (by decide) ?_
                  refine e_aload_n dX6_lays_124 rfl rfl ?_
                  refine e_iload_n dX6_lays_125 rfl rfl ?_
                  refine e_iload dX6_lays_126 rfl ?_
                  refine e_callV0i [_, _] dX6_lays_128 mvmX6_weight lkRX6_203 (by exact okK.sh rfl) ⟨by decide, rfl⟩ rfl rfl (Nat.le_of_ble_eq_true rfl) (by decide) (c_weight okK nowK (by omega) (by omega)) ?_
                  rw [hw]
                  have hlt2 : ex (ex S a) b < S := Nat.lt_of_lt_of_le (ex_lt hbit) (Nat.le_of_lt hexS)
                  show Ev _ _ _ _ _ _ 131 _ [.int (nI k), .int (nI 1), .int (nI (ex (ex S a) b)), .int (nI S), .ref 60] _
                  refine e_callV1 [_, _, _, _] dX6_lays_131 mvmX6_adds lkRX6_199 (by exact okK.sh rfl) ⟨by decide, rfl⟩ rfl rfl (Nat.le_of_ble_eq_true rfl) (by decide) (c_adds (o := some q) (S := S) (T := ex (ex S a) b) (pr := 1) (k := k) (q2 := Tq g.2.1 (ex (ex S a) b)) okK hS4 (by omega) (by omega) ⟨hq, hqs⟩ ((hT _ hlt2).mq mK (by omega)) (hsm _) (by decide) hk9 (hsm2 _ k 1 (by decide) hk9)) (fun u K3 hq3 => ?_)
                  obtain ⟨hu, r1, r2⟩ := hq3
                  subst hu
                  refine e_iinc (v := nI (b + 1)) dX6_lays_134 rfl (nI_1 b) (by decide) rfl rfl ?_
                  refine e_goto (tgt := 84) dX6_lays_137 (by decide) ?_
                  refine ih2 (b + 1) K3 _ (by omega) (by omega) (mK.trans r2) r1 (qsm_add hqs (hsm2 _ k 1 (by decide) hk9)) ?_
                  rw [osu_s, hb1_s ⟨hb2.1, fun e => hb2.2 e.symm⟩ hw, ← oq_assoc, hoq]
                  rfl
              · rw [if_neg hbit]
                refine e_if_eq (tgt := 134) dX6_lays_99 (by decide) (fun _ => ?_) (fun hz => absurd rfl hz)
                exact skip (hb1_n (Or.inl (fun z => hbit (ex_in.mpr ⟨z.1, fun e => z.2 e.symm⟩))))
          refine inner (g.1 - (a + 1)) (a + 1) K2 _ (by omega) (by omega) mK2 k1' (hsm _) ?_
          rw [osu_none (fun b hb => hb1_n (Or.inl (fun z => ?_))), oq_n]
          · rfl
          · rcases Nat.lt_or_ge b a with q | q
            · rw [halo b q] at z; cases z.1
            · exact z.2 (by omega)
        rcases ht2 with rfl | ⟨i, rfl⟩
        · refine e_istore_n dX6_lays_55 rfl (by decide) rfl rfl ?_
          exact h55
        · refine e_istore_n dX6_lays_55 rfl (by decide) rfl rfl ?_
          exact h55
    refine outer (2 ^ g.1 - 1) 1 N2 _ _ _ (by have := Nat.two_pow_pos g.1; omega) (by omega) fl2 n19' (fun T hT => ?_) (Or.inl rfl) (Or.inl rfl)
    have : T = 0 := by omega
    rw [this]; exact q0
  · rw [h1]
    refine e_if_eq (tgt := 8) dX6_lays_4 (by decide) (fun hz => absurd hz (by decide)) (fun _ => ?_)
    exact e_vret dX6_lays_7 rfl ⟨none, rfl, rfl, h, by rw [← hg]; exact hl, FL.rf⟩

