/-! the Model reads -/
def MF (ks : List Nat) (M N : Mm) : Prop := Fr 60 60 M N ∧ ∀ j, j ∉ ks → N.2.1 60 j = M.2.1 60 j
theorem MF.rf {ks : List Nat} {M : Mm} : MF ks M M := ⟨Fr.rf, fun _ _ => rfl⟩
theorem MF.trans {ks : List Nat} {M N K : Mm} (h1 : MF ks M N) (h2 : MF ks N K) : MF ks M K := ⟨h1.1.trans h2.1, fun j hj => (h2.2 j hj).trans (h1.2 j hj)⟩
theorem MF.wide {ks ks2 : List Nat} {M N : Mm} (h : MF ks M N) (hs : ∀ j, j ∈ ks → j ∈ ks2) : MF ks2 M N := ⟨h.1, fun j hj => h.2 j (fun q => hj (hs j q))⟩
theorem MF.s {ks : List Nat} {M N : Mm} (h : MF ks M N) {i : Nat} {v : Int32} (hi : i ∈ ks) : MF ks M (sI N 60 i v) := ⟨h.1.sI (by decide) (by decide), fun j hj => by rw [rd_ni (j := j) (i := i) (fun e => hj (by rw [e]; exact hi))]; exact h.2 j hj⟩
def MT (M : Mm) (T : Nat → Nat) (n : Nat) : Prop := M.2.1 60 3 = nI n ∧ n ≤ 500 ∧ (∀ i, T i < 256) ∧ ∀ i, i < 500 → M.2.1 62 i = nI (T i)
theorem MT.rf {M N : Mm} {T : Nat → Nat} {n : Nat} {ks : List Nat} (h : MT M T n) (hf : MF ks M N) (h3 : 3 ∉ ks) : MT N T n := by
  obtain ⟨b, c, d, e⟩ := h
  refine ⟨by rw [hf.2 3 h3]; exact b, c, d, fun i hi => ?_⟩
  rw [hf.1.2.2 62 (by omega)]; exact e i hi
/-- the byte at a place, or none -/
def byA (T : Nat → Nat) (n q : Nat) : Int32 := if q < n then nI (T q) else -1
theorem byA_eq {T : Nat → Nat} {n q c : Nat} (hT : T q < 256) (hc : c < 256) : byA T n q = nI c ↔ (q < n ∧ T q = c) := by
  unfold byA
  by_cases h : q < n
  · rw [if_pos h, nI_eq (by omega) (by omega)]
    exact ⟨fun e => ⟨h, e⟩, fun e => e.2⟩
  · rw [if_neg h]
    constructor
    · intro e
      have : (-1 : Int32).toInt = (c : Int) := by rw [e]; exact nI_toInt (by omega)
      have h2 : (-1 : Int32).toInt = -1 := by decide
      omega
    · exact fun e => absurd e.1 h
theorem byA_in {T : Nat → Nat} {n q lo hi : Nat} (hT : T q < 256) (hl : lo < 256) (hh : hi < 256) : ((nI lo).toInt ≤ (byA T n q).toInt ∧ (byA T n q).toInt ≤ (nI hi).toInt) ↔ (q < n ∧ lo ≤ T q ∧ T q ≤ hi) := by
  unfold byA
  rw [nI_toInt (by omega), nI_toInt (by omega)]
  by_cases h : q < n
  · rw [if_pos h, nI_toInt (by omega)]; omega
  · rw [if_neg h]
    have h2 : (-1 : Int32).toInt = -1 := by decide
    omega
theorem c_byteAt {B : Bd} {M : Mm} {T : Nat → Nat} {n q : Nat} (ok : OkM M) (h : MT M T n) (hq : q < 2 ^ 31) : Ct B mX6_byteAt 0 0 0 [.ref 60, .int (nI q)] M (Is (some (.int (byA T n q))) M) := by
  have hn := h.2.1
  refine Ct.of (by decide) rfl rfl (Nat.le_of_ble_eq_true rfl) ?_
  refine e_iload_n dX6_byteAt_0 rfl rfl ?_
  refine e_aload_n dX6_byteAt_1 rfl rfl ?_
  refine e_getI dX6_byteAt_2 fRX6_78 (by exact ok.sh rfl) (fun _ => rfl) ?_
  rw [h.1]
  unfold byA
  by_cases hl : q < n
  · rw [if_pos hl]
    refine e_icmp_lt (tgt := 12) dX6_byteAt_5 (by decide) (fun hz => ?_) (fun hz => ?_)
    · refine e_aload_n dX6_byteAt_12 rfl rfl ?_
      refine e_getR dX6_byteAt_13 fRX6_17 (by exact ok.sh rfl) (by exact ok.rf rfl) (fun _ => rfl) ?_
      refine e_iload_n dX6_byteAt_16 rfl rfl ?_
      refine e_iaload dX6_byteAt_17 (by exact ok.sh rfl) (by exact vp_in_nI (show q < 500 by omega) (by decide)) ?_
      rw [nI_clamp hq, h.2.2.2 q (by omega)]
      exact e_iret dX6_byteAt_18 rfl rfl ⟨rfl, rfl⟩
    · exact absurd (nI_lt hl (by omega)) hz
  · rw [if_neg hl]
    refine e_icmp_lt (tgt := 12) dX6_byteAt_5 (by decide) (fun hz => ?_) (fun hz => ?_)
    · exact absurd hz (nI_nlt (by omega) (by omega))
    · refine e_iconst (v := (-1)) dX6_byteAt_8 (by decide) ?_
      refine e_goto (tgt := 18) dX6_byteAt_9 (by decide) ?_
      exact e_iret dX6_byteAt_18 rfl rfl ⟨rfl, rfl⟩
theorem c_here {B : Bd} {M : Mm} {T : Nat → Nat} {n p : Nat} (ok : OkM M) (h : MT M T n) (hp : M.2.1 60 4 = nI p) (hpn : p ≤ n) : Ct B mX6_here 1 0 0 [.ref 60] M (Rt (fun u N => u = some (.int (byA T n (sk T n p))) ∧ N.2.1 60 4 = nI (sk T n p) ∧ MF [4] M N)) := by
  have hn := h.2.1
  refine Ct.of (by decide) rfl rfl (Nat.le_of_ble_eq_true rfl) ?_
  have loop : ∀ j q N, n - q = j → q ≤ n → N.2.1 60 4 = nI q → MF [4] M N → sk T n q = sk T n p → Ev B mX6_here 1 0 0 (Rt (fun u N => u = some (.int (byA T n (sk T n p))) ∧ N.2.1 60 4 = nI (sk T n p) ∧ MF [4] M N)) 0 [some (.ref 60)] [] N := by
    intro j
    induction j with
    | zero =>
      intro q N hj hq hN hf he
      have okN : OkM N := ok.fr hf.1
      have ht := h.rf hf (by decide)
      have e : sk T n q = q := ru_f (by omega)
      rw [e] at he
      refine e_aload_n dX6_here_0 rfl rfl ?_
      refine e_aload_n dX6_here_1 rfl rfl ?_
      refine e_getI dX6_here_2 fRX6_81 (by exact okN.sh rfl) (fun _ => rfl) ?_
      rw [hN]
      refine e_callV0i [_] dX6_here_5 mvmX6_byteAt lkRX6_84 (by exact okN.sh rfl) ⟨by decide, rfl⟩ rfl rfl (Nat.le_of_ble_eq_true rfl) (by decide) (c_byteAt okN ht (by omega)) ?_
      refine e_bipush (v := 32) dX6_here_8 (by decide) ?_
      refine e_icmp_ne (tgt := 26) dX6_here_10 (by decide) (fun hz => ?_) (fun hz => ?_)
      · refine e_aload_n dX6_here_26 rfl rfl ?_
        refine e_aload_n dX6_here_27 rfl rfl ?_
        refine e_getI dX6_here_28 fRX6_81 (by exact okN.sh rfl) (fun _ => rfl) ?_
        rw [hN]
        refine e_callV0i [_] dX6_here_31 mvmX6_byteAt lkRX6_84 (by exact okN.sh rfl) ⟨by decide, rfl⟩ rfl rfl (Nat.le_of_ble_eq_true rfl) (by decide) (c_byteAt okN ht (by omega)) ?_
        rw [← he]
        exact e_iret dX6_here_34 rfl rfl ⟨_, rfl, rfl, hN, hf⟩
      · have := (byA_eq (c := 32) (ht.2.2.1 q) (by decide)).mp hz
        omega
    | succ j ih =>
      intro q N hj hq hN hf he
      have okN : OkM N := ok.fr hf.1
      have ht := h.rf hf (by decide)
      have hqn : q < n := by omega
      refine e_aload_n dX6_here_0 rfl rfl ?_
      refine e_aload_n dX6_here_1 rfl rfl ?_
      refine e_getI dX6_here_2 fRX6_81 (by exact okN.sh rfl) (fun _ => rfl) ?_
      rw [hN]
      refine e_callV0i [_] dX6_here_5 mvmX6_byteAt lkRX6_84 (by exact okN.sh rfl) ⟨by decide, rfl⟩ rfl rfl (Nat.le_of_ble_eq_true rfl) (by decide) (c_byteAt okN ht (by omega)) ?_
      refine e_bipush (v := 32) dX6_here_8 (by decide) ?_
      by_cases hb : T q = 32
      · have e : sk T n q = sk T n (q + 1) := ru_t hqn (decide_eq_true hb)
        refine e_icmp_ne (tgt := 26) dX6_here_10 (by decide) (fun hz => ?_) (fun hz => ?_)
        · exact absurd ((byA_eq (c := 32) (ht.2.2.1 q) (by decide)).mpr ⟨hqn, hb⟩) hz
        · refine e_aload_n dX6_here_13 rfl rfl ?_
          refine e_dup dX6_here_14 rfl ?_
          refine e_getI dX6_here_15 fRX6_81 (by exact okN.sh rfl) (fun _ => rfl) ?_
          rw [hN]
          refine e_iconst (v := 1) dX6_here_18 (by decide) ?_
          refine e_iadd dX6_here_19 ?_
          rw [nI_1]
          refine e_putI dX6_here_20 fRX6_81 (by exact okN.sh rfl) rfl rfl rfl (fun _ _ => rfl) ?_
          refine e_goto (tgt := 0) dX6_here_23 (by decide) ?_
          exact ih (q + 1) _ (by omega) (by omega) (by rw [rd_self]) (hf.s (by decide)) (by rw [← e]; exact he)
      · have e : sk T n q = q := ru_f (fun z => hb (of_decide_eq_true z.2))
        rw [e] at he
        refine e_icmp_ne (tgt := 26) dX6_here_10 (by decide) (fun hz => ?_) (fun hz => ?_)
        · refine e_aload_n dX6_here_26 rfl rfl ?_
          refine e_aload_n dX6_here_27 rfl rfl ?_
          refine e_getI dX6_here_28 fRX6_81 (by exact okN.sh rfl) (fun _ => rfl) ?_
          rw [hN]
          refine e_callV0i [_] dX6_here_31 mvmX6_byteAt lkRX6_84 (by exact okN.sh rfl) ⟨by decide, rfl⟩ rfl rfl (Nat.le_of_ble_eq_true rfl) (by decide) (c_byteAt okN ht (by omega)) ?_
          rw [← he]
          exact e_iret dX6_here_34 rfl rfl ⟨_, rfl, rfl, hN, hf⟩
        · exact absurd ((byA_eq (c := 32) (ht.2.2.1 q) (by decide)).mp hz).2 hb
  exact loop (n - p) p M rfl hpn hp MF.rf rfl
theorem c_mdig {B : Bd} {M : Mm} {T : Nat → Nat} {n q : Nat} (hT : T q < 256) : Ct B mX6_isDigit 0 0 0 [.int (byA T n q)] M (Is (some (.int (if q < n ∧ isD T q = true then 1 else 0))) M) := by
  have hs := byA_in (n := n) (lo := 48) (hi := 57) hT (by decide) (by decide)
  have hd : (q < n ∧ 48 ≤ T q ∧ T q ≤ 57) ↔ (q < n ∧ isD T q = true) := by unfold isD; simp
  rw [hd] at hs
  refine Ct.of (by decide) rfl rfl (Nat.le_of_ble_eq_true rfl) ?_
  refine e_iload_n dX6_isDigit_0 rfl rfl ?_
  refine e_bipush (v := 48) dX6_isDigit_1 (by decide) ?_
  rw [show (48 : Int32) = nI 48 from rfl]
  refine e_icmp_lt (tgt := 16) dX6_isDigit_3 (by decide) (fun h1 => ?_) (fun h1 => ?_)
  · rw [fa_lt] at h1
    refine e_iconst (v := 0) dX6_isDigit_16 (by decide) ?_
    rw [if_neg (fun z => by have := hs.mpr z; omega)]
    exact e_iret dX6_isDigit_17 rfl rfl (⟨rfl, rfl⟩)
  · rw [fa_lt] at h1
    refine e_iload_n dX6_isDigit_6 rfl rfl ?_
    refine e_bipush (v := 57) dX6_isDigit_7 (by decide) ?_
    rw [show (57 : Int32) = nI 57 from rfl]
    refine e_icmp_gt (tgt := 16) dX6_isDigit_9 (by decide) (fun h2 => ?_) (fun h2 => ?_)
    · rw [fa_lt] at h2
      refine e_iconst (v := 0) dX6_isDigit_16 (by decide) ?_
      rw [if_neg (fun z => by have := hs.mpr z; omega)]
      exact e_iret dX6_isDigit_17 rfl rfl (⟨rfl, rfl⟩)
    · rw [fa_lt] at h2
      refine e_iconst (v := 1) dX6_isDigit_12 (by decide) ?_
      refine e_goto (tgt := 17) dX6_isDigit_13 (by decide) ?_
      rw [if_pos (hs.mp (by omega))]
      exact e_iret dX6_isDigit_17 rfl rfl (⟨rfl, rfl⟩)
/-- where the Model's reading stands -/
def Mrd (M : Mm) (n : Nat) : Fl ⊕ Nat → Prop
  | .inl (k, pl) => (0 < k ∧ k ≤ 3 ∧ pl ≤ n) ∧ M.2.1 60 6 = nI k ∧ M.2.1 60 7 = nI pl
  | .inr p => p ≤ n ∧ M.2.1 60 6 = 0 ∧ M.2.1 60 7 = -1 ∧ M.2.1 60 4 = nI p
theorem Mrd.k {M : Mm} {n : Nat} {f : Fl} (h : Mrd M n (.inl f)) : ¬ M.2.1 60 6 = 0 := by
  obtain ⟨k, pl⟩ := f
  rw [h.2.1]; exact k_ne ⟨h.1.1, h.1.2.1⟩
theorem Mrd.go {M N : Mm} {n p q : Nat} (h : Mrd M n (.inr p)) (hf : MF [4] M N) (hp : q ≤ n) (h4 : N.2.1 60 4 = nI q) : Mrd N n (.inr q) := ⟨hp, by rw [hf.2 6 (by decide)]; exact h.2.1, by rw [hf.2 7 (by decide)]; exact h.2.2.1, h4⟩
theorem Mrd.fl {M N : Mm} {n k pl : Nat} (hk : 0 < k ∧ k ≤ 3 ∧ pl ≤ n) (e : N = sI (sI M 60 6 (nI k)) 60 7 (nI pl)) : Mrd N n (.inl (k, pl)) := by
  subst e
  exact ⟨hk, by rw [rd_ni (by decide), rd_self], by rw [rd_self]⟩
def fin01 : Fl ⊕ Nat → Int32
  | .inl _ => 0
  | .inr _ => 1
theorem fin01_r (p : Nat) : ¬ fin01 (.inr p) = 0 := by
  show ¬ (1 : Int32) = 0
  decide
theorem c_fine {B : Bd} {M : Mm} {n : Nat} {x : Fl ⊕ Nat} (ok : OkM M) (h : Mrd M n x) : Ct B mX6_fine 0 0 0 [.ref 60] M (Is (some (.int (fin01 x))) M) := by
  refine Ct.of (by decide) rfl rfl (Nat.le_of_ble_eq_true rfl) ?_
  refine e_aload_n dX6_fine_0 rfl rfl ?_
  refine e_getI dX6_fine_1 fRX6_88 (by exact ok.sh rfl) (fun _ => rfl) ?_
  cases x with
  | inl f =>
    refine e_if_ne (tgt := 11) dX6_fine_4 (by decide) (fun hz => ?_) (fun hz => ?_)
    · refine e_iconst (v := 0) dX6_fine_11 (by decide) ?_
      exact e_iret dX6_fine_12 rfl rfl (⟨rfl, rfl⟩)
    · exact absurd hz h.k
  | inr p =>
    refine e_if_ne (tgt := 11) dX6_fine_4 (by decide) (fun hz => ?_) (fun hz => ?_)
    · exact absurd h.2.1 hz
    · refine e_iconst (v := 1) dX6_fine_7 (by decide) ?_
      refine e_goto (tgt := 12) dX6_fine_8 (by decide) ?_
      exact e_iret dX6_fine_12 rfl rfl (⟨rfl, rfl⟩)
theorem c_wrong {B : Bd} {M : Mm} {k p : Int32} (ok : OkM M) : Ct B mX6_wrong 0 0 0 [.ref 60, .int k, .int p] M (Is none (if M.2.1 60 6 = 0 then sI (sI M 60 6 k) 60 7 p else M)) := by
  refine Ct.of (by decide) rfl rfl (Nat.le_of_ble_eq_true rfl) ?_
  refine e_aload_n dX6_wrong_0 rfl rfl ?_
  refine e_getI dX6_wrong_1 fRX6_88 (by exact ok.sh rfl) (fun _ => rfl) ?_
  refine e_if_ne (tgt := 17) dX6_wrong_4 (by decide) (fun h => ?_) (fun h => ?_)
  · rw [if_neg h]
    exact e_vret dX6_wrong_17 rfl (⟨rfl, rfl⟩)
  · rw [if_pos h]
    refine e_aload_n dX6_wrong_7 rfl rfl ?_
    refine e_iload_n dX6_wrong_8 rfl rfl ?_
    refine e_putI dX6_wrong_9 fRX6_88 (by exact ok.sh rfl) rfl rfl rfl (fun _ _ => rfl) ?_
    refine e_aload_n dX6_wrong_12 rfl rfl ?_
    refine e_iload_n dX6_wrong_13 rfl rfl ?_
    refine e_putI dX6_wrong_14 fRX6_91 (by exact ok.sh rfl) rfl rfl rfl (fun _ _ => rfl) ?_
    exact e_vret dX6_wrong_17 rfl (⟨rfl, rfl⟩)
theorem c_must {B : Bd} {M : Mm} {T : Nat → Nat} {n : Nat} {x : Fl ⊕ Nat} (ok : OkM M) (h : MT M T n) (hx : Mrd M n x) : Ct B mX6_must 2 0 0 [.ref 60, .int 59] M (Rt (fun u N => u = none ∧ Mrd N n (bd x (pend T n)) ∧ MF [4, 6, 7] M N)) := by
  have hn := h.2.1
  refine Ct.of (by decide) rfl rfl (Nat.le_of_ble_eq_true rfl) ?_
  refine e_aload_n dX6_must_0 rfl rfl ?_
  refine e_callV0i [] dX6_must_1 mvmX6_fine lkRX6_94 (by exact ok.sh rfl) ⟨by decide, rfl⟩ rfl rfl (Nat.le_of_ble_eq_true rfl) (by decide) (c_fine ok hx) ?_
  cases x with
  | inl f =>
    refine e_if_ne (tgt := 8) dX6_must_4 (by decide) (fun hz => absurd rfl hz) (fun _ => ?_)
    exact e_vret dX6_must_7 rfl ⟨none, rfl, rfl, hx, MF.rf⟩
  | inr p =>
    obtain ⟨hpn, h6, h7, hp⟩ := id hx
    have hsk := sk_le (T := T) hpn
    refine e_if_ne (tgt := 8) dX6_must_4 (by decide) (fun _ => ?_) (fun hz => absurd hz (fin01_r p))
    refine e_aload_n dX6_must_8 rfl rfl ?_
    refine e_callV1 [] dX6_must_9 mvmX6_here lkRX6_98 (by exact ok.sh rfl) ⟨by decide, rfl⟩ rfl rfl (Nat.le_of_ble_eq_true rfl) (by decide) (c_here ok h hp hpn) (fun u N h1 => ?_)
    obtain ⟨hu, hN, hf⟩ := h1
    subst hu
    have okN : OkM N := ok.fr hf.1
    have ht := h.rf hf (by decide)
    have rdN := hx.go hf hsk hN
    have hbe := byA_eq (n := n) (q := sk T n p) (c := 59) (ht.2.2.1 _) (by decide)
    refine e_iload_n dX6_must_12 rfl rfl ?_
    show Ev _ _ _ _ _ _ 13 _ [.int 59, .int (byA T n (sk T n p))] _
    refine e_icmp_ne (tgt := 29) dX6_must_13 (by decide) (fun hz => ?_) (fun hz => ?_)
    · have hno : ¬ (sk T n p < n ∧ T (sk T n p) = 59) := fun q => hz (hbe.mpr q)
      refine e_aload_n dX6_must_29 rfl rfl ?_
      refine e_iconst (v := 1) dX6_must_30 (by decide) ?_
      refine e_aload_n dX6_must_31 rfl rfl ?_
      refine e_getI dX6_must_32 fRX6_81 (by exact okN.sh rfl) (fun _ => rfl) ?_
      rw [hN]
      refine e_callV0v [_, _] dX6_must_35 mvmX6_wrong lkRX6_115 (by exact okN.sh rfl) ⟨by decide, rfl⟩ rfl rfl (Nat.le_of_ble_eq_true rfl) (by decide) (c_wrong okN) ?_
      rw [if_pos rdN.2.1]
      refine e_vret dX6_must_38 rfl ⟨none, rfl, rfl, ?_, ((hf.wide (by decide)).s (by decide)).s (by decide)⟩
      show Mrd _ n (pend T n p)
      unfold pend
      rw [if_neg hno]
      exact Mrd.fl ⟨by decide, by decide, hsk⟩ rfl
    · have hy := hbe.mp hz
      refine e_aload_n dX6_must_16 rfl rfl ?_
      refine e_dup dX6_must_17 rfl ?_
      refine e_getI dX6_must_18 fRX6_81 (by exact okN.sh rfl) (fun _ => rfl) ?_
      rw [hN]
      refine e_iconst (v := 1) dX6_must_21 (by decide) ?_
      refine e_iadd dX6_must_22 ?_
      rw [nI_1]
      refine e_putI dX6_must_23 fRX6_81 (by exact okN.sh rfl) rfl rfl rfl (fun _ _ => rfl) ?_
      refine e_goto (tgt := 38) dX6_must_26 (by decide) ?_
      refine e_vret dX6_must_38 rfl ⟨none, rfl, rfl, ?_, (hf.wide (by decide)).s (by decide)⟩
      show Mrd _ n (pend T n p)
      unfold pend
      rw [if_pos hy]
      have hf4 : MF [4] N (sI N 60 4 (nI (sk T n p + 1))) := MF.rf.s (by decide)
      exact rdN.go hf4 (by omega) (by rw [rd_self])
/-- a number that is none of a set -/
def pnb (T : Nat → Nat) (n lo hi bt p : Nat) : Fl ⊕ (Nat × Nat × Nat) := match pnum T n lo hi p with
  | .inl e => .inl e
  | .inr (e, v, q) => if v < 12 ∧ bt.testBit v = true then .inl (2, q) else .inr (e, v, q)
def MnP (T : Nat → Nat) (n lo hi bt : Nat) (x : Fl ⊕ Nat) (M : Mm) : Ot → Mm → Prop := Rt (fun u N => ∃ r : Int32, u = some (.int r) ∧ Mrd N n (bd x (fun p => bd (pnb T n lo hi bt p) (fun e => .inr e.1))) ∧ MF [4, 6, 7] M N ∧ ∀ p e v q, x = .inr p → pnb T n lo hi bt p = .inr (e, v, q) → r = nI v)
theorem c_number {B : Bd} {M : Mm} {T : Nat → Nat} {n lo hi bt : Nat} {x : Fl ⊕ Nat} (ok : OkM M) (h : MT M T n) (hx : Mrd M n x) (hlo : lo ≤ 1) (hhi : hi ≤ 999) (hbt : bt < 4096) : Ct B mX6_number 2 0 0 [.ref 60, .int (nI lo), .int (nI hi), .int (nI bt)] M (MnP T n lo hi bt x M) := by
  have hn := h.2.1
  refine Ct.of (by decide) rfl rfl (Nat.le_of_ble_eq_true rfl) ?_
  refine e_aload_n dX6_number_0 rfl rfl ?_
  refine e_callV0i [] dX6_number_1 mvmX6_fine lkRX6_94 (by exact ok.sh rfl) ⟨by decide, rfl⟩ rfl rfl (Nat.le_of_ble_eq_true rfl) (by decide) (c_fine ok hx) ?_
  cases x with
  | inl f =>
    refine e_if_ne (tgt := 9) dX6_number_4 (by decide) (fun hz => absurd rfl hz) (fun _ => ?_)
    refine e_iconst (v := 0) dX6_number_7 (by decide) ?_
    exact e_iret dX6_number_8 rfl rfl ⟨_, rfl, _, rfl, hx, MF.rf, fun p e v q hp => by cases hp⟩
  | inr p =>
    obtain ⟨hpn, h6, h7, hp⟩ := id hx
    have hsk := sk_le (T := T) hpn
    refine e_if_ne (tgt := 9) dX6_number_4 (by decide) (fun _ => ?_) (fun hz => absurd hz (fin01_r p))
    refine e_aload_n dX6_number_9 rfl rfl ?_
    refine e_callV1 [] dX6_number_10 mvmX6_here lkRX6_98 (by exact ok.sh rfl) ⟨by decide, rfl⟩ rfl rfl (Nat.le_of_ble_eq_true rfl) (by decide) (c_here ok h hp hpn) (fun u N h1 => ?_)
    obtain ⟨hu, hN, hf⟩ := h1
    subst hu
    have okN : OkM N := ok.fr hf.1
    have ht := h.rf hf (by decide)
    have rdN := hx.go hf hsk hN
    have hf3 : MF [4, 6, 7] M N := hf.wide (by decide)
    have hah : (sk T n p < n ∧ isD T (sk T n p) = true) ↔ ahd T n p = true := by unfold ahd; simp
    show Ev _ _ _ _ _ _ 13 _ [.int (byA T n (sk T n p))] _
    refine e_callS0i [_] dX6_number_13 msmX6_isDigit lkRX6_119 rfl rfl (Nat.le_of_ble_eq_true rfl) (by decide) (c_mdig (n := n) (ht.2.2.1 (sk T n p))) ?_
    by_cases ha : ahd T n p = true
    · rw [if_pos (hah.mpr ha)]
      refine e_if_ne (tgt := 30) dX6_number_16 (by decide) (fun _ => ?_) (fun hz => absurd hz (by decide))
      refine e_aload_n dX6_number_30 rfl rfl ?_
      refine e_getI dX6_number_31 fRX6_81 (by exact okN.sh rfl) (fun _ => rfl) ?_
      rw [hN]
      refine e_istore dX6_number_34 (by decide) rfl rfl ?_
      refine e_iconst (v := 0) dX6_number_36 (by decide) ?_
      refine e_istore dX6_number_37 (by decide) rfl rfl ?_
      -- behind the digits
      have fin : ∀ K, MF [4] N K → K.2.1 60 4 = nI (ru (isD T) n (sk T n p)) → Ev B mX6_number 2 0 0 (MnP T n lo hi bt (.inr p) M) 90 [some (.ref 60), some (.int (nI lo)), some (.int (nI hi)), some (.int (nI bt)), some (.int (nI (sk T n p))), some (.int (nI (min 100000 (nval T n p))))] [] K := by
        intro K hfK h4
        have okK : OkM K := okN.fr hfK.1
        have hre := ru_le (c := isD T) hsk
        have rdK := rdN.go hfK hre h4
        have hfM : MF [4, 6, 7] M K := hf3.trans (hfK.wide (by decide))
        have bad : pnb T n lo hi bt p = .inl (2, sk T n p) → Ev B mX6_number 2 0 0 (MnP T n lo hi bt (.inr p) M) 117 [some (.ref 60), some (.int (nI lo)), some (.int (nI hi)), some (.int (nI bt)), some (.int (nI (sk T n p))), some (.int (nI (min 100000 (nval T n p))))] [] K := by
          intro e9
          refine e_aload_n dX6_number_117 rfl rfl ?_
          refine e_iconst (v := 2) dX6_number_118 (by decide) ?_
          refine e_iload dX6_number_119 rfl ?_
          refine e_callV0v [_, _] dX6_number_121 mvmX6_wrong lkRX6_115 (by exact okK.sh rfl) ⟨by decide, rfl⟩ rfl rfl (Nat.le_of_ble_eq_true rfl) (by decide) (c_wrong okK) ?_
          rw [if_pos rdK.2.1]
          refine e_iload dX6_number_124 rfl ?_
          refine e_iret dX6_number_126 rfl rfl ⟨_, rfl, _, rfl, ?_, (hfM.s (by decide)).s (by decide), fun p' e v q hp' he => ?_⟩
          · show Mrd _ n (bd (pnb T n lo hi bt p) _)
            rw [e9]
            exact Mrd.fl ⟨by decide, by decide, hsk⟩ rfl
          · cases hp'
            rw [e9] at he; cases he
        have good : pnb T n lo hi bt p = .inr (ru (isD T) n (sk T n p), nval T n p, sk T n p) → nval T n p ≤ 999 → Ev B mX6_number 2 0 0 (MnP T n lo hi bt (.inr p) M) 124 [some (.ref 60), some (.int (nI lo)), some (.int (nI hi)), some (.int (nI bt)), some (.int (nI (sk T n p))), some (.int (nI (min 100000 (nval T n p))))] [] K := by
          intro e9 hle
          have hv : min 100000 (nval T n p) = nval T n p := by omega
          rw [hv]
          refine e_iload dX6_number_124 rfl ?_
          refine e_iret dX6_number_126 rfl rfl ⟨_, rfl, _, rfl, ?_, hfM, fun p' e v q hp' he => ?_⟩
          · show Mrd _ n (bd (pnb T n lo hi bt p) _)
            rw [e9]
            exact rdK
          · cases hp'
            rw [e9] at he
            cases he
            rfl
        refine e_iload dX6_number_90 rfl ?_
        refine e_iload_n dX6_number_92 rfl rfl ?_
        refine e_iload_n dX6_number_93 rfl rfl ?_
        refine e_callS0i [_, _, _] dX6_number_94 msmX6_in lkRX6_111 rfl rfl (Nat.le_of_ble_eq_true rfl) (by decide) (c_in (x := nI (min 100000 (nval T n p))) (lo := nI lo) (hi := nI hi)) ?_
        rw [nI_toInt (by omega), nI_toInt (by omega), nI_toInt (by omega)]
        by_cases hr : lo ≤ nval T n p ∧ nval T n p ≤ hi
        · have hv : min 100000 (nval T n p) = nval T n p := by omega
          rw [if_pos (by omega)]
          have e8 : pnum T n lo hi p = .inr (ru (isD T) n (sk T n p), nval T n p, sk T n p) := by unfold pnum; rw [if_pos ha, if_pos hr]
          have e7 : pnb T n lo hi bt p = if nval T n p < 12 ∧ bt.testBit (nval T n p) = true then .inl (2, sk T n p) else .inr (ru (isD T) n (sk T n p), nval T n p, sk T n p) := by unfold pnb; rw [e8]
          refine e_if_eq (tgt := 117) dX6_number_97 (by decide) (fun hz => ?_) (fun hz => ?_)
          · exact absurd hz (by decide)
          · refine e_iload dX6_number_100 rfl ?_
            refine e_bipush (v := 12) dX6_number_102 (by decide) ?_
            refine e_icmp_ge (tgt := 124) dX6_number_104 (by decide) (fun hz2 => ?_) (fun hz2 => ?_)
            · have hge : ¬ nval T n p < 12 := fun q => absurd hz2 (by rw [hv]; exact nI_ge (b := 12) q (by decide))
              exact good (by rw [e7, if_neg (fun q => hge q.1)]) (by omega)
            · have hlt : nval T n p < 12 := Classical.byContradiction (fun q => hz2 (by rw [hv]; exact nI_le (a := 12) (by omega) (by omega)))
              have hb := hb_iff (k := bt) (j := nval T n p) (by omega) (by omega)
              refine e_iload_n dX6_number_107 rfl rfl ?_
              refine e_iload dX6_number_108 rfl ?_
              refine e_ishr dX6_number_110 ?_
              refine e_iconst (v := 1) dX6_number_111 (by decide) ?_
              refine e_iand dX6_number_112 ?_
              refine e_iconst (v := 1) dX6_number_113 (by decide) ?_
              refine e_icmp_ne (tgt := 124) dX6_number_114 (by decide) (fun hz3 => ?_) (fun hz3 => ?_)
              · rw [hv] at hz3
                exact good (by rw [e7, if_neg (fun q => hz3 (hb.mpr q.2))]) (by omega)
              · rw [hv] at hz3
                exact bad (by rw [e7, if_pos ⟨hlt, hb.mp hz3⟩])
        · rw [if_neg (by omega)]
          have e8 : pnum T n lo hi p = .inl (2, sk T n p) := by unfold pnum; rw [if_pos ha, if_neg hr]
          refine e_if_eq (tgt := 117) dX6_number_97 (by decide) (fun hz => ?_) (fun hz => ?_)
          · exact bad (by unfold pnb; rw [e8])
          · exact absurd rfl hz
      have loop : ∀ j q v K, n - q = j → q ≤ n → MF [4] N K → K.2.1 60 4 = nI q → ru (isD T) n q = ru (isD T) n (sk T n p) → nvf T (ru (isD T) n q - q) q v = nval T n p → Ev B mX6_number 2 0 0 (MnP T n lo hi bt (.inr p) M) 39 [some (.ref 60), some (.int (nI lo)), some (.int (nI hi)), some (.int (nI bt)), some (.int (nI (sk T n p))), some (.int (nI (min 100000 v)))] [] K := by
        intro j
        induction j with
        | zero =>
          intro q v K hj hq hfK h4 hru hv
          have okK : OkM K := okN.fr hfK.1
          have htK := ht.rf hfK (by decide)
          have e : ru (isD T) n q = q := ru_f (by omega)
          rw [e, Nat.sub_self] at hv
          have hv' : v = nval T n p := hv
          rw [hv']
          refine e_aload_n dX6_number_39 rfl rfl ?_
          refine e_aload_n dX6_number_40 rfl rfl ?_
          refine e_getI dX6_number_41 fRX6_81 (by exact okK.sh rfl) (fun _ => rfl) ?_
          rw [h4]
          refine e_callV0i [_] dX6_number_44 mvmX6_byteAt lkRX6_84 (by exact okK.sh rfl) ⟨by decide, rfl⟩ rfl rfl (Nat.le_of_ble_eq_true rfl) (by decide) (c_byteAt okK htK (by omega)) ?_
          refine e_callS0i [_] dX6_number_47 msmX6_isDigit lkRX6_119 rfl rfl (Nat.le_of_ble_eq_true rfl) (by decide) (c_mdig (n := n) (htK.2.2.1 q)) ?_
          rw [if_neg (by omega)]
          refine e_if_eq (tgt := 90) dX6_number_50 (by decide) (fun hz => ?_) (fun hz => ?_)
          · exact fin K hfK (by rw [← hru, e]; exact h4)
          · exact absurd rfl hz
        | succ j ih =>
          intro q v K hj hq hfK h4 hru hv
          have okK : OkM K := okN.fr hfK.1
          have htK := ht.rf hfK (by decide)
          have hqn : q < n := by omega
          have hTq := htK.2.2.1 q
          refine e_aload_n dX6_number_39 rfl rfl ?_
          refine e_aload_n dX6_number_40 rfl rfl ?_
          refine e_getI dX6_number_41 fRX6_81 (by exact okK.sh rfl) (fun _ => rfl) ?_
          rw [h4]
          refine e_callV0i [_] dX6_number_44 mvmX6_byteAt lkRX6_84 (by exact okK.sh rfl) ⟨by decide, rfl⟩ rfl rfl (Nat.le_of_ble_eq_true rfl) (by decide) (c_byteAt okK htK (by omega)) ?_
          refine e_callS0i [_] dX6_number_47 msmX6_isDigit lkRX6_119 rfl rfl (Nat.le_of_ble_eq_true rfl) (by decide) (c_mdig (n := n) hTq) ?_
          by_cases hd : isD T q = true
          · have hd' : 48 ≤ T q ∧ T q ≤ 57 := by unfold isD at hd; simpa using hd
            have e : ru (isD T) n q = ru (isD T) n (q + 1) := ru_t hqn hd
            have hge := ru_ge (isD T) n (q + 1)
            have hv2 : nvf T (ru (isD T) n (q + 1) - (q + 1)) (q + 1) (10 * v + (T q - 48)) = nval T n p := by
              rw [← hv, e, show ru (isD T) n (q + 1) - q = (ru (isD T) n (q + 1) - (q + 1)) + 1 by omega]; rfl
            rw [if_pos ⟨hqn, hd⟩]
            refine e_if_eq (tgt := 90) dX6_number_50 (by decide) (fun hz => ?_) (fun hz => ?_)
            · exact absurd hz (by decide)
            · refine e_ldc dX6_number_53 kRX6_123 ?_
              refine e_bipush (v := 10) dX6_number_55 (by decide) ?_
              refine e_iload dX6_number_57 rfl ?_
              refine e_imul dX6_number_59 ?_
              have em : 10 * nI (min 100000 v) = nI (10 * min 100000 v) := pk_mul 10 _
              rw [em]
              refine e_aload_n dX6_number_60 rfl rfl ?_
              refine e_aload_n dX6_number_61 rfl rfl ?_
              refine e_getI dX6_number_62 fRX6_81 (by exact okK.sh rfl) (fun _ => rfl) ?_
              rw [h4]
              refine e_callV0i [_] dX6_number_65 mvmX6_byteAt lkRX6_84 (by exact okK.sh rfl) ⟨by decide, rfl⟩ rfl rfl (Nat.le_of_ble_eq_true rfl) (by decide) (c_byteAt okK htK (by omega)) ?_
              have eb : byA T n q = nI (T q) := if_pos hqn
              rw [eb]
              refine e_iadd dX6_number_68 ?_
              rw [nI_add]
              refine e_bipush (v := 48) dX6_number_69 (by decide) ?_
              refine e_isub dX6_number_71 ?_
              have es : nI (10 * min 100000 v + T q) - 48 = nI (10 * min 100000 v + (T q - 48)) := by
                have : nI (10 * min 100000 v + (T q - 48)) + nI 48 = nI (10 * min 100000 v + T q) := by rw [nI_add]; congr 1; omega
                rw [← this, show (48 : Int32) = nI 48 from rfl, Int32.add_sub_cancel]
              rw [es, show (100000 : Int32) = nI 100000 from fa_lit 100000]
              refine e_callS0i [_, _] dX6_number_72 msmX6_less lkRX6_124 rfl rfl (Nat.le_of_ble_eq_true rfl) (by decide) (c_less (a := 100000) (b := 10 * min 100000 v + (T q - 48)) (by decide) (by omega)) ?_
              have e10 : min 100000 (10 * min 100000 v + (T q - 48)) = min 100000 (10 * v + (T q - 48)) := by omega
              rw [e10]
              refine e_istore dX6_number_75 (by decide) rfl rfl ?_
              refine e_aload_n dX6_number_77 rfl rfl ?_
              refine e_dup dX6_number_78 rfl ?_
              refine e_getI dX6_number_79 fRX6_81 (by exact okK.sh rfl) (fun _ => rfl) ?_
              rw [h4]
              refine e_iconst (v := 1) dX6_number_82 (by decide) ?_
              refine e_iadd dX6_number_83 ?_
              rw [nI_1]
              refine e_putI dX6_number_84 fRX6_81 (by exact okK.sh rfl) rfl rfl rfl (fun _ _ => rfl) ?_
              refine e_goto (tgt := 39) dX6_number_87 (by decide) ?_
              exact ih (q + 1) _ _ (by omega) (by omega) (hfK.s (by decide)) (by rw [rd_self]) (by rw [← e]; exact hru) hv2
          · have e : ru (isD T) n q = q := ru_f (fun z => hd z.2)
            rw [e, Nat.sub_self] at hv
            have hv' : v = nval T n p := hv
            rw [hv', if_neg (fun z => hd z.2)]
            refine e_if_eq (tgt := 90) dX6_number_50 (by decide) (fun hz => ?_) (fun hz => ?_)
            · exact fin K hfK (by rw [← hru, e]; exact h4)
            · exact absurd rfl hz
      exact loop (n - sk T n p) (sk T n p) 0 N rfl hsk MF.rf hN rfl rfl
    · rw [if_neg (fun q => ha (hah.mp q))]
      refine e_if_ne (tgt := 30) dX6_number_16 (by decide) (fun hz => absurd rfl hz) (fun _ => ?_)
      have e8 : pnb T n lo hi bt p = .inl (1, sk T n p) := by unfold pnb pnum; rw [if_neg ha]
      refine e_aload_n dX6_number_19 rfl rfl ?_
      refine e_iconst (v := 1) dX6_number_20 (by decide) ?_
      refine e_aload_n dX6_number_21 rfl rfl ?_
      refine e_getI dX6_number_22 fRX6_81 (by exact okN.sh rfl) (fun _ => rfl) ?_
      rw [hN]
      refine e_callV0v [_, _] dX6_number_25 mvmX6_wrong lkRX6_115 (by exact okN.sh rfl) ⟨by decide, rfl⟩ rfl rfl (Nat.le_of_ble_eq_true rfl) (by decide) (c_wrong okN) ?_
      rw [if_pos rdN.2.1]
      refine e_iconst (v := 0) dX6_number_28 (by decide) ?_
      refine e_iret dX6_number_29 rfl rfl ⟨_, rfl, _, rfl, ?_, (hf3.s (by decide)).s (by decide), fun p' e v q hp' he => ?_⟩
      · show Mrd _ n (bd (pnb T n lo hi bt p) _)
        rw [e8]
        exact Mrd.fl ⟨by decide, by decide, hsk⟩ rfl
      · cases hp'
        rw [e8] at he; cases he

