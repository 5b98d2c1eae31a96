theorem Tq_hi {w : Nat → Nat → Option Nat} {a S : Nat} (ha : a < 12) (hb : S.testBit a = true) (hS : S < 2 ^ (a + 1)) : Tq w S = fb (fun b => if (dif S (2 ^ a)).testBit b = true then (w a b).map (fun k => qsh k (Tq w (dif (dif S (2 ^ a)) (2 ^ b)))) else none) (Tq w (dif S (2 ^ a))) a := by
  have hlt : dif S (2 ^ a) < 2 ^ a := lt_of_bits (fun i hi => by
    rw [dif_bit]
    by_cases h : i = a
    · subst h; simp
    · rw [bit_hi hS (by omega)]; rfl)
  have hbit : ∀ i, i < a → S.testBit i = (dif S (2 ^ a)).testBit i := fun i hi => by
    rw [dif_bit, Nat.testBit_two_pow]
    simp; intro _; omega
  unfold Tq
  rw [FT_up hS (by omega : a + 1 ≤ 12), FT_s, if_pos hb]
  refine fb_cong ?_ (fun b hb2 => ?_)
  · rw [FT_up hlt (by omega : a ≤ 12)]
    exact FT_cong hbit
  · rw [hbit b hb2]
    by_cases h3 : (dif S (2 ^ a)).testBit b = true
    · rw [if_pos h3, if_pos h3]
      congr 1
      funext k
      rw [FT_up (w := w) (Nat.lt_of_le_of_lt (dif_le _ _) hlt) (by omega : a ≤ 12)]
      rw [FT_cong (S := dif S (2 ^ b)) (T := dif (dif S (2 ^ a)) (2 ^ b)) (fun i hi => by rw [dif_bit, dif_bit, hbit i hi])]
    · rw [if_neg h3, if_neg h3]
/-! bounds -/
def fct : Nat → Nat
  | 0 => 1
  | n + 1 => (n + 1) * fct n
def qle (n c h : Nat) (q : Qt) : Prop := q.1 ≤ n ∧ q.2.1 ≤ c ∧ q.2.2.1 ≤ h ∧ q.2.2.2 ≤ h
theorem qadd_le {n c1 c2 h : Nat} {x y : Qt} (hx : qle n c1 h x) (hy : qle n c2 h y) : qle n (c1 + c2) h (qadd x y) := by
  obtain ⟨a1, a2, a3, a4⟩ := hx
  obtain ⟨b1, b2, b3, b4⟩ := hy
  unfold qadd qle
  by_cases h1 : x.1 < y.1
  · rw [if_pos h1]; exact ⟨by omega, by omega, by omega, by omega⟩
  · by_cases h2 : y.1 < x.1
    · rw [if_neg h1, if_pos h2]; exact ⟨by omega, by omega, by omega, by omega⟩
    · rw [if_neg h1, if_neg h2]; exact ⟨by show x.1 ≤ n; omega, by show x.2.1 + y.2.1 ≤ _; omega, by show max _ _ ≤ h; omega, by show min _ _ ≤ h; omega⟩
theorem fb_le {f : Nat → Option Qt} {x : Qt} {n c h : Nat} (hx : qle n c h x) : ∀ m, (∀ b q, b < m → f b = some q → qle n c h q) → qle n ((m + 1) * c) h (fb f x m) := by
  intro m
  induction m with
  | zero =>
    intro _
    show qle n ((0 + 1) * c) h x
    rw [Nat.zero_add, Nat.one_mul]; exact hx
  | succ m ih =>
    intro hf
    have h1 := ih (fun b q hb => hf b q (by omega))
    have e : (m + 1 + 1) * c = (m + 1) * c + c := by rw [Nat.succ_mul (m + 1) c]
    rw [fb_s, e]
    cases hq : f m with
    | none =>
      obtain ⟨a1, a2, a3, a4⟩ := h1
      exact ⟨a1, by show (fb f x m).2.1 ≤ _; omega, a3, a4⟩
    | some q => exact qadd_le h1 (hf m q (by omega) hq)
theorem FT_le {w : Nat → Nat → Option Nat} (hw : ∀ a b k, w a b = some k → k ≤ 999) : ∀ n S, qle n (fct n) (999 * n) (FT w n S) := by
  intro n
  induction n with
  | zero => intro S; exact ⟨Nat.le_refl _, Nat.le_refl _, Nat.le_refl _, Nat.le_refl _⟩
  | succ n ih =>
    intro S
    rw [FT_s]
    have h0 : qle (n + 1) (fct n) (999 * (n + 1)) (FT w n S) := by
      obtain ⟨a1, a2, a3, a4⟩ := ih S
      exact ⟨by omega, a2, by omega, by omega⟩
    have hf : fct (n + 1) = (n + 1) * fct n := rfl
    by_cases hb : S.testBit n = true
    · rw [if_pos hb, hf]
      refine fb_le h0 n (fun b q hb2 hq => ?_)
      split at hq
      · cases hk : w n b with
        | none => rw [hk] at hq; cases hq
        | some k =>
          rw [hk] at hq
          simp only [Option.map_some, Option.some.injEq] at hq
          have hkk := hw n b k hk
          obtain ⟨a1, a2, a3, a4⟩ := ih (dif S (2 ^ b))
          rw [← hq]
          unfold qsh
          exact ⟨by show _ + 1 ≤ _; omega, a2, by show _ + k ≤ _; omega, by show _ + k ≤ _; omega⟩
      · cases hq
    · rw [if_neg hb]
      obtain ⟨a1, a2, a3, a4⟩ := h0
      exact ⟨a1, by rw [hf]; exact Nat.le_trans a2 (Nat.le_mul_of_pos_left _ (by omega)), a3, a4⟩
def qbd (q : Qt) : Prop := q.1 < 2 ^ 29 ∧ q.2.1 < 2 ^ 29 ∧ q.2.2.1 < 2 ^ 29 ∧ q.2.2.2 < 2 ^ 29
theorem fct12 : fct 12 < 2 ^ 29 := by decide
theorem Tq_bd {w : Nat → Nat → Option Nat} (hw : ∀ a b k, w a b = some k → k ≤ 999) (S : Nat) : qbd (Tq w S) := by
  obtain ⟨a1, a2, a3, a4⟩ := FT_le hw 12 S
  have := fct12
  exact ⟨Nat.lt_of_le_of_lt a1 (by decide), Nat.lt_of_le_of_lt a2 this, Nat.lt_of_le_of_lt a3 (by decide), Nat.lt_of_le_of_lt a4 (by decide)⟩
/-! the tables of Greatest: cells 16 to 19 -/
def QR (M : Mm) (S : Nat) (q : Qt) : Prop := M.2.1 16 S = nI q.1 ∧ M.2.1 17 S = nI q.2.1 ∧ M.2.1 18 S = nI q.2.2.1 ∧ M.2.1 19 S = nI q.2.2.2
/-- nothing but the place S of the tables -/
def Fq (S : Nat) (M N : Mm) : Prop := N.1 = M.1 ∧ N.2.2 = M.2.2 ∧ ∀ a j, (a < 16 ∨ 19 < a ∨ j ≠ S) → N.2.1 a j = M.2.1 a j
theorem Fq.rf {S : Nat} {M : Mm} : Fq S M M := ⟨rfl, rfl, fun _ _ _ => rfl⟩
theorem Fq.trans {S : Nat} {M N K : Mm} (h1 : Fq S M N) (h2 : Fq S N K) : Fq S M K := ⟨h2.1.trans h1.1, h2.2.1.trans h1.2.1, fun a j h => (h2.2.2 a j h).trans (h1.2.2 a j h)⟩
theorem Fq.s {S a : Nat} {v : Int32} {M N : Mm} (h : Fq S M N) (h1 : 16 ≤ a) (h2 : a ≤ 19) : Fq S M (sI N a S v) := ⟨h.1, h.2.1, fun b j hb => by
  rw [rd_sI, if_neg (by omega)]; exact h.2.2 b j hb⟩
theorem QR.fq {M N : Mm} {S T : Nat} {q : Qt} (h : QR M T q) (hf : Fq S M N) (hne : T ≠ S) : QR N T q := by
  obtain ⟨h1, h2, h3, h4⟩ := h
  exact ⟨by rw [hf.2.2 _ _ (by omega)]; exact h1, by rw [hf.2.2 _ _ (by omega)]; exact h2, by rw [hf.2.2 _ _ (by omega)]; exact h3, by rw [hf.2.2 _ _ (by omega)]; exact h4⟩
theorem Fq.Fr {S : Nat} {M N : Mm} (h : Fq S M N) : Fr 16 19 M N := ⟨h.1, h.2.1, fun a ha => funext (fun j => h.2.2 a j (by omega))⟩
theorem c_weighIn {B : Bd} {M : Mm} {S T k : Nat} {q1 q2 : Qt} (ok : OkM M) (hS : S < 4096) (hT : T < 4096) (hne : T ≠ S) (h1 : QR M S q1) (h2 : QR M T q2) (b1 : qbd q1) (b2 : qbd q2) (hk : k < 2 ^ 29) : Ct B mX0_weighIn 1 0 0 [.ref 14, .int (nI S), .int (nI T), .int (nI k)] M (Rt (fun v N => v = none ∧ QR N S (qadd q1 (qsh k q2)) ∧ Fq S M N)) := by
  obtain ⟨a1, a2, a3, a4⟩ := h1
  obtain ⟨c1, c2, c3, c4⟩ := h2
  obtain ⟨d1, d2, d3, d4⟩ := b1
  obtain ⟨f1, f2, f3, f4⟩ := b2
  have cS : (nI S).toNatClampNeg = S := nI_clamp (by omega)
  have cT : (nI T).toNatClampNeg = T := nI_clamp (by omega)
  refine Ct.of (by decide) rfl rfl (Nat.le_of_ble_eq_true rfl) ?_
  refine e_aload_n dX0_weighIn_0 rfl rfl ?_
  refine e_getR dX0_weighIn_1 fRX0_26 (by exact ok.sh rfl) (by exact ok.rf rfl) (fun _ => rfl) ?_
  refine e_iload_n dX0_weighIn_4 rfl rfl ?_
  refine e_iaload dX0_weighIn_5 (by exact ok.sh rfl) (by first | exact vp_in_nI hS (by decide) | exact vp_in_nI hT (by decide)) ?_
  rw [cT, c1]
  refine e_iconst (v := 1) dX0_weighIn_6 (by decide) ?_
  refine e_iadd dX0_weighIn_7 ?_
  rw [nI_1]
  refine e_istore dX0_weighIn_8 (by decide) rfl rfl ?_
  refine e_iload dX0_weighIn_10 rfl ?_
  refine e_aload_n dX0_weighIn_12 rfl rfl ?_
  refine e_getR dX0_weighIn_13 fRX0_26 (by exact ok.sh rfl) (by exact ok.rf rfl) (fun _ => rfl) ?_
  refine e_iload_n dX0_weighIn_16 rfl rfl ?_
  refine e_iaload dX0_weighIn_17 (by exact ok.sh rfl) (by first | exact vp_in_nI hS (by decide) | exact vp_in_nI hT (by decide)) ?_
  rw [cS, a1]
  refine e_icmp_le (tgt := 72) dX0_weighIn_18 (by decide) (fun hq => ?_) (fun hq => ?_)
  · rw [nI_leI (by omega) (by omega)] at hq
    refine e_iload dX0_weighIn_72 rfl ?_
    refine e_aload_n dX0_weighIn_74 rfl rfl ?_
    refine e_getR dX0_weighIn_75 fRX0_26 (by exact ok.sh rfl) (by exact ok.rf rfl) (fun _ => rfl) ?_
    refine e_iload_n dX0_weighIn_78 rfl rfl ?_
    refine e_iaload dX0_weighIn_79 (by exact ok.sh rfl) (by first | exact vp_in_nI hS (by decide) | exact vp_in_nI hT (by decide)) ?_
    rw [cS, a1]
    refine e_icmp_ne (tgt := 144) dX0_weighIn_80 (by decide) (fun hq2 => ?_) (fun hq2 => ?_)
    · have hlt : q2.1 + 1 < q1.1 := by
        rcases Nat.lt_or_ge (q2.1 + 1) q1.1 with z | z
        · exact z
        · exact absurd (by congr 1; omega) hq2
      refine e_vret dX0_weighIn_144 rfl ⟨none, rfl, rfl, ?_, Fq.rf⟩
      have e : qadd q1 (qsh k q2) = q1 := by
        unfold qadd qsh
        rw [if_neg (by show ¬ q1.1 < q2.1 + 1; omega), if_pos (by show q2.1 + 1 < q1.1; omega)]
      rw [e]; exact ⟨a1, a2, a3, a4⟩
    · rw [nI_eq (by omega) (by omega)] at hq2
      refine e_aload_n dX0_weighIn_83 rfl rfl ?_
      refine e_getR dX0_weighIn_84 fRX0_29 (by exact ok.sh rfl) (by exact ok.rf rfl) (fun _ => rfl) ?_
      refine e_iload_n dX0_weighIn_87 rfl rfl ?_
      refine e_dup2 dX0_weighIn_88 rfl rfl ?_
      refine e_iaload dX0_weighIn_89 (by exact ok.sh rfl) (by first | exact vp_in_nI hS (by decide) | exact vp_in_nI hT (by decide)) ?_
      rw [cS, a2]
      refine e_aload_n dX0_weighIn_90 rfl rfl ?_
      refine e_getR dX0_weighIn_91 fRX0_29 (by exact ok.sh rfl) (by exact ok.rf rfl) (fun _ => rfl) ?_
      refine e_iload_n dX0_weighIn_94 rfl rfl ?_
      refine e_iaload dX0_weighIn_95 (by exact ok.sh rfl) (by first | exact vp_in_nI hS (by decide) | exact vp_in_nI hT (by decide)) ?_
      rw [cT, c2]
      refine e_iadd dX0_weighIn_96 ?_
      rw [nI_add]
      refine e_iastore dX0_weighIn_97 (by exact ok.sh rfl) (by first | exact vp_in_nI hS (by decide) | exact vp_in_nI hT (by decide)) ?_
      refine e_aload_n dX0_weighIn_98 rfl rfl ?_
      refine e_getR dX0_weighIn_99 fRX0_32 (by exact ok.sh rfl) (by exact ok.rf rfl) (fun _ => rfl) ?_
      refine e_iload_n dX0_weighIn_102 rfl rfl ?_
      refine e_aload_n dX0_weighIn_103 rfl rfl ?_
      refine e_getR dX0_weighIn_104 fRX0_32 (by exact ok.sh rfl) (by exact ok.rf rfl) (fun _ => rfl) ?_
      refine e_iload_n dX0_weighIn_107 rfl rfl ?_
      refine e_iaload dX0_weighIn_108 (by exact ok.sh rfl) (by first | exact vp_in_nI hS (by decide) | exact vp_in_nI hT (by decide)) ?_
      rw [cS, rd_na (by decide), a3]
      refine e_aload_n dX0_weighIn_109 rfl rfl ?_
      refine e_getR dX0_weighIn_110 fRX0_32 (by exact ok.sh rfl) (by exact ok.rf rfl) (fun _ => rfl) ?_
      refine e_iload_n dX0_weighIn_113 rfl rfl ?_
      refine e_iaload dX0_weighIn_114 (by exact ok.sh rfl) (by first | exact vp_in_nI hS (by decide) | exact vp_in_nI hT (by decide)) ?_
      rw [cT, rd_na (by decide), c3]
      refine e_iload_n dX0_weighIn_115 rfl rfl ?_
      refine e_iadd dX0_weighIn_116 ?_
      rw [nI_add]
      refine e_mmaxN (by omega) (by omega) dX0_weighIn_117 lkRX0_63 (Nat.le_of_ble_eq_true rfl) (by decide) ?_
      refine e_iastore dX0_weighIn_120 (by exact ok.sh rfl) (by first | exact vp_in_nI hS (by decide) | exact vp_in_nI hT (by decide)) ?_
      refine e_aload_n dX0_weighIn_121 rfl rfl ?_
      refine e_getR dX0_weighIn_122 fRX0_35 (by exact ok.sh rfl) (by exact ok.rf rfl) (fun _ => rfl) ?_
      refine e_iload_n dX0_weighIn_125 rfl rfl ?_
      refine e_aload_n dX0_weighIn_126 rfl rfl ?_
      refine e_getR dX0_weighIn_127 fRX0_35 (by exact ok.sh rfl) (by exact ok.rf rfl) (fun _ => rfl) ?_
      refine e_iload_n dX0_weighIn_130 rfl rfl ?_
      refine e_iaload dX0_weighIn_131 (by exact ok.sh rfl) (by first | exact vp_in_nI hS (by decide) | exact vp_in_nI hT (by decide)) ?_
      rw [cS, rd_na (by decide), rd_na (by decide), a4]
      refine e_aload_n dX0_weighIn_132 rfl rfl ?_
      refine e_getR dX0_weighIn_133 fRX0_35 (by exact ok.sh rfl) (by exact ok.rf rfl) (fun _ => rfl) ?_
      refine e_iload_n dX0_weighIn_136 rfl rfl ?_
      refine e_iaload dX0_weighIn_137 (by exact ok.sh rfl) (by first | exact vp_in_nI hS (by decide) | exact vp_in_nI hT (by decide)) ?_
      rw [cT, rd_na (by decide), rd_na (by decide), c4]
      refine e_iload_n dX0_weighIn_138 rfl rfl ?_
      refine e_iadd dX0_weighIn_139 ?_
      rw [nI_add]
      refine e_mminN (by omega) (by omega) dX0_weighIn_140 lkRX0_68 (Nat.le_of_ble_eq_true rfl) (by decide) ?_
      refine e_iastore dX0_weighIn_143 (by exact ok.sh rfl) (by first | exact vp_in_nI hS (by decide) | exact vp_in_nI hT (by decide)) ?_
      rw [cS]
      refine e_vret dX0_weighIn_144 rfl ⟨none, rfl, rfl, ?_, ((Fq.rf.s (by decide) (by decide)).s (by decide) (by decide)).s (by decide) (by decide)⟩
      have e : qadd q1 (qsh k q2) = (q1.1, q1.2.1 + q2.2.1, max q1.2.2.1 (q2.2.2.1 + k), min q1.2.2.2 (q2.2.2.2 + k)) := by
        unfold qadd qsh
        rw [if_neg (by show ¬ q1.1 < q2.1 + 1; omega), if_neg (by show ¬ q2.1 + 1 < q1.1; omega)]
      rw [e]
      refine ⟨?_, ?_, ?_, ?_⟩
      · rw [rd_na (by decide), rd_na (by decide), rd_na (by decide)]; exact a1
      · rw [rd_na (by decide), rd_na (by decide), rd_self]
      · rw [rd_na (by decide), rd_self]
      · rw [rd_self]
  · rw [nI_leI (by omega) (by omega)] at hq
    refine e_aload_n dX0_weighIn_21 rfl rfl ?_
    refine e_getR dX0_weighIn_22 fRX0_26 (by exact ok.sh rfl) (by exact ok.rf rfl) (fun _ => rfl) ?_
    refine e_iload_n dX0_weighIn_25 rfl rfl ?_
    refine e_iload dX0_weighIn_26 rfl ?_
    refine e_iastore dX0_weighIn_28 (by exact ok.sh rfl) (by first | exact vp_in_nI hS (by decide) | exact vp_in_nI hT (by decide)) ?_
    refine e_aload_n dX0_weighIn_29 rfl rfl ?_
    refine e_getR dX0_weighIn_30 fRX0_29 (by exact ok.sh rfl) (by exact ok.rf rfl) (fun _ => rfl) ?_
    refine e_iload_n dX0_weighIn_33 rfl rfl ?_
    refine e_aload_n dX0_weighIn_34 rfl rfl ?_
    refine e_getR dX0_weighIn_35 fRX0_29 (by exact ok.sh rfl) (by exact ok.rf rfl) (fun _ => rfl) ?_
    refine e_iload_n dX0_weighIn_38 rfl rfl ?_
    refine e_iaload dX0_weighIn_39 (by exact ok.sh rfl) (by first | exact vp_in_nI hS (by decide) | exact vp_in_nI hT (by decide)) ?_
    rw [cT, rd_na (by decide), c2]
    refine e_iastore dX0_weighIn_40 (by exact ok.sh rfl) (by first | exact vp_in_nI hS (by decide) | exact vp_in_nI hT (by decide)) ?_
    refine e_aload_n dX0_weighIn_41 rfl rfl ?_
    refine e_getR dX0_weighIn_42 fRX0_32 (by exact ok.sh rfl) (by exact ok.rf rfl) (fun _ => rfl) ?_
    refine e_iload_n dX0_weighIn_45 rfl rfl ?_
    refine e_aload_n dX0_weighIn_46 rfl rfl ?_
    refine e_getR dX0_weighIn_47 fRX0_32 (by exact ok.sh rfl) (by exact ok.rf rfl) (fun _ => rfl) ?_
    refine e_iload_n dX0_weighIn_50 rfl rfl ?_
    refine e_iaload dX0_weighIn_51 (by exact ok.sh rfl) (by first | exact vp_in_nI hS (by decide) | exact vp_in_nI hT (by decide)) ?_
    rw [cT, rd_na (by decide), rd_na (by decide), c3]
    refine e_iload_n dX0_weighIn_52 rfl rfl ?_
    refine e_iadd dX0_weighIn_53 ?_
    rw [nI_add]
    refine e_iastore dX0_weighIn_54 (by exact ok.sh rfl) (by first | exact vp_in_nI hS (by decide) | exact vp_in_nI hT (by decide)) ?_
    refine e_aload_n dX0_weighIn_55 rfl rfl ?_
    refine e_getR dX0_weighIn_56 fRX0_35 (by exact ok.sh rfl) (by exact ok.rf rfl) (fun _ => rfl) ?_
    refine e_iload_n dX0_weighIn_59 rfl rfl ?_
    refine e_aload_n dX0_weighIn_60 rfl rfl ?_
    refine e_getR dX0_weighIn_61 fRX0_35 (by exact ok.sh rfl) (by exact ok.rf rfl) (fun _ => rfl) ?_
    refine e_iload_n dX0_weighIn_64 rfl rfl ?_
    refine e_iaload dX0_weighIn_65 (by exact ok.sh rfl) (by first | exact vp_in_nI hS (by decide) | exact vp_in_nI hT (by decide)) ?_
    rw [cT, rd_na (by decide), rd_na (by decide), rd_na (by decide), c4]
    refine e_iload_n dX0_weighIn_66 rfl rfl ?_
    refine e_iadd dX0_weighIn_67 ?_
    rw [nI_add]
    refine e_iastore dX0_weighIn_68 (by exact ok.sh rfl) (by first | exact vp_in_nI hS (by decide) | exact vp_in_nI hT (by decide)) ?_
    refine e_goto (tgt := 144) dX0_weighIn_69 (by decide) ?_
    rw [cS]
    refine e_vret dX0_weighIn_144 rfl ⟨none, rfl, rfl, ?_, (((Fq.rf.s (by decide) (by decide)).s (by decide) (by decide)).s (by decide) (by decide)).s (by decide) (by decide)⟩
    have e : qadd q1 (qsh k q2) = qsh k q2 := by
      unfold qadd qsh
      rw [if_pos (by show q1.1 < q2.1 + 1; omega)]
    rw [e]
    refine ⟨?_, ?_, ?_, ?_⟩
    · rw [rd_na (by decide), rd_na (by decide), rd_na (by decide), rd_self]; rfl
    · rw [rd_na (by decide), rd_na (by decide), rd_self]; rfl
    · rw [rd_na (by decide), rd_self]; rfl
    · rw [rd_self]; rfl

