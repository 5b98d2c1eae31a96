/-! ===== the table of a set, by any of its nodes: pure ===== -/
def oq : Option Qt → Option Qt → Option Qt
  | none, y => y
  | x, none => x
  | some x, some y => some (qadd x y)
theorem oq_n (x : Option Qt) : oq x none = x := by cases x <;> rfl
theorem oq_0 (x : Option Qt) : oq none x = x := rfl
theorem oq_comm (x y : Option Qt) : oq x y = oq y x := by
  cases x <;> cases y <;> first | rfl | exact congrArg some (qadd_comm _ _)
theorem oq_assoc (x y z : Option Qt) : oq (oq x y) z = oq x (oq y z) := by
  cases x <;> cases y <;> cases z <;> first | rfl | exact congrArg some (qadd_assoc _ _ _)
theorem oq_lc (x y z : Option Qt) : oq x (oq y z) = oq y (oq x z) := by rw [← oq_assoc, oq_comm x y, oq_assoc]
def osh (k : Option Nat) (x : Option Qt) : Option Qt := match k with
  | none => none
  | some k => x.map (qsh k)
theorem osh_add (k : Option Nat) (x y : Option Qt) : osh k (oq x y) = oq (osh k x) (osh k y) := by
  cases k <;> cases x <;> cases y <;> first | rfl | exact congrArg some (qsh_add _ _ _)
theorem osh_comm (j k : Option Nat) (x : Option Qt) : osh j (osh k x) = osh k (osh j x) := by
  cases j <;> cases k <;> cases x <;> first | rfl | exact congrArg some (qsh_comm _ _ _)
def osu (f : Nat → Option Qt) : Nat → Option Qt
  | 0 => none
  | n + 1 => oq (osu f n) (f n)
theorem osu_s (f : Nat → Option Qt) (n : Nat) : osu f (n + 1) = oq (osu f n) (f n) := rfl
theorem osu_cong {f g : Nat → Option Qt} {n : Nat} (h : ∀ b, b < n → f b = g b) : osu f n = osu g n := by
  induction n with
  | zero => rfl
  | succ n ih => rw [osu_s, osu_s, ih (fun b hb => h b (by omega)), h n (by omega)]
theorem osu_add (f g : Nat → Option Qt) (n : Nat) : osu (fun b => oq (f b) (g b)) n = oq (osu f n) (osu g n) := by
  induction n with
  | zero => rfl
  | succ n ih => rw [osu_s, osu_s, osu_s, ih, oq_assoc, oq_assoc, oq_lc (osu g n)]
theorem osu_none {f : Nat → Option Qt} {n : Nat} (h : ∀ b, b < n → f b = none) : osu f n = none := by
  induction n with
  | zero => rfl
  | succ n ih => rw [osu_s, ih (fun b hb => h b (by omega)), h n (by omega)]; rfl
theorem osu_one {f : Nat → Option Qt} {n v : Nat} (hv : v < n) (h : ∀ b, b ≠ v → f b = none) : osu f n = f v := by
  induction n with
  | zero => omega
  | succ n ih =>
    rw [osu_s]
    by_cases hn : v = n
    · subst hn
      rw [osu_none (fun b hb => h b (by omega))]; rfl
    · rw [ih (by omega), h n (fun q => hn q.symm), oq_n]
theorem osu_swap (f : Nat → Nat → Option Qt) (n m : Nat) : osu (fun b => osu (f b) m) n = osu (fun c => osu (fun b => f b c) n) m := by
  induction n with
  | zero => rw [osu_none (f := fun c => osu (fun b => f b c) 0) (fun _ _ => rfl)]; rfl
  | succ n ih =>
    rw [osu_s, ih, ← osu_add]
    rfl
theorem osu_osh (k : Option Nat) (f : Nat → Option Qt) (n : Nat) : osh k (osu f n) = osu (fun b => osh k (f b)) n := by
  induction n with
  | zero => cases k <;> rfl
  | succ n ih => rw [osu_s, osu_s, osh_add, ih]
theorem osu_up {f : Nat → Option Qt} {n m : Nat} (h : ∀ b, n ≤ b → f b = none) (hm : n ≤ m) : osu f m = osu f n := by
  induction m with
  | zero => have : n = 0 := by omega
            subst this; rfl
  | succ m ih =>
    by_cases hn : n = m + 1
    · subst hn; rfl
    · rw [osu_s, h m (by omega), oq_n]; exact ih (by omega)
theorem fb_osu (f : Nat → Option Qt) (x : Qt) (n : Nat) : some (fb f x n) = oq (some x) (osu f n) := by
  induction n with
  | zero => rfl
  | succ n ih =>
    rw [fb_s, osu_s, ← oq_assoc, ← ih]
    cases f n <;> rfl
/-- S without x -/
def ex (S x : Nat) : Nat := dif S (2 ^ x)
theorem ex_bit (S x i : Nat) : (ex S x).testBit i = (S.testBit i && !decide (x = i)) := by
  unfold ex
  rw [dif_bit, Nat.testBit_two_pow]
theorem ex_comm (S x y : Nat) : ex (ex S x) y = ex (ex S y) x := by
  apply Nat.eq_of_testBit_eq
  intro i
  rw [ex_bit, ex_bit, ex_bit, ex_bit, Bool.and_assoc, Bool.and_comm (!decide (x = i)), ← Bool.and_assoc]
theorem ex_in {S x i : Nat} : (ex S x).testBit i = true ↔ S.testBit i = true ∧ x ≠ i := by
  rw [ex_bit, Bool.and_eq_true]
  simp
theorem ex_lt {S x : Nat} (h : S.testBit x = true) : ex S x < S := by
  have h1 : ex S x ≤ S := dif_le _ _
  have h2 : ex S x ≠ S := by
    intro q
    have : (ex S x).testBit x = true := by rw [q]; exact h
    exact (ex_in.mp this).2 rfl
  omega
def tt (w : Nat → Nat → Option Nat) (S : Nat) : Option Qt := some (Tq w S)
/-- what the mate b of v adds -/
def hb1 (w : Nat → Nat → Option Nat) (v S b : Nat) : Option Qt := if S.testBit b = true ∧ b ≠ v then osh (w v b) (tt w (ex (ex S v) b)) else none
def XX (w : Nat → Nat → Option Nat) (v S : Nat) : Option Qt := oq (tt w (ex S v)) (osu (hb1 w v S) 12)
theorem hi_ex {S : Nat} : 0 < S → S < 4096 → ∃ a, a < 12 ∧ S.testBit a = true ∧ S < 2 ^ (a + 1) := by
  intro h0 h1
  refine ⟨S.log2, ?_, ?_, ?_⟩
  · exact (Nat.log2_lt (by omega)).mpr (by omega)
  · exact bit_top (Nat.log2_self_le (by omega)) Nat.lt_log2_self
  · exact Nat.lt_log2_self
theorem XX_hi {w : Nat → Nat → Option Nat} {a S : Nat} (ha : a < 12) (hb : S.testBit a = true) (hS : S < 2 ^ (a + 1)) : tt w S = XX w a S := by
  have hlow : ∀ b, a ≤ b → (b ≠ a) → S.testBit b = false := fun b h1 h2 => bit_hi hS (by omega)
  have hex : ex S a < 2 ^ a := by
    refine lt_of_bits (fun i hi => ?_)
    rw [ex_bit]
    by_cases hia : a = i
    · simp [hia]
    · rw [hlow i hi (fun q => hia q.symm)]; rfl
  have e1 : Tq w S = FT w (a + 1) S := FT_up hS (by omega)
  unfold tt XX
  rw [e1, FT_s, if_pos hb, fb_osu]
  have e2 : FT w a S = Tq w (ex S a) := by
    have : FT w a S = FT w a (ex S a) := FT_cong (fun i hi => by rw [ex_bit]; have : ¬ a = i := by omega
                                                                 simp [this])
    rw [this]; exact (FT_up hex (by omega)).symm
  rw [e2]
  congr 1
  have e3 : osu (hb1 w a S) 12 = osu (hb1 w a S) a := osu_up (fun b hb2 => by
    unfold hb1
    by_cases hba : b = a
    · rw [if_neg (fun q => q.2 hba)]
    · rw [if_neg (fun q => by rw [hlow b hb2 hba] at q; exact absurd q.1 (by decide))]) (by omega)
  rw [e3]
  refine osu_cong (fun b hb2 => ?_)
  unfold hb1
  by_cases hsb : S.testBit b = true
  · rw [if_pos hsb, if_pos ⟨hsb, by omega⟩]
    have e4 : FT w a (dif S (2 ^ b)) = Tq w (ex (ex S a) b) := by
      have h1 : FT w a (dif S (2 ^ b)) = FT w a (ex (ex S a) b) := FT_cong (fun i hi => by
        rw [ex_bit, ex_bit, dif_bit, Nat.testBit_two_pow]
        have : ¬ a = i := by omega
        simp [this])
      rw [h1]
      refine (FT_up ?_ (by omega)).symm
      exact Nat.lt_of_le_of_lt (dif_le _ _) hex
    rw [e4]
    cases w a b <;> rfl
  · rw [if_neg hsb, if_neg (fun q => hsb q.1)]
/-- all that two nodes, each with its mate, add -/
def ZZ (w : Nat → Nat → Option Nat) (a v R : Nat) : Option Qt :=
  oq (tt w R) (oq (oq (osu (fun c => if R.testBit c = true then osh (w v c) (tt w (ex R c)) else none) 12) (osu (fun b => if R.testBit b = true then osh (w a b) (tt w (ex R b)) else none) 12)) (osu (fun b => osu (fun c => if R.testBit b = true ∧ R.testBit c = true ∧ b ≠ c then osh (w a b) (osh (w v c) (tt w (ex (ex R b) c))) else none) 12) 12))
theorem ZZ_comm (w : Nat → Nat → Option Nat) (a v R : Nat) : ZZ w a v R = ZZ w v a R := by
  unfold ZZ
  congr 1
  rw [oq_comm (osu (fun c => if R.testBit c = true then osh (w v c) (tt w (ex R c)) else none) 12), osu_swap]
  congr 1
  refine osu_cong (fun c _ => osu_cong (fun b _ => ?_))
  by_cases h : R.testBit b = true ∧ R.testBit c = true ∧ b ≠ c
  · rw [if_pos h, if_pos ⟨h.2.1, h.1, fun q => h.2.2 q.symm⟩, osh_comm, ex_comm]
  · rw [if_neg h, if_neg (fun q => h ⟨q.2.1, q.1, fun r => q.2.2 r.symm⟩)]
theorem XX_two {w : Nat → Nat → Option Nat} {a v S : Nat} (hv : v < 12) (hva : v ≠ a) (hSv : S.testBit v = true) (ih : ∀ R, R < S → ∀ v, v < 12 → R.testBit v = true → tt w R = XX w v R) (hSa : S.testBit a = true) : XX w a S = oq (osh (w a v) (tt w (ex (ex S a) v))) (ZZ w a v (ex (ex S a) v)) := by
  have hR : ∀ c, (ex (ex S a) v).testBit c = true ↔ S.testBit c = true ∧ c ≠ a ∧ c ≠ v := by
    intro c
    rw [ex_in, ex_in]
    exact ⟨fun h => ⟨h.1.1, fun q => h.1.2 q.symm, fun q => h.2 q.symm⟩, fun h => ⟨⟨h.1, fun q => h.2.1 q.symm⟩, fun q => h.2.2 q.symm⟩⟩
  have hav : (ex S a).testBit v = true := ex_in.mpr ⟨hSv, fun q => hva q.symm⟩
  have e1 : tt w (ex S a) = oq (tt w (ex (ex S a) v)) (osu (fun c => if (ex (ex S a) v).testBit c = true then osh (w v c) (tt w (ex (ex (ex S a) v) c)) else none) 12) := by
    rw [ih (ex S a) (ex_lt hSa) v hv hav]
    unfold XX
    congr 1
    refine osu_cong (fun c _ => ?_)
    unfold hb1
    by_cases hc : (ex (ex S a) v).testBit c = true
    · rw [if_pos hc, if_pos (by rw [ex_in] at hc; exact ⟨hc.1, fun q => hc.2 q.symm⟩)]
    · rw [if_neg hc, if_neg (fun q => hc (ex_in.mpr ⟨q.1, fun r => q.2 r.symm⟩))]
  have e2 : osu (hb1 w a S) 12 = oq (osh (w a v) (tt w (ex (ex S a) v))) (oq (osu (fun b => if (ex (ex S a) v).testBit b = true then osh (w a b) (tt w (ex (ex (ex S a) v) b)) else none) 12) (osu (fun b => osu (fun c => if (ex (ex S a) v).testBit b = true ∧ (ex (ex S a) v).testBit c = true ∧ b ≠ c then osh (w a b) (osh (w v c) (tt w (ex (ex (ex (ex S a) v) b) c))) else none) 12) 12)) := by
    have e3 : ∀ b, b < 12 → hb1 w a S b = oq (if b = v then osh (w a v) (tt w (ex (ex S a) v)) else none) (oq (if (ex (ex S a) v).testBit b = true then osh (w a b) (tt w (ex (ex (ex S a) v) b)) else none) (osu (fun c => if (ex (ex S a) v).testBit b = true ∧ (ex (ex S a) v).testBit c = true ∧ b ≠ c then osh (w a b) (osh (w v c) (tt w (ex (ex (ex (ex S a) v) b) c))) else none) 12)) := by
      intro b hb12
      unfold hb1
      by_cases hbv : b = v
      · subst hbv
        have hn : ¬ (ex (ex S a) b).testBit b = true := fun q => (ex_in.mp q).2 rfl
        rw [if_pos ⟨hSv, hva⟩, if_pos rfl, if_neg hn, osu_none (fun c _ => if_neg (fun q => hn q.1))]
        rw [oq_n, oq_n]
      · by_cases hb : (ex (ex S a) v).testBit b = true
        · have hb' := (hR b).mp hb
          rw [if_pos ⟨hb'.1, hb'.2.1⟩, if_neg hbv, if_pos hb, oq_0]
          have hlt : ex (ex S a) b < S := Nat.lt_of_le_of_lt (dif_le _ _) (ex_lt hSa)
          have hin : (ex (ex S a) b).testBit v = true := ex_in.mpr ⟨hav, hbv⟩
          rw [ih (ex (ex S a) b) hlt v hv hin]
          unfold XX
          rw [osh_add, osu_osh, ex_comm (ex S a) b v]
          congr 1
          refine osu_cong (fun c _ => ?_)
          unfold hb1
          by_cases hc : (ex (ex S a) v).testBit c = true ∧ b ≠ c
          · have hc' := (hR c).mp hc.1
            rw [if_pos ⟨ex_in.mpr ⟨ex_in.mpr ⟨hc'.1, fun q => hc'.2.1 q.symm⟩, hc.2⟩, hc'.2.2⟩, if_pos ⟨hb, hc⟩, ex_comm (ex S a) b v]
          · rw [if_neg (fun q => hc ?_), if_neg (fun q => hc q.2)]
            · cases w a b <;> rfl
            · have q1 := ex_in.mp q.1
              exact ⟨ex_in.mpr ⟨q1.1, fun r => q.2 r.symm⟩, q1.2⟩
        · rw [if_neg (fun q => hb ((hR b).mpr ⟨q.1, q.2, hbv⟩)), if_neg hbv, if_neg hb, osu_none (fun c _ => if_neg (fun q => hb q.1))]
          rfl
    rw [osu_cong e3, osu_add, osu_add, osu_one (f := fun b => if b = v then osh (w a v) (tt w (ex (ex S a) v)) else none) hv (fun b hb => if_neg hb)]
    rw [if_pos rfl]
  unfold XX
  rw [e1, e2]
  unfold ZZ
  simp only [oq_assoc, oq_lc, oq_comm]
theorem XX_all {w : Nat → Nat → Option Nat} (hw : ∀ a b, w a b = w b a) : ∀ S, S < 4096 → ∀ v, v < 12 → S.testBit v = true → tt w S = XX w v S := by
  intro S
  induction S using Nat.strongRecOn with
  | ind S ih =>
    intro hS v hv hSv
    have hpos : 0 < S := by
      rcases Nat.eq_zero_or_pos S with h | h
      · subst h; simp at hSv
      · exact h
    obtain ⟨a, ha, hSa, hSlt⟩ := hi_ex hpos hS
    have h1 := XX_hi (w := w) ha hSa hSlt
    by_cases hva : v = a
    · rw [hva]; exact h1
    · have ih' : ∀ R, R < S → ∀ v, v < 12 → R.testBit v = true → tt w R = XX w v R := fun R hR => ih R hR (by omega)
      rw [h1, XX_two hv hva hSv ih' hSa, XX_two ha (fun q => hva q.symm) hSa ih' hSv, hw a v, ex_comm S a v, ZZ_comm]
