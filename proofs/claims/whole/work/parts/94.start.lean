/-! the start of the law: both constructors, then the loop -/
def s00 : Sx := (g00, [], fun _ => 0, 0, -1, fun _ => 0)
def M00 : Mm := (([], true), fun _ _ => 0, fun _ _ => 0, fun _ _ => none)
theorem gd00 : Gd g00 := by
  refine Gd_put (g := (2, fun _ _ => none, fun _ => none)) ⟨⟨⟨by decide, by decide⟩, fun _ _ => rfl, fun _ => rfl, fun a b k h => ?_, fun a b h => ?_⟩, fun a b h => ?_⟩ (by decide) (by decide) (by decide) (by decide)
  · cases h
  · cases h
  · cases h
theorem g00_at (x y : Nat) : g00.2.1 x y = if (x = 0 ∧ y = 1) ∨ (x = 1 ∧ y = 0) then some 1 else none := rfl
theorem finz_mem {a k b : Nat} (h : finz a k = some b) : (a, k, b) ∈ finL := by
  unfold finz at h
  obtain ⟨e, h1, h2⟩ := Option.map_eq_some_iff.mp h
  have h3 := List.mem_of_find?_eq_some h1
  have h4 := List.find?_some h1
  simp only [Bool.and_eq_true, beq_iff_eq] at h4
  obtain ⟨e1, e2, e3⟩ := e
  dsimp only at h2 h4
  rw [← h2, ← h4.1, ← h4.2]
  exact h3
theorem fin_in : ∀ q ∈ finL, (q.1 < 60 ∧ q ∈ l5) ∨ q ∈ l6 := by decide
theorem past_in : ∀ i, i < 8 → (10, i, 28 + 4 * i) ∈ l5 := by decide
section ST
variable {Z5 Z6 : Nat → Int32} {M1 N N2 : Mm}
theorem st_ok (hM : M1.1 = ([.inl 5], true)) (g5 : Gs Z5 okA 0 ks5 l5 M1 N) (g6 : Gs Z6 okM 60 ks6 l6 (addK N (.inl 6)) N2) : OkM (loose (addK N2 (.inr (.long, 1)))) := by
  refine ⟨?_, fun a k b h => ?_⟩
  · show (N2.1.1 ++ [.inr (.long, 1)], false) = (SZ, false)
    rw [g6.1]
    show (((N.1.1 ++ [.inl 6]) ++ ks6) ++ [.inr (.long, 1)], false) = _
    rw [g5.1, hM]
    rfl
  · show N2.2.2.2 a k = some b
    rcases fin_in _ (finz_mem h) with ⟨h1, h2⟩ | h2
    · rw [(g6.2.1 a h1).2]
      exact g5.2.2.2.2.1 (a, k, b) h2
    · exact g6.2.2.2.2.1 (a, k, b) h2
theorem st_ci (ok : OkM (loose (addK N2 (.inr (.long, 1))))) (gd : Gd g00) (g5 : Gs Z5 okA 0 ks5 l5 M1 N) (z1 : Z5 1 = 0) (z2 : Z5 2 = -1) (z6 : Z5 6 = 0) (hn : NetRep N 2 g00) (g6 : Gs Z6 okM 60 ks6 l6 (addK N (.inl 6)) N2) : CI (loose (addK N2 (.inr (.long, 1)))) s00 := by
  have e : ∀ a, a < 60 → (loose (addK N2 (.inr (.long, 1)))).2.1 a = N.2.1 a := fun a ha => (g6.2.1 a ha).1
  have ez : ∀ a j, okA a = true → a < 60 → a ≠ 0 → (loose (addK N2 (.inr (.long, 1)))).2.1 a j = 0 := fun a j h1 h2 h3 => by
    rw [e a h2, g5.2.2.1 a (Nat.zero_le _) h1 j, if_neg h3]
  have e0 : ∀ j, (loose (addK N2 (.inr (.long, 1)))).2.1 0 j = Z5 j := fun j => by
    rw [e 0 (by decide), g5.2.2.1 0 (Nat.le_refl _) rfl j, if_pos rfl]
  refine ⟨ok, ⟨?_, by decide, ?_, ?_, by decide⟩, ⟨fun _ => show 0 < 256 by decide, fun i _ => ?_⟩, ⟨⟨⟨ok.sh rfl, ok.sh rfl, ok.sh rfl, ok.sh rfl, ok.rf rfl, ok.rf rfl, ok.rf rfl⟩, ?_⟩, gd⟩, ⟨fun i => i, fun _ h => h, fun _ _ _ _ h => h, fun i hi => ?_, fun i g h => ?_⟩, ⟨Or.inl ?_, ⟨?_, Or.inl ?_⟩, trivial⟩, fun i _ => ?_⟩
  · rw [e0, z1]; rfl
  · rw [e0, z2]; rfl
  · rw [e0, z6]; rfl
  · rw [ez 1 i rfl (by decide) (by decide)]; rfl
  · rw [e 2 (by decide), e (2 + 1) (by decide), e (2 + 2) (by decide), e (2 + 3) (by decide)]
    exact hn.2
  · show N2.2.2.2 10 i = _
    rw [(g6.2.1 10 (by decide)).2]
    exact g5.2.2.2.2.1 (10, i, 28 + 4 * i) (past_in i hi)
  · cases h
  · exact ez 14 0 rfl (by decide) (by decide)
  · exact ez 18 0 rfl (by decide) (by decide)
  · exact ez 17 0 rfl (by decide) (by decide)
  · exact ez 27 i rfl (by decide) (by decide)
theorem st_mi (ok : OkM (loose (addK N2 (.inr (.long, 1))))) (gd : Gd g00) (g6 : Gs Z6 okM 60 ks6 l6 (addK N (.inl 6)) N2) (z2 : Z6 2 = 0) (z5 : Z6 5 = -1) (z12 : Z6 12 = 0) (z19 : Z6 19 = 0) (hn : NowR N2 63 g00) : MI (loose (addK N2 (.inr (.long, 1)))) s00 := by
  have ez : ∀ a j, 60 < a → a ≠ 63 → (loose (addK N2 (.inr (.long, 1)))).2.1 a j = 0 := fun a j h1 h2 => by
    show N2.2.1 a j = 0
    rw [g6.2.2.1 a (by omega) (decide_eq_true h2) j, if_neg (by omega)]
  have e0 : ∀ j, (loose (addK N2 (.inr (.long, 1)))).2.1 60 j = Z6 j := fun j => by
    show N2.2.1 60 j = Z6 j
    rw [g6.2.2.1 60 (Nat.le_refl _) rfl j, if_pos rfl]
  refine ⟨ok, ⟨?_, by decide, ?_, ?_, by decide⟩, ⟨fun _ => show 0 < 256 by decide, fun i _ => ?_⟩, ⟨hn, gd⟩, fun i g h => ?_, Or.inl ?_, fun i _ => ?_⟩
  · rw [e0, z2]; rfl
  · rw [e0, z5]; rfl
  · rw [e0, z12]; rfl
  · rw [ez 62 i (by decide) (by decide)]; rfl
  · cases h
  · rw [e0, z19]
  · exact ez 61 i (by decide) (by decide)
end ST
theorem zf00 : Zf M00 := fun _ _ => ⟨fun _ => rfl, fun _ => rfl, fun _ => rfl⟩
set_option maxHeartbeats 4000000 in
theorem law_start {B : Bd} (hB : bL B ≤ 3072) : Ev B mL_law 36 2134 111943 LQ 0 (Lin mL_law [.ref 1000000]) [] M00 := by
  refine e_new (ci := 5) (rc := 2133) (rs := 111931) dL_law_0 (by decide) clRL_8 inRX5 ini_RX5 zf00 rfl (by decide) ?_
  rw [show M00.1.1.length = 0 from rfl]
  refine e_dup dL_law_3 rfl ?_
  refine e_callI (b := 0) (d1 := 3) (rc1 := 59) (rs1 := 11183) (rc2 := 2072) (rs2 := 80470) dL_law_4 mimX5_init lkRL_66 (by decide) (by decide) (by decide) (by decide) (c_i5 rfl zf00.add (fun _ => rfl)) (fun v N h => ?_)
  obtain ⟨rfl, Z5, g5, a1, a2, a6, hn⟩ := h
  refine e_astore_n dL_law_7 rfl (by decide) rfl rfl ?_
  refine e_new (ci := 6) (rc := 2071) (rs := 80443) dL_law_8 (by decide) clRL_67 inRX6 ini_RX6 g5.zf g5.ti (by rw [g5.len (n := 60) rfl]; decide) ?_
  have h0 : ∀ j, N.2.1 60 j = 0 := (g5.zf 60 (by rw [g5.len (n := 60) rfl]; exact Nat.le_refl _)).1
  rw [g5.len (n := 60) rfl]
  refine e_dup dL_law_11 rfl ?_
  refine e_callI (b := 60) (d1 := 1) (rc1 := 22) (rs1 := 68154) (rc2 := 2049) (rs2 := 12289) dL_law_12 mimX6_init lkRL_69 (by decide) (by decide) (by decide) (by decide) (c_i6 (by show (N.1.1 ++ [.inl 6], N.1.2) = _; rw [g5.1]; rfl) g5.zf.add h0) (fun v N2 h => ?_)
  obtain ⟨rfl, Z6, g6, b2, b5, b12, b19, hw⟩ := h
  refine e_astore_n dL_law_15 rfl (by decide) rfl rfl ?_
  refine e_iconst (v := 1) dL_law_16 (by decide) ?_
  have hl2 : N2.1.1.length = 83 := g6.len (by show (N.1.1 ++ [(Sum.inl 6 : Kd)]).length + ks6.length = 83; rw [g5.1]; rfl)
  refine e_newJ (N := 1) (rc := 2048) (rs := 12288) dL_law_17 (by decide) (by decide) (by decide) g6.zf g6.ti (by rw [hl2]; decide) ?_
  rw [hl2]
  refine e_astore_n dL_law_19 rfl (by decide) rfl rfl ?_
  refine e_iconst (v := 0) dL_law_20 (by decide) ?_
  refine e_istore dL_law_21 (by decide) rfl rfl ?_
  refine Ev.loose ?_
  have ok := st_ok rfl g5 g6
  exact (law_loop hB 512 0 _ s00 none none (by omega) (by decide) (st_ci ok gd00 g5 a1 a2 a6 hn g6) (st_mi ok gd00 g6 b2 b5 b12 b19 hw)).less (by decide) (by decide)
