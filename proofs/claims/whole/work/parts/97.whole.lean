/-! the world of the law, and its walk -/
theorem arr_prim {args : Array Value} {s : State} {ty : FieldType} (h : (Cond.arrayClass ty).before args s = true) (hob : ∀ C, ty ≠ .object C) : ∃ cA, ArrOfT s cA ty ∧ va_RA s cA ty := by
  obtain ⟨c, k, comp, h1, h2, h3⟩ := Cond.arrayClass_spec h
  refine ⟨c, fun n z => ⟨fun k h => (by cases h), k, h2, comp, h3⟩, ?_⟩
  cases ty <;> first | exact h1 | exact absurd rfl (hob _)
theorem arr_obj {args : Array Value} {s : State} {C : String} (h : (Cond.arrayOver (.object C)).before args s = true) : ∃ cA, ArrOfT s cA (.object C) ∧ va_RA s cA (.object C) := by
  obtain ⟨comp, c, k, h1, h2, h3, h4, h5⟩ := Cond.arrayOver_spec h
  exact ⟨c, fun n z => ⟨fun k h => (by cases h), k, h3, comp, h4⟩, k, comp, h3, h4, h1, h5⟩
theorem arr_arr {args : Array Value} {s : State} {t : FieldType} (h : (Cond.arrayOver (.array t)).before args s = true) : ∃ cA, ArrOfT s cA (.array t) ∧ va_RA s cA (.array t) := by
  obtain ⟨comp, c, k, h1, h2, h3, h4, h5⟩ := arrayOverA_spec h
  exact ⟨c, fun n z => ⟨fun k h => (by cases h), k, h3, comp, h4⟩, h5⟩
def mkA6 (c0 c1 c2 c3 c4 c5 : ClassId) : FieldType → ClassId
  | .int => c0
  | .byte => c1
  | .boolean => c2
  | .long => c3
  | .array _ => c5
  | _ => c4
def mkD (d0 d1 d2 d3 d4 d5 d6 : ClassId × (Nat → Nat)) (k : Nat) : ClassId × (Nat → Nat) := match k with
  | 0 => d0
  | 1 => d1
  | 2 => d2
  | 3 => d3
  | 4 => d4
  | 5 => d5
  | _ => d6
def mkad (h b t : Nat) (adK adV : Nat → Nat) (k : Nat) : Nat := if k < 1000000 then h + k else if k = 1000000 then b else if k < 1000101 then adK (k - 1000001) else if k < 1000200 then adV (k - 1000101) else t
theorem mkad_lo {h b t : Nat} {adK adV : Nat → Nat} {k : Nat} (hk : k < 1000000) : mkad h b t adK adV k = h + k := if_pos hk
theorem mkad_b {h b t : Nat} {adK adV : Nat → Nat} : mkad h b t adK adV 1000000 = b := rfl
theorem mkad_k {h b t : Nat} {adK adV : Nat → Nat} {i : Nat} (hi : i < 9) : mkad h b t adK adV (1000001 + i) = adK i := by
  unfold mkad
  rw [if_neg (by omega), if_neg (by omega), if_pos (by omega), Nat.add_sub_cancel_left]
theorem mkad_v {h b t : Nat} {adK adV : Nat → Nat} {i : Nat} (hi : i < 9) : mkad h b t adK adV (1000101 + i) = adV i := by
  unfold mkad
  rw [if_neg (by omega), if_neg (by omega), if_neg (by omega), if_pos (by omega), Nat.add_sub_cancel_left]
theorem mkad_t {h b t : Nat} {adK adV : Nat → Nat} : mkad h b t adK adV 1000200 = t := rfl
set_option maxHeartbeats 4000000 in
theorem the_world {p : Program} {s : State} {m : MethodId} {meth : Method} {c : Code} (l : Launch) (hflags : l.flags = flags0) {b L : Nat} {xs : Nat → Int32} (hL : L ≤ 3072) (C0 : lw_At p s m meth c b L xs) : ∃ B : Bd, (bl B = l ∧ bs B = s.heap.size ∧ ba B 1000000 = b ∧ bL B = L) ∧ va_K (bD B) clz (tysM (bA B)) s ∧ XE B s s.heap ∧ Adr B ∧ (bl B).stackTraces = false := by
  obtain ⟨hx, hb, hr, hml, hown, hts, hX, hbl, hlocks, hgv, -, -⟩ := id C0
  have hfl : ∀ w ∈ FL0, w.before #[Value.ref b] s = true := flat_of_before _ hgv
  have hTB : ∀ w ∈ TB, w.before #[Value.ref b] s = true := fun w h => hts w (List.mem_filter.mp h).1
  have hA : ∀ a : Nat, a < s.heap.size → ¬ (fun q : Nat => s.heap.size ≤ q) a := fun a h => Nat.not_le.mpr h
  obtain ⟨k0, i0, u0⟩ := u_known (C := RX0) (T := TX0) (N := 4) (n := 4) hTB uwz0 (hTB _ inRX0)
  obtain ⟨k1, i1, u1⟩ := u_known (C := RX1) (T := TX1) (N := 5) (n := 5) hTB uwz1 (hTB _ inRX1)
  obtain ⟨k2, i2, u2⟩ := u_known (C := RX2) (T := TX2) (N := 3) (n := 3) hTB uwz2 (hTB _ inRX2)
  obtain ⟨k3, i3, u3⟩ := u_known (C := RX3) (T := TX3) (N := 8) (n := 8) hTB uwz3 (hTB _ inRX3)
  obtain ⟨k4, i4, u4⟩ := u_known (C := RX4) (T := TX4) (N := 11) (n := 11) hTB uwz4 (hTB _ inRX4)
  obtain ⟨k5, i5, u5⟩ := u_known (C := RX5) (T := TX5) (N := 12) (n := 12) hTB uwz5 (hTB _ inRX5)
  obtain ⟨k6, i6, u6⟩ := u_known (C := RX6) (T := TX6) (N := 27) (n := 27) hTB uwz6 (hTB _ inRX6)
  obtain ⟨a0, r0⟩ := arr_prim (hTB _ ac_int) (fun C h => by cases h)
  obtain ⟨a1, r1⟩ := arr_prim (hTB _ ac_byte) (fun C h => by cases h)
  obtain ⟨a2, r2⟩ := arr_prim (hTB _ ac_boolean) (fun C h => by cases h)
  obtain ⟨a3, r3⟩ := arr_prim (hTB _ ac_long) (fun C h => by cases h)
  obtain ⟨a4, r4⟩ := arr_obj (hts _ w_ao.1)
  obtain ⟨a5, r5⟩ := arr_arr (hts _ w_ao.2)
  obtain ⟨adK, adV, hS, hev⟩ := vk_Sof (tm := tm9) (len := slen) (byt := sbyt) (A := fun q : Nat => s.heap.size ≤ q) w_len (fun i hi => hfl _ (w_ex i hi)) (fun i hi => hfl _ (w_co i hi)) (fun i hi => hfl _ (w_ar i hi)) (fun i hi => hfl _ (w_le i hi)) (fun i hi j hj => hfl _ (w_el i hi j hj)) (fun i j hi hj hij => (w_ne i hi j hj hij).elim (fun h => Or.inl (hfl _ h)) (fun h => Or.inr (hfl _ h))) hA
  have hsf := va_Zqof (A := fun q : Nat => s.heap.size ≤ q) (hts _ w_sf.1) (hts _ w_sf.2.1) (hfl _ w_sf.2.2) hA
  obtain ⟨t, ht⟩ : ∃ t : Nat, va_Z "jdk/internal/util/Preconditions" "SIOOBE_FORMATTER" "Ljava/util/function/BiFunction;" .null (fun q : Nat => s.heap.size ≤ q) s s.heap ∨ va_Z "jdk/internal/util/Preconditions" "SIOOBE_FORMATTER" "Ljava/util/function/BiFunction;" (.ref t) (fun q : Nat => s.heap.size ≤ q) s s.heap := by
    rcases hsf with h | ⟨t, h⟩
    · exact ⟨0, Or.inl h⟩
    · exact ⟨t, Or.inr h⟩
  have hdd := mkD (k0, i0) (k1, i1) (k2, i2) (k3, i3) (k4, i4) (k5, i5) (k6, i6)
  refine ⟨(l, s.heap.size, mkad s.heap.size b t adK adV, (fun k => (mkD (k0, i0) (k1, i1) (k2, i2) (k3, i3) (k4, i4) (k5, i5) (k6, i6) k).1, fun k => (mkD (k0, i0) (k1, i1) (k2, i2) (k3, i3) (k4, i4) (k5, i5) (k6, i6) k).2), mkA6 a0 a1 a2 a3 a4 a5, L, xs), ⟨rfl, rfl, rfl, rfl⟩, ⟨?_, ?_⟩, ?_, fun k hk => mkad_lo hk, ?_⟩
  · intro k q hq
    match k, hq with
    | 0, hq => cases hq; exact u0
    | 1, hq => cases hq; exact u1
    | 2, hq => cases hq; exact u2
    | 3, hq => cases hq; exact u3
    | 4, hq => cases hq; exact u4
    | 5, hq => cases hq; exact u5
    | 6, hq => cases hq; exact u6
    | k + 7, hq => cases hq
  · intro k q hq
    match k, hq with
    | 0, hq => cases hq; exact r0
    | 1, hq => cases hq; exact r1
    | 2, hq => cases hq; exact r2
    | 3, hq => cases hq; exact r3
    | 4, hq => cases hq; exact r4
    | 5, hq => cases hq; exact r5
    | k + 6, hq => cases hq
  · refine ⟨⟨hX, hbl, hL⟩, ⟨fun i hi => ?_, fun i j hi hj h => ?_⟩, fun q hq => ?_, ⟨va_Zof (hts _ w_cs.1) (hts _ w_cs.2.1) (va_eqi (hfl _ w_cs.2.2)) hA, ht⟩, ⟨vx_Zqof (hts _ w_us.1) (hts _ w_us.2.1) (hfl _ w_us.2.2) hA, vx_Zqof (hts _ w_ss.1) (hts _ w_us.2.1) (hfl _ w_ss.2) hA⟩, fun q hq => va_Nw.of rfl (hts _ (w_nest q hq)), fun q hq => va_Nc.of (hfl _ (w_nc q hq)), ⟨fun q hq => va_Nw.of rfl (hts _ (w_exc q hq)), fun q hq => va_Nw.of rfl (hts _ (w_sup q hq))⟩, va_AO.of (hts _ w_ao.1), hts _ w_ao.2⟩
    · show va_O "java/lang/String" (mkad s.heap.size b t adK adV (1000001 + i)) _ s s.heap ∧ va_OF "java/lang/String" "coder" "B" (.int 0) (mkad s.heap.size b t adK adV (1000001 + i)) _ s s.heap ∧ va_OF "java/lang/String" "value" "[B" (.ref (mkad s.heap.size b t adK adV (1000101 + i))) (mkad s.heap.size b t adK adV (1000001 + i)) _ s s.heap ∧ va_T .byte (mkad s.heap.size b t adK adV (1000101 + i)) (slen.getD i 0) (fun j => .int ((sbyt.getD i []).getD j 0)) _ s s.heap
      rw [mkad_k hi, mkad_v hi]
      exact hS.1 i hi
    · have h' : mkad s.heap.size b t adK adV (1000001 + i) = mkad s.heap.size b t adK adV (1000001 + j) := h
      rw [mkad_k hi, mkad_k hj] at h'
      exact hS.2 i j hi hj h'
    · obtain ⟨w1, w2⟩ := w_sr q hq
      show vk_R q.1 q.2.1 q.2.2.1 (mkad s.heap.size b t adK adV (1000001 + q.2.2.2)) s
      rw [mkad_k w2]
      refine vk_R.of (A := #[Value.ref b]) (hts _ w1) ?_
      have h1 := hev q.2.2.2 w2
      rcases w_eq q hq with h | h
      · rw [h] at h1; exact h1
      · obtain ⟨y, e1, e2⟩ := Cond.eq_one (hfl _ h)
        rw [e2, ← h1, e1]
  · show l.stackTraces = false
    unfold Launch.stackTraces
    rw [hflags]
    decide
set_option maxHeartbeats 4000000 in
theorem whole_start {p : Program} {e : Env} {s : State} {m : MethodId} {below : List Frame} {meth : Method} {c : Code} (l : Launch) (hflags : l.flags = flags0) {b L : Nat} {xs : Nat → Int32} (hL : L ≤ 3072) (C0 : lw_At p s m meth c b L xs) : W p l e room_1 s m #[Value.ref b] below meth c s.heap [] 0 0 (lw_Z below #[Value.ref b] s) (entryFrame m ([Value.ref b] : List Value).toArray 7) := by
  obtain ⟨B, ⟨e1, e2, e3, e4⟩, hK, hX, hA, htr⟩ := the_world l hflags hL C0
  obtain ⟨hx, hb, hr, hml, hown, hts, -, hbl, hlocks, hgv, hnm, htb⟩ := id C0
  rw [lg_entry_eq]
  have hlr := LR_in (ad := ba B) (As := [.ref 1000000]) (n := 7) rfl (by decide)
  have has : ([.ref 1000000] : List Value).map (tr (ba B)) = [.ref b] := by
    show [Value.ref (ba B 1000000)] = _
    rw [e3]
  rw [has] at hlr
  have hRep : Rep B M00 s.heap := ⟨fun k q h => (by cases h), by rw [e2]; exact Nat.le_refl _, fun _ => by rw [e2]; rfl, by decide⟩
  have key := law_start (B := B) (by rw [e4]; exact hL) p e room_1 s m #[Value.ref b] below meth c ⟨⟨hx, hb, hr, hml, hown⟩, fun w hw => hts w (List.mem_filter.mp hw).1, ⟨hlocks, hnm, htb⟩, hK, hX, ⟨by rw [e2]; exact Nat.le_refl _, hA, htr⟩, ⟨by decide, by decide⟩⟩ _ s.heap [] 0 0 hlr hRep va_S.rf (by decide) (by decide)
  rw [e1] at key
  intro T hT X
  obtain ⟨t, q1, o, q2, q3, q4⟩ := key T hT X
  refine ⟨t, q1, o, q2, q3, ?_⟩
  rcases q4 with ⟨⟨⟨v, N, g1, ⟨w, g2, g3⟩, -⟩, -⟩, Ls, ⟨f1, f2, f3⟩, g5⟩ | ⟨q, -, E, ce, Ls, ⟨⟨N, ⟨w, g2, -⟩, -⟩, -⟩, -⟩
  · cases g2
    subst g3
    refine ⟨g1, f1, f2, ?_⟩
    exact State.sameButNew.drop_fresh (L := []) (J := Ls) f3 (fun z hz => by have := g5 z hz; rw [← e2]; exact this)
  · cases g2
