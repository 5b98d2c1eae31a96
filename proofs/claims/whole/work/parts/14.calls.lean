theorem lva_mem : ∀ (vs : List Value) (k i : Nat) (w : Value), (∀ v ∈ vs, v.category = 1) → vs[i]? = some w → (k + i, w) ∈ lv_args k vs
  | [], _, _, _, _, h => by simp at h
  | v :: vs, k, 0, w, hc, h => by
    simp only [List.getElem?_cons_zero, Option.some.injEq] at h
    subst h
    unfold lv_args
    exact List.mem_cons_self
  | v :: vs, k, i + 1, w, hc, h => by
    rw [List.getElem?_cons_succ] at h
    have h1 : v.category = 1 := hc v List.mem_cons_self
    have ih := lva_mem vs (k + 1) i w (fun v hv => hc v (List.mem_cons_of_mem _ hv)) h
    unfold lv_args
    rw [if_neg (by omega)]
    have e : k + (i + 1) = k + 1 + i := by omega
    rw [e]
    exact List.mem_cons_of_mem _ ih
theorem lgsl_len : ∀ (vs : List Value), (∀ v ∈ vs, v.category = 1) → (lg_sl vs).length = vs.length
  | [], _ => rfl
  | v :: vs, hc => by
    have h1 : v.category = 1 := hc v List.mem_cons_self
    have ih := lgsl_len vs (fun v hv => hc v (List.mem_cons_of_mem _ hv))
    have e : lg_sl (v :: vs) = (if v.category = 2 then [.val v, .second] else [.val v]) ++ lg_sl vs := rfl
    rw [e, if_neg (by omega), List.length_append, ih]
    simp; omega
def Lin (y : Mt) (As : List Value) : Lc := As.map some ++ List.replicate (y.2.2.1 - As.length) none
theorem LR_in {ad : Nat → Nat} {As : List Value} {n : Nat} (hc : As.all (fun v => v.category == 1) = true) (hn : As.length ≤ n) : LR ad ((lg_sl (As.map (tr ad)) ++ List.replicate (n - (lg_sl (As.map (tr ad))).length) Slot.unset).toArray) n (As.map some ++ List.replicate (n - As.length) none) := by
  have hc1 : ∀ v ∈ As.map (tr ad), v.category = 1 := by
    intro v hv
    obtain ⟨w, hw, rfl⟩ := List.mem_map.mp hv
    rw [tr_cat]
    simpa using List.all_eq_true.mp hc w hw
  have hle : (lg_sl (As.map (tr ad))).length ≤ n := by rw [lgsl_len _ hc1, List.length_map]; exact hn
  have h := lv_entry (As.map (tr ad)) hle
  refine ⟨h.1, h.2.1, fun i v hi => ?_⟩
  have hm : (As.map (tr ad))[i]? = some (tr ad v) := by
    by_cases hl : i < As.length
    · rw [List.getElem?_append_left (by rw [List.length_map]; exact hl), List.getElem?_map] at hi
      rw [List.getElem?_map]
      cases hq : As[i]? with
      | none => rw [hq] at hi; cases hi
      | some w =>
        rw [hq] at hi
        simp only [Option.map_some, Option.some.injEq] at hi
        subst hi; rfl
    · rw [List.getElem?_append_right (by rw [List.length_map]; omega)] at hi
      rw [List.getElem?_replicate] at hi
      split at hi
      · cases hi
      · cases hi
  have := h.2.2 _ (lva_mem _ 0 i _ hc1 hm)
  simpa using this
theorem tab_nil {c : Code} (h : ∀ x ∈ c.exceptionTable.toList, False) : c.exceptionTable.toList = tableOf [] := by
  have h1 : c.exceptionTable.toList = [] := List.eq_nil_iff_forall_not_mem.mpr (fun x hx => h x hx)
  rw [h1]; rfl
set_option maxHeartbeats 4000000 in
theorem Ct.of {B : Bd} {y : Mt} {d rc rs : Nat} {As : List Value} {M : Mm} {Φ : Ot → Mm → Prop} (hy : plainName y.1.cls = true) (hh : y.2.2.2.2 = []) (hc : As.all (fun v => v.category == 1) = true) (hn : As.length ≤ y.2.2.1) (h : Ev B y d rc rs Φ 0 (Lin y As) [] M) : Ct B y d rc rs As M Φ := by
  obtain ⟨yn, bytes, maxL, ret, tb⟩ := y
  dsimp only at hy hh hn
  subst hh
  refine vx_ofW (cc := bytes) (maxL := maxL) (ret := ret) hy rfl ?_
  intro p e s m args below meth c s₁ D hml htab hv
  obtain ⟨rfl, hR, hK, hX, hbs, hA, htr⟩ := hv
  have hts := atoms_spec (ws := wsY (yn, bytes, maxL, ret, [])) D.pre
  rw [lg_entry_eq]
  exact h p e _ s m _ below meth c ⟨⟨D.exec, D.bytes, D.returns, hml, findClass_of_methodNamed D.named⟩, fun w hw => hts w (List.mem_cons_of_mem _ hw), ⟨D.notSynchronized, (name_of_methodNamed D.named D.method).1, tab_nil htab⟩, hK, hX, ⟨hbs, hA, htr⟩, ⟨Nat.le_refl _, Nat.le_refl _⟩⟩ _ s.heap [] 0 0 (LR_in hc hn) hR va_S.rf (by show 0 + rc ≤ rc; omega) (by show 0 + rs ≤ rs; omega)
section RT
variable {B : Bd} {y : Mt} {d rc rs : Nat} {Φ : Ot → Mm → Prop} {pc : Nat} {L : Lc} {st : List Value} {M : Mm}
theorem e_iret {v : Int32} {ty : FieldType} (hd : decode y.2.1 pc = .ok (.ireturn, 1)) (hr : y.2.2.2.1 = some ty) (hn : narrow ty (.int v) = .int v) (h : Φ (.inl (some (.int v))) M) : Ev B y d rc rs Φ pc L [.int v] M := by
  intro p e R s m args below meth c C ls H locs cells slots hl hR hS hc hs
  refine W.widen (k := R.cells) (n := R.slots) (by omega) (by omega) ?_
  exact vx_ret (W.zret (v := v) C.1.1 C.1.2.1 (C.1.2.2.1.trans hr) hn (fun t ht hW => ⟨⟨some (.int v), M, rfl, h, by rw [ht]; exact hR⟩, hS.F ht⟩) hS.2.2 hd C.2.2.1.1)
theorem e_lret {v : Int64} (hd : decode y.2.1 pc = .ok (.lreturn, 1)) (hr : y.2.2.2.1 = some .long) (h : Φ (.inl (some (.long v))) M) : Ev B y d rc rs Φ pc L [.long v] M := by
  intro p e R s m args below meth c C ls H locs cells slots hl hR hS hc hs
  refine W.widen (k := R.cells) (n := R.slots) (by omega) (by omega) ?_
  exact vx_ret (W.lret (v := v) C.1.1 C.1.2.1 (C.1.2.2.1.trans hr) (fun t ht hW => ⟨⟨some (.long v), M, rfl, h, by rw [ht]; exact hR⟩, hS.F ht⟩) hS.2.2 hd C.2.2.1.1)
theorem e_vret (hd : decode y.2.1 pc = .ok (.return_, 1)) (hr : y.2.2.2.1 = none) (h : Φ (.inl none) M) : Ev B y d rc rs Φ pc L [] M := by
  intro p e R s m args below meth c C ls H locs cells slots hl hR hS hc hs
  refine W.widen (k := R.cells) (n := R.slots) (by omega) (by omega) ?_
  exact vx_ret (W.vret C.1.1 C.1.2.1 (C.1.2.2.1.trans hr) (fun t ht hW => ⟨⟨none, M, rfl, h, by rw [ht]; exact hR⟩, hS.F ht⟩) hS.2.2 hd C.2.2.1.1)
theorem Ev.mono {Ψ : Ot → Mm → Prop} (h : Ev B y d rc rs Φ pc L st M) (hi : ∀ o N, Φ o N → Ψ o N) : Ev B y d rc rs Ψ pc L st M := by
  intro p e R s m args below meth c C ls H locs cells slots hl hR hS hc hs T hT X
  obtain ⟨t, a1, o, b1, b2, b3⟩ := h p e R s m args below meth c C ls H locs cells slots hl hR hS hc hs T hT X
  refine ⟨t, a1, o, b1, b2, ?_⟩
  rcases b3 with ⟨⟨⟨v, N, g1, g2, g3⟩, g4⟩, g5⟩ | ⟨q, g1, E, ce, L9, ⟨⟨N, g2, g3⟩, g4⟩, g5⟩
  · exact Or.inl ⟨⟨⟨v, N, g1, hi _ _ g2, g3⟩, g4⟩, g5⟩
  · exact Or.inr ⟨q, g1, E, ce, L9, ⟨⟨N, hi _ _ g2, g3⟩, g4⟩, g5⟩
theorem Ev.less {rc' rs' : Nat} (h : Ev B y d rc rs Φ pc L st M) (h1 : rc ≤ rc') (h2 : rs ≤ rs') : Ev B y d rc' rs' Φ pc L st M := by
  intro p e R s m args below meth c C ls H locs cells slots hl hR hS hc hs
  exact h p e R s m args below meth c C ls H locs cells slots hl hR hS (by omega) (by omega)
theorem Ev.deep {d' : Nat} (h : Ev B y d rc rs Φ pc L st M) (h1 : d ≤ d') : Ev B y d' rc rs Φ pc L st M := by
  intro p e R s m args below meth c C ls H locs cells slots hl hR hS hc hs
  exact h p e R s m args below meth c ⟨C.1, C.2.1, C.2.2.1, C.2.2.2.1, C.2.2.2.2.1, C.2.2.2.2.2.1, ⟨Nat.le_trans h1 C.2.2.2.2.2.2.1, Nat.le_trans (Nat.mul_le_mul_left 128 h1) C.2.2.2.2.2.2.2⟩⟩ ls H locs cells slots hl hR hS hc hs
-- a throw that leaves the method
theorem e_out {E : String} (ht : y.2.2.2.2 = []) (h : Φ (.inr E) M) : EvX B y d rc rs Φ E pc L M := by
  intro p e R s m args below meth c C ls H locs cells slots st9 q ce hl hR hS hc hs hcell hv hcl
  refine vx_out (E := E) (ce := ce) (fun x hx => ?_) C.2.2.1.1 hcell hv hcl (fun t ht hal => ⟨⟨M, h, by rw [ht]; exact hR⟩, hS.F ht⟩) hS.2.2 (by omega) (by omega)
  rw [C.2.2.1.2.2, ht] at hx
  cases hx
end RT
