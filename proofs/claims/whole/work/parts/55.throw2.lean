/-! a throw whose text stands far back in the pool: ldc_w -/
section RT3
variable {B : Bd} {y : Mt} {d rc rs : Nat} {Φ : Ot → Mm → Prop} {pc : Nat} {L : Lc} {st : List Value} {M : Mm}
set_option maxHeartbeats 4000000 in
theorem e_throwW {E tx : String} {ik is ic ix k0 : Nat} {rx : ByteArray} (hw : Th y.1.cls E ik is ic ix k0 rx tx) (d0 : decode y.2.1 pc = .ok (.new ik, 3)) (d3 : decode y.2.1 (pc + 3) = .ok (.dup, 1)) (d4 : decode y.2.1 (pc + 4) = .ok (.ldc_w is, 3)) (d6 : decode y.2.1 (pc + 7) = .ok (.invokespecial ic, 3)) (d9 : decode y.2.1 (pc + 10) = .ok (.athrow, 1))
    (ht : y.2.2.2.2 = []) (hd : 6 ≤ d) (h1 : 1 ≤ rc) (h2 : 6 ≤ rs) (hst : (st.map fun v => v.category).sum ≤ 8) (h : Φ (.inr E) (loose M)) : Ev B y d rc rs Φ pc L st M := by
  intro p e R s m args below meth c C ls H locs cells slots hl hR hS hc hs
  obtain ⟨⟨w1, w2, w3⟩, ⟨x0, x1, x2, x5⟩, w4, w5, w6, w7, w8⟩ := hw
  obtain ⟨hfr, hlo⟩ := C.2.2.2.2.2.2
  have hst' := cat8 hst (ba B)
  have hb := C.1.2.1
  intro T hT X
  have htr : e.platform.stackTraces = false := (show e.platform.stackTraces = (bl B).stackTraces by rw [X.admits.platform]).trans C.2.2.2.2.2.1.2.2
  have Y := vx_rebase X (R' := { frames := R.frames, locals := R.locals, cells := 1, slots := 6 }) (Nat.le_refl _) (Nat.le_refl _) (by show cells + 1 ≤ R.cells; omega) (by show slots + 6 ≤ R.slots; omega)
  obtain ⟨s', hA⟩ : ∃ z, z = (T.setVm s.vm).setFrames (.invoking m args :: below) := ⟨_, rfl⟩
  rw [← hA] at Y
  have hvm : s'.vm = s.vm := by rw [hA]; rfl
  have hhp : s'.heap = H := by rw [hA]; exact hT
  have hW0 : s.WarmedH s'.vm := by rw [hvm]; exact State.WarmedH.refl s
  have hat : ∀ w ∈ atX y.1.cls ic E ix rx, w.before args s = true := vx_hat (fun w h9 => C.2.1 w (w6 w h9)) w7 (fun w h9 => by
    rcases List.mem_cons.mp h9 with rfl | h9
    · exact va_Nw.use rfl (C.2.2.2.2.1.2.2.2.2.2.2.2.1.1 _ w2)
    · obtain ⟨q, hq, rfl⟩ := List.mem_map.mp h9
      exact va_Nw.use rfl (C.2.2.2.2.1.2.2.2.2.2.2.2.1.2 _ hq))
  have hat' : ∀ w ∈ atX y.1.cls ic E ix rx, w.before args s' = true := fun w hw => vx_ot_at hW0 hvm.symm (w8 w (List.mem_cons_of_mem _ (List.mem_cons_of_mem _ hw))) (hat w hw)
  have hk' : (Cond.classLink y.1.cls ik E).before args s' = true := vx_ot_at hW0 hvm.symm (w8 _ List.mem_cons_self) (C.2.1 _ w4)
  have hini' : (Cond.initialized E).before args s' = true := vx_ot_at hW0 hvm.symm (w8 _ (List.mem_cons_of_mem _ List.mem_cons_self)) (C.2.1 _ w5)
  have hU' : vx_Zq Bundle.tN "UNASSIGNED_STACK" Bundle.steD (fr B) s' s'.heap := by rw [hhp]; exact vx_Zq.moved hW0.alike (C.2.2.2.2.1.2.2.2.2.1.1.kept hS.2.1)
  have hN' : vx_Zq Bundle.tN "SUPPRESSED_SENTINEL" Bundle.listD (fr B) s' s'.heap := by rw [hhp]; exact vx_Zq.moved hW0.alike (C.2.2.2.2.1.2.2.2.2.1.2.kept hS.2.1)
  have hh : ∀ w ∈ oaX y.1.cls ic E ix rx xRE xr0, w.before args s' = true := vx_own hat' (vx_isRefq hU'.1) (vx_isRefq hN'.1) hU'.2.word hN'.2.word
  have hown' : s'.vm.findClass y.1.cls = some m.cls := by rw [hvm]; exact C.1.2.2.2.2
  have hins : (Cond.instantiable E 6).before args s' = true := hh _ (by simp [oaX])
  obtain ⟨vm₁, cX, kX, hfX, hkX, -, -, X₁, st1⟩ := Y.newCold C.1.1 (own := y.1.cls) (C := E) (index := ik) (n := 6) hown' hk' hins hini'
    (g := F0 m pc ls (st.map (tr (ba B)))) rfl (by rw [hb]; exact d0) (Nat.le_refl _) (Nat.le_refl _)
  generalize hT1 : (T.setVm vm₁).pushCell { cls := cX, slots := kX.instanceTypes.map defaultValue, vm := .none } = T1 at X₁ st1
  have hcat : (Value.ref T.heap.size).category = 1 := rfl
  have hcellA : T1.heap[T.heap.size]? = some (freshCell cX kX) := by rw [← hT1]; exact State.heap_pushCell_size _ _
  have d3' : decode c.code (pc + 3) = .ok (.dup, 1) := by rw [hb]; exact d3
  have d4' : decode c.code (pc + 4) = .ok (.ldc_w is, 3) := by rw [hb]; exact d4
  have hstr' : vk_R y.1.cls is tx (ba B (1000001 + k0)) s' := vk_R.warm hW0 (C.2.2.2.2.1.2.2.1 _ w3)
  have hsize : ls.size = c.maxLocals := hl.1.trans C.1.2.2.2.1.symm
  obtain ⟨U, hsteps, hrun, hend, hW, hsame, ce, hce, hcv, hcf⟩ := ctorThrowX X₁ C.1.1 htr (own := y.1.cls) (cls := E) (Y0 := xRE) (r0 := xr0) (ic := ic) x0 x1 x2 x5 hown' w1 (by decide +kernel) (by decide +kernel) hh (fun x hx => nomatch hx) hfX hkX hcellA (by rw [hhp, hT]; exact Nat.le_refl _) (msg := .ref (ba B (1000001 + k0))) rfl
    (g := { method := m, pc := pc + 7, locals := ls, stack := .ref (ba B (1000001 + k0)) :: .ref T.heap.size :: .ref T.heap.size :: st.map (tr (ba B)), locked := none }) rfl hsize rfl rfl (rest := st.map (tr (ba B))) rfl
    (by rw [hb]; exact d6) (by rw [hb]; exact d9) (fun x hx => by rw [C.2.2.1.2.2, ht] at hx; cases hx) (by show 1 + 4 < R.frames; omega) (by simp only [List.map_cons, List.sum_cons, hcat]; show 2 * 0 + _ + (13 * (1 + 2) + 42) ≤ R.locals; omega) C.2.2.1.1
  obtain ⟨f1, f2⟩ := vx_frame hsame
  rw [hhp] at f1 f2
  have hWs : s.WarmedH U.vm := State.WarmedH.trans hW0 hW
  have hcl : s.vm.findClass E = some ce.cls := by
    rw [hvm] at hcf
    exact hcf
  have hall : s.sameButNew ({ U with vm := s.vm } : State) locs R.cells R.slots := by
    subst hA
    obtain ⟨e1, e2⟩ := hsame
    rw [State.setFrames_setFrames] at e1
    have h2 : (T.setVm s.vm).sameButNew ({ U with vm := s.vm } : State) [] (0 + 1) (0 + 6) := ⟨e1, e2⟩
    have h3 := X.same.trans h2
    rw [List.append_nil] at h3
    exact h3.mono (by omega) (by omega)
  have hkeep : ∀ q, q < H.size → U.heap[q]? = H[q]? := fun q hq => f2 q hq (fun z hz => nomatch hz)
  refine ⟨U, ?_, .threw T.heap.size, hrun, hend, Or.inr ⟨T.heap.size, rfl, E, ce, locs, ⟨⟨loose M, h, hR.kept f1 hkeep⟩, ⟨Nat.le_trans hS.1 f1, fun q q1 q2 => (hkeep q (Nat.lt_of_lt_of_le q1 hS.1)).trans (hS.2.1 q q1 q2)⟩⟩, hce, hcv, hcl, hWs, hall, hS.2.2⟩⟩
  refine st1 _ ?_
  show Steps p.tables e below (T1.setTop { method := m, pc := pc + 3, locals := ls, stack := .ref T.heap.size :: st.map (tr (ba B)), locked := none }) _
  jvm_step X₁.here [X₁.here.top, C.1.1, d3', Value.category]
  exact X₁.ldcStringW C.1.1 (own := y.1.cls) (text := tx) (index := is) (a := ba B (1000001 + k0)) hown' hstr'.1 hstr'.2
    (g := { method := m, pc := pc + 4, locals := ls, stack := .ref T.heap.size :: .ref T.heap.size :: st.map (tr (ba B)), locked := none }) rfl d4' _ hsteps
end RT3
