/-! the law: its cases, its loop -/
abbrev mL_law : Mt := (yL_law, cL_law, 7, some .boolean, [])
def LQ : Ot → Mm → Prop := Rt (fun u _ => u = some (.int 1))
theorem lcmp_rf (x : Int64) : lg_cmp x x = 0 := by unfold lg_cmp; simp
theorem nI_z {n : Nat} (h : n ≤ 3) (q : nI n = 0) : n = 0 := by
  rcases Nat.eq_zero_or_pos n with e | e
  · exact e
  · exact absurd q (nI_ne0 e (by omega))
section SC
variable {B : Bd} {y : Mt} {d rc rs : Nat} {Φ : Ot → Mm → Prop} {pc : Nat} {L : Lc} {st : List Value} {M : Mm}
theorem e_sld {i : Int32} (hd : decode y.2.1 pc = .ok (.iaload, 1)) (hin : vp_in i (bL B)) (k : Ev B y d rc rs Φ (pc + 1) L (.int (bX B i.toNatClampNeg) :: st) M) : Ev B y d rc rs Φ pc L (.int i :: .ref 1000000 :: st) M := by
  intro p e R s m args below meth c C ls H locs cells slots hl hR hS hc hs
  have hX := C.2.2.2.2.1.1
  exact va_sld C.1.1 C.1.2.1 hX.1 (Nat.lt_of_lt_of_le hX.2.1 C.2.2.2.2.2.1.1) (Nat.not_le.mpr hX.2.1) hS hin hd (k p e R s m args below meth c C ls H locs cells slots hl hR hS hc hs)
theorem e_slen (hd : decode y.2.1 pc = .ok (.arraylength, 1)) (k : Ev B y d rc rs Φ (pc + 1) L (.int (nI (bL B)) :: st) M) : Ev B y d rc rs Φ pc L (.ref 1000000 :: st) M := by
  intro p e R s m args below meth c C ls H locs cells slots hl hR hS hc hs
  have hX := C.2.2.2.2.1.1
  exact va_slen C.1.1 C.1.2.1 hX.1 (Nat.lt_of_lt_of_le hX.2.1 C.2.2.2.2.2.1.1) (Nat.not_le.mpr hX.2.1) hS hd (k p e R s m args below meth c C ls H locs cells slots hl hR hS hc hs)
end SC
set_option maxHeartbeats 4000000 in
theorem law_0 {B : Bd} {M : Mm} {s : Sx} {rc rs : Nat} {j : Int32} {o5 o6 : Option Value} (h : CI M s) (g : MI M s) (v1 : vp_in (j + 1) (bL B)) (v2 : vp_in (j + 2) (bL B)) (v3 : vp_in (j + 3) (bL B)) (v4 : vp_in (j + 4) (bL B)) (v5 : vp_in (j + 5) (bL B)) (ih : ∀ (M1 : Mm) (s1 : Sx) (p5 p6 : Option Value), CI M1 s1 → MI M1 s1 → Ev B mL_law 36 rc rs LQ 1316 [some (.ref 1000000), some (.ref 0), some (.ref 60), some (.ref 83), some (.int j), p5, p6] [] M1) : Ev B mL_law 36 (4 + rc) (24 + rs) LQ 148 [some (.ref 1000000), some (.ref 0), some (.ref 60), some (.ref 83), some (.int j), o5, o6] [] M := by
  refine e_aload_n dL_law_148 rfl rfl ?_
  refine e_aload_n dL_law_149 rfl rfl ?_
  refine e_iload dL_law_150 rfl ?_
  refine e_iconst (v := 1) dL_law_152 (by decide) ?_
  refine e_iadd dL_law_153 ?_
  refine e_sld dL_law_154 v1 ?_
  refine e_aload_n dL_law_155 rfl rfl ?_
  refine e_iload dL_law_156 rfl ?_
  refine e_iconst (v := 2) dL_law_158 (by decide) ?_
  refine e_iadd dL_law_159 ?_
  refine e_sld dL_law_160 v2 ?_
  refine e_aload_n dL_law_161 rfl rfl ?_
  refine e_iload dL_law_162 rfl ?_
  refine e_iconst (v := 3) dL_law_164 (by decide) ?_
  refine e_iadd dL_law_165 ?_
  refine e_sld dL_law_166 v3 ?_
  refine e_aload_n dL_law_167 rfl rfl ?_
  refine e_iload dL_law_168 rfl ?_
  refine e_iconst (v := 4) dL_law_170 (by decide) ?_
  refine e_iadd dL_law_171 ?_
  refine e_sld dL_law_172 v4 ?_
  refine e_aload_n dL_law_173 rfl rfl ?_
  refine e_iload dL_law_174 rfl ?_
  refine e_iconst (v := 5) dL_law_176 (by decide) ?_
  refine e_iadd dL_law_177 ?_
  refine e_sld dL_law_178 v5 ?_
  refine e_callV (rc1 := 0) (rs1 := 0) (rc2 := rc) (rs2 := rs) [_, _, _, _, _] dL_law_179 mvmX5_feed lkRL_70 (by exact h.1.sh rfl) ⟨by decide, rfl⟩ rfl rfl (Nat.le_of_ble_eq_true rfl) (by decide) (by omega) (by omega) (c_feed h) (fun v N hp => ?_) (fun E N hp => ?_)
  · obtain ⟨e0, rfl, hI, hF⟩ := cpo_ret hp
    have gN := g.fo hI.1 hF.fo
    refine e_aload_n dL_law_182 rfl rfl ?_
    refine e_aload_n dL_law_183 rfl rfl ?_
    refine e_iload dL_law_184 rfl ?_
    refine e_iconst (v := 1) dL_law_186 (by decide) ?_
    refine e_iadd dL_law_187 ?_
    refine e_sld dL_law_188 v1 ?_
    refine e_aload_n dL_law_189 rfl rfl ?_
    refine e_iload dL_law_190 rfl ?_
    refine e_iconst (v := 2) dL_law_192 (by decide) ?_
    refine e_iadd dL_law_193 ?_
    refine e_sld dL_law_194 v2 ?_
    refine e_aload_n dL_law_195 rfl rfl ?_
    refine e_iload dL_law_196 rfl ?_
    refine e_iconst (v := 3) dL_law_198 (by decide) ?_
    refine e_iadd dL_law_199 ?_
    refine e_sld dL_law_200 v3 ?_
    refine e_aload_n dL_law_201 rfl rfl ?_
    refine e_iload dL_law_202 rfl ?_
    refine e_iconst (v := 4) dL_law_204 (by decide) ?_
    refine e_iadd dL_law_205 ?_
    refine e_sld dL_law_206 v4 ?_
    refine e_aload_n dL_law_207 rfl rfl ?_
    refine e_iload dL_law_208 rfl ?_
    refine e_iconst (v := 5) dL_law_210 (by decide) ?_
    refine e_iadd dL_law_211 ?_
    refine e_sld dL_law_212 v5 ?_
    refine e_callV1 [_, _, _, _, _] dL_law_213 mvmX6_feed lkRL_74 (by exact hI.1.sh rfl) ⟨by decide, rfl⟩ rfl rfl (Nat.le_of_ble_eq_true rfl) (by decide) (c_mfeed gN) (fun u K hq => ?_)
    obtain ⟨⟨v, rfl, hv⟩, -, gK, fK⟩ := hq
    obtain rfl := hv e0
    refine e_icmp_eq (tgt := 1316) dL_law_216 (by decide) (fun _ => ih _ _ _ _ (hI.fm fK) gK) (fun q => absurd rfl q)
  · obtain ⟨c, -, hE, -, -⟩ := cpo_thr hp
    exact absurd hE (by simp)
set_option maxHeartbeats 4000000 in
theorem law_1 {B : Bd} {M : Mm} {s : Sx} {rc rs : Nat} {j : Int32} {o5 o6 : Option Value} (h : CI M s) (g : MI M s) (v1 : vp_in (j + 1) (bL B)) (v2 : vp_in (j + 2) (bL B)) (v3 : vp_in (j + 3) (bL B)) (v4 : vp_in (j + 4) (bL B)) (v5 : vp_in (j + 5) (bL B)) (ih : ∀ (M1 : Mm) (s1 : Sx) (p5 p6 : Option Value), CI M1 s1 → MI M1 s1 → Ev B mL_law 36 rc rs LQ 1316 [some (.ref 1000000), some (.ref 0), some (.ref 60), some (.ref 83), some (.int j), p5, p6] [] M1) : Ev B mL_law 36 (4 + rc) (24 + rs) LQ 221 [some (.ref 1000000), some (.ref 0), some (.ref 60), some (.ref 83), some (.int j), o5, o6] [] M := by
  refine e_aload_n dL_law_221 rfl rfl ?_
  refine e_aload_n dL_law_222 rfl rfl ?_
  refine e_iload dL_law_223 rfl ?_
  refine e_iconst (v := 1) dL_law_225 (by decide) ?_
  refine e_iadd dL_law_226 ?_
  refine e_sld dL_law_227 v1 ?_
  refine e_aload_n dL_law_228 rfl rfl ?_
  refine e_callSX (rc1 := 1) (rs1 := 6) (rc2 := rc) (rs2 := rs) [_, _, _] dL_law_229 mdL_text lkRL_75 rfl rfl (Nat.le_of_ble_eq_true rfl) (by decide) (by omega) (by omega) (cw_text h) (fun v N hp => ?_)
  obtain ⟨⟨rfl, e3⟩, hI, hF, hout⟩ := hp
  have gN := g.fo hI.1 hF
  refine e_istore dL_law_232 (by decide) rfl rfl ?_
  refine e_aload_n dL_law_234 rfl rfl ?_
  refine e_aload_n dL_law_235 rfl rfl ?_
  refine e_iload dL_law_236 rfl ?_
  refine e_iconst (v := 1) dL_law_238 (by decide) ?_
  refine e_iadd dL_law_239 ?_
  refine e_sld dL_law_240 v1 ?_
  refine e_callV1 [_] dL_law_241 mvmX6_text lkRL_80 (by exact hI.1.sh rfl) ⟨by decide, rfl⟩ rfl rfl (Nat.le_of_ble_eq_true rfl) (by decide) (c_mtext gN) (fun u K hq => ?_)
  obtain ⟨⟨v, rfl, hv⟩, ht, gK, fK⟩ := hq
  refine e_istore dL_law_244 (by decide) rfl rfl ?_
  refine e_aload_n dL_law_246 rfl rfl ?_
  refine e_callV0i [] dL_law_247 mvmX6_thrown lkRL_81 (by exact gK.1.sh rfl) ⟨by decide, rfl⟩ rfl rfl (Nat.le_of_ble_eq_true rfl) (by decide) (c_thrown gK.1) ?_
  refine e_iload dL_law_250 rfl ?_
  refine e_icmp_eq (tgt := 257) dL_law_252 (by decide) (fun _ => ?_) (fun q => absurd ht q)
  refine e_iload dL_law_257 rfl ?_
  refine e_if_ne (tgt := 274) dL_law_259 (by decide) (fun _ => ?_) (fun q => ?_)
  · refine e_goto (tgt := 1316) dL_law_274 (by decide) ?_
    exact ih _ _ _ _ (hI.fm fK) gK
  · have e0 := nI_z e3 q
    obtain rfl := hv e0
    refine e_aload_n dL_law_262 rfl rfl ?_
    refine e_iconst (v := 0) dL_law_263 (by decide) ?_
    refine e_laload dL_law_264 (by exact gK.1.sh rfl) (by unfold vp_in; decide) ?_
    rw [show Int32.toNatClampNeg 0 = 0 by decide, fK.2.2.2 83 (by decide), hout e0]
    refine e_iload dL_law_265 rfl ?_
    refine e_i2l dL_law_267 ?_
    refine e_lcmp dL_law_268 ?_
    refine e_if_eq (tgt := 274) dL_law_269 (by decide) (fun _ => ?_) (fun q => absurd (lcmp_rf _) q)
    refine e_goto (tgt := 1316) dL_law_274 (by decide) ?_
    exact ih _ _ _ _ (hI.fm fK) gK
set_option maxHeartbeats 4000000 in
theorem law_2 {B : Bd} {M : Mm} {s : Sx} {rc rs : Nat} {j : Int32} {o5 o6 : Option Value} (h : CI M s) (g : MI M s) (v1 : vp_in (j + 1) (bL B)) (v2 : vp_in (j + 2) (bL B)) (v3 : vp_in (j + 3) (bL B)) (v4 : vp_in (j + 4) (bL B)) (v5 : vp_in (j + 5) (bL B)) (ih : ∀ (M1 : Mm) (s1 : Sx) (p5 p6 : Option Value), CI M1 s1 → MI M1 s1 → Ev B mL_law 36 rc rs LQ 1316 [some (.ref 1000000), some (.ref 0), some (.ref 60), some (.ref 83), some (.int j), p5, p6] [] M1) : Ev B mL_law 36 (4 + rc) (24 + rs) LQ 277 [some (.ref 1000000), some (.ref 0), some (.ref 60), some (.ref 83), some (.int j), o5, o6] [] M := by
  refine e_aload_n dL_law_277 rfl rfl ?_
  refine e_callV (rc1 := 0) (rs1 := 0) (rc2 := rc) (rs2 := rs) [] dL_law_278 mvmX5_fault lkRL_85 (by exact h.1.sh rfl) ⟨by decide, rfl⟩ rfl rfl (Nat.le_of_ble_eq_true rfl) (by decide) (by omega) (by omega) (c_fault h) (fun v N hp => ?_) (fun E N hp => ?_)
  · obtain ⟨e0, rfl, hI, hF⟩ := cpo_ret hp
    have gN := g.fo hI.1 hF.fo
    refine e_aload_n dL_law_281 rfl rfl ?_
    refine e_callV1 [] dL_law_282 mvmX6_fault lkRL_88 (by exact hI.1.sh rfl) ⟨by decide, rfl⟩ rfl rfl (Nat.le_of_ble_eq_true rfl) (by decide) (c_mfault gN) (fun u K hq => ?_)
    obtain ⟨⟨v, rfl, hv⟩, -, gK, fK⟩ := hq
    obtain rfl := hv e0
    refine e_icmp_eq (tgt := 1316) dL_law_285 (by decide) (fun _ => ih _ _ _ _ (hI.fm fK) gK) (fun q => absurd rfl q)
  · obtain ⟨c, -, hE, -, -⟩ := cpo_thr hp
    exact absurd hE (by simp)
set_option maxHeartbeats 4000000 in
theorem law_3 {B : Bd} {M : Mm} {s : Sx} {rc rs : Nat} {j : Int32} {o5 o6 : Option Value} (h : CI M s) (g : MI M s) (v1 : vp_in (j + 1) (bL B)) (v2 : vp_in (j + 2) (bL B)) (v3 : vp_in (j + 3) (bL B)) (v4 : vp_in (j + 4) (bL B)) (v5 : vp_in (j + 5) (bL B)) (ih : ∀ (M1 : Mm) (s1 : Sx) (p5 p6 : Option Value), CI M1 s1 → MI M1 s1 → Ev B mL_law 36 rc rs LQ 1316 [some (.ref 1000000), some (.ref 0), some (.ref 60), some (.ref 83), some (.int j), p5, p6] [] M1) : Ev B mL_law 36 (4 + rc) (24 + rs) LQ 290 [some (.ref 1000000), some (.ref 0), some (.ref 60), some (.ref 83), some (.int j), o5, o6] [] M := by
  refine e_aload_n dL_law_290 rfl rfl ?_
  refine e_aload_n dL_law_291 rfl rfl ?_
  refine e_iload dL_law_292 rfl ?_
  refine e_iconst (v := 1) dL_law_294 (by decide) ?_
  refine e_iadd dL_law_295 ?_
  refine e_sld dL_law_296 v1 ?_
  refine e_aload_n dL_law_297 rfl rfl ?_
  refine e_iload dL_law_298 rfl ?_
  refine e_iconst (v := 2) dL_law_300 (by decide) ?_
  refine e_iadd dL_law_301 ?_
  refine e_sld dL_law_302 v2 ?_
  refine e_aload_n dL_law_303 rfl rfl ?_
  refine e_iload dL_law_304 rfl ?_
  refine e_iconst (v := 3) dL_law_306 (by decide) ?_
  refine e_iadd dL_law_307 ?_
  refine e_sld dL_law_308 v3 ?_
  refine e_aload_n dL_law_309 rfl rfl ?_
  refine e_callSX (rc1 := 3) (rs1 := 18) (rc2 := rc) (rs2 := rs) [_, _, _, _, _] dL_law_310 mdL_join lkRL_89 rfl rfl (Nat.le_of_ble_eq_true rfl) (by decide) (by omega) (by omega) (cw_join h) (fun v N hp => ?_)
  obtain ⟨⟨rfl, e3⟩, hI, hF, hout⟩ := hp
  have gN := g.fo hI.1 hF
  refine e_istore dL_law_313 (by decide) rfl rfl ?_
  refine e_aload_n dL_law_315 rfl rfl ?_
  refine e_aload_n dL_law_316 rfl rfl ?_
  refine e_iload dL_law_317 rfl ?_
  refine e_iconst (v := 1) dL_law_319 (by decide) ?_
  refine e_iadd dL_law_320 ?_
  refine e_sld dL_law_321 v1 ?_
  refine e_aload_n dL_law_322 rfl rfl ?_
  refine e_iload dL_law_323 rfl ?_
  refine e_iconst (v := 2) dL_law_325 (by decide) ?_
  refine e_iadd dL_law_326 ?_
  refine e_sld dL_law_327 v2 ?_
  refine e_aload_n dL_law_328 rfl rfl ?_
  refine e_iload dL_law_329 rfl ?_
  refine e_iconst (v := 3) dL_law_331 (by decide) ?_
  refine e_iadd dL_law_332 ?_
  refine e_sld dL_law_333 v3 ?_
  refine e_callV1 [_, _, _] dL_law_334 mvmX6_join lkRL_92 (by exact hI.1.sh rfl) ⟨by decide, rfl⟩ rfl rfl (Nat.le_of_ble_eq_true rfl) (by decide) (c_mjoin gN) (fun u K hq => ?_)
  obtain ⟨⟨v, rfl, hv⟩, ht, gK, fK⟩ := hq
  refine e_istore dL_law_337 (by decide) rfl rfl ?_
  refine e_aload_n dL_law_339 rfl rfl ?_
  refine e_callV0i [] dL_law_340 mvmX6_thrown lkRL_81 (by exact gK.1.sh rfl) ⟨by decide, rfl⟩ rfl rfl (Nat.le_of_ble_eq_true rfl) (by decide) (c_thrown gK.1) ?_
  refine e_iload dL_law_343 rfl ?_
  refine e_icmp_eq (tgt := 350) dL_law_345 (by decide) (fun _ => ?_) (fun q => absurd ht q)
  refine e_iload dL_law_350 rfl ?_
  refine e_if_ne (tgt := 367) dL_law_352 (by decide) (fun _ => ?_) (fun q => ?_)
  · refine e_goto (tgt := 1316) dL_law_367 (by decide) ?_
    exact ih _ _ _ _ (hI.fm fK) gK
  · have e0 := nI_z e3 q
    obtain rfl := hv e0
    refine e_aload_n dL_law_355 rfl rfl ?_
    refine e_iconst (v := 0) dL_law_356 (by decide) ?_
    refine e_laload dL_law_357 (by exact gK.1.sh rfl) (by unfold vp_in; decide) ?_
    rw [show Int32.toNatClampNeg 0 = 0 by decide, fK.2.2.2 83 (by decide), hout e0]
    refine e_iload dL_law_358 rfl ?_
    refine e_i2l dL_law_360 ?_
    refine e_lcmp dL_law_361 ?_
    refine e_if_eq (tgt := 367) dL_law_362 (by decide) (fun _ => ?_) (fun q => absurd (lcmp_rf _) q)
    refine e_goto (tgt := 1316) dL_law_367 (by decide) ?_
    exact ih _ _ _ _ (hI.fm fK) gK
set_option maxHeartbeats 4000000 in
theorem law_4 {B : Bd} {M : Mm} {s : Sx} {rc rs : Nat} {j : Int32} {o5 o6 : Option Value} (h : CI M s) (g : MI M s) (v1 : vp_in (j + 1) (bL B)) (v2 : vp_in (j + 2) (bL B)) (v3 : vp_in (j + 3) (bL B)) (v4 : vp_in (j + 4) (bL B)) (v5 : vp_in (j + 5) (bL B)) (ih : ∀ (M1 : Mm) (s1 : Sx) (p5 p6 : Option Value), CI M1 s1 → MI M1 s1 → Ev B mL_law 36 rc rs LQ 1316 [some (.ref 1000000), some (.ref 0), some (.ref 60), some (.ref 83), some (.int j), p5, p6] [] M1) : Ev B mL_law 36 (4 + rc) (24 + rs) LQ 370 [some (.ref 1000000), some (.ref 0), some (.ref 60), some (.ref 83), some (.int j), o5, o6] [] M := by
  refine e_aload_n dL_law_370 rfl rfl ?_
  refine e_aload_n dL_law_371 rfl rfl ?_
  refine e_iload dL_law_372 rfl ?_
  refine e_iconst (v := 1) dL_law_374 (by decide) ?_
  refine e_iadd dL_law_375 ?_
  refine e_sld dL_law_376 v1 ?_
  refine e_aload_n dL_law_377 rfl rfl ?_
  refine e_iload dL_law_378 rfl ?_
  refine e_iconst (v := 2) dL_law_380 (by decide) ?_
  refine e_iadd dL_law_381 ?_
  refine e_sld dL_law_382 v2 ?_
  refine e_aload_n dL_law_383 rfl rfl ?_
  refine e_callSX (rc1 := 4) (rs1 := 24) (rc2 := rc) (rs2 := rs) [_, _, _, _] dL_law_384 mdL_cut lkRL_93 rfl rfl (Nat.le_of_ble_eq_true rfl) (by decide) (by omega) (by omega) (cw_cut h) (fun v N hp => ?_)
  obtain ⟨⟨rfl, e3⟩, hI, hF, hout⟩ := hp
  have gN := g.fo hI.1 hF
  refine e_istore dL_law_387 (by decide) rfl rfl ?_
  refine e_aload_n dL_law_389 rfl rfl ?_
  refine e_aload_n dL_law_390 rfl rfl ?_
  refine e_iload dL_law_391 rfl ?_
  refine e_iconst (v := 1) dL_law_393 (by decide) ?_
  refine e_iadd dL_law_394 ?_
  refine e_sld dL_law_395 v1 ?_
  refine e_aload_n dL_law_396 rfl rfl ?_
  refine e_iload dL_law_397 rfl ?_
  refine e_iconst (v := 2) dL_law_399 (by decide) ?_
  refine e_iadd dL_law_400 ?_
  refine e_sld dL_law_401 v2 ?_
  refine e_callV1 [_, _] dL_law_402 mvmX6_cut lkRL_96 (by exact hI.1.sh rfl) ⟨by decide, rfl⟩ rfl rfl (Nat.le_of_ble_eq_true rfl) (by decide) (c_mcut gN) (fun u K hq => ?_)
  obtain ⟨⟨v, rfl, hv⟩, ht, gK, fK⟩ := hq
  refine e_istore dL_law_405 (by decide) rfl rfl ?_
  refine e_aload_n dL_law_407 rfl rfl ?_
  refine e_callV0i [] dL_law_408 mvmX6_thrown lkRL_81 (by exact gK.1.sh rfl) ⟨by decide, rfl⟩ rfl rfl (Nat.le_of_ble_eq_true rfl) (by decide) (c_thrown gK.1) ?_
  refine e_iload dL_law_411 rfl ?_
  refine e_icmp_eq (tgt := 418) dL_law_413 (by decide) (fun _ => ?_) (fun q => absurd ht q)
  refine e_iload dL_law_418 rfl ?_
  refine e_if_ne (tgt := 435) dL_law_420 (by decide) (fun _ => ?_) (fun q => ?_)
  · refine e_goto (tgt := 1316) dL_law_435 (by decide) ?_
    exact ih _ _ _ _ (hI.fm fK) gK
  · have e0 := nI_z e3 q
    obtain rfl := hv e0
    refine e_aload_n dL_law_423 rfl rfl ?_
    refine e_iconst (v := 0) dL_law_424 (by decide) ?_
    refine e_laload dL_law_425 (by exact gK.1.sh rfl) (by unfold vp_in; decide) ?_
    rw [show Int32.toNatClampNeg 0 = 0 by decide, fK.2.2.2 83 (by decide), hout e0]
    refine e_iload dL_law_426 rfl ?_
    refine e_i2l dL_law_428 ?_
    refine e_lcmp dL_law_429 ?_
    refine e_if_eq (tgt := 435) dL_law_430 (by decide) (fun _ => ?_) (fun q => absurd (lcmp_rf _) q)
    refine e_goto (tgt := 1316) dL_law_435 (by decide) ?_
    exact ih _ _ _ _ (hI.fm fK) gK
set_option maxHeartbeats 4000000 in
theorem law_5 {B : Bd} {M : Mm} {s : Sx} {rc rs : Nat} {j : Int32} {o5 o6 : Option Value} (h : CI M s) (g : MI M s) (v1 : vp_in (j + 1) (bL B)) (v2 : vp_in (j + 2) (bL B)) (v3 : vp_in (j + 3) (bL B)) (v4 : vp_in (j + 4) (bL B)) (v5 : vp_in (j + 5) (bL B)) (ih : ∀ (M1 : Mm) (s1 : Sx) (p5 p6 : Option Value), CI M1 s1 → MI M1 s1 → Ev B mL_law 36 rc rs LQ 1316 [some (.ref 1000000), some (.ref 0), some (.ref 60), some (.ref 83), some (.int j), p5, p6] [] M1) : Ev B mL_law 36 (4 + rc) (24 + rs) LQ 438 [some (.ref 1000000), some (.ref 0), some (.ref 60), some (.ref 83), some (.int j), o5, o6] [] M := by
  refine e_aload_n dL_law_438 rfl rfl ?_
  refine e_aload_n dL_law_439 rfl rfl ?_
  refine e_iload dL_law_440 rfl ?_
  refine e_iconst (v := 1) dL_law_442 (by decide) ?_
  refine e_iadd dL_law_443 ?_
  refine e_sld dL_law_444 v1 ?_
  refine e_aload_n dL_law_445 rfl rfl ?_
  refine e_iload dL_law_446 rfl ?_
  refine e_iconst (v := 2) dL_law_448 (by decide) ?_
  refine e_iadd dL_law_449 ?_
  refine e_sld dL_law_450 v2 ?_
  refine e_aload_n dL_law_451 rfl rfl ?_
  refine e_callSX (rc1 := 4) (rs1 := 24) (rc2 := rc) (rs2 := rs) [_, _, _, _] dL_law_452 mdL_pair lkRL_97 rfl rfl (Nat.le_of_ble_eq_true rfl) (by decide) (by omega) (by omega) (cw_pair h) (fun v N hp => ?_)
  obtain ⟨⟨rfl, e3⟩, hI, hF, hout⟩ := hp
  have gN := g.fo hI.1 hF
  refine e_istore dL_law_455 (by decide) rfl rfl ?_
  refine e_aload_n dL_law_457 rfl rfl ?_
  refine e_aload_n dL_law_458 rfl rfl ?_
  refine e_iload dL_law_459 rfl ?_
  refine e_iconst (v := 1) dL_law_461 (by decide) ?_
  refine e_iadd dL_law_462 ?_
  refine e_sld dL_law_463 v1 ?_
  refine e_aload_n dL_law_464 rfl rfl ?_
  refine e_iload dL_law_465 rfl ?_
  refine e_iconst (v := 2) dL_law_467 (by decide) ?_
  refine e_iadd dL_law_468 ?_
  refine e_sld dL_law_469 v2 ?_
  refine e_callV1 [_, _] dL_law_470 mvmX6_pair lkRL_99 (by exact hI.1.sh rfl) ⟨by decide, rfl⟩ rfl rfl (Nat.le_of_ble_eq_true rfl) (by decide) (c_mpair gN) (fun u K hq => ?_)
  obtain ⟨⟨v, rfl, hv⟩, ht, gK, fK⟩ := hq
  refine e_istore dL_law_473 (by decide) rfl rfl ?_
  refine e_aload_n dL_law_475 rfl rfl ?_
  refine e_callV0i [] dL_law_476 mvmX6_thrown lkRL_81 (by exact gK.1.sh rfl) ⟨by decide, rfl⟩ rfl rfl (Nat.le_of_ble_eq_true rfl) (by decide) (c_thrown gK.1) ?_
  refine e_iload dL_law_479 rfl ?_
  refine e_icmp_eq (tgt := 486) dL_law_481 (by decide) (fun _ => ?_) (fun q => absurd ht q)
  refine e_iload dL_law_486 rfl ?_
  refine e_if_ne (tgt := 503) dL_law_488 (by decide) (fun _ => ?_) (fun q => ?_)
  · refine e_goto (tgt := 1316) dL_law_503 (by decide) ?_
    exact ih _ _ _ _ (hI.fm fK) gK
  · have e0 := nI_z e3 q
    obtain rfl := hv e0
    refine e_aload_n dL_law_491 rfl rfl ?_
    refine e_iconst (v := 0) dL_law_492 (by decide) ?_
    refine e_laload dL_law_493 (by exact gK.1.sh rfl) (by unfold vp_in; decide) ?_
    rw [show Int32.toNatClampNeg 0 = 0 by decide, fK.2.2.2 83 (by decide), hout e0]
    refine e_iload dL_law_494 rfl ?_
    refine e_i2l dL_law_496 ?_
    refine e_lcmp dL_law_497 ?_
    refine e_if_eq (tgt := 503) dL_law_498 (by decide) (fun _ => ?_) (fun q => absurd (lcmp_rf _) q)
    refine e_goto (tgt := 1316) dL_law_503 (by decide) ?_
    exact ih _ _ _ _ (hI.fm fK) gK
set_option maxHeartbeats 4000000 in
theorem law_6 {B : Bd} {M : Mm} {s : Sx} {rc rs : Nat} {j : Int32} {o5 o6 : Option Value} (h : CI M s) (g : MI M s) (v1 : vp_in (j + 1) (bL B)) (v2 : vp_in (j + 2) (bL B)) (v3 : vp_in (j + 3) (bL B)) (v4 : vp_in (j + 4) (bL B)) (v5 : vp_in (j + 5) (bL B)) (ih : ∀ (M1 : Mm) (s1 : Sx) (p5 p6 : Option Value), CI M1 s1 → MI M1 s1 → Ev B mL_law 36 rc rs LQ 1316 [some (.ref 1000000), some (.ref 0), some (.ref 60), some (.ref 83), some (.int j), p5, p6] [] M1) : Ev B mL_law 36 (4 + rc) (24 + rs) LQ 506 [some (.ref 1000000), some (.ref 0), some (.ref 60), some (.ref 83), some (.int j), o5, o6] [] M := by
  refine e_aload_n dL_law_506 rfl rfl ?_
  refine e_aload_n dL_law_507 rfl rfl ?_
  refine e_iload dL_law_508 rfl ?_
  refine e_iconst (v := 1) dL_law_510 (by decide) ?_
  refine e_iadd dL_law_511 ?_
  refine e_sld dL_law_512 v1 ?_
  refine e_aload_n dL_law_513 rfl rfl ?_
  refine e_callSX (rc1 := 2) (rs1 := 12) (rc2 := rc) (rs2 := rs) [_, _, _] dL_law_514 mdL_part lkRL_100 rfl rfl (Nat.le_of_ble_eq_true rfl) (by decide) (by omega) (by omega) (cw_part h) (fun v N hp => ?_)
  obtain ⟨⟨rfl, e3⟩, hI, hF, hout⟩ := hp
  have gN := g.fo hI.1 hF
  refine e_istore dL_law_517 (by decide) rfl rfl ?_
  refine e_aload_n dL_law_519 rfl rfl ?_
  refine e_aload_n dL_law_520 rfl rfl ?_
  refine e_iload dL_law_521 rfl ?_
  refine e_iconst (v := 1) dL_law_523 (by decide) ?_
  refine e_iadd dL_law_524 ?_
  refine e_sld dL_law_525 v1 ?_
  refine e_callV1 [_] dL_law_526 mvmX6_part lkRL_102 (by exact hI.1.sh rfl) ⟨by decide, rfl⟩ rfl rfl (Nat.le_of_ble_eq_true rfl) (by decide) (c_mpart gN) (fun u K hq => ?_)
  obtain ⟨⟨v, rfl, hv⟩, ht, gK, fK⟩ := hq
  refine e_istore dL_law_529 (by decide) rfl rfl ?_
  refine e_aload_n dL_law_531 rfl rfl ?_
  refine e_callV0i [] dL_law_532 mvmX6_thrown lkRL_81 (by exact gK.1.sh rfl) ⟨by decide, rfl⟩ rfl rfl (Nat.le_of_ble_eq_true rfl) (by decide) (c_thrown gK.1) ?_
  refine e_iload dL_law_535 rfl ?_
  refine e_icmp_eq (tgt := 542) dL_law_537 (by decide) (fun _ => ?_) (fun q => absurd ht q)
  refine e_iload dL_law_542 rfl ?_
  refine e_if_ne (tgt := 559) dL_law_544 (by decide) (fun _ => ?_) (fun q => ?_)
  · refine e_goto (tgt := 1316) dL_law_559 (by decide) ?_
    exact ih _ _ _ _ (hI.fm fK) gK
  · have e0 := nI_z e3 q
    obtain rfl := hv e0
    refine e_aload_n dL_law_547 rfl rfl ?_
    refine e_iconst (v := 0) dL_law_548 (by decide) ?_
    refine e_laload dL_law_549 (by exact gK.1.sh rfl) (by unfold vp_in; decide) ?_
    rw [show Int32.toNatClampNeg 0 = 0 by decide, fK.2.2.2 83 (by decide), hout e0]
    refine e_iload dL_law_550 rfl ?_
    refine e_i2l dL_law_552 ?_
    refine e_lcmp dL_law_553 ?_
    refine e_if_eq (tgt := 559) dL_law_554 (by decide) (fun _ => ?_) (fun q => absurd (lcmp_rf _) q)
    refine e_goto (tgt := 1316) dL_law_559 (by decide) ?_
    exact ih _ _ _ _ (hI.fm fK) gK
set_option maxHeartbeats 4000000 in
theorem law_7 {B : Bd} {M : Mm} {s : Sx} {rc rs : Nat} {j : Int32} {o5 o6 : Option Value} (h : CI M s) (g : MI M s) (v1 : vp_in (j + 1) (bL B)) (v2 : vp_in (j + 2) (bL B)) (v3 : vp_in (j + 3) (bL B)) (v4 : vp_in (j + 4) (bL B)) (v5 : vp_in (j + 5) (bL B)) (ih : ∀ (M1 : Mm) (s1 : Sx) (p5 p6 : Option Value), CI M1 s1 → MI M1 s1 → Ev B mL_law 36 rc rs LQ 1316 [some (.ref 1000000), some (.ref 0), some (.ref 60), some (.ref 83), some (.int j), p5, p6] [] M1) : Ev B mL_law 36 (4 + rc) (24 + rs) LQ 562 [some (.ref 1000000), some (.ref 0), some (.ref 60), some (.ref 83), some (.int j), o5, o6] [] M := by
  refine e_aload_n dL_law_562 rfl rfl ?_
  refine e_aload_n dL_law_563 rfl rfl ?_
  refine e_iload dL_law_564 rfl ?_
  refine e_iconst (v := 1) dL_law_566 (by decide) ?_
  refine e_iadd dL_law_567 ?_
  refine e_sld dL_law_568 v1 ?_
  refine e_aload_n dL_law_569 rfl rfl ?_
  refine e_callSX (rc1 := 2) (rs1 := 12) (rc2 := rc) (rs2 := rs) [_, _, _] dL_law_570 mdL_better lkRL_103 rfl rfl (Nat.le_of_ble_eq_true rfl) (by decide) (by omega) (by omega) (cw_better h) (fun v N hp => ?_)
  obtain ⟨⟨rfl, e3⟩, hI, hF, hout⟩ := hp
  have gN := g.fo hI.1 hF
  refine e_istore dL_law_573 (by decide) rfl rfl ?_
  refine e_aload_n dL_law_575 rfl rfl ?_
  refine e_aload_n dL_law_576 rfl rfl ?_
  refine e_iload dL_law_577 rfl ?_
  refine e_iconst (v := 1) dL_law_579 (by decide) ?_
  refine e_iadd dL_law_580 ?_
  refine e_sld dL_law_581 v1 ?_
  refine e_callV1 [_] dL_law_582 mvmX6_better lkRL_105 (by exact hI.1.sh rfl) ⟨by decide, rfl⟩ rfl rfl (Nat.le_of_ble_eq_true rfl) (by decide) (c_mbetter gN) (fun u K hq => ?_)
  obtain ⟨⟨v, rfl, hv⟩, ht, gK, fK⟩ := hq
  refine e_istore dL_law_585 (by decide) rfl rfl ?_
  refine e_aload_n dL_law_587 rfl rfl ?_
  refine e_callV0i [] dL_law_588 mvmX6_thrown lkRL_81 (by exact gK.1.sh rfl) ⟨by decide, rfl⟩ rfl rfl (Nat.le_of_ble_eq_true rfl) (by decide) (c_thrown gK.1) ?_
  refine e_iload dL_law_591 rfl ?_
  refine e_icmp_eq (tgt := 598) dL_law_593 (by decide) (fun _ => ?_) (fun q => absurd ht q)
  refine e_iload dL_law_598 rfl ?_
  refine e_if_ne (tgt := 615) dL_law_600 (by decide) (fun _ => ?_) (fun q => ?_)
  · refine e_goto (tgt := 1316) dL_law_615 (by decide) ?_
    exact ih _ _ _ _ (hI.fm fK) gK
  · have e0 := nI_z e3 q
    obtain rfl := hv e0
    refine e_aload_n dL_law_603 rfl rfl ?_
    refine e_iconst (v := 0) dL_law_604 (by decide) ?_
    refine e_laload dL_law_605 (by exact gK.1.sh rfl) (by unfold vp_in; decide) ?_
    rw [show Int32.toNatClampNeg 0 = 0 by decide, fK.2.2.2 83 (by decide), hout e0]
    refine e_iload dL_law_606 rfl ?_
    refine e_i2l dL_law_608 ?_
    refine e_lcmp dL_law_609 ?_
    refine e_if_eq (tgt := 615) dL_law_610 (by decide) (fun _ => ?_) (fun q => absurd (lcmp_rf _) q)
    refine e_goto (tgt := 1316) dL_law_615 (by decide) ?_
    exact ih _ _ _ _ (hI.fm fK) gK
set_option maxHeartbeats 4000000 in
theorem law_8 {B : Bd} {M : Mm} {s : Sx} {rc rs : Nat} {j : Int32} {o5 o6 : Option Value} (h : CI M s) (g : MI M s) (v1 : vp_in (j + 1) (bL B)) (v2 : vp_in (j + 2) (bL B)) (v3 : vp_in (j + 3) (bL B)) (v4 : vp_in (j + 4) (bL B)) (v5 : vp_in (j + 5) (bL B)) (ih : ∀ (M1 : Mm) (s1 : Sx) (p5 p6 : Option Value), CI M1 s1 → MI M1 s1 → Ev B mL_law 36 rc rs LQ 1316 [some (.ref 1000000), some (.ref 0), some (.ref 60), some (.ref 83), some (.int j), p5, p6] [] M1) : Ev B mL_law 36 (4 + rc) (24 + rs) LQ 618 [some (.ref 1000000), some (.ref 0), some (.ref 60), some (.ref 83), some (.int j), o5, o6] [] M := by
  refine e_aload_n dL_law_618 rfl rfl ?_
  refine e_callV (rc1 := 0) (rs1 := 0) (rc2 := rc) (rs2 := rs) [] dL_law_619 mvmX5_finish lkRL_106 (by exact h.1.sh rfl) ⟨by decide, rfl⟩ rfl rfl (Nat.le_of_ble_eq_true rfl) (by decide) (by omega) (by omega) (c_finish h) (fun v N hp => ?_) (fun E N hp => ?_)
  · obtain ⟨e0, rfl, hI, hF⟩ := cpo_ret hp
    have gN := g.fo hI.1 hF.fo
    refine e_aload_n dL_law_622 rfl rfl ?_
    refine e_callV1 [] dL_law_623 mvmX6_finish lkRL_109 (by exact hI.1.sh rfl) ⟨by decide, rfl⟩ rfl rfl (Nat.le_of_ble_eq_true rfl) (by decide) (c_mfinish gN) (fun u K hq => ?_)
    obtain ⟨⟨v, rfl, hv⟩, -, gK, fK⟩ := hq
    obtain rfl := hv e0
    refine e_icmp_eq (tgt := 1316) dL_law_626 (by decide) (fun _ => ih _ _ _ _ (hI.fm fK) gK) (fun q => absurd rfl q)
  · obtain ⟨c, -, hE, -, -⟩ := cpo_thr hp
    exact absurd hE (by simp)
set_option maxHeartbeats 4000000 in
theorem law_9 {B : Bd} {M : Mm} {s : Sx} {rc rs : Nat} {j : Int32} {o5 o6 : Option Value} (h : CI M s) (g : MI M s) (v1 : vp_in (j + 1) (bL B)) (v2 : vp_in (j + 2) (bL B)) (v3 : vp_in (j + 3) (bL B)) (v4 : vp_in (j + 4) (bL B)) (v5 : vp_in (j + 5) (bL B)) (ih : ∀ (M1 : Mm) (s1 : Sx) (p5 p6 : Option Value), CI M1 s1 → MI M1 s1 → Ev B mL_law 36 rc rs LQ 1316 [some (.ref 1000000), some (.ref 0), some (.ref 60), some (.ref 83), some (.int j), p5, p6] [] M1) : Ev B mL_law 36 (4 + rc) (24 + rs) LQ 631 [some (.ref 1000000), some (.ref 0), some (.ref 60), some (.ref 83), some (.int j), o5, o6] [] M := by
  refine e_aload_n dL_law_631 rfl rfl ?_
  refine e_aload_n dL_law_632 rfl rfl ?_
  refine e_iload dL_law_633 rfl ?_
  refine e_iconst (v := 1) dL_law_635 (by decide) ?_
  refine e_iadd dL_law_636 ?_
  refine e_sld dL_law_637 v1 ?_
  refine e_aload_n dL_law_638 rfl rfl ?_
  refine e_callSX (rc1 := 2) (rs1 := 12) (rc2 := rc) (rs2 := rs) [_, _, _] dL_law_639 mdL_shrink lkRL_110 rfl rfl (Nat.le_of_ble_eq_true rfl) (by decide) (by omega) (by omega) (cw_shrink h) (fun v N hp => ?_)
  obtain ⟨⟨rfl, e3⟩, hI, hF, hout⟩ := hp
  have gN := g.fo hI.1 hF
  refine e_istore dL_law_642 (by decide) rfl rfl ?_
  refine e_aload_n dL_law_644 rfl rfl ?_
  refine e_aload_n dL_law_645 rfl rfl ?_
  refine e_iload dL_law_646 rfl ?_
  refine e_iconst (v := 1) dL_law_648 (by decide) ?_
  refine e_iadd dL_law_649 ?_
  refine e_sld dL_law_650 v1 ?_
  refine e_callV1 [_] dL_law_651 mvmX6_shrink lkRL_112 (by exact hI.1.sh rfl) ⟨by decide, rfl⟩ rfl rfl (Nat.le_of_ble_eq_true rfl) (by decide) (c_mshrink gN) (fun u K hq => ?_)
  obtain ⟨⟨v, rfl, hv⟩, ht, gK, fK⟩ := hq
  refine e_istore dL_law_654 (by decide) rfl rfl ?_
  refine e_aload_n dL_law_656 rfl rfl ?_
  refine e_callV0i [] dL_law_657 mvmX6_thrown lkRL_81 (by exact gK.1.sh rfl) ⟨by decide, rfl⟩ rfl rfl (Nat.le_of_ble_eq_true rfl) (by decide) (c_thrown gK.1) ?_
  refine e_iload dL_law_660 rfl ?_
  refine e_icmp_eq (tgt := 667) dL_law_662 (by decide) (fun _ => ?_) (fun q => absurd ht q)
  refine e_iload dL_law_667 rfl ?_
  refine e_if_ne (tgt := 684) dL_law_669 (by decide) (fun _ => ?_) (fun q => ?_)
  · refine e_goto (tgt := 1316) dL_law_684 (by decide) ?_
    exact ih _ _ _ _ (hI.fm fK) gK
  · have e0 := nI_z e3 q
    obtain rfl := hv e0
    refine e_aload_n dL_law_672 rfl rfl ?_
    refine e_iconst (v := 0) dL_law_673 (by decide) ?_
    refine e_laload dL_law_674 (by exact gK.1.sh rfl) (by unfold vp_in; decide) ?_
    rw [show Int32.toNatClampNeg 0 = 0 by decide, fK.2.2.2 83 (by decide), hout e0]
    refine e_iload dL_law_675 rfl ?_
    refine e_i2l dL_law_677 ?_
    refine e_lcmp dL_law_678 ?_
    refine e_if_eq (tgt := 684) dL_law_679 (by decide) (fun _ => ?_) (fun q => absurd (lcmp_rf _) q)
    refine e_goto (tgt := 1316) dL_law_684 (by decide) ?_
    exact ih _ _ _ _ (hI.fm fK) gK
set_option maxHeartbeats 4000000 in
theorem law_10 {B : Bd} {M : Mm} {s : Sx} {rc rs : Nat} {j : Int32} {o5 o6 : Option Value} (h : CI M s) (g : MI M s) (v1 : vp_in (j + 1) (bL B)) (v2 : vp_in (j + 2) (bL B)) (v3 : vp_in (j + 3) (bL B)) (v4 : vp_in (j + 4) (bL B)) (v5 : vp_in (j + 5) (bL B)) (ih : ∀ (M1 : Mm) (s1 : Sx) (p5 p6 : Option Value), CI M1 s1 → MI M1 s1 → Ev B mL_law 36 rc rs LQ 1316 [some (.ref 1000000), some (.ref 0), some (.ref 60), some (.ref 83), some (.int j), p5, p6] [] M1) : Ev B mL_law 36 (4 + rc) (24 + rs) LQ 687 [some (.ref 1000000), some (.ref 0), some (.ref 60), some (.ref 83), some (.int j), o5, o6] [] M := by
  refine e_aload_n dL_law_687 rfl rfl ?_
  refine e_callV (rc1 := 0) (rs1 := 0) (rc2 := rc) (rs2 := rs) [] dL_law_688 mvmX5_undo lkRL_113 (by exact h.1.sh rfl) ⟨by decide, rfl⟩ rfl rfl (Nat.le_of_ble_eq_true rfl) (by decide) (by omega) (by omega) (c_undo h) (fun v N hp => ?_) (fun E N hp => ?_)
  · obtain ⟨e0, rfl, hI, hF⟩ := cpo_ret hp
    have gN := g.fo hI.1 hF.fo
    refine e_aload_n dL_law_691 rfl rfl ?_
    refine e_callV1 [] dL_law_692 mvmX6_undo lkRL_116 (by exact hI.1.sh rfl) ⟨by decide, rfl⟩ rfl rfl (Nat.le_of_ble_eq_true rfl) (by decide) (c_mundo gN) (fun u K hq => ?_)
    obtain ⟨⟨v, rfl, hv⟩, -, gK, fK⟩ := hq
    obtain rfl := hv e0
    refine e_icmp_eq (tgt := 1316) dL_law_695 (by decide) (fun _ => ih _ _ _ _ (hI.fm fK) gK) (fun q => absurd rfl q)
  · obtain ⟨c, -, hE, -, -⟩ := cpo_thr hp
    exact absurd hE (by simp)
set_option maxHeartbeats 4000000 in
theorem law_11 {B : Bd} {M : Mm} {s : Sx} {rc rs : Nat} {j : Int32} {o5 o6 : Option Value} (h : CI M s) (g : MI M s) (v1 : vp_in (j + 1) (bL B)) (v2 : vp_in (j + 2) (bL B)) (v3 : vp_in (j + 3) (bL B)) (v4 : vp_in (j + 4) (bL B)) (v5 : vp_in (j + 5) (bL B)) (ih : ∀ (M1 : Mm) (s1 : Sx) (p5 p6 : Option Value), CI M1 s1 → MI M1 s1 → Ev B mL_law 36 rc rs LQ 1316 [some (.ref 1000000), some (.ref 0), some (.ref 60), some (.ref 83), some (.int j), p5, p6] [] M1) : Ev B mL_law 36 (4 + rc) (24 + rs) LQ 700 [some (.ref 1000000), some (.ref 0), some (.ref 60), some (.ref 83), some (.int j), o5, o6] [] M := by
  refine e_aload_n dL_law_700 rfl rfl ?_
  refine e_aload_n dL_law_701 rfl rfl ?_
  refine e_iload dL_law_702 rfl ?_
  refine e_iconst (v := 1) dL_law_704 (by decide) ?_
  refine e_iadd dL_law_705 ?_
  refine e_sld dL_law_706 v1 ?_
  refine e_aload_n dL_law_707 rfl rfl ?_
  refine e_callSX (rc1 := 1) (rs1 := 6) (rc2 := rc) (rs2 := rs) [_, _, _] dL_law_708 mdL_told lkRL_117 rfl rfl (Nat.le_of_ble_eq_true rfl) (by decide) (by omega) (by omega) (cw_told h) (fun v N hp => ?_)
  obtain ⟨⟨rfl, e3⟩, hI, hF, hout⟩ := hp
  have gN := g.fo hI.1 hF
  refine e_istore dL_law_711 (by decide) rfl rfl ?_
  refine e_aload_n dL_law_713 rfl rfl ?_
  refine e_aload_n dL_law_714 rfl rfl ?_
  refine e_iload dL_law_715 rfl ?_
  refine e_iconst (v := 1) dL_law_717 (by decide) ?_
  refine e_iadd dL_law_718 ?_
  refine e_sld dL_law_719 v1 ?_
  refine e_callV1 [_] dL_law_720 mvmX6_told lkRL_119 (by exact hI.1.sh rfl) ⟨by decide, rfl⟩ rfl rfl (Nat.le_of_ble_eq_true rfl) (by decide) (c_mtold gN) (fun u K hq => ?_)
  obtain ⟨⟨v, rfl, hv⟩, ht, gK, fK⟩ := hq
  refine e_istore dL_law_723 (by decide) rfl rfl ?_
  refine e_aload_n dL_law_725 rfl rfl ?_
  refine e_callV0i [] dL_law_726 mvmX6_thrown lkRL_81 (by exact gK.1.sh rfl) ⟨by decide, rfl⟩ rfl rfl (Nat.le_of_ble_eq_true rfl) (by decide) (c_thrown gK.1) ?_
  refine e_iload dL_law_729 rfl ?_
  refine e_icmp_eq (tgt := 736) dL_law_731 (by decide) (fun _ => ?_) (fun q => absurd ht q)
  refine e_iload dL_law_736 rfl ?_
  refine e_if_ne (tgt := 753) dL_law_738 (by decide) (fun _ => ?_) (fun q => ?_)
  · refine e_goto (tgt := 1316) dL_law_753 (by decide) ?_
    exact ih _ _ _ _ (hI.fm fK) gK
  · have e0 := nI_z e3 q
    obtain rfl := hv e0
    refine e_aload_n dL_law_741 rfl rfl ?_
    refine e_iconst (v := 0) dL_law_742 (by decide) ?_
    refine e_laload dL_law_743 (by exact gK.1.sh rfl) (by unfold vp_in; decide) ?_
    rw [show Int32.toNatClampNeg 0 = 0 by decide, fK.2.2.2 83 (by decide), hout e0]
    refine e_iload dL_law_744 rfl ?_
    refine e_i2l dL_law_746 ?_
    refine e_lcmp dL_law_747 ?_
    refine e_if_eq (tgt := 753) dL_law_748 (by decide) (fun _ => ?_) (fun q => absurd (lcmp_rf _) q)
    refine e_goto (tgt := 1316) dL_law_753 (by decide) ?_
    exact ih _ _ _ _ (hI.fm fK) gK
set_option maxHeartbeats 4000000 in
theorem law_12 {B : Bd} {M : Mm} {s : Sx} {rc rs : Nat} {j : Int32} {o5 o6 : Option Value} (h : CI M s) (g : MI M s) (v1 : vp_in (j + 1) (bL B)) (v2 : vp_in (j + 2) (bL B)) (v3 : vp_in (j + 3) (bL B)) (v4 : vp_in (j + 4) (bL B)) (v5 : vp_in (j + 5) (bL B)) (ih : ∀ (M1 : Mm) (s1 : Sx) (p5 p6 : Option Value), CI M1 s1 → MI M1 s1 → Ev B mL_law 36 rc rs LQ 1316 [some (.ref 1000000), some (.ref 0), some (.ref 60), some (.ref 83), some (.int j), p5, p6] [] M1) : Ev B mL_law 36 (4 + rc) (24 + rs) LQ 756 [some (.ref 1000000), some (.ref 0), some (.ref 60), some (.ref 83), some (.int j), o5, o6] [] M := by
  refine e_aload_n dL_law_756 rfl rfl ?_
  refine e_aload_n dL_law_757 rfl rfl ?_
  refine e_iload dL_law_758 rfl ?_
  refine e_iconst (v := 1) dL_law_760 (by decide) ?_
  refine e_iadd dL_law_761 ?_
  refine e_sld dL_law_762 v1 ?_
  refine e_aload_n dL_law_763 rfl rfl ?_
  refine e_iload dL_law_764 rfl ?_
  refine e_iconst (v := 2) dL_law_766 (by decide) ?_
  refine e_iadd dL_law_767 ?_
  refine e_sld dL_law_768 v2 ?_
  refine e_aload_n dL_law_769 rfl rfl ?_
  refine e_iload dL_law_770 rfl ?_
  refine e_iconst (v := 3) dL_law_772 (by decide) ?_
  refine e_iadd dL_law_773 ?_
  refine e_sld dL_law_774 v3 ?_
  refine e_aload_n dL_law_775 rfl rfl ?_
  refine e_callSX (rc1 := 3) (rs1 := 18) (rc2 := rc) (rs2 := rs) [_, _, _, _, _] dL_law_776 mdL_line lkRL_120 rfl rfl (Nat.le_of_ble_eq_true rfl) (by decide) (by omega) (by omega) (cw_line h) (fun v N hp => ?_)
  obtain ⟨⟨rfl, e3⟩, hI, hF, hout⟩ := hp
  have gN := g.fo hI.1 hF
  refine e_istore dL_law_779 (by decide) rfl rfl ?_
  refine e_aload_n dL_law_781 rfl rfl ?_
  refine e_aload_n dL_law_782 rfl rfl ?_
  refine e_iload dL_law_783 rfl ?_
  refine e_iconst (v := 1) dL_law_785 (by decide) ?_
  refine e_iadd dL_law_786 ?_
  refine e_sld dL_law_787 v1 ?_
  refine e_aload_n dL_law_788 rfl rfl ?_
  refine e_iload dL_law_789 rfl ?_
  refine e_iconst (v := 2) dL_law_791 (by decide) ?_
  refine e_iadd dL_law_792 ?_
  refine e_sld dL_law_793 v2 ?_
  refine e_aload_n dL_law_794 rfl rfl ?_
  refine e_iload dL_law_795 rfl ?_
  refine e_iconst (v := 3) dL_law_797 (by decide) ?_
  refine e_iadd dL_law_798 ?_
  refine e_sld dL_law_799 v3 ?_
  refine e_callV1 [_, _, _] dL_law_800 mvmX6_line lkRL_122 (by exact hI.1.sh rfl) ⟨by decide, rfl⟩ rfl rfl (Nat.le_of_ble_eq_true rfl) (by decide) (c_mline gN) (fun u K hq => ?_)
  obtain ⟨⟨v, rfl, hv⟩, ht, gK, fK⟩ := hq
  refine e_istore dL_law_803 (by decide) rfl rfl ?_
  refine e_aload_n dL_law_805 rfl rfl ?_
  refine e_callV0i [] dL_law_806 mvmX6_thrown lkRL_81 (by exact gK.1.sh rfl) ⟨by decide, rfl⟩ rfl rfl (Nat.le_of_ble_eq_true rfl) (by decide) (c_thrown gK.1) ?_
  refine e_iload dL_law_809 rfl ?_
  refine e_icmp_eq (tgt := 816) dL_law_811 (by decide) (fun _ => ?_) (fun q => absurd ht q)
  refine e_iload dL_law_816 rfl ?_
  refine e_if_ne (tgt := 833) dL_law_818 (by decide) (fun _ => ?_) (fun q => ?_)
  · refine e_goto (tgt := 1316) dL_law_833 (by decide) ?_
    exact ih _ _ _ _ (hI.fm fK) gK
  · have e0 := nI_z e3 q
    obtain rfl := hv e0
    refine e_aload_n dL_law_821 rfl rfl ?_
    refine e_iconst (v := 0) dL_law_822 (by decide) ?_
    refine e_laload dL_law_823 (by exact gK.1.sh rfl) (by unfold vp_in; decide) ?_
    rw [show Int32.toNatClampNeg 0 = 0 by decide, fK.2.2.2 83 (by decide), hout e0]
    refine e_iload dL_law_824 rfl ?_
    refine e_i2l dL_law_826 ?_
    refine e_lcmp dL_law_827 ?_
    refine e_if_eq (tgt := 833) dL_law_828 (by decide) (fun _ => ?_) (fun q => absurd (lcmp_rf _) q)
    refine e_goto (tgt := 1316) dL_law_833 (by decide) ?_
    exact ih _ _ _ _ (hI.fm fK) gK
set_option maxHeartbeats 4000000 in
theorem law_13 {B : Bd} {M : Mm} {s : Sx} {rc rs : Nat} {j : Int32} {o5 o6 : Option Value} (h : CI M s) (g : MI M s) (v1 : vp_in (j + 1) (bL B)) (v2 : vp_in (j + 2) (bL B)) (v3 : vp_in (j + 3) (bL B)) (v4 : vp_in (j + 4) (bL B)) (v5 : vp_in (j + 5) (bL B)) (ih : ∀ (M1 : Mm) (s1 : Sx) (p5 p6 : Option Value), CI M1 s1 → MI M1 s1 → Ev B mL_law 36 rc rs LQ 1316 [some (.ref 1000000), some (.ref 0), some (.ref 60), some (.ref 83), some (.int j), p5, p6] [] M1) : Ev B mL_law 36 (4 + rc) (24 + rs) LQ 836 [some (.ref 1000000), some (.ref 0), some (.ref 60), some (.ref 83), some (.int j), o5, o6] [] M := by
  refine e_aload_n dL_law_836 rfl rfl ?_
  refine e_aload_n dL_law_837 rfl rfl ?_
  refine e_iload dL_law_838 rfl ?_
  refine e_iconst (v := 1) dL_law_840 (by decide) ?_
  refine e_iadd dL_law_841 ?_
  refine e_sld dL_law_842 v1 ?_
  refine e_aload_n dL_law_843 rfl rfl ?_
  refine e_iload dL_law_844 rfl ?_
  refine e_iconst (v := 2) dL_law_846 (by decide) ?_
  refine e_iadd dL_law_847 ?_
  refine e_sld dL_law_848 v2 ?_
  refine e_aload_n dL_law_849 rfl rfl ?_
  refine e_callSX (rc1 := 2) (rs1 := 12) (rc2 := rc) (rs2 := rs) [_, _, _, _] dL_law_850 mdL_node lkRL_123 rfl rfl (Nat.le_of_ble_eq_true rfl) (by decide) (by omega) (by omega) (cw_node h) (fun v N hp => ?_)
  obtain ⟨⟨rfl, e3⟩, hI, hF, hout⟩ := hp
  have gN := g.fo hI.1 hF
  refine e_istore dL_law_853 (by decide) rfl rfl ?_
  refine e_aload_n dL_law_855 rfl rfl ?_
  refine e_aload_n dL_law_856 rfl rfl ?_
  refine e_iload dL_law_857 rfl ?_
  refine e_iconst (v := 1) dL_law_859 (by decide) ?_
  refine e_iadd dL_law_860 ?_
  refine e_sld dL_law_861 v1 ?_
  refine e_aload_n dL_law_862 rfl rfl ?_
  refine e_iload dL_law_863 rfl ?_
  refine e_iconst (v := 2) dL_law_865 (by decide) ?_
  refine e_iadd dL_law_866 ?_
  refine e_sld dL_law_867 v2 ?_
  refine e_callV1 [_, _] dL_law_868 mvmX6_node lkRL_125 (by exact hI.1.sh rfl) ⟨by decide, rfl⟩ rfl rfl (Nat.le_of_ble_eq_true rfl) (by decide) (c_mnode gN) (fun u K hq => ?_)
  obtain ⟨⟨v, rfl, hv⟩, ht, gK, fK⟩ := hq
  refine e_istore dL_law_871 (by decide) rfl rfl ?_
  refine e_aload_n dL_law_873 rfl rfl ?_
  refine e_callV0i [] dL_law_874 mvmX6_thrown lkRL_81 (by exact gK.1.sh rfl) ⟨by decide, rfl⟩ rfl rfl (Nat.le_of_ble_eq_true rfl) (by decide) (c_thrown gK.1) ?_
  refine e_iload dL_law_877 rfl ?_
  refine e_icmp_eq (tgt := 884) dL_law_879 (by decide) (fun _ => ?_) (fun q => absurd ht q)
  refine e_iload dL_law_884 rfl ?_
  refine e_if_ne (tgt := 901) dL_law_886 (by decide) (fun _ => ?_) (fun q => ?_)
  · refine e_goto (tgt := 1316) dL_law_901 (by decide) ?_
    exact ih _ _ _ _ (hI.fm fK) gK
  · have e0 := nI_z e3 q
    obtain rfl := hv e0
    refine e_aload_n dL_law_889 rfl rfl ?_
    refine e_iconst (v := 0) dL_law_890 (by decide) ?_
    refine e_laload dL_law_891 (by exact gK.1.sh rfl) (by unfold vp_in; decide) ?_
    rw [show Int32.toNatClampNeg 0 = 0 by decide, fK.2.2.2 83 (by decide), hout e0]
    refine e_iload dL_law_892 rfl ?_
    refine e_i2l dL_law_894 ?_
    refine e_lcmp dL_law_895 ?_
    refine e_if_eq (tgt := 901) dL_law_896 (by decide) (fun _ => ?_) (fun q => absurd (lcmp_rf _) q)
    refine e_goto (tgt := 1316) dL_law_901 (by decide) ?_
    exact ih _ _ _ _ (hI.fm fK) gK
set_option maxHeartbeats 4000000 in
theorem law_14 {B : Bd} {M : Mm} {s : Sx} {rc rs : Nat} {j : Int32} {o5 o6 : Option Value} (h : CI M s) (g : MI M s) (v1 : vp_in (j + 1) (bL B)) (v2 : vp_in (j + 2) (bL B)) (v3 : vp_in (j + 3) (bL B)) (v4 : vp_in (j + 4) (bL B)) (v5 : vp_in (j + 5) (bL B)) (ih : ∀ (M1 : Mm) (s1 : Sx) (p5 p6 : Option Value), CI M1 s1 → MI M1 s1 → Ev B mL_law 36 rc rs LQ 1316 [some (.ref 1000000), some (.ref 0), some (.ref 60), some (.ref 83), some (.int j), p5, p6] [] M1) : Ev B mL_law 36 (4 + rc) (24 + rs) LQ 904 [some (.ref 1000000), some (.ref 0), some (.ref 60), some (.ref 83), some (.int j), o5, o6] [] M := by
  refine e_aload_n dL_law_904 rfl rfl ?_
  refine e_aload_n dL_law_905 rfl rfl ?_
  refine e_iload dL_law_906 rfl ?_
  refine e_iconst (v := 1) dL_law_908 (by decide) ?_
  refine e_iadd dL_law_909 ?_
  refine e_sld dL_law_910 v1 ?_
  refine e_aload_n dL_law_911 rfl rfl ?_
  refine e_callSX (rc1 := 1) (rs1 := 6) (rc2 := rc) (rs2 := rs) [_, _, _] dL_law_912 mdL_sets lkRL_126 rfl rfl (Nat.le_of_ble_eq_true rfl) (by decide) (by omega) (by omega) (cw_sets h) (fun v N hp => ?_)
  obtain ⟨⟨rfl, e3⟩, hI, hF, hout⟩ := hp
  have gN := g.fo hI.1 hF
  refine e_istore dL_law_915 (by decide) rfl rfl ?_
  refine e_aload_n dL_law_917 rfl rfl ?_
  refine e_aload_n dL_law_918 rfl rfl ?_
  refine e_iload dL_law_919 rfl ?_
  refine e_iconst (v := 1) dL_law_921 (by decide) ?_
  refine e_iadd dL_law_922 ?_
  refine e_sld dL_law_923 v1 ?_
  refine e_callV1 [_] dL_law_924 mvmX6_sets lkRL_128 (by exact hI.1.sh rfl) ⟨by decide, rfl⟩ rfl rfl (Nat.le_of_ble_eq_true rfl) (by decide) (c_msets gN) (fun u K hq => ?_)
  obtain ⟨⟨v, rfl, hv⟩, ht, gK, fK⟩ := hq
  refine e_istore dL_law_927 (by decide) rfl rfl ?_
  refine e_aload_n dL_law_929 rfl rfl ?_
  refine e_callV0i [] dL_law_930 mvmX6_thrown lkRL_81 (by exact gK.1.sh rfl) ⟨by decide, rfl⟩ rfl rfl (Nat.le_of_ble_eq_true rfl) (by decide) (c_thrown gK.1) ?_
  refine e_iload dL_law_933 rfl ?_
  refine e_icmp_eq (tgt := 940) dL_law_935 (by decide) (fun _ => ?_) (fun q => absurd ht q)
  refine e_iload dL_law_940 rfl ?_
  refine e_if_ne (tgt := 957) dL_law_942 (by decide) (fun _ => ?_) (fun q => ?_)
  · refine e_goto (tgt := 1316) dL_law_957 (by decide) ?_
    exact ih _ _ _ _ (hI.fm fK) gK
  · have e0 := nI_z e3 q
    obtain rfl := hv e0
    refine e_aload_n dL_law_945 rfl rfl ?_
    refine e_iconst (v := 0) dL_law_946 (by decide) ?_
    refine e_laload dL_law_947 (by exact gK.1.sh rfl) (by unfold vp_in; decide) ?_
    rw [show Int32.toNatClampNeg 0 = 0 by decide, fK.2.2.2 83 (by decide), hout e0]
    refine e_iload dL_law_948 rfl ?_
    refine e_i2l dL_law_950 ?_
    refine e_lcmp dL_law_951 ?_
    refine e_if_eq (tgt := 957) dL_law_952 (by decide) (fun _ => ?_) (fun q => absurd (lcmp_rf _) q)
    refine e_goto (tgt := 1316) dL_law_957 (by decide) ?_
    exact ih _ _ _ _ (hI.fm fK) gK
set_option maxHeartbeats 4000000 in
theorem law_15 {B : Bd} {M : Mm} {s : Sx} {rc rs : Nat} {j : Int32} {o5 o6 : Option Value} (h : CI M s) (g : MI M s) (v1 : vp_in (j + 1) (bL B)) (v2 : vp_in (j + 2) (bL B)) (v3 : vp_in (j + 3) (bL B)) (v4 : vp_in (j + 4) (bL B)) (v5 : vp_in (j + 5) (bL B)) (ih : ∀ (M1 : Mm) (s1 : Sx) (p5 p6 : Option Value), CI M1 s1 → MI M1 s1 → Ev B mL_law 36 rc rs LQ 1316 [some (.ref 1000000), some (.ref 0), some (.ref 60), some (.ref 83), some (.int j), p5, p6] [] M1) : Ev B mL_law 36 (4 + rc) (24 + rs) LQ 960 [some (.ref 1000000), some (.ref 0), some (.ref 60), some (.ref 83), some (.int j), o5, o6] [] M := by
  refine e_aload_n dL_law_960 rfl rfl ?_
  refine e_aload_n dL_law_961 rfl rfl ?_
  refine e_iload dL_law_962 rfl ?_
  refine e_iconst (v := 1) dL_law_964 (by decide) ?_
  refine e_iadd dL_law_965 ?_
  refine e_sld dL_law_966 v1 ?_
  refine e_aload_n dL_law_967 rfl rfl ?_
  refine e_callSX (rc1 := 1) (rs1 := 6) (rc2 := rc) (rs2 := rs) [_, _, _] dL_law_968 mdL_odd lkRL_129 rfl rfl (Nat.le_of_ble_eq_true rfl) (by decide) (by omega) (by omega) (cw_odd h) (fun v N hp => ?_)
  obtain ⟨⟨rfl, e3⟩, hI, hF, hout⟩ := hp
  have gN := g.fo hI.1 hF
  refine e_istore dL_law_971 (by decide) rfl rfl ?_
  refine e_aload_n dL_law_973 rfl rfl ?_
  refine e_aload_n dL_law_974 rfl rfl ?_
  refine e_iload dL_law_975 rfl ?_
  refine e_iconst (v := 1) dL_law_977 (by decide) ?_
  refine e_iadd dL_law_978 ?_
  refine e_sld dL_law_979 v1 ?_
  refine e_callV1 [_] dL_law_980 mvmX6_odd lkRL_131 (by exact hI.1.sh rfl) ⟨by decide, rfl⟩ rfl rfl (Nat.le_of_ble_eq_true rfl) (by decide) (c_modd gN) (fun u K hq => ?_)
  obtain ⟨⟨v, rfl, hv⟩, ht, gK, fK⟩ := hq
  refine e_istore dL_law_983 (by decide) rfl rfl ?_
  refine e_aload_n dL_law_985 rfl rfl ?_
  refine e_callV0i [] dL_law_986 mvmX6_thrown lkRL_81 (by exact gK.1.sh rfl) ⟨by decide, rfl⟩ rfl rfl (Nat.le_of_ble_eq_true rfl) (by decide) (c_thrown gK.1) ?_
  refine e_iload dL_law_989 rfl ?_
  refine e_icmp_eq (tgt := 996) dL_law_991 (by decide) (fun _ => ?_) (fun q => absurd ht q)
  refine e_iload dL_law_996 rfl ?_
  refine e_if_ne (tgt := 1013) dL_law_998 (by decide) (fun _ => ?_) (fun q => ?_)
  · refine e_goto (tgt := 1316) dL_law_1013 (by decide) ?_
    exact ih _ _ _ _ (hI.fm fK) gK
  · have e0 := nI_z e3 q
    obtain rfl := hv e0
    refine e_aload_n dL_law_1001 rfl rfl ?_
    refine e_iconst (v := 0) dL_law_1002 (by decide) ?_
    refine e_laload dL_law_1003 (by exact gK.1.sh rfl) (by unfold vp_in; decide) ?_
    rw [show Int32.toNatClampNeg 0 = 0 by decide, fK.2.2.2 83 (by decide), hout e0]
    refine e_iload dL_law_1004 rfl ?_
    refine e_i2l dL_law_1006 ?_
    refine e_lcmp dL_law_1007 ?_
    refine e_if_eq (tgt := 1013) dL_law_1008 (by decide) (fun _ => ?_) (fun q => absurd (lcmp_rf _) q)
    refine e_goto (tgt := 1316) dL_law_1013 (by decide) ?_
    exact ih _ _ _ _ (hI.fm fK) gK
set_option maxHeartbeats 4000000 in
theorem law_16 {B : Bd} {M : Mm} {s : Sx} {rc rs : Nat} {j : Int32} {o5 o6 : Option Value} (h : CI M s) (g : MI M s) (v1 : vp_in (j + 1) (bL B)) (v2 : vp_in (j + 2) (bL B)) (v3 : vp_in (j + 3) (bL B)) (v4 : vp_in (j + 4) (bL B)) (v5 : vp_in (j + 5) (bL B)) (ih : ∀ (M1 : Mm) (s1 : Sx) (p5 p6 : Option Value), CI M1 s1 → MI M1 s1 → Ev B mL_law 36 rc rs LQ 1316 [some (.ref 1000000), some (.ref 0), some (.ref 60), some (.ref 83), some (.int j), p5, p6] [] M1) : Ev B mL_law 36 (4 + rc) (24 + rs) LQ 1016 [some (.ref 1000000), some (.ref 0), some (.ref 60), some (.ref 83), some (.int j), o5, o6] [] M := by
  refine e_aload_n dL_law_1016 rfl rfl ?_
  refine e_aload_n dL_law_1017 rfl rfl ?_
  refine e_iload dL_law_1018 rfl ?_
  refine e_iconst (v := 1) dL_law_1020 (by decide) ?_
  refine e_iadd dL_law_1021 ?_
  refine e_sld dL_law_1022 v1 ?_
  refine e_aload_n dL_law_1023 rfl rfl ?_
  refine e_callSX (rc1 := 1) (rs1 := 6) (rc2 := rc) (rs2 := rs) [_, _, _] dL_law_1024 mdL_barrier lkRL_132 rfl rfl (Nat.le_of_ble_eq_true rfl) (by decide) (by omega) (by omega) (cw_barrier h) (fun v N hp => ?_)
  obtain ⟨⟨rfl, e3⟩, hI, hF, hout⟩ := hp
  have gN := g.fo hI.1 hF
  refine e_istore dL_law_1027 (by decide) rfl rfl ?_
  refine e_aload_n dL_law_1029 rfl rfl ?_
  refine e_aload_n dL_law_1030 rfl rfl ?_
  refine e_iload dL_law_1031 rfl ?_
  refine e_iconst (v := 1) dL_law_1033 (by decide) ?_
  refine e_iadd dL_law_1034 ?_
  refine e_sld dL_law_1035 v1 ?_
  refine e_callV1 [_] dL_law_1036 mvmX6_barrier lkRL_134 (by exact hI.1.sh rfl) ⟨by decide, rfl⟩ rfl rfl (Nat.le_of_ble_eq_true rfl) (by decide) (c_mbarrier gN) (fun u K hq => ?_)
  obtain ⟨⟨v, rfl, hv⟩, ht, gK, fK⟩ := hq
  refine e_istore dL_law_1039 (by decide) rfl rfl ?_
  refine e_aload_n dL_law_1041 rfl rfl ?_
  refine e_callV0i [] dL_law_1042 mvmX6_thrown lkRL_81 (by exact gK.1.sh rfl) ⟨by decide, rfl⟩ rfl rfl (Nat.le_of_ble_eq_true rfl) (by decide) (c_thrown gK.1) ?_
  refine e_iload dL_law_1045 rfl ?_
  refine e_icmp_eq (tgt := 1052) dL_law_1047 (by decide) (fun _ => ?_) (fun q => absurd ht q)
  refine e_iload dL_law_1052 rfl ?_
  refine e_if_ne (tgt := 1069) dL_law_1054 (by decide) (fun _ => ?_) (fun q => ?_)
  · refine e_goto (tgt := 1316) dL_law_1069 (by decide) ?_
    exact ih _ _ _ _ (hI.fm fK) gK
  · have e0 := nI_z e3 q
    obtain rfl := hv e0
    refine e_aload_n dL_law_1057 rfl rfl ?_
    refine e_iconst (v := 0) dL_law_1058 (by decide) ?_
    refine e_laload dL_law_1059 (by exact gK.1.sh rfl) (by unfold vp_in; decide) ?_
    rw [show Int32.toNatClampNeg 0 = 0 by decide, fK.2.2.2 83 (by decide), hout e0]
    refine e_iload dL_law_1060 rfl ?_
    refine e_i2l dL_law_1062 ?_
    refine e_lcmp dL_law_1063 ?_
    refine e_if_eq (tgt := 1069) dL_law_1064 (by decide) (fun _ => ?_) (fun q => absurd (lcmp_rf _) q)
    refine e_goto (tgt := 1316) dL_law_1069 (by decide) ?_
    exact ih _ _ _ _ (hI.fm fK) gK
set_option maxHeartbeats 4000000 in
theorem law_17 {B : Bd} {M : Mm} {s : Sx} {rc rs : Nat} {j : Int32} {o5 o6 : Option Value} (h : CI M s) (g : MI M s) (v1 : vp_in (j + 1) (bL B)) (v2 : vp_in (j + 2) (bL B)) (v3 : vp_in (j + 3) (bL B)) (v4 : vp_in (j + 4) (bL B)) (v5 : vp_in (j + 5) (bL B)) (ih : ∀ (M1 : Mm) (s1 : Sx) (p5 p6 : Option Value), CI M1 s1 → MI M1 s1 → Ev B mL_law 36 rc rs LQ 1316 [some (.ref 1000000), some (.ref 0), some (.ref 60), some (.ref 83), some (.int j), p5, p6] [] M1) : Ev B mL_law 36 (4 + rc) (24 + rs) LQ 1072 [some (.ref 1000000), some (.ref 0), some (.ref 60), some (.ref 83), some (.int j), o5, o6] [] M := by
  refine e_aload_n dL_law_1072 rfl rfl ?_
  refine e_callV (rc1 := 0) (rs1 := 0) (rc2 := rc) (rs2 := rs) [] dL_law_1073 mvmX5_ways lkRL_135 (by exact h.1.sh rfl) ⟨by decide, rfl⟩ rfl rfl (Nat.le_of_ble_eq_true rfl) (by decide) (by omega) (by omega) (c_ways h) (fun v N hp => ?_) (fun E N hp => ?_)
  · obtain ⟨e0, rfl, hI, hF⟩ := cpo_ret hp
    have gN := g.fo hI.1 hF.fo
    refine e_aload_n dL_law_1076 rfl rfl ?_
    refine e_callV1 [] dL_law_1077 mvmX6_ways lkRL_138 (by exact hI.1.sh rfl) ⟨by decide, rfl⟩ rfl rfl (Nat.le_of_ble_eq_true rfl) (by decide) (c_mways gN) (fun u K hq => ?_)
    obtain ⟨⟨v, rfl, hv⟩, -, gK, fK⟩ := hq
    obtain rfl := hv e0
    refine e_icmp_eq (tgt := 1316) dL_law_1080 (by decide) (fun _ => ih _ _ _ _ (hI.fm fK) gK) (fun q => absurd rfl q)
  · obtain ⟨c, -, hE, -, -⟩ := cpo_thr hp
    exact absurd hE (by simp)
set_option maxHeartbeats 4000000 in
theorem law_18 {B : Bd} {M : Mm} {s : Sx} {rc rs : Nat} {j : Int32} {o5 o6 : Option Value} (h : CI M s) (g : MI M s) (v1 : vp_in (j + 1) (bL B)) (v2 : vp_in (j + 2) (bL B)) (v3 : vp_in (j + 3) (bL B)) (v4 : vp_in (j + 4) (bL B)) (v5 : vp_in (j + 5) (bL B)) (ih : ∀ (M1 : Mm) (s1 : Sx) (p5 p6 : Option Value), CI M1 s1 → MI M1 s1 → Ev B mL_law 36 rc rs LQ 1316 [some (.ref 1000000), some (.ref 0), some (.ref 60), some (.ref 83), some (.int j), p5, p6] [] M1) : Ev B mL_law 36 (4 + rc) (24 + rs) LQ 1085 [some (.ref 1000000), some (.ref 0), some (.ref 60), some (.ref 83), some (.int j), o5, o6] [] M := by
  refine e_aload_n dL_law_1085 rfl rfl ?_
  refine e_aload_n dL_law_1086 rfl rfl ?_
  refine e_iload dL_law_1087 rfl ?_
  refine e_iconst (v := 1) dL_law_1089 (by decide) ?_
  refine e_iadd dL_law_1090 ?_
  refine e_sld dL_law_1091 v1 ?_
  refine e_aload_n dL_law_1092 rfl rfl ?_
  refine e_callSX (rc1 := 1) (rs1 := 6) (rc2 := rc) (rs2 := rs) [_, _, _] dL_law_1093 mdL_heavy lkRL_139 rfl rfl (Nat.le_of_ble_eq_true rfl) (by decide) (by omega) (by omega) (cw_heavy h) (fun v N hp => ?_)
  obtain ⟨⟨rfl, e3⟩, hI, hF, hout⟩ := hp
  have gN := g.fo hI.1 hF
  refine e_istore dL_law_1096 (by decide) rfl rfl ?_
  refine e_aload_n dL_law_1098 rfl rfl ?_
  refine e_aload_n dL_law_1099 rfl rfl ?_
  refine e_iload dL_law_1100 rfl ?_
  refine e_iconst (v := 1) dL_law_1102 (by decide) ?_
  refine e_iadd dL_law_1103 ?_
  refine e_sld dL_law_1104 v1 ?_
  refine e_callV1 [_] dL_law_1105 mvmX6_heavy lkRL_141 (by exact hI.1.sh rfl) ⟨by decide, rfl⟩ rfl rfl (Nat.le_of_ble_eq_true rfl) (by decide) (c_mheavy gN) (fun u K hq => ?_)
  obtain ⟨⟨v, rfl, hv⟩, ht, gK, fK⟩ := hq
  refine e_istore dL_law_1108 (by decide) rfl rfl ?_
  refine e_aload_n dL_law_1110 rfl rfl ?_
  refine e_callV0i [] dL_law_1111 mvmX6_thrown lkRL_81 (by exact gK.1.sh rfl) ⟨by decide, rfl⟩ rfl rfl (Nat.le_of_ble_eq_true rfl) (by decide) (c_thrown gK.1) ?_
  refine e_iload dL_law_1114 rfl ?_
  refine e_icmp_eq (tgt := 1121) dL_law_1116 (by decide) (fun _ => ?_) (fun q => absurd ht q)
  refine e_iload dL_law_1121 rfl ?_
  refine e_if_ne (tgt := 1138) dL_law_1123 (by decide) (fun _ => ?_) (fun q => ?_)
  · refine e_goto (tgt := 1316) dL_law_1138 (by decide) ?_
    exact ih _ _ _ _ (hI.fm fK) gK
  · have e0 := nI_z e3 q
    obtain rfl := hv e0
    refine e_aload_n dL_law_1126 rfl rfl ?_
    refine e_iconst (v := 0) dL_law_1127 (by decide) ?_
    refine e_laload dL_law_1128 (by exact gK.1.sh rfl) (by unfold vp_in; decide) ?_
    rw [show Int32.toNatClampNeg 0 = 0 by decide, fK.2.2.2 83 (by decide), hout e0]
    refine e_iload dL_law_1129 rfl ?_
    refine e_i2l dL_law_1131 ?_
    refine e_lcmp dL_law_1132 ?_
    refine e_if_eq (tgt := 1138) dL_law_1133 (by decide) (fun _ => ?_) (fun q => absurd (lcmp_rf _) q)
    refine e_goto (tgt := 1316) dL_law_1138 (by decide) ?_
    exact ih _ _ _ _ (hI.fm fK) gK
set_option maxHeartbeats 4000000 in
theorem law_19 {B : Bd} {M : Mm} {s : Sx} {rc rs : Nat} {j : Int32} {o5 o6 : Option Value} (h : CI M s) (g : MI M s) (v1 : vp_in (j + 1) (bL B)) (v2 : vp_in (j + 2) (bL B)) (v3 : vp_in (j + 3) (bL B)) (v4 : vp_in (j + 4) (bL B)) (v5 : vp_in (j + 5) (bL B)) (ih : ∀ (M1 : Mm) (s1 : Sx) (p5 p6 : Option Value), CI M1 s1 → MI M1 s1 → Ev B mL_law 36 rc rs LQ 1316 [some (.ref 1000000), some (.ref 0), some (.ref 60), some (.ref 83), some (.int j), p5, p6] [] M1) : Ev B mL_law 36 (4 + rc) (24 + rs) LQ 1141 [some (.ref 1000000), some (.ref 0), some (.ref 60), some (.ref 83), some (.int j), o5, o6] [] M := by
  refine e_aload_n dL_law_1141 rfl rfl ?_
  refine e_aload_n dL_law_1142 rfl rfl ?_
  refine e_iload dL_law_1143 rfl ?_
  refine e_iconst (v := 1) dL_law_1145 (by decide) ?_
  refine e_iadd dL_law_1146 ?_
  refine e_sld dL_law_1147 v1 ?_
  refine e_aload_n dL_law_1148 rfl rfl ?_
  refine e_iload dL_law_1149 rfl ?_
  refine e_iconst (v := 2) dL_law_1151 (by decide) ?_
  refine e_iadd dL_law_1152 ?_
  refine e_sld dL_law_1153 v2 ?_
  refine e_aload_n dL_law_1154 rfl rfl ?_
  refine e_callSX (rc1 := 2) (rs1 := 12) (rc2 := rc) (rs2 := rs) [_, _, _, _] dL_law_1155 mdL_path lkRL_142 rfl rfl (Nat.le_of_ble_eq_true rfl) (by decide) (by omega) (by omega) (cw_path h) (fun v N hp => ?_)
  obtain ⟨⟨rfl, e3⟩, hI, hF, hout⟩ := hp
  have gN := g.fo hI.1 hF
  refine e_istore dL_law_1158 (by decide) rfl rfl ?_
  refine e_aload_n dL_law_1160 rfl rfl ?_
  refine e_aload_n dL_law_1161 rfl rfl ?_
  refine e_iload dL_law_1162 rfl ?_
  refine e_iconst (v := 1) dL_law_1164 (by decide) ?_
  refine e_iadd dL_law_1165 ?_
  refine e_sld dL_law_1166 v1 ?_
  refine e_aload_n dL_law_1167 rfl rfl ?_
  refine e_iload dL_law_1168 rfl ?_
  refine e_iconst (v := 2) dL_law_1170 (by decide) ?_
  refine e_iadd dL_law_1171 ?_
  refine e_sld dL_law_1172 v2 ?_
  refine e_callV1 [_, _] dL_law_1173 mvmX6_path lkRL_144 (by exact hI.1.sh rfl) ⟨by decide, rfl⟩ rfl rfl (Nat.le_of_ble_eq_true rfl) (by decide) (c_mpath gN) (fun u K hq => ?_)
  obtain ⟨⟨v, rfl, hv⟩, ht, gK, fK⟩ := hq
  refine e_istore dL_law_1176 (by decide) rfl rfl ?_
  refine e_aload_n dL_law_1178 rfl rfl ?_
  refine e_callV0i [] dL_law_1179 mvmX6_thrown lkRL_81 (by exact gK.1.sh rfl) ⟨by decide, rfl⟩ rfl rfl (Nat.le_of_ble_eq_true rfl) (by decide) (c_thrown gK.1) ?_
  refine e_iload dL_law_1182 rfl ?_
  refine e_icmp_eq (tgt := 1189) dL_law_1184 (by decide) (fun _ => ?_) (fun q => absurd ht q)
  refine e_iload dL_law_1189 rfl ?_
  refine e_if_ne (tgt := 1206) dL_law_1191 (by decide) (fun _ => ?_) (fun q => ?_)
  · refine e_goto (tgt := 1316) dL_law_1206 (by decide) ?_
    exact ih _ _ _ _ (hI.fm fK) gK
  · have e0 := nI_z e3 q
    obtain rfl := hv e0
    refine e_aload_n dL_law_1194 rfl rfl ?_
    refine e_iconst (v := 0) dL_law_1195 (by decide) ?_
    refine e_laload dL_law_1196 (by exact gK.1.sh rfl) (by unfold vp_in; decide) ?_
    rw [show Int32.toNatClampNeg 0 = 0 by decide, fK.2.2.2 83 (by decide), hout e0]
    refine e_iload dL_law_1197 rfl ?_
    refine e_i2l dL_law_1199 ?_
    refine e_lcmp dL_law_1200 ?_
    refine e_if_eq (tgt := 1206) dL_law_1201 (by decide) (fun _ => ?_) (fun q => absurd (lcmp_rf _) q)
    refine e_goto (tgt := 1316) dL_law_1206 (by decide) ?_
    exact ih _ _ _ _ (hI.fm fK) gK
set_option maxHeartbeats 4000000 in
theorem law_20 {B : Bd} {M : Mm} {s : Sx} {rc rs : Nat} {j : Int32} {o5 o6 : Option Value} (h : CI M s) (g : MI M s) (v1 : vp_in (j + 1) (bL B)) (v2 : vp_in (j + 2) (bL B)) (v3 : vp_in (j + 3) (bL B)) (v4 : vp_in (j + 4) (bL B)) (v5 : vp_in (j + 5) (bL B)) (ih : ∀ (M1 : Mm) (s1 : Sx) (p5 p6 : Option Value), CI M1 s1 → MI M1 s1 → Ev B mL_law 36 rc rs LQ 1316 [some (.ref 1000000), some (.ref 0), some (.ref 60), some (.ref 83), some (.int j), p5, p6] [] M1) : Ev B mL_law 36 (4 + rc) (24 + rs) LQ 1209 [some (.ref 1000000), some (.ref 0), some (.ref 60), some (.ref 83), some (.int j), o5, o6] [] M := by
  refine e_aload_n dL_law_1209 rfl rfl ?_
  refine e_aload_n dL_law_1210 rfl rfl ?_
  refine e_iload dL_law_1211 rfl ?_
  refine e_iconst (v := 1) dL_law_1213 (by decide) ?_
  refine e_iadd dL_law_1214 ?_
  refine e_sld dL_law_1215 v1 ?_
  refine e_aload_n dL_law_1216 rfl rfl ?_
  refine e_iload dL_law_1217 rfl ?_
  refine e_iconst (v := 2) dL_law_1219 (by decide) ?_
  refine e_iadd dL_law_1220 ?_
  refine e_sld dL_law_1221 v2 ?_
  refine e_aload_n dL_law_1222 rfl rfl ?_
  refine e_callSX (rc1 := 2) (rs1 := 12) (rc2 := rc) (rs2 := rs) [_, _, _, _] dL_law_1223 mdL_flower lkRL_145 rfl rfl (Nat.le_of_ble_eq_true rfl) (by decide) (by omega) (by omega) (cw_flower h) (fun v N hp => ?_)
  obtain ⟨⟨rfl, e3⟩, hI, hF, hout⟩ := hp
  have gN := g.fo hI.1 hF
  refine e_istore dL_law_1226 (by decide) rfl rfl ?_
  refine e_aload_n dL_law_1228 rfl rfl ?_
  refine e_aload_n dL_law_1229 rfl rfl ?_
  refine e_iload dL_law_1230 rfl ?_
  refine e_iconst (v := 1) dL_law_1232 (by decide) ?_
  refine e_iadd dL_law_1233 ?_
  refine e_sld dL_law_1234 v1 ?_
  refine e_aload_n dL_law_1235 rfl rfl ?_
  refine e_iload dL_law_1236 rfl ?_
  refine e_iconst (v := 2) dL_law_1238 (by decide) ?_
  refine e_iadd dL_law_1239 ?_
  refine e_sld dL_law_1240 v2 ?_
  refine e_callV1 [_, _] dL_law_1241 mvmX6_flower lkRL_147 (by exact hI.1.sh rfl) ⟨by decide, rfl⟩ rfl rfl (Nat.le_of_ble_eq_true rfl) (by decide) (c_mflower gN) (fun u K hq => ?_)
  obtain ⟨⟨v, rfl, hv⟩, ht, gK, fK⟩ := hq
  refine e_istore dL_law_1244 (by decide) rfl rfl ?_
  refine e_aload_n dL_law_1246 rfl rfl ?_
  refine e_callV0i [] dL_law_1247 mvmX6_thrown lkRL_81 (by exact gK.1.sh rfl) ⟨by decide, rfl⟩ rfl rfl (Nat.le_of_ble_eq_true rfl) (by decide) (c_thrown gK.1) ?_
  refine e_iload dL_law_1250 rfl ?_
  refine e_icmp_eq (tgt := 1257) dL_law_1252 (by decide) (fun _ => ?_) (fun q => absurd ht q)
  refine e_iload dL_law_1257 rfl ?_
  refine e_if_ne (tgt := 1274) dL_law_1259 (by decide) (fun _ => ?_) (fun q => ?_)
  · refine e_goto (tgt := 1316) dL_law_1274 (by decide) ?_
    exact ih _ _ _ _ (hI.fm fK) gK
  · have e0 := nI_z e3 q
    obtain rfl := hv e0
    refine e_aload_n dL_law_1262 rfl rfl ?_
    refine e_iconst (v := 0) dL_law_1263 (by decide) ?_
    refine e_laload dL_law_1264 (by exact gK.1.sh rfl) (by unfold vp_in; decide) ?_
    rw [show Int32.toNatClampNeg 0 = 0 by decide, fK.2.2.2 83 (by decide), hout e0]
    refine e_iload dL_law_1265 rfl ?_
    refine e_i2l dL_law_1267 ?_
    refine e_lcmp dL_law_1268 ?_
    refine e_if_eq (tgt := 1274) dL_law_1269 (by decide) (fun _ => ?_) (fun q => absurd (lcmp_rf _) q)
    refine e_goto (tgt := 1316) dL_law_1274 (by decide) ?_
    exact ih _ _ _ _ (hI.fm fK) gK
set_option maxHeartbeats 4000000 in
theorem law_21 {B : Bd} {M : Mm} {s : Sx} {rc rs : Nat} {j : Int32} {o5 o6 : Option Value} (h : CI M s) (g : MI M s) (v1 : vp_in (j + 1) (bL B)) (v2 : vp_in (j + 2) (bL B)) (v3 : vp_in (j + 3) (bL B)) (v4 : vp_in (j + 4) (bL B)) (v5 : vp_in (j + 5) (bL B)) (ih : ∀ (M1 : Mm) (s1 : Sx) (p5 p6 : Option Value), CI M1 s1 → MI M1 s1 → Ev B mL_law 36 rc rs LQ 1316 [some (.ref 1000000), some (.ref 0), some (.ref 60), some (.ref 83), some (.int j), p5, p6] [] M1) : Ev B mL_law 36 (4 + rc) (24 + rs) LQ 1277 [some (.ref 1000000), some (.ref 0), some (.ref 60), some (.ref 83), some (.int j), o5, o6] [] M := by
  refine e_aload_n dL_law_1277 rfl rfl ?_
  refine e_callV0 [] dL_law_1278 mvmX5_print lkRL_148 (by exact h.1.sh rfl) ⟨by decide, rfl⟩ rfl rfl (Nat.le_of_ble_eq_true rfl) (by decide) (c_print h) ?_
  refine e_aload_n dL_law_1281 rfl rfl ?_
  refine e_callV1 [] dL_law_1282 mvmX6_print lkRL_152 (by exact g.1.sh rfl) ⟨by decide, rfl⟩ rfl rfl (Nat.le_of_ble_eq_true rfl) (by decide) (c_mprint g) (fun u K hq => ?_)
  obtain ⟨rfl, gK, fK⟩ := hq
  refine e_lcmp dL_law_1285 ?_
  refine e_if_eq (tgt := 1316) dL_law_1286 (by decide) (fun _ => (ih _ _ _ _ (h.fm fK) gK).less (by omega) (by omega)) (fun q => absurd (lcmp_rf _) q)
set_option maxHeartbeats 4000000 in
theorem law_22 {B : Bd} {M : Mm} {s : Sx} {rc rs : Nat} {j : Int32} {o5 o6 : Option Value} (h : CI M s) (g : MI M s) (v1 : vp_in (j + 1) (bL B)) (v2 : vp_in (j + 2) (bL B)) (v3 : vp_in (j + 3) (bL B)) (v4 : vp_in (j + 4) (bL B)) (v5 : vp_in (j + 5) (bL B)) (ih : ∀ (M1 : Mm) (s1 : Sx) (p5 p6 : Option Value), CI M1 s1 → MI M1 s1 → Ev B mL_law 36 rc rs LQ 1316 [some (.ref 1000000), some (.ref 0), some (.ref 60), some (.ref 83), some (.int j), p5, p6] [] M1) : Ev B mL_law 36 (4 + rc) (24 + rs) LQ 1291 [some (.ref 1000000), some (.ref 0), some (.ref 60), some (.ref 83), some (.int j), o5, o6] [] M := by
  refine e_aload_n dL_law_1291 rfl rfl ?_
  refine e_aload_n dL_law_1292 rfl rfl ?_
  refine e_iload dL_law_1293 rfl ?_
  refine e_iconst (v := 1) dL_law_1295 (by decide) ?_
  refine e_iadd dL_law_1296 ?_
  refine e_sld dL_law_1297 v1 ?_
  refine e_callV (rc1 := 0) (rs1 := 0) (rc2 := rc) (rs2 := rs) [_] dL_law_1298 mvmX5_status lkRL_153 (by exact h.1.sh rfl) ⟨by decide, rfl⟩ rfl rfl (Nat.le_of_ble_eq_true rfl) (by decide) (by omega) (by omega) (c_status h) (fun v N hp => ?_) (fun E N hp => ?_)
  · obtain ⟨e0, rfl, hI, hF⟩ := cpo_ret hp
    have gN := g.fo hI.1 hF.fo
    refine e_aload_n dL_law_1301 rfl rfl ?_
    refine e_aload_n dL_law_1302 rfl rfl ?_
    refine e_iload dL_law_1303 rfl ?_
    refine e_iconst (v := 1) dL_law_1305 (by decide) ?_
    refine e_iadd dL_law_1306 ?_
    refine e_sld dL_law_1307 v1 ?_
    refine e_callV1 [_] dL_law_1308 mvmX6_status lkRL_156 (by exact hI.1.sh rfl) ⟨by decide, rfl⟩ rfl rfl (Nat.le_of_ble_eq_true rfl) (by decide) (c_mstatus gN) (fun u K hq => ?_)
    obtain ⟨⟨v, rfl, hv⟩, -, gK, fK⟩ := hq
    obtain rfl := hv e0
    refine e_icmp_eq (tgt := 1316) dL_law_1311 (by decide) (fun _ => ih _ _ _ _ (hI.fm fK) gK) (fun q => absurd rfl q)
  · obtain ⟨c, -, hE, -, -⟩ := cpo_thr hp
    exact absurd hE (by simp)
