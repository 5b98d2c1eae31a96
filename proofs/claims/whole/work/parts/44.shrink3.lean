theorem net6 {M : Mm} (ok : OkM M) : NetAt M 6 := ⟨ok.sh rfl, ok.sh rfl, ok.sh rfl, ok.sh rfl, ok.rf rfl, ok.rf rfl, ok.rf rfl⟩
theorem net2 {M : Mm} (ok : OkM M) : NetAt M 2 := ⟨ok.sh rfl, ok.sh rfl, ok.sh rfl, ok.sh rfl, ok.rf rfl, ok.rf rfl, ok.rf rfl⟩
/-- what the draft holds behind it -/
def ShPost (g : Nw) (G f L : Nat) (M : Mm) : Ot → Mm → Prop := Rt (fun u N => u = none ∧ (∃ g', ShrOf g G f L g' ∧ NetRep N 6 g') ∧ Fr 6 9 M N)
theorem c_shrinkInto {B : Bd} {M : Mm} {g : Nw} {a k : Nat} {r : Rw} (ok : OkM M) (hn : NetRep M 2 g) (wf : Wfn g) (ha : a < g.1) (hv : Vr g a k r) (hr : RowAt M r.reverse) : Ct B mX4_shrinkInto 3 0 0 [.ref 19, .ref 2, .ref 6] M (ShPost g (ex (so r) a) a r.length M) := by
  have hg12 := wf.1.2
  have hrl := Vr_len hv
  have hkk := Vr_k wf ha hv
  have hs4 := Vr_lt wf ha hv
  obtain ⟨hgo, hr0⟩ := gof_row hv
  have hG := Gp_row wf hv
  have hG4 : ex (so r) a < 4096 := ex_4096 hs4
  have hrlen : r.reverse.length = r.length := List.length_reverse
  generalize hGe : ex (so r) a = G at hgo hG hG4
  have hin : ∀ x, x ∈ r.reverse → x < 12 := fun x hx => by
    have := Vr_in wf ha hv x (List.mem_reverse.mp hx)
    omega
  generalize r.reverse = l at hr hgo hr0 hrlen hin
  refine Ct.of (by decide) rfl rfl (Nat.le_of_ble_eq_true rfl) ?_
  -- the two loops
  have outer : ∀ j a' N W m (t5 t6 t7 : Option Value), a' + j = g.1 → Fr 6 9 M N → NetRep N 6 (g.1 - r.length + 1, W, m) → SL g G a (Pd g.1 a' 0) W → SM g G a (Pd g.1 a' 0) m → Ev B mX4_shrinkInto 3 0 0 (ShPost g G a r.length M) 50 [some (.ref 19), some (.ref 2), some (.ref 6), some (.int (nI G)), some (.int (nI a')), t5, t6, t7] [] N := by
    intro j
    induction j with
    | zero =>
      intro a' N W m t5 t6 t7 haj hf hN hL hM
      have hag : a' = g.1 := by omega
      subst hag
      have okN : OkM N := ok.fr hf
      have hnN : NetRep N 2 g := hn.fr hf (by omega)
      refine e_iload dX4_shrinkInto_50 rfl ?_
      refine e_aload_n dX4_shrinkInto_52 rfl rfl ?_
      refine e_getI dX4_shrinkInto_53 fRX4_63 (by exact okN.sh rfl) (fun _ => rfl) ?_
      rw [hnN.2.1]
      refine e_icmp_ge (tgt := 176) dX4_shrinkInto_56 (by decide) (fun hc => ?_) (fun hc => ?_)
      · exact e_vret dX4_shrinkInto_176 rfl ⟨none, rfl, rfl, ⟨_, Shr_end wf rfl hL hM, hN⟩, hf⟩
      · exact absurd (nI_le (by omega) (by omega)) hc
    | succ j ih =>
      intro a' N W m t5 t6 t7 haj hf hN hL hM
      have okN : OkM N := ok.fr hf
      have hnN : NetRep N 2 g := hn.fr hf (by omega)
      have ha' : a' < g.1 := by omega
      have e23 := hf.2.2 19 (by omega)
      have e24 := hf.2.2 20 (by omega)
      have hrN : RowAt N l := ⟨by rw [e23]; exact hr.1, fun i x hi => by rw [e24]; exact hr.2 i x hi⟩
      refine e_iload dX4_shrinkInto_50 rfl ?_
      refine e_aload_n dX4_shrinkInto_52 rfl rfl ?_
      refine e_getI dX4_shrinkInto_53 fRX4_63 (by exact okN.sh rfl) (fun _ => rfl) ?_
      rw [hnN.2.1]
      refine e_icmp_ge (tgt := 176) dX4_shrinkInto_56 (by decide) (fun hc => ?_) (fun hc => ?_)
      · exact absurd hc (nI_ge (by omega) (by omega))
      · refine e_aload_n dX4_shrinkInto_59 rfl rfl ?_
        refine e_iload dX4_shrinkInto_60 rfl ?_
        refine e_iload_n dX4_shrinkInto_62 rfl rfl ?_
        refine e_callV0i [_, _] dX4_shrinkInto_63 mvmX4_numberAnew lkRX4_112 (by exact okN.sh rfl) ⟨by decide, rfl⟩ rfl rfl (Nat.le_of_ble_eq_true rfl) (by decide) (c_numberAnew okN hrN hr0 hG4 (by omega) (by omega)) ?_
        refine e_istore dX4_shrinkInto_66 (by decide) rfl rfl ?_
        refine e_iload dX4_shrinkInto_68 rfl ?_
        refine e_iconst (v := 1) dX4_shrinkInto_70 (by decide) ?_
        refine e_iadd dX4_shrinkInto_71 ?_
        rw [nI_1]
        refine e_istore dX4_shrinkInto_72 (by decide) rfl rfl ?_
        have inner : ∀ j2 b N W m (t7 : Option Value), b + j2 = g.1 → a' < b → Fr 6 9 M N → NetRep N 6 (g.1 - r.length + 1, W, m) → SL g G a (Pd g.1 a' b) W → SM g G a (Pd g.1 a' b) m → Ev B mX4_shrinkInto 3 0 0 (ShPost g G a r.length M) 74 [some (.ref 19), some (.ref 2), some (.ref 6), some (.int (nI G)), some (.int (nI a')), some (.int (nI (nmz G a a'))), some (.int (nI b)), t7] [] N := by
          intro j2
          induction j2 with
          | zero =>
            intro b N W m t7 hbj hab hf hN hL hM
            have hbg : b = g.1 := by omega
            have okN : OkM N := ok.fr hf
            have hnN : NetRep N 2 g := hn.fr hf (by omega)
            refine e_iload dX4_shrinkInto_74 rfl ?_
            refine e_aload_n dX4_shrinkInto_76 rfl rfl ?_
            refine e_getI dX4_shrinkInto_77 fRX4_63 (by exact okN.sh rfl) (fun _ => rfl) ?_
            rw [hnN.2.1]
            refine e_icmp_ge (tgt := 170) dX4_shrinkInto_80 (by decide) (fun hc => ?_) (fun hc => ?_)
            · refine e_iinc (v := nI (a' + 1)) dX4_shrinkInto_170 rfl (nI_1 a') (by decide) rfl rfl ?_
              refine e_goto (tgt := 50) dX4_shrinkInto_173 (by decide) ?_
              refine ih (a' + 1) N W m _ _ _ (by omega) hf hN (SL_cong hL ?_) (SM_cong hM ?_) <;>
              · rintro x y ⟨h1, h2, h3⟩
                exact ⟨h1, h2, by omega⟩
            · exact absurd (nI_le (by omega) (by omega)) hc
          | succ j2 ih2 =>
            intro b N W m t7 hbj hab hf hN hL hM
            have hb : b < g.1 := by omega
            have okN : OkM N := ok.fr hf
            have hnN : NetRep N 2 g := hn.fr hf (by omega)
            have e23 := hf.2.2 19 (by omega)
            have e24 := hf.2.2 20 (by omega)
            have hrN : RowAt N l := ⟨by rw [e23]; exact hr.1, fun i x hi => by rw [e24]; exact hr.2 i x hi⟩
            have hx12 := nmz_lt (G := G) (n := 12) (show a < 12 by omega) (show a' < 12 by omega)
            have hy12 := nmz_lt (G := G) (n := 12) (show a < 12 by omega) (show b < 12 by omega)
            have hP : ∀ x y, Pd g.1 a' (b + 1) x y → Pd g.1 a' b x y ∨ (x = a' ∧ y = b) := by
              rintro x y ⟨h1, h2, h3⟩
              by_cases hxy : x = a' ∧ y = b
              · exact Or.inr hxy
              · exact Or.inl ⟨h1, h2, by omega⟩
            -- behind the pair
            have done : ∀ N W m, Fr 6 9 M N → NetRep N 6 (g.1 - r.length + 1, W, m) → SL g G a (Pd g.1 a' (b + 1)) W → SM g G a (Pd g.1 a' (b + 1)) m → Ev B mX4_shrinkInto 3 0 0 (ShPost g G a r.length M) 164 [some (.ref 19), some (.ref 2), some (.ref 6), some (.int (nI G)), some (.int (nI a')), some (.int (nI (nmz G a a'))), some (.int (nI b)), some (.int (nI (nmz G a b)))] [] N := by
              intro N W m hf hN hL hM
              refine e_iinc (v := nI (b + 1)) dX4_shrinkInto_164 rfl (nI_1 b) (by decide) rfl rfl ?_
              refine e_goto (tgt := 74) dX4_shrinkInto_167 (by decide) ?_
              exact ih2 (b + 1) N W m _ (by omega) (by omega) hf hN hL hM
            -- behind the line
            have mid : ∀ N W, Fr 6 9 M N → NetRep N 6 (g.1 - r.length + 1, W, m) → SL g G a (Pd g.1 a' (b + 1)) W → Ev B mX4_shrinkInto 3 0 0 (ShPost g G a r.length M) 137 [some (.ref 19), some (.ref 2), some (.ref 6), some (.int (nI G)), some (.int (nI a')), some (.int (nI (nmz G a a'))), some (.int (nI b)), some (.int (nI (nmz G a b)))] [] N := by
              intro N W hf hN hL
              have okN : OkM N := ok.fr hf
              have hnN : NetRep N 2 g := hn.fr hf (by omega)
              refine e_iload dX4_shrinkInto_137 rfl ?_
              refine e_iload dX4_shrinkInto_139 rfl ?_
              refine e_icmp_eq (tgt := 164) dX4_shrinkInto_141 (by decide) (fun hq => ?_) (fun hq => ?_)
              · rw [nI_eq (by omega) (by omega)] at hq
                exact done N W m hf hN hL (SM_cong (SM_skip hM (Or.inl hq)) hP)
              · have hne : nmz G a a' ≠ nmz G a b := fun q => hq (by rw [q])
                refine e_aload_n dX4_shrinkInto_144 rfl rfl ?_
                refine e_getR dX4_shrinkInto_145 fRX4_68 (by exact okN.sh rfl) (by exact okN.rf rfl) (fun _ => rfl) ?_
                refine e_iload dX4_shrinkInto_148 rfl ?_
                refine e_iaload dX4_shrinkInto_150 (by exact okN.sh rfl) (by exact vp_in_nI (show a' < 12 by omega) (by decide)) ?_
                rw [nI_clamp (by omega), hnN.2.2.2.2.2 a' (by omega)]
                refine e_iload dX4_shrinkInto_151 rfl ?_
                have hws : wI (g.2.2 a') = nI b ↔ g.2.2 a' = some b := wI_some (fun k hk => by have := wf.m a' k hk; omega) (by omega)
                refine e_icmp_ne (tgt := 164) dX4_shrinkInto_153 (by decide) (fun hq2 => ?_) (fun hq2 => ?_)
                · exact done N W m hf hN hL (SM_cong (SM_skip hM (Or.inr (fun q => hq2 (hws.mpr q)))) hP)
                · have hmt := hws.mp hq2
                  refine e_aload_n dX4_shrinkInto_156 rfl rfl ?_
                  refine e_iload dX4_shrinkInto_157 rfl ?_
                  refine e_iload dX4_shrinkInto_159 rfl ?_
                  refine e_callV1 [_, _] dX4_shrinkInto_161 mvmX1_putPair lkRX4_105 (by exact okN.sh rfl) ⟨by decide, rfl⟩ rfl rfl (Nat.le_of_ble_eq_true rfl) (by decide) (c_putPair hN hx12 hy12 hne) (fun u N2 h2 => ?_)
                  obtain ⟨hu, q1, q2⟩ := h2
                  subst hu
                  exact done N2 W _ (hf.trans q2) q1 hL (SM_cong (SM_step wf hG hM hne hmt) hP)
            refine e_iload dX4_shrinkInto_74 rfl ?_
            refine e_aload_n dX4_shrinkInto_76 rfl rfl ?_
            refine e_getI dX4_shrinkInto_77 fRX4_63 (by exact okN.sh rfl) (fun _ => rfl) ?_
            rw [hnN.2.1]
            refine e_icmp_ge (tgt := 170) dX4_shrinkInto_80 (by decide) (fun hc => ?_) (fun hc => ?_)
            · exact absurd hc (nI_ge (by omega) (by omega))
            · refine e_aload_n dX4_shrinkInto_83 rfl rfl ?_
              refine e_iload dX4_shrinkInto_84 rfl ?_
              refine e_iload_n dX4_shrinkInto_86 rfl rfl ?_
              refine e_callV0i [_, _] dX4_shrinkInto_87 mvmX4_numberAnew lkRX4_112 (by exact okN.sh rfl) ⟨by decide, rfl⟩ rfl rfl (Nat.le_of_ble_eq_true rfl) (by decide) (c_numberAnew okN hrN hr0 hG4 (by omega) (by omega)) ?_
              refine e_istore dX4_shrinkInto_90 (by decide) rfl rfl ?_
              refine e_iload dX4_shrinkInto_92 rfl ?_
              refine e_iload dX4_shrinkInto_94 rfl ?_
              refine e_icmp_eq (tgt := 137) dX4_shrinkInto_96 (by decide) (fun hq => ?_) (fun hq => ?_)
              · rw [nI_eq (by omega) (by omega)] at hq
                exact mid N W hf hN (SL_cong (SL_skip hL (Or.inl hq)) hP)
              · have hne : nmz G a a' ≠ nmz G a b := fun q => hq (by rw [q])
                refine e_aload_n dX4_shrinkInto_99 rfl rfl ?_
                refine e_iload dX4_shrinkInto_100 rfl ?_
                refine e_iload dX4_shrinkInto_102 rfl ?_
                refine e_callV0i [_, _] dX4_shrinkInto_104 mvmX1_isLine lkRX4_96 (by exact okN.sh rfl) ⟨by decide, rfl⟩ rfl rfl (Nat.le_of_ble_eq_true rfl) (by decide) (c_isLine hnN (by omega) (by omega)) ?_
                cases hw : g.2.1 a' b with
                | none =>
                  rw [if_neg (by intro q; cases q)]
                  refine e_if_eq (tgt := 137) dX4_shrinkInto_107 (by decide) (fun hz => ?_) (fun hz => ?_)
                  · exact mid N W hf hN (SL_cong (SL_skip hL (Or.inr hw)) hP)
                  · exact absurd rfl hz
                | some kw =>
                  have hkw := (wf.2.2.2.1 a' b kw hw).2.2
                  rw [if_pos (by rfl)]
                  refine e_if_eq (tgt := 137) dX4_shrinkInto_107 (by decide) (fun hz => ?_) (fun hz => ?_)
                  · exact absurd hz (by decide)
                  · refine e_aload_n dX4_shrinkInto_110 rfl rfl ?_
                    refine e_iload dX4_shrinkInto_111 rfl ?_
                    refine e_iload dX4_shrinkInto_113 rfl ?_
                    refine e_aload_n dX4_shrinkInto_115 rfl rfl ?_
                    refine e_iload dX4_shrinkInto_116 rfl ?_
                    refine e_iload dX4_shrinkInto_118 rfl ?_
                    refine e_callV0i [_, _] dX4_shrinkInto_120 mvmX1_weightOf lkRX4_116 (by exact okN.sh rfl) ⟨by decide, rfl⟩ rfl rfl (Nat.le_of_ble_eq_true rfl) (by decide) (c_weightOf hN hx12 hy12) ?_
                    refine e_aload_n dX4_shrinkInto_123 rfl rfl ?_
                    refine e_iload dX4_shrinkInto_124 rfl ?_
                    refine e_iload dX4_shrinkInto_126 rfl ?_
                    refine e_callV0i [_, _] dX4_shrinkInto_128 mvmX1_weightOf lkRX4_116 (by exact okN.sh rfl) ⟨by decide, rfl⟩ rfl rfl (Nat.le_of_ble_eq_true rfl) (by decide) (c_weightOf hnN (by omega) (by omega)) ?_
                    rw [hw]
                    refine e_mmax dX4_shrinkInto_131 lkRX4_119 (Nat.le_of_ble_eq_true rfl) (by decide) ?_
                    have hmx : (if wI (W (nmz G a a') (nmz G a b)) < wI (some kw) then wI (some kw) else wI (W (nmz G a a') (nmz G a b))) = nI (omk (W (nmz G a a') (nmz G a b)) kw) := wI_max (k := kw) (fun j hj => by
                      obtain ⟨x, y, -, -, -, -, -, e⟩ := hL.2.2 _ _ j hj
                      have := (wf.2.2.2.1 x y j e).2.2
                      omega) (by omega)
                    rw [hmx]
                    refine e_callV1 [_, _, _] dX4_shrinkInto_134 mvmX1_putLine lkRX4_124 (by exact okN.sh rfl) ⟨by decide, rfl⟩ rfl rfl (Nat.le_of_ble_eq_true rfl) (by decide) (c_putLine hN hL.1 hx12 hy12 hne) (fun u N2 h2 => ?_)
                    obtain ⟨hu, q1, q2⟩ := h2
                    subst hu
                    exact mid N2 _ (hf.trans q2) q1 (SL_cong (SL_step wf hL hne ha' hb hw) hP)
        refine inner (g.1 - (a' + 1)) (a' + 1) N W m _ (by omega) (by omega) hf hN (SL_cong hL ?_) (SM_cong hM ?_) <;>
        · rintro x y ⟨h1, h2, h3⟩
          exact ⟨h1, h2, by omega⟩
  have loop : ∀ j i gc, i + j = l.length → 1 ≤ i → gof (l.drop i) gc = G → Ev B mX4_shrinkInto 3 0 0 (ShPost g G a r.length M) 5 [some (.ref 19), some (.ref 2), some (.ref 6), some (.int (nI gc)), some (.int (nI i)), none, none, none] [] M := by
    intro j
    induction j with
    | zero =>
      intro i gc hij h1 hgc
      rw [List.drop_eq_nil_of_le (by omega)] at hgc
      have hgc' : gc = G := hgc
      subst hgc'
      refine e_iload dX4_shrinkInto_5 rfl ?_
      refine e_aload_n dX4_shrinkInto_7 rfl rfl ?_
      refine e_getI dX4_shrinkInto_8 fRX4_15 (by exact ok.sh rfl) (fun _ => rfl) ?_
      rw [hr.1]
      refine e_icmp_ge (tgt := 32) dX4_shrinkInto_11 (by decide) (fun hc => ?_) (fun hc => ?_)
      · refine e_aload_n dX4_shrinkInto_32 rfl rfl ?_
        refine e_aload_n dX4_shrinkInto_33 rfl rfl ?_
        refine e_getI dX4_shrinkInto_34 fRX4_63 (by exact ok.sh rfl) (fun _ => rfl) ?_
        rw [hn.2.1]
        refine e_aload_n dX4_shrinkInto_37 rfl rfl ?_
        refine e_getI dX4_shrinkInto_38 fRX4_15 (by exact ok.sh rfl) (fun _ => rfl) ?_
        rw [hr.1]
        refine e_isub dX4_shrinkInto_41 ?_
        have e1 : nI g.1 - nI l.length = nI (g.1 - r.length) := by
          have : nI (g.1 - r.length) + nI l.length = nI g.1 := by rw [nI_add]; congr 1; omega
          rw [← this, Int32.add_sub_cancel]
        rw [e1]
        refine e_iconst (v := 1) dX4_shrinkInto_42 (by decide) ?_
        refine e_iadd dX4_shrinkInto_43 ?_
        rw [nI_1]
        refine e_callV1 [_] dX4_shrinkInto_44 mvmX1_clear lkRX4_109 (by exact ok.sh rfl) ⟨by decide, rfl⟩ rfl rfl (Nat.le_of_ble_eq_true rfl) (by decide) (c_clear (c := g.1 - r.length + 1) (net6 ok)) (fun u N h2 => ?_)
        obtain ⟨hu, q1, q2⟩ := h2
        subst hu
        refine e_iconst (v := 0) dX4_shrinkInto_47 (by decide) ?_
        refine e_istore dX4_shrinkInto_48 (by decide) rfl rfl ?_
        refine outer g.1 0 N _ _ _ _ _ (by omega) q2 q1 ⟨fun _ _ => rfl, fun x y hp => ?_, fun i j k hk => by cases hk⟩ ⟨fun x y hp => ?_, fun i j hk => by cases hk⟩
        · obtain ⟨p1, p2, p3⟩ := hp; omega
        · obtain ⟨p1, p2, p3⟩ := hp; omega
      · exact absurd (nI_le (by omega) (by omega)) hc
    | succ j ih =>
      intro i gc hij h1 hgc
      have hil : i < l.length := by omega
      have hq : l[i]? = some l[i] := List.getElem?_eq_getElem hil
      have hx12 := hin l[i] (List.getElem_mem hil)
      rw [List.drop_eq_getElem_cons hil] at hgc
      refine e_iload dX4_shrinkInto_5 rfl ?_
      refine e_aload_n dX4_shrinkInto_7 rfl rfl ?_
      refine e_getI dX4_shrinkInto_8 fRX4_15 (by exact ok.sh rfl) (fun _ => rfl) ?_
      rw [hr.1]
      refine e_icmp_ge (tgt := 32) dX4_shrinkInto_11 (by decide) (fun hc => ?_) (fun hc => ?_)
      · exact absurd hc (nI_ge hil (by omega))
      · refine e_iload_n dX4_shrinkInto_14 rfl rfl ?_
        refine e_iconst (v := 1) dX4_shrinkInto_15 (by decide) ?_
        refine e_aload_n dX4_shrinkInto_16 rfl rfl ?_
        refine e_getR dX4_shrinkInto_17 fRX4_9 (by exact ok.sh rfl) (by exact ok.rf rfl) (fun _ => rfl) ?_
        refine e_iload dX4_shrinkInto_20 rfl ?_
        refine e_iaload dX4_shrinkInto_22 (by exact ok.sh rfl) (by exact vp_in_nI (show i < 12 by omega) (by decide)) ?_
        rw [nI_clamp (by omega), hr.2 i _ hq]
        refine e_ishl dX4_shrinkInto_23 ?_
        rw [shl_1 (by omega)]
        refine e_ior dX4_shrinkInto_24 ?_
        rw [fa_or]
        refine e_istore_n dX4_shrinkInto_25 rfl (by decide) rfl rfl ?_
        refine e_iinc (v := nI (i + 1)) dX4_shrinkInto_26 rfl (nI_1 i) (by decide) rfl rfl ?_
        refine e_goto (tgt := 5) dX4_shrinkInto_29 (by decide) ?_
        exact ih (i + 1) (gc ||| 2 ^ l[i]) (by omega) (by omega) hgc
  refine e_iconst (v := 0) dX4_shrinkInto_0 (by decide) ?_
  refine e_istore_n dX4_shrinkInto_1 rfl (by decide) rfl rfl ?_
  refine e_iconst (v := 1) dX4_shrinkInto_2 (by decide) ?_
  refine e_istore dX4_shrinkInto_3 (by decide) rfl rfl ?_
  refine loop (l.length - 1) 1 0 ?_ (by omega) hgo
  have : 0 < l.length := by omega
  omega

