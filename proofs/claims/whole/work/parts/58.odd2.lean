def psh (h : List Nw) (g : Nw) : List Nw := (if h.length < 8 then h else h.drop 1) ++ [g]
def setH (s : Sx) (h : List Nw) : Sx := (s.1, h, s.2.2)
def setG (s : Sx) (g : Nw) : Sx := (g, s.2)
/-- the answers are forgotten -/
def CK (M : Mm) : Prop := ∀ g, GInv M g ∧ PInv M g
theorem NetRep.frs {M N : Mm} {n lo hi : Nat} {g : Nw} (h : NetRep M n g) (hf : Fr lo hi M N) (ho : n + 3 < lo ∨ hi < n) : NetRep N n g := h.fr hf ho
theorem CI.push {M N : Mm} {s : Sx} {π : Nat → Nat} (h : CI M s) (hp : PR0 M π (shh s)) (hl : (shh s).length < 8) (hf : Fr (28 + 4 * π (shh s).length) (28 + 4 * π (shh s).length + 3) M N) (hr : NetRep N (28 + 4 * π (shh s).length) (sgg s)) : CI (sI N 0 6 (nI ((shh s).length + 1))) (setH s (shh s ++ [sgg s])) := by
  obtain ⟨ok, h0, hT, ⟨hn, hg⟩, -, ⟨a1, a2, a3⟩, hrr⟩ := h
  have hπ := hp.1 _ hl
  have hf2 : Fr 0 0 N (sI N 0 6 (nI ((shh s).length + 1))) := Fr.rf.sI (by omega) (by omega)
  refine ⟨(ok.fr hf).fr hf2, ?_, (hT.fr hf (by omega)).fr hf2 (by omega), ⟨(hn.fr hf (by omega)).fr hf2 (by omega), hg⟩, ⟨π, hp.1, hp.2.1, fun i hi => ?_, fun i g hgi => ?_⟩, ⟨(a1.fr hf (by omega)).fr hf2 (by omega), (a2.fr hf (by omega)).fr hf2 (by omega), (a3.fr hf (by omega)).fr hf2 (by omega)⟩, (hrr.fr hf (by omega)).fr hf2 (by omega)⟩
  · have e0 := hf.2.2 0 (by omega)
    have hlen : (shh (setH s (shh s ++ [sgg s]))).length = (shh s).length + 1 := by
      show (shh s ++ [sgg s]).length = _
      rw [List.length_append]; rfl
    refine ⟨by rw [rd_ni (by decide), e0]; exact h0.1, h0.2.1, by rw [rd_ni (by decide), e0]; exact h0.2.2.1, by rw [rd_self, hlen], by rw [hlen]; omega⟩
  · rw [hf2.2.1, hf.2.1]; exact hp.2.2.1 i hi
  · have hgi' : (shh s ++ [sgg s])[i]? = some g := hgi
    rcases Nat.lt_trichotomy i (shh s).length with q | q | q
    · rw [List.getElem?_append_left q] at hgi'
      obtain ⟨g1, g2⟩ := hp.2.2.2 i g hgi'
      have hne : π i ≠ π (shh s).length := fun e => by
        have := hp.2.1 i _ (by omega) hl e
        omega
      exact ⟨(g1.fr hf (by omega)).fr hf2 (by omega), g2⟩
    · subst q
      rw [List.getElem?_append_right (Nat.le_refl _), Nat.sub_self] at hgi'
      have : g = sgg s := (Option.some.inj hgi').symm
      rw [this]
      exact ⟨hr.fr hf2 (by omega), hg⟩
    · rw [List.getElem?_eq_none (by simp; omega)] at hgi'; cases hgi'
theorem Fp.Fr {M N : Mm} (h : Fp M N) : N.2.1 = M.2.1 := h.2.1
theorem CI.drop {M K : Mm} {s : Sx} {π : Nat → Nat} (h : CI M s) (hf : Fp M K) (hl : (shh s).length = 8) (hp : PR0 K π ((shh s).drop 1)) : CI (sI K 0 6 7) (setH s ((shh s).drop 1)) := by
  obtain ⟨ok, h0, hT, ⟨hn, hg⟩, -, ⟨a1, a2, a3⟩, hrr⟩ := h
  have okK := ok.p hf
  have hf2 : Fr 0 0 K (sI K 0 6 7) := Fr.rf.sI (by omega) (by omega)
  have e := hf.2.1
  have hlen : ((shh s).drop 1).length = 7 := by rw [List.length_drop, hl]
  refine ⟨okK.fr hf2, ?_, ?_, ⟨(hn.p hf (by decide)).fr hf2 (by omega), hg⟩, ⟨π, hp.fr (by omega) hf2 (by omega)⟩, ⟨?_, ?_, ?_⟩, ?_⟩
  · refine ⟨by rw [rd_ni (by decide), e]; exact h0.1, h0.2.1, by rw [rd_ni (by decide), e]; exact h0.2.2.1, ?_, ?_⟩
    · rw [rd_self]
      show (7 : Int32) = nI ((shh s).drop 1).length
      rw [hlen]; rfl
    · show ((shh s).drop 1).length ≤ 8
      omega
  · refine CT.fr ?_ hf2 (by omega)
    unfold CT; rw [e]; exact hT
  · refine GInv.fr ?_ hf2 (by omega)
    unfold GInv GR; rw [e, hf.2.2.1]; exact a1
  · refine PInv.fr ?_ hf2 (by omega)
    unfold PInv PAR PR; rw [e]; exact a2
  · refine WInv.fr ?_ hf2 (by omega)
    exact a3
  · refine CR.fr ?_ hf2 (by omega)
    unfold CR; rw [e]; exact hrr
/-- the cells lo to hi, and all references but the past's, are as they were -/
def Fdd (lo hi : Nat) (M N : Mm) : Prop := N.1 = M.1 ∧ (∀ a, lo ≤ a → a ≤ hi → N.2.1 a = M.2.1 a) ∧ ∀ a, a ≠ 10 → N.2.2.2 a = M.2.2.2 a
theorem Fdd.rf {lo hi : Nat} {M : Mm} : Fdd lo hi M M := ⟨rfl, fun _ _ _ => rfl, fun _ _ => rfl⟩
theorem Fdd.trans {lo hi : Nat} {M N K : Mm} (h1 : Fdd lo hi M N) (h2 : Fdd lo hi N K) : Fdd lo hi M K := ⟨h2.1.trans h1.1, fun a q r => (h2.2.1 a q r).trans (h1.2.1 a q r), fun a q => (h2.2.2 a q).trans (h1.2.2 a q)⟩
theorem Fdd.sub {lo hi lo2 hi2 : Nat} {M N : Mm} (h : Fdd lo hi M N) (h1 : lo ≤ lo2) (h2 : hi2 ≤ hi) : Fdd lo2 hi2 M N := ⟨h.1, fun a q r => h.2.1 a (by omega) (by omega), h.2.2⟩
theorem Fr.Fdd {lo hi lo2 hi2 : Nat} {M N : Mm} (h : Fr lo2 hi2 M N) (ho : hi2 < lo ∨ hi < lo2) : Fdd lo hi M N := ⟨h.1, fun a q r => h.2.2 a (by omega), fun a _ => by rw [h.2.1]⟩
theorem Fp.Fdd {lo hi : Nat} {M N : Mm} (h : Fp M N) : Fdd lo hi M N := ⟨h.1, fun a q r => by rw [h.2.1], h.2.2.2⟩
theorem NetRep.fd {M N : Mm} {n lo hi : Nat} {g : Nw} (hr : NetRep M n g) (h : Fdd lo hi M N) (h1 : lo ≤ n) (h2 : n + 3 ≤ hi) (hn : n ≠ 10) : NetRep N n g := by
  obtain ⟨q1, q2, q3, q4, q5, q6⟩ := hr
  have e0 := h.2.1 n (by omega) (by omega)
  have e1 := h.2.1 (n + 1) (by omega) (by omega)
  have e2 := h.2.1 (n + 2) (by omega) (by omega)
  have e3 := h.2.1 (n + 3) (by omega) (by omega)
  refine ⟨?_, by rw [e0]; exact q2, by rw [e0]; exact q3, by rw [e1]; exact q4, by rw [e2]; exact q5, by rw [e3]; exact q6⟩
  unfold NetAt at q1 ⊢
  rw [h.1, h.2.2 n hn]; exact q1
theorem c_remember {B : Bd} {M : Mm} {s : Sx} (h : CI M s) : Ct B mX5_remember 2 0 0 [.ref 0] M (Rt (fun u N => u = none ∧ CI N (setH s (psh (shh s) (sgg s))) ∧ FC M N ∧ Fdd 1 27 M N)) := by
  have ok := h.1
  refine Ct.of (by decide) rfl rfl (Nat.le_of_ble_eq_true rfl) ?_
  have tail : ∀ M1 s1, CI M1 s1 → (shh s1).length < 8 → FC M M1 → Fdd 1 27 M M1 → setH s1 (shh s1 ++ [sgg s1]) = setH s (psh (shh s) (sgg s)) → Ev B mX5_remember 2 0 0 (Rt (fun u N => u = none ∧ CI N (setH s (psh (shh s) (sgg s))) ∧ FC M N ∧ Fdd 1 27 M N)) 13 [some (.ref 0)] [] M1 := by
    intro M1 s1 h1 hl hfc h14 he
    have ok1 := h1.1
    have h0 := h1.2.1
    obtain ⟨π, hp⟩ := h1.2.2.2.2.1
    have hπ := hp.1 _ hl
    have hat := netP ok1 _ hπ
    refine e_aload_n dX5_remember_13 rfl rfl ?_
    refine e_getR dX5_remember_14 fRX5_30 (by first | exact ok1.sh rfl | exact hat.1) (by first | exact ok1.rf rfl | (rw [nI_clamp (by omega)]; exact hp.2.2.1 _ hl)) (fun _ => rfl) ?_
    refine e_aload_n dX5_remember_17 rfl rfl ?_
    refine e_getI dX5_remember_18 fRX5_34 (by first | exact ok1.sh rfl | exact hat.1) (fun _ => rfl) ?_
    rw [h0.2.2.2.1]
    refine e_aaloadN dX5_remember_21 (by first | exact ok1.sh rfl | exact hat.1) (by exact vp_in_nI hl (by decide)) (by first | exact ok1.rf rfl | (rw [nI_clamp (by omega)]; exact hp.2.2.1 _ hl)) ?_
    refine e_aload_n dX5_remember_22 rfl rfl ?_
    refine e_getR dX5_remember_23 fRX5_23 (by first | exact ok1.sh rfl | exact hat.1) (by first | exact ok1.rf rfl | (rw [nI_clamp (by omega)]; exact hp.2.2.1 _ hl)) (fun _ => rfl) ?_
    refine e_callV1 [_] dX5_remember_26 mvmX1_copyFrom lkRX5_174 (by first | exact ok1.sh rfl | exact hat.1) ⟨by decide, rfl⟩ rfl rfl (Nat.le_of_ble_eq_true rfl) (by decide) (c_copyFrom (o := 2) hat h1.2.2.2.1.1 ok1.lo (by omega)) (fun u N h2 => ?_)
    obtain ⟨hu, q1, q2⟩ := h2
    subst hu
    have okN : OkM N := ok1.fr q2
    have e0 := q2.2.2 0 (by omega)
    refine e_aload_n dX5_remember_29 rfl rfl ?_
    refine e_dup dX5_remember_30 rfl ?_
    refine e_getI dX5_remember_31 fRX5_34 (by exact okN.sh rfl) (fun _ => rfl) ?_
    rw [e0, h0.2.2.2.1]
    refine e_iconst (v := 1) dX5_remember_34 (by decide) ?_
    refine e_iadd dX5_remember_35 ?_
    rw [nI_1]
    refine e_putI dX5_remember_36 fRX5_34 (by exact okN.sh rfl) rfl rfl rfl (fun _ _ => rfl) ?_
    have hf2 : Fr 0 0 N (sI N 0 6 (nI ((shh s1).length + 1))) := Fr.rf.sI (by omega) (by omega)
    refine e_vret dX5_remember_39 rfl ⟨none, rfl, rfl, ?_, (hfc.trans (q2.FC (by omega))).trans (hf2.FC (by decide)), ?_⟩
    · rw [← he]; exact h1.push hp hl q2 q1
    · exact (h14.trans (q2.Fdd (by omega))).trans (hf2.Fdd (by omega))
  have h0 := h.2.1
  refine e_aload_n dX5_remember_0 rfl rfl ?_
  refine e_getI dX5_remember_1 fRX5_34 (by exact ok.sh rfl) (fun _ => rfl) ?_
  rw [h0.2.2.2.1]
  refine e_bipush (v := 8) dX5_remember_4 (by decide) ?_
  by_cases hl : (shh s).length < 8
  · refine e_icmp_lt (tgt := 13) dX5_remember_6 (by decide) (fun hz => ?_) (fun hz => ?_)
    · refine tail M s h hl FC.rf Fdd.rf ?_
      unfold psh; rw [if_pos hl]
    · exact absurd (nI_lt (b := 8) hl (by decide)) hz
  · have hl8 : (shh s).length = 8 := by have := h0.2.2.2.2; omega
    refine e_icmp_lt (tgt := 13) dX5_remember_6 (by decide) (fun hz => ?_) (fun hz => ?_)
    · exact absurd hz (nI_nlt (b := 8) (by omega) (by omega))
    · obtain ⟨π, hp⟩ := h.2.2.2.2.1
      refine e_aload_n dX5_remember_9 rfl rfl ?_
      refine e_callV1 [] dX5_remember_10 mvmX5_dropOldest lkRX5_284 (by exact ok.sh rfl) ⟨by decide, rfl⟩ rfl rfl (Nat.le_of_ble_eq_true rfl) (by decide) (c_dropOldest ok hp hl8) (fun u N h2 => ?_)
      obtain ⟨hu, K, k1, k2, k3⟩ := h2
      subst hu k2
      have hf2 : Fr 0 0 K (sI K 0 6 7) := Fr.rf.sI (by omega) (by omega)
      refine tail _ _ (h.drop k1 hl8 k3) ?_ (k1.FC.trans (hf2.FC (by decide))) ?_ ?_
      · show ((shh s).drop 1).length < 8
        rw [List.length_drop]; omega
      · exact k1.Fdd.trans (hf2.Fdd (by omega))
      · unfold psh; rw [if_neg hl]; rfl
theorem CI.forget {M : Mm} {s : Sx} (h : CI M s) : CI (sI (sI M 14 0 0) 17 0 0) s ∧ CK (sI (sI M 14 0 0) 17 0 0) ∧ FC M (sI (sI M 14 0 0) 17 0 0) := by
  obtain ⟨ok, h0, hT, ⟨hn, hg⟩, hp, ⟨a1, a2, a3⟩, hrr⟩ := h
  have f1 : Fr 14 14 M (sI M 14 0 0) := Fr.rf.sI (by omega) (by omega)
  have f2 : Fr 17 17 (sI M 14 0 0) (sI (sI M 14 0 0) 17 0 0) := Fr.rf.sI (by omega) (by omega)
  have hck : CK (sI (sI M 14 0 0) 17 0 0) := by
    intro g
    refine ⟨Or.inl (by rw [rd_na (by decide), rd_self]), ⟨?_, Or.inl (by rw [rd_self])⟩⟩
    rw [rd_na (by decide), rd_na (by decide)]
    exact a2.1
  refine ⟨⟨(ok.fr f1).fr f2, (h0.fr f1 (by omega)).fr f2 (by omega), (hT.fr f1 (by omega)).fr f2 (by omega), ⟨(hn.fr f1 (by omega)).fr f2 (by omega), hg⟩, (hp.fr h0.2.2.2.2 f1 (by omega)).fr h0.2.2.2.2 f2 (by omega), ⟨(hck _).1, (hck _).2, (a3.fr f1 (by omega)).fr f2 (by omega)⟩, (hrr.fr f1 (by omega)).fr f2 (by omega)⟩, hck, (f1.FC (by decide)).trans (f2.FC (by decide))⟩
theorem c_forget {B : Bd} {M : Mm} (ok : OkM M) : Ct B mX5_forgetAnswers 0 0 0 [.ref 0] M (Is none (sI (sI M 14 0 0) 17 0 0)) := by
  refine Ct.of (by decide) rfl rfl (Nat.le_of_ble_eq_true rfl) ?_
  refine e_aload_n dX5_forgetAnswers_0 rfl rfl ?_
  refine e_getR dX5_forgetAnswers_1 fRX5_49 (by exact ok.sh rfl) (by exact ok.rf rfl) (fun _ => rfl) ?_
  refine e_iconst (v := 0) dX5_forgetAnswers_4 (by decide) ?_
  refine e_putI dX5_forgetAnswers_5 fRX5_287 (by exact ok.sh rfl) rfl rfl rfl (fun _ _ => rfl) ?_
  refine e_aload_n dX5_forgetAnswers_8 rfl rfl ?_
  refine e_getR dX5_forgetAnswers_9 fRX5_56 (by exact ok.sh rfl) (by exact ok.rf rfl) (fun _ => rfl) ?_
  refine e_iconst (v := 0) dX5_forgetAnswers_12 (by decide) ?_
  refine e_putI dX5_forgetAnswers_13 fRX5_291 (by exact ok.sh rfl) rfl rfl rfl (fun _ _ => rfl) ?_
  exact e_vret dX5_forgetAnswers_16 rfl (⟨rfl, rfl⟩)
theorem c_rememberLines {B : Bd} {M : Mm} {s : Sx} (h : CI M s) : Ct B mX5_rememberLines 3 0 0 [.ref 0] M (Rt (fun u N => u = none ∧ CI N (setH s (psh (shh s) (sgg s))) ∧ CK N ∧ FC M N ∧ Fdd 6 9 M N)) := by
  have ok := h.1
  refine Ct.of (by decide) rfl rfl (Nat.le_of_ble_eq_true rfl) ?_
  refine e_aload_n dX5_rememberLines_0 rfl rfl ?_
  refine e_callV1 [] dX5_rememberLines_1 mvmX5_remember lkRX5_126 (by exact ok.sh rfl) ⟨by decide, rfl⟩ rfl rfl (Nat.le_of_ble_eq_true rfl) (by decide) (c_remember h) (fun u N h1 => ?_)
  obtain ⟨hu, h1, h2, h3⟩ := h1
  subst hu
  have okN := h1.1
  refine e_aload_n dX5_rememberLines_4 rfl rfl ?_
  refine e_callV0v [] dX5_rememberLines_5 mvmX5_forgetAnswers lkRX5_177 (by exact okN.sh rfl) ⟨by decide, rfl⟩ rfl rfl (Nat.le_of_ble_eq_true rfl) (by decide) (c_forget okN) ?_
  obtain ⟨c1, c2, c3⟩ := h1.forget
  have f9 : Fr 14 17 N (sI (sI N 14 0 0) 17 0 0) := (Fr.rf.sI (by omega) (by omega)).sI (by omega) (by omega)
  exact e_vret dX5_rememberLines_8 rfl ⟨none, rfl, rfl, c1, c2, h2.trans c3, (h3.sub (by decide) (by decide)).trans (f9.Fdd (by omega))⟩
/-- another network, the answers forgotten -/
theorem CI.net {M N : Mm} {s : Sx} {g : Nw} (h : CI M s) (hk : CK M) (hf : Fr 2 5 M N) (hr : NetRep N 2 g) (hg : Gd g) : CI N (setG s g) := by
  obtain ⟨ok, h0, hT, -, hp, ⟨a1, a2, a3⟩, hrr⟩ := h
  exact ⟨ok.fr hf, h0.fr hf (by omega), hT.fr hf (by omega), ⟨hr, hg⟩, hp.fr h0.2.2.2.2 hf (by omega), ⟨(hk g).1.fr hf (by omega), (hk g).2.fr hf (by omega), a3.fr hf (by omega)⟩, hrr.fr hf (by omega)⟩
/-- other pairs -/
theorem CI.mates {M N : Mm} {s : Sx} {m : Nat → Option Nat} (h : CI M s) (hf : Fr 2 5 M N) (hr : NetRep N 2 ((sgg s).1, (sgg s).2.1, m)) (hg : Gd ((sgg s).1, (sgg s).2.1, m)) : CI N (setG s ((sgg s).1, (sgg s).2.1, m)) := by
  obtain ⟨ok, h0, hT, -, hp, ⟨a1, a2, a3⟩, hrr⟩ := h
  refine ⟨ok.fr hf, h0.fr hf (by omega), hT.fr hf (by omega), ⟨hr, hg⟩, hp.fr h0.2.2.2.2 hf (by omega), ⟨?_, ?_, a3.fr hf (by omega)⟩, hrr.fr hf (by omega)⟩
  · have := a1.fr hf (by omega)
    exact this
  · have := a2.fr hf (by omega)
    exact this
/-- the draft becomes the network -/
theorem c_becomeDraft {B : Bd} {M : Mm} {s : Sx} {g : Nw} (h : CI M s) (hd : NetRep M 6 g) (hg : Gd g) : Ct B mX5_becomeDraft 4 0 0 [.ref 0] M (Rt (fun u N => u = none ∧ CI N (setG (setH s (psh (shh s) (sgg s))) g) ∧ FC M N)) := by
  have ok := h.1
  refine Ct.of (by decide) rfl rfl (Nat.le_of_ble_eq_true rfl) ?_
  refine e_aload_n dX5_becomeDraft_0 rfl rfl ?_
  refine e_callV1 [] dX5_becomeDraft_1 mvmX5_rememberLines lkRX5_105 (by exact ok.sh rfl) ⟨by decide, rfl⟩ rfl rfl (Nat.le_of_ble_eq_true rfl) (by decide) (c_rememberLines h) (fun u N h1 => ?_)
  obtain ⟨hu, h1, h2, h3, h4⟩ := h1
  subst hu
  have okN := h1.1
  have hdN := hd.fd h4 (by decide) (by decide) (by decide)
  refine e_aload_n dX5_becomeDraft_4 rfl rfl ?_
  refine e_getR dX5_becomeDraft_5 fRX5_23 (by exact okN.sh rfl) (by exact okN.rf rfl) (fun _ => rfl) ?_
  refine e_aload_n dX5_becomeDraft_8 rfl rfl ?_
  refine e_getR dX5_becomeDraft_9 fRX5_27 (by exact okN.sh rfl) (by exact okN.rf rfl) (fun _ => rfl) ?_
  refine e_callV1 [_] dX5_becomeDraft_12 mvmX1_copyFrom lkRX5_174 (by exact okN.sh rfl) ⟨by decide, rfl⟩ rfl rfl (Nat.le_of_ble_eq_true rfl) (by decide) (c_copyFrom (n := 2) (o := 6) (net2 okN) hdN okN.lo (by omega)) (fun u K h5 => ?_)
  obtain ⟨hu, q1, q2⟩ := h5
  subst hu
  exact e_vret dX5_becomeDraft_15 rfl ⟨none, rfl, rfl, h1.net h2 q2 q1 hg, h3.trans (q2.FC (by decide))⟩
/-- Greatest has learnt, or was asked: the state is the same -/
theorem CI.great {M N : Mm} {s : Sx} (h : CI M s) (hf : Fg M N) (hw : GInv N (sgg s)) : CI N s := by
  obtain ⟨ok, h0, hT, ⟨hn, hg⟩, hpa, ⟨a1, a2, a3⟩, hrr⟩ := h
  exact ⟨ok.fg hf, h0.fg hf, hT.fg hf, ⟨hn.fg hf (by omega), hg⟩, hpa.fg h0.2.2.2.2 hf, ⟨hw, a2.fg hf, trivial⟩, hrr.fg hf⟩
theorem CI.asked {M N : Mm} {s : Sx} (h : CI M s) (hP : GP (sgg s) M N) : CI N s ∧ FC M N := by
  refine ⟨h.great hP.2.g ?_, hP.2.g.FC⟩
  rcases h.2.2.2.2.2.1.1 with h1 | h1
  · exact GInv.fl hP.2 hP.1 (Or.inl h1)
  · exact GInv.fl hP.2 hP.1 (Or.inr h1.1)
theorem c_learn5 {B : Bd} {M : Mm} {s : Sx} (h : CI M s) : Ct B mX5_learn 4 0 0 [.ref 0] M (Rt (fun u N => u = none ∧ CI N s ∧ GR N (sgg s) ∧ FC M N)) := by
  have ok := h.1
  refine Ct.of (by decide) rfl rfl (Nat.le_of_ble_eq_true rfl) ?_
  refine e_aload_n dX5_learn_0 rfl rfl ?_
  refine e_getR dX5_learn_1 fRX5_49 (by exact ok.sh rfl) (by exact ok.rf rfl) (fun _ => rfl) ?_
  refine e_callV1 [] dX5_learn_4 mvmX0_learn lkRX5_292 (by exact ok.sh rfl) ⟨by decide, rfl⟩ rfl rfl (Nat.le_of_ble_eq_true rfl) (by decide) (c_learn0 ok h.2.2.2.2.2.1.1) (fun u N h1 => ?_)
  obtain ⟨hu, q1, q2, q3⟩ := h1
  subst hu
  exact e_vret dX5_learn_7 rfl ⟨none, rfl, rfl, h.great q3 (Or.inr ⟨q2, q1⟩), q1, q3.FC⟩
/-- the parts are learnt, or walks asked: the state is the same -/
theorem CI.parts {M N : Mm} {s : Sx} (h : CI M s) (hf : Fr 17 18 M N) (hp : PInv N (sgg s)) : CI N s := by
  obtain ⟨ok, h0, hT, ⟨hn, hg⟩, hpa, ⟨a1, a2, a3⟩, hrr⟩ := h
  exact ⟨ok.fr hf, h0.fr hf (by omega), hT.fr hf (by omega), ⟨hn.fr hf (by omega), hg⟩, hpa.fr h0.2.2.2.2 hf (by omega), ⟨a1.fr hf (by omega), hp, a3.fr hf (by omega)⟩, hrr.fr hf (by omega)⟩
theorem CI.walks {M N : Mm} {s : Sx} (h : CI M s) (hf : Fr 19 26 M N) (hw : WInv N) : CI N s := by
  obtain ⟨ok, h0, hT, ⟨hn, hg⟩, hpa, ⟨a1, a2, a3⟩, hrr⟩ := h
  exact ⟨ok.fr hf, h0.fr hf (by omega), hT.fr hf (by omega), ⟨hn.fr hf (by omega), hg⟩, hpa.fr h0.2.2.2.2 hf (by omega), ⟨a1.fr hf (by omega), a2.fr hf (by omega), hw⟩, hrr.fr hf (by omega)⟩

