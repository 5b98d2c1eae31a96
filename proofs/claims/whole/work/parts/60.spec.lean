/-! ===== what each call answers and leaves: pure ===== -/
/-- the j-th byte of an int -/
def byt (v : Int32) (j : Nat) : Nat := ((v >>> (nI (24 - 8 * j) &&& 31)) &&& 255).toNatClampNeg
theorem byt_ok (v : Int32) (j : Nat) : byt v j < 256 ∧ (v >>> (nI (24 - 8 * j) &&& 31)) &&& 255 = nI (byt v j) := by
  unfold byt
  obtain ⟨n, hn, e⟩ := pk_andE (v >>> (nI (24 - 8 * j) &&& 31)) (m := 255) 8 (by decide)
  have hn' : n < 256 := hn
  have e' : (v >>> (nI (24 - 8 * j) &&& 31)) &&& 255 = nI n := e
  rw [e', nI_clamp (by omega)]
  exact ⟨hn', rfl⟩
theorem byt_sb (v : Int32) (j : Nat) : (v >>> (nI (24 - 8 * j) &&& 31)).toInt8.toInt32 = sb (byt v j) := by
  unfold sb
  rw [← (byt_ok v j).2, fa_byte_low]
def w1 (T : Nat → Nat) (l b : Nat) : Nat → Nat := fun i => if i = l then b else T i
def wvj (T : Nat → Nat) (l : Nat) (v : Int32) : Nat → Nat → Nat
  | 0 => T
  | j + 1 => w1 (wvj T l v j) (l + j) (byt v j)
def setT (s : Sx) (T : Nat → Nat) (l : Nat) : Sx := (s.1, s.2.1, T, l, s.2.2.2.2)
def setF (s : Sx) (f : Int32) : Sx := (s.1, s.2.1, s.2.2.1, s.2.2.2.1, f, s.2.2.2.2.2)
def fed5 (T : Nat → Nat) (l : Nat) (a b c d e : Int32) : Nat → Nat := wvj (wvj (wvj (wvj (wvj T l a 4) (l + 4) b 4) (l + 8) c 4) (l + 12) d 4) (l + 16) e 4
def sFeed (s : Sx) (a b c d e : Int32) : Rs := if sll s + 20 ≤ 500 then okR (nI (sll s + 20)) (setT s (fed5 (sTT s) (sll s) a b c d e) (sll s + 20)) else okR (-1) s
def sText (s : Sx) (x : Int32) : Rs := if 0 ≤ x.toInt ∧ x.toInt ≤ sll s then (match ptx (sTT s) x.toInt.toNat with
    | .inl (k, pl) => okR (nI k - 10) (setF (setT s (sTT s) 0) (nI pl))
    | .inr g => okR (nI (lnc g.2.1)) (setG (setH (setF (setT s (sTT s) 0) (-1)) (psh (shh s) (sgg s))) g)) else rej 1 1 s
def sFault (s : Sx) : Rs := okR (sff s) s
/-- an act: what was goes to the past -/
def act (s : Sx) (v : Int32) (g : Nw) : Rs := okR v (setG (setH s (psh (shh s) (sgg s))) g)
def sJoin (s : Sx) (x y z : Int32) : Rs := match nod (sgg s) x, nod (sgg s) y with
  | some a, some b => if a ≠ b ∧ 0 ≤ z.toInt ∧ z.toInt ≤ 999 then act s (nI (lnc (w2 (sgg s).2.1 a b (some z.toInt.toNat)))) (gPut (sgg s) a b (some z.toInt.toNat)) else rej 2 1 s
  | _, _ => rej 1 0 s
def gCut (g : Nw) (a b : Nat) : Nw := gPut (if g.2.2 a = some b then gUn g a else g) a b none
def sCut (s : Sx) (x y : Int32) : Rs := match nod (sgg s) x, nod (sgg s) y with
  | some a, some b => if a = b then rej 2 1 s else if (sgg s).2.1 a b = none then rej 3 2 s else act s (nI (lnc (gCut (sgg s) a b).2.1)) (gCut (sgg s) a b)
  | _, _ => rej 1 0 s
def gPair (g : Nw) (a b : Nat) : Nw := (g.1, g.2.1, m2 (m2 g.2.2 a (some b)) b (some a))
def sPair (s : Sx) (x y : Int32) : Rs := match nod (sgg s) x, nod (sgg s) y with
  | some a, some b => if a = b then rej 2 1 s else if (sgg s).2.1 a b = none ∨ (sgg s).2.2 a ≠ none ∨ (sgg s).2.2 b ≠ none then rej 3 2 s else act s (nI (cpr (gPair (sgg s) a b))) (gPair (sgg s) a b)
  | _, _ => rej 1 0 s
def sPart (s : Sx) (x : Int32) : Rs := match nod (sgg s) x with
  | some a => (match (sgg s).2.2 a with
    | none => rej 2 2 s
    | some b => act s (nI b) (gUn (sgg s) a))
  | none => rej 1 0 s
noncomputable def sBetter (s : Sx) (x : Int32) : Rs := match nod (sgg s) x with
  | some a => (match pth (sgg s) a with
    | none => rej 2 2 s
    | some l => act s (nI (cpr ((sgg s).1, (sgg s).2.1, bpr (sgg s).2.2 l))) ((sgg s).1, (sgg s).2.1, bpr (sgg s).2.2 l))
  | none => rej 1 0 s
def sFinish (s : Sx) : Rs := act s (nI (cpr ((sgg s).1, (sgg s).2.1, fstm (sgg s))) - nI (cpr (sgg s))) ((sgg s).1, (sgg s).2.1, fstm (sgg s))
noncomputable def shrG (g : Nw) (a : Nat) (l : List Nat) : Nw := @dite _ (∃ g', ShrOf g (gof (l.drop 1) 0) a l.length g') (Classical.propDecidable _) (fun h => Classical.choose h) (fun _ => g)
theorem shrG_eq {g g' : Nw} {a : Nat} {l : List Nat} (h : ShrOf g (gof (l.drop 1) 0) a l.length g') : shrG g a l = g' := by
  unfold shrG
  rw [dif_pos ⟨g', h⟩]
  exact ShrOf.uniq (Classical.choose_spec _) h
noncomputable def sShrink (s : Sx) (x : Int32) : Rs := match nod (sgg s) x with
  | some a => (match flw (sgg s) a with
    | none => rej 2 2 s
    | some l => act s (nI (shrG (sgg s) a l).1) (shrG (sgg s) a l))
  | none => rej 1 0 s
def sUndo (s : Sx) : Rs := match (shh s).getLast? with
  | none => okR (-1) s
  | some g => okR (nI ((shh s).length - 1)) (setG (setH s (shh s).dropLast) g)
def sTold (s : Sx) (x : Int32) : Rs := if 0 ≤ x.toInt ∧ x.toInt ≤ 7 then okR (match x.toInt.toNat with
    | 0 => nI (sgg s).1
    | 1 => nI (lnc (sgg s).2.1)
    | 2 => nI (cpr (sgg s))
    | 3 => nI (mst (sgg s) (al (sgg s)))
    | 4 => msI (sgg s)
    | 5 => nI (wpr (sgg s))
    | 6 => nI (sll s)
    | _ => nI (shh s).length) s else rej 1 1 s
def b01 (p : Prop) [Decidable p] : Int32 := if p then 1 else 0
def sLine (s : Sx) (x y z : Int32) : Rs := match nod (sgg s) x, nod (sgg s) y with
  | some a, some b => if a ≠ b ∧ 0 ≤ z.toInt ∧ z.toInt ≤ 4 then okR (match z.toInt.toNat with
      | 0 => b01 (((sgg s).2.1 a b).isSome = true)
      | 1 => wI ((sgg s).2.1 a b)
      | 2 => b01 ((sgg s).2.2 a = some b)
      | 3 => b01 (((sgg s).2.1 a b).isSome = true ∧ mst (sgg s) (wo (sgg s) a b) + 1 = mst (sgg s) (al (sgg s)))
      | _ => b01 ((((sgg s).2.1 a b).isSome = true ∧ mst (sgg s) (wo (sgg s) a b) + 1 = mst (sgg s) (al (sgg s))) ∧ cnq (sgg s) (wo (sgg s) a b) = cnq (sgg s) (al (sgg s)))) s else rej 2 1 s
  | _, _ => rej 1 0 s
noncomputable def sNode (s : Sx) (x z : Int32) : Rs := match nod (sgg s) x with
  | some a => if 0 ≤ z.toInt ∧ z.toInt ≤ 4 then okR (match z.toInt.toNat with
      | 0 => nI (pop (nbr (sgg s).2.1 a))
      | 1 => wI ((sgg s).2.2 a)
      | 2 => if (lab (sgg s) 0).testBit a = true then 0 else if (lab (sgg s) 1).testBit a = true then 1 else 2
      | 3 => if (setz (sgg s) 0).testBit a = true then 0 else if (setz (sgg s) 1).testBit a = true then 1 else 2
      | _ => wI (fstm (sgg s) a)) s else rej 2 1 s
  | none => rej 1 0 s
noncomputable def sSets (s : Sx) (x : Int32) : Rs := if 0 ≤ x.toInt ∧ x.toInt ≤ 5 then okR (if x.toInt.toNat < 3 then nI (setz (sgg s) x.toInt.toNat) else nI (lab (sgg s) (x.toInt.toNat - 3))) s else rej 1 1 s
def sOdd (s : Sx) (x : Int32) : Rs := if 0 ≤ x.toInt ∧ x.toInt ≤ al (sgg s) then okR (nI (od (sgg s).2.1 (dif (al (sgg s)) x.toInt.toNat))) s else rej 1 1 s
def sBarrier (s : Sx) (x : Int32) : Rs := if x = 0 then okR (nI (bv (brk (okB (sgg s) (msI (sgg s))) ltS (2 ^ (sgg s).1)))) s else if x = 1 then okR (nI (bv (brk (okB (sgg s) (msI (sgg s))) ltG (2 ^ (sgg s).1)))) s else rej 1 1 s
def sWays (s : Sx) : Rs := okR (nI (cnq (sgg s) (al (sgg s)))) s
def sHeavy (s : Sx) (x : Int32) : Rs := if x = 0 then okR (nI (Tq (sgg s).2.1 (al (sgg s))).2.2.1) s else if x = 1 then okR (nI (Tq (sgg s).2.1 (al (sgg s))).2.2.2) s else rej 1 1 s
def sRow (s : Sx) (o : Option (List Nat)) (less : Nat) (x : Int32) : Rs := match o with
  | none => okR (-1) s
  | some l => if x = -1 then okR (nI (l.length - less)) s else if 0 ≤ x.toInt ∧ x.toInt < l.length then okR (nI (l.getD x.toInt.toNat 0)) s else rej 1 0 s
noncomputable def sPath (s : Sx) (x i : Int32) : Rs := match nod (sgg s) x with
  | some a => sRow s (pth (sgg s) a) 1 i
  | none => rej 1 0 s
noncomputable def sFlower (s : Sx) (x i : Int32) : Rs := match nod (sgg s) x with
  | some a => sRow s (flw (sgg s) a) 0 i
  | none => rej 1 0 s
def sStatus (s : Sx) (x : Int32) : Rs := if 0 ≤ x.toInt ∧ x.toInt < 3 then okR (srr s x.toInt.toNat) s else okR (-1) s
/-- print: mates, then weights -/
def prM (g : Nw) : Nat → Int64 → Int64
  | 0, v => v
  | k + 1, v => prM g k v * 31 + (wI (g.2.2 k)).toInt64
def prR (g : Nw) (a : Nat) : Nat → Int64 → Int64
  | 0, v => v
  | k + 1, v => if a < k ∧ (g.2.1 a k).isSome = true then prR g a k v * 31 + (wI (g.2.1 a k)).toInt64 else prR g a k v
def prW (g : Nw) : Nat → Int64 → Int64
  | 0, v => v
  | k + 1, v => prR g k g.1 (prW g k v)
def prt (g : Nw) : Int64 := prW g g.1 (prM g g.1 0)
