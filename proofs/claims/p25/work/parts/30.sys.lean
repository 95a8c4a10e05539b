/-! the whole: now, the history, the text of commands; what each call answers and makes of it -/
abbrev aY : Type := aS × List aS × List Nat
def yCur (y : aY) : aS := y.1
def yHist (y : aY) : List aS := y.2.1
def yCmds (y : aY) : List Nat := y.2.2
def y0 : aY := (s0, [], [])
def okY (y : aY) : Prop := okS (yCur y) ∧ (∀ s ∈ yHist y, okS s) ∧ charOK (yCmds y) ∧ (yHist y).length ≤ 4
def pushY (y : aY) (s : aS) : aY := (s, (yCur y :: yHist y).take 4, yCmds y)
theorem okS0 : okS s0 := ⟨invS0, by decide⟩
theorem okY0 : okY y0 := ⟨okS0, fun s h => (by cases h), ⟨by decide, fun c h => (by cases h)⟩, by decide⟩
theorem okY_push {y : aY} {s : aS} (h : okY y) (hs : okS s) : okY (pushY y s) := by
  obtain ⟨h1, h2, h3, h4⟩ := h
  refine ⟨hs, fun z hz => ?_, h3, ?_⟩
  · rcases List.mem_cons.mp (List.mem_of_mem_take hz) with rfl | q
    · exact h1
    · exact h2 z q
  · show ((yCur y :: yHist y).take 4).length ≤ 4
    rw [List.length_take]; omega
theorem upE_self (s : aS) (k : Nat) : upE s k (sEd s k) = s := by
  obtain ⟨a, f⟩ := s
  have : va_up f k (f k) = f := by
    funext j
    by_cases e : j = k
    · subst e; simp [va_up]
    · simp [va_up, e]
  show (a, va_up f k (f k)) = (a, f)
  rw [this]
theorem neg_lit : ((-1 : Int32) < 0) ∧ ((-2 : Int32) < 0) ∧ ((-3 : Int32) < 0) ∧ ((-4 : Int32) < 0) := by decide
/-- an error leaves the state as it was; an answer without error isn't below 0 -/
theorem liftE_err {s : aS} {k : Nat} {r : Int32 × aE} (h : r.1 < 0 → r.2 = sEd s k) (h2 : (liftE s k r).1 < 0) : (liftE s k r).2 = s := by
  show upE s k r.2 = s
  rw [h h2, upE_self]
theorem opAns_err {s : aS} (h : okS s) (call number place sign : Int32) (hn : (opAns s call number place sign).1 < 0) : (opAns s call number place sign).2 = s := by
  have hk := ixE_lt number
  have hI := h.1.1 _ hk
  have hbd := hI.bound
  have hl := h.2
  have hp := pend_le hI
  have h9 := hI.2.2.2.2.2.2.2.2.1
  have hb6 := hI.2.2.2.2.1
  have hm := hI.2.2.2.2.2.2.2.1
  have h1 := hI.1
  unfold opAns at hn ⊢
  generalize ixE number = k at *
  split at hn
  next c => rw [if_pos c]
  next c =>
  rw [if_neg c]
  split at hn
  next c => 
    rw [if_pos c]
    refine liftE_err (fun q => ?_) hn
    unfold opMark at q ⊢
    split at q
    next c => rw [if_pos c]
    next c => exact absurd q (nI_pos (by omega))
  next c =>
  rw [if_neg c]
  split at hn
  next c =>
    rw [if_pos c]
    refine liftE_err (fun q => ?_) hn
    unfold opBack at q ⊢
    split at q
    next c => rw [if_pos c]
    next c =>
      rw [if_neg c]
      split at q
      next c2 => rw [if_pos c2]
      next c2 =>
        have hg := hI.2.2.2.1 _ (lastB_mem c)
        exact absurd q (nI_pos (by have := hg.1.1; omega))
  next c =>
  rw [if_neg c]
  split at hn
  next c =>
    rw [if_pos c]
    refine liftE_err (fun q => ?_) hn
    unfold opDel at q ⊢
    split at q
    next c => rw [if_pos c]
    next c =>
      rw [if_neg c]
      split at q
      next c2 => rw [if_pos c2]
      next c2 =>
        obtain ⟨j, hj, rfl, hj2⟩ := Int32_of (fun q => c (Or.inl q))
        rw [hj2] at q
        have hc : nI j < nI (aCopy (sEd s k)).length := Decidable.byContradiction (fun q => c (Or.inr q))
        rw [nI_ltI (by omega) (by omega)] at hc
        have : (aCopy (sEd s k)).getD j 0 < 26 := by
          rw [List.getD_eq_getElem?_getD, List.getElem?_eq_getElem hc]
          exact h9 _ (List.getElem_mem hc)
        exact absurd q (nI_pos (by omega))
  next c =>
  rw [if_neg c]
  split at hn
  next c =>
    rw [if_pos c]
    refine liftE_err (fun q => ?_) hn
    unfold opHear at q ⊢
    split at q
    next c => rw [if_pos c]
    next c =>
      have : rHear k (sLog s) (sEd s k) ≤ 2 := by
        unfold rHear
        split
        · omega
        · have hu2 : (sLog s)[aHeard (sEd s k)]? = some (nextU (sLog s) (sEd s k)) := by
            unfold nextU
            rw [List.getD_eq_getElem?_getD, List.getElem?_eq_getElem (by omega)]; rfl
          obtain ⟨gu, fu⟩ := chain_at hI.2.2.2.2.2.2.2.2.2.2.1 hu2
          exact (passT_ok _ _ _ hI.2.1 gu fu (by omega)).2.1.1
      exact absurd q (nI_pos (by omega))
  next c =>
  rw [if_neg c]
  split at hn
  next c =>
    rw [if_pos c]
    refine liftE_err (fun q => ?_) hn
    unfold opIns at q ⊢
    split at q
    next c => rw [if_pos c]
    next c =>
      rw [if_neg c]
      split at q
      next c2 => rw [if_pos c2]
      next c2 =>
        obtain ⟨j, hj, rfl, hj2⟩ := Int32_of (fun q => c (Or.inl q))
        obtain ⟨i, hi, rfl, hi2⟩ := Int32_of (fun q => c (Or.inr (Or.inr (Or.inl q))))
        rw [hj2, hi2] at q
        have h1 : ¬ nI (aCopy (sEd s k)).length < nI j := fun q => c (Or.inr (Or.inl q))
        rw [nI_ltI (by omega) (by omega)] at h1
        have h3 : nI i < 26 := Decidable.byContradiction (fun q => c (Or.inr (Or.inr (Or.inr q))))
        rw [li 26, nI_ltI (by omega) (by omega)] at h3
        have := (inv_ins hI (p := j) (l := i) (by omega) h3 (by omega) (by omega) (by omega)).1.bound
        have hp2 := (inv_ins hI (p := j) (l := i) (by omega) h3 (by omega) (by omega) (by omega)).2
        exact absurd q (nI_pos (by omega))
  next c =>
  rw [if_neg c]
  split at hn
  next c =>
    rw [if_pos c]
    unfold opSend at hn ⊢
    split at hn
    next c =>
      rw [if_pos c]
      split at hn
      next c2 => rw [if_pos c2]
      next c2 => exact absurd hn (nI_pos (by omega))
    next c => rw [if_neg c]
  next c =>
    rw [if_neg c]
    refine liftE_err (fun q => ?_) hn
    unfold opHearAll at q ⊢
    split at q
    next c => rw [if_pos c]
    next c => exact absurd q (nI_pos (by omega))
def recY (y : aY) (call a b c : Int32) : Int32 × aY := if (opAns (yCur y) call a b c).1 < 0 then ((opAns (yCur y) call a b c).1, y) else ((opAns (yCur y) call a b c).1, pushY y (opAns (yCur y) call a b c).2)
theorem recY_ok {y : aY} (h : okY y) (call a b c : Int32) : okY (recY y call a b c).2 := by
  unfold recY
  split
  · exact h
  · exact okY_push h (opAns_ok h.1 _ _ _ _)
def clearY (y : aY) : Int32 × aY := (nI (sLog (yCur y)).length, pushY y s0)
def rPart (c : Ch) (what : Int32) : Int32 := if what = 0 then nI (cK c) else if what = 1 then (if cK c = 0 then -4 else nI (cP c)) else if what = 2 then (if cK c = 1 then nI (cL c) else -4) else nI (cE c)
def rGet {α : Type} (f : α → Int32) (L : List α) (d : α) (p : Int32) : Int32 := if nI L.length ≤ p then -4 else f (L.getD p.toNatClampNeg d)
def noEd (x : Int32) : Prop := x < 0 ∨ ¬ x < 3
def rLetter (y : aY) (whose place : Int32) : Int32 :=
  if (whose < 0 ∨ ¬ whose < 3) ∧ ¬ whose = 3 then -1 else if place < 0 then -1
  else if whose = 3 then rGet fL (txt (sLog (yCur y))) (0, 0) place else rGet nI (aCopy (sEd (yCur y) (ixE whose))) 0 place
def rEditor (y : aY) (e what : Int32) : Int32 :=
  if e < 0 ∨ ¬ e < 3 then -1
  else if what = 0 then nI (aCopy (sEd (yCur y) (ixE e))).length else if what = 1 then nI (aWait (sEd (yCur y) (ixE e))).length
  else if what = 2 then bI (aWay (sEd (yCur y) (ixE e))) else if what = 3 then nI (aHeard (sEd (yCur y) (ixE e)))
  else if what = 4 then nI ((sLog (yCur y)).length - aHeard (sEd (yCur y) (ixE e))) else if what = 5 then nI (aMark (sEd (yCur y) (ixE e)))
  else if what = 6 then nI (aBacks (sEd (yCur y) (ixE e))).length else if what = 7 then (if (aCopy (sEd (yCur y) (ixE e))).map nI = (txt (sLog (yCur y))).map fL then 1 else 0)
  else if what = 8 then aWr (sEd (yCur y) (ixE e)) else -1
def rRow (L : List Ch) (i what : Int32) : Int32 := if nI L.length ≤ i then -4 else rPart (L.getD i.toNatClampNeg (mkC 0 0 0 0)) what
def rWaiting (y : aY) (e i what : Int32) : Int32 := if e < 0 ∨ ¬ e < 3 then -1 else if i < 0 then -1 else if what < 0 ∨ ¬ what ≤ 2 then -1 else rRow (aWait (sEd (yCur y) (ixE e))) i what
def rLog (y : aY) (i what : Int32) : Int32 := if i < 0 then -1 else if what < 0 ∨ ¬ what ≤ 3 then -1 else rRow (sLog (yCur y)) i what
def rBy (y : aY) (p : Int32) : Int32 := if p < 0 then -1 else rGet fB (txt (sLog (yCur y))) (0, 0) p
def rCount (y : aY) (what : Int32) : Int32 :=
  if what = 0 then nI (sLog (yCur y)).length else if what = 1 then nI (txt (sLog (yCur y))).length else if what = 2 then nI (nothN (sLog (yCur y)))
  else if what = 3 then nI ((aWait (sEd (yCur y) 0)).length + (aWait (sEd (yCur y) 1)).length + (aWait (sEd (yCur y) 2)).length)
  else if what = 4 then nI (setN (yCur y) 3) else if what = 5 then nI (yHist y).length else if what = 6 then nI (yCmds y).length else -1
def rInEnd (y : aY) (o p : Int32) : Int32 := if o < 0 ∨ 1 < o then -1 else if p < 0 then -1 else rGet fL (txt (sLog (endS (yCur y) (decide (o = 1))))) (0, 0) p
def allSame (s : aS) : Prop := ∀ k, k < 3 → sameE s k
noncomputable def bP (P : Prop) : Int32 := by classical exact if P then 1 else 0
theorem bP_t {P : Prop} (h : P) : bP P = 1 := by unfold bP; exact if_pos h
theorem bP_f {P : Prop} (h : ¬ P) : bP P = 0 := by unfold bP; exact if_neg h
noncomputable def rBoth (y : aY) (what : Int32) : Int32 :=
  if what < 0 ∨ ¬ what ≤ 3 then -1
  else if what = 0 then nI (txt (sLog (endS (yCur y) false))).length else if what = 1 then nI (txt (sLog (endS (yCur y) true))).length
  else if what = 2 then bP ((txt (sLog (endS (yCur y) false))).map fL = (txt (sLog (endS (yCur y) true))).map fL)
  else bP (allSame (endS (yCur y) false) ∧ allSame (endS (yCur y) true))
def rWould (y : aY) (e what : Int32) : Int32 := if e < 0 ∨ ¬ e < 3 then -1 else if what < 0 ∨ ¬ what ≤ 1 then -1 else if canS (yCur y) (ixE e) = true then rPart (outS (yCur y) (ixE e)) what else -2
def undoY (y : aY) : Int32 × aY := match yHist y with
  | [] => (-2, y)
  | s :: h => (nI h.length, (s, h, yCmds y))
def typeY (y : aY) (c : Int32) : Int32 × aY := if c < 32 ∨ ¬ c ≤ 126 then (-1, y) else if 60 ≤ (yCmds y).length then (-3, y) else (nI ((yCmds y).length + 1), (yCur y, yHist y, yCmds y ++ [c.toNatClampNeg]))
def clearTY (y : aY) : Int32 × aY := (nI (yCmds y).length, (yCur y, yHist y, []))
def rFault (y : aY) (what : Int32) : Int32 := if what < 0 ∨ ¬ what ≤ 2 then -1
  else if (runT (yCmds y) (yCur y)).1 = 0 then -4 else if what = 0 then nI (runT (yCmds y) (yCur y)).2.1 else if what = 1 then nI (runT (yCmds y) (yCur y)).1
  else if (runT (yCmds y) (yCur y)).1 = 1 then -4 else (runT (yCmds y) (yCur y)).2.2.1
def playY (y : aY) : Int32 × aY := if (runT (yCmds y) (yCur y)).1 = 0 then (nI (runT (yCmds y) (yCur y)).2.2.2.1, pushY y (runT (yCmds y) (yCur y)).2.2.2.2) else (-2, y)
theorem undoY_ok {y : aY} (h : okY y) : okY (undoY y).2 := by
  obtain ⟨h1, h2, h3, h4⟩ := h
  unfold undoY
  cases hh : yHist y with
  | nil => exact ⟨h1, h2, h3, h4⟩
  | cons s l =>
    rw [hh] at h2 h4
    exact ⟨h2 s List.mem_cons_self, fun z hz => h2 z (List.mem_cons_of_mem _ hz), h3, by show l.length ≤ 4; rw [List.length_cons] at h4; omega⟩
theorem typeY_ok {y : aY} (h : okY y) (c : Int32) : okY (typeY y c).2 := by
  unfold typeY
  split
  · exact h
  split
  · exact h
  · next c1 c2 =>
    obtain ⟨h1, h2, h3, h4⟩ := h
    have hp : ¬ c < 0 := fun q => c1 (Or.inl (by rw [Int32.lt_iff_toInt_lt] at q ⊢; have e0 : (0 : Int32).toInt = 0 := by decide
                                                 have e1 : (32 : Int32).toInt = 32 := by decide
                                                 omega))
    obtain ⟨j, hj, rfl, hj2⟩ := Int32_of hp
    have h5 : nI j ≤ 126 := Decidable.byContradiction (fun q => c1 (Or.inr q))
    rw [li 126, nI_leI (by omega) (by omega)] at h5
    refine ⟨h1, h2, ⟨?_, fun x hx => ?_⟩, h4⟩
    · show (yCmds y ++ [_]).length ≤ 60
      rw [List.length_append]; show _ + 1 ≤ 60; omega
    · rcases List.mem_append.mp hx with q | q
      · exact h3.2 x q
      · rw [List.mem_singleton.mp q, hj2]; exact h5
theorem clearTY_ok {y : aY} (h : okY y) : okY (clearTY y).2 := ⟨h.1, h.2.1, ⟨by show 0 ≤ 60; omega, fun c hc => by cases hc⟩, h.2.2.2⟩
theorem playY_ok {y : aY} (h : okY y) : okY (playY y).2 := by
  unfold playY
  split
  · exact okY_push h (runC_ok _ _ _ _ h.1)
  · exact h
