/-! an editor, and what its acts make of it -/
abbrev aE : Type := List Nat × List Ch × List Ch × Bool × Nat × Nat × Int32
def aCopy (d : aE) : List Nat := d.1
def aWait (d : aE) : List Ch := d.2.1
def aBacks (d : aE) : List Ch := d.2.2.1
def aWay (d : aE) : Bool := d.2.2.2.1
def aHeard (d : aE) : Nat := d.2.2.2.2.1
def aMark (d : aE) : Nat := d.2.2.2.2.2.1
def aWr (d : aE) : Int32 := d.2.2.2.2.2.2
def mkE (copy : List Nat) (wait backs : List Ch) (way : Bool) (heard mark : Nat) (wr : Int32) : aE := (copy, wait, backs, way, heard, mark, wr)
def markC (m : Nat) (c : Ch) : Nat := if cK c = 1 then (if cP c ≤ m then m + 1 else m) else if cK c = 2 then (if cP c < m then m - 1 else m) else m
def sApply (d : aE) (c : Ch) : aE := mkE (applC (cL c) (aCopy d) c) (aWait d) ((aBacks d).map (fun a => resh a c)) (aWay d) (aHeard d) (markC (aMark d) c) (aWr d)
def sWrite (d : aE) (c : Ch) : aE := mkE (aCopy (sApply d c)) (aWait d ++ [c]) (aBacks (sApply d c)) (aWay d) (aHeard d) (aMark (sApply d c)) (aWr d + 1)
def keepL (l : List Ch) (c : Ch) : List Ch := if 6 ≤ l.length then l.eraseIdx 0 ++ [c] else l ++ [c]
def sKeep (d : aE) (c : Ch) : aE := mkE (aCopy d) (aWait d) (keepL (aBacks d) c) (aWay d) (aHeard d) (aMark d) (aWr d)
def sIns (k : Nat) (d : aE) (p l : Nat) : aE := sKeep (sWrite d (mkC 1 p l k)) (mkC 2 p 0 k)
def sDel (k : Nat) (d : aE) (p : Nat) : aE := sKeep (sWrite d (mkC 2 p 0 k)) (mkC 1 p ((aCopy d).getD p 0) k)
def lastB (d : aE) : Ch := (aBacks d).getD ((aBacks d).length - 1) (mkC 0 0 0 0)
def popB (d : aE) : aE := mkE (aCopy d) (aWait d) ((aBacks d).eraseIdx ((aBacks d).length - 1)) (aWay d) (aHeard d) (aMark d) (aWr d)
def sBack (d : aE) : aE := if cK (lastB d) = 0 then popB d else sWrite (popB d) (lastB d)
def sMark (d : aE) (p : Nat) : aE := mkE (aCopy d) (aWait d) (aBacks d) (aWay d) (aHeard d) p (aWr d)
def sSent (d : aE) : aE := mkE (aCopy d) (aWait d) (aBacks d) true (aHeard d) (aMark d) (aWr d)
def firstW (d : aE) : Ch := (aWait d).getD 0 (mkC 0 0 0 0)
def nextU (log : List Ch) (d : aE) : Ch := log.getD (aHeard d) (mkC 0 0 0 0)
/-- the next change is heard -/
def sHear (k : Nat) (log : List Ch) (d : aE) : aE :=
  if cE (nextU log d) = k then mkE (aCopy d) ((aWait d).eraseIdx 0) (aBacks d) false (aHeard d + 1) (aMark d) (aWr d)
  else sApply (mkE (aCopy d) (passT (aWait d) (nextU log d)).1 (aBacks d) (aWay d) (aHeard d + 1) (aMark d) (aWr d)) (passT (aWait d) (nextU log d)).2
def rHear (k : Nat) (log : List Ch) (d : aE) : Nat := if cE (nextU log d) = k then 0 else cK (passT (aWait d) (nextU log d)).2
def sHearN (k : Nat) (log : List Ch) (d : aE) : Nat → aE
  | 0 => d
  | n + 1 => sHearN k log (sHear k log d) n
def sHearAll (k : Nat) (log : List Ch) (d : aE) : aE := sHearN k log d (log.length - aHeard d)
def d0 : aE := mkE [] [] [] false 0 0 0
/-- the editor k: what holds of it and the log -/
def wayOK (k : Nat) (us : List Ch) (d : aE) : Prop := (aWay d = true ∧ ∃ (w : Ch) (ws pre post : List Ch), aWait d = w :: ws ∧ us = pre ++ outC w pre :: post ∧ (∀ c ∈ pre, cE c ≠ k) ∧ ∀ c ∈ post, cE c ≠ k) ∨ (aWay d = false ∧ ∀ c ∈ us, cE c ≠ k)
def pend (d : aE) : Nat := (aWait d).length - (if aWay d = true then 1 else 0)
def invE (k : Nat) (log : List Ch) (d : aE) : Prop :=
  aHeard d ≤ log.length ∧ chain (lenC 0 (log.take (aHeard d))) (aWait d) ∧ (aCopy d).length = lenC (lenC 0 (log.take (aHeard d))) (aWait d) ∧
  (∀ c ∈ aBacks d, good c ∧ fitsC (aCopy d).length c ∧ cE c = k) ∧ (aBacks d).length ≤ 6 ∧ (∀ c ∈ aWait d, cE c = k) ∧ (aWait d).length ≤ 6 ∧ aMark d ≤ (aCopy d).length ∧ (∀ a ∈ aCopy d, a < 26) ∧ wayOK k (log.drop (aHeard d)) d ∧
  chain 0 log ∧ log.length + pend d ≤ 78 ∧ k < 3
theorem invE.bound {k : Nat} {log : List Ch} {d : aE} (h : invE k log d) : aHeard d + (aWait d).length ≤ log.length + pend d ∧ (aCopy d).length ≤ log.length + pend d ∧ lenC 0 (log.take (aHeard d)) ≤ aHeard d := by
  obtain ⟨h1, h2, h3, h4, h5, h6, h7, h8, h9, h10, h11, h12⟩ := h
  have a1 : lenC 0 (log.take (aHeard d)) ≤ aHeard d := by
    have := lenC_le (log.take (aHeard d)) 0
    rw [List.length_take] at this
    omega
  have a2 := lenC_le (aWait d) (lenC 0 (log.take (aHeard d)))
  have a3 : aHeard d + (aWait d).length ≤ log.length + pend d := by
    unfold pend
    rcases h10 with ⟨hw, w, ws, pre, post, e1, e2, -, -⟩ | ⟨hw, -⟩
    · rw [if_pos hw]
      have := congrArg List.length e2
      rw [List.length_drop, List.length_append, List.length_cons] at this
      have := congrArg List.length e1
      rw [List.length_cons] at this
      omega
    · rw [if_neg (by rw [hw]; decide)]
      omega
  exact ⟨a3, by omega, a1⟩
theorem invE0 (k : Nat) (hk : k < 3) : invE k [] d0 := ⟨Nat.le_refl _, trivial, rfl, fun c h => (by cases h), Nat.zero_le _, fun c h => (by cases h), Nat.zero_le _, Nat.le_refl _, fun c h => (by cases h), Or.inr ⟨rfl, fun c h => (by cases h)⟩, trivial, by decide, hk⟩
theorem applC_mem {L : List Nat} {c : Ch} (h : ∀ a ∈ L, a < 26) (hl : cL c < 26) (f : fitsC L.length c) : ∀ a ∈ applC (cL c) L c, a < 26 := by
  intro a ha
  unfold applC at ha
  split at ha
  next k1 =>
    rcases (List.mem_insertIdx (f.1 k1)).mp ha with h1 | h1
    · rw [h1]; exact hl
    · exact h a h1
  next k1 =>
    split at ha
    · exact h a (List.mem_of_mem_eraseIdx ha)
    · exact h a ha
theorem markC_le {n m : Nat} {c : Ch} (h : m ≤ n) (f : fitsC n c) : markC m c ≤ aft n c := by
  obtain ⟨f1, f2⟩ := f
  unfold markC aft
  repeat' split
  all_goals omega
/-- a change in the copy keeps what holds of copy, backs, mark -/
theorem sApply_copy {d : aE} {c : Ch} (f : fitsC (aCopy d).length c) : (aCopy (sApply d c)).length = aft (aCopy d).length c := applC_len f
theorem sApply_backs {k : Nat} {d : aE} {c : Ch} (g : good c) (f : fitsC (aCopy d).length c) (h : ∀ a ∈ aBacks d, good a ∧ fitsC (aCopy d).length a ∧ cE a = k) (hn : (aCopy d).length ≤ 78) : ∀ a ∈ aBacks (sApply d c), good a ∧ fitsC (aCopy (sApply d c)).length a ∧ cE a = k := by
  intro a ha
  obtain ⟨b, hb, rfl⟩ := List.mem_map.mp ha
  obtain ⟨h1, h2, h3⟩ := h b hb
  obtain ⟨r1, r2⟩ := resh_ok h1 g h2 f hn
  rw [sApply_copy f]
  exact ⟨r1, r2, by rw [resh_E]; exact h3⟩
theorem outC_drop {w : Ch} {us : List Ch} {u : Ch} {h : Nat} (hu : us[h]? = some u) : us.drop h = u :: us.drop (h + 1) := by
  obtain ⟨h1, h2⟩ := List.getElem?_eq_some_iff.mp hu
  rw [← h2]; exact List.drop_eq_getElem_cons h1
