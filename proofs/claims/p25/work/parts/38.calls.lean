/-! the class's calls at numbers that are in range -/
def lowN (v : Int32) (N : Nat) : Nat := v.toBitVec.toNat % 2 ^ 31 % N
theorem lowN_lt (v : Int32) {N : Nat} (h : 0 < N) : lowN v N < N := Nat.mod_lt _ h
theorem s_low {v n : Int32} (N : Nat) (hn : n = nI N) (h0 : 0 < N) (hN : N < 2 ^ 31) {Q : Int32 → Prop} (hQ : Q (nI (lowN v N))) : wp_X8_low v n Q := by
  subst hn
  unfold wp_X8_low
  refine ⟨nI_ne0 h0 hN, ?_⟩
  rw [pk_and v 31 (by decide), pk_rem (Nat.mod_lt _ (by decide)) h0 hN]
  exact hQ
theorem ed_in {e : Nat} (he : e < 3) : ¬ (nI e < 0 ∨ ¬ nI e < 3) := by
  rintro (q | q)
  · exact nI_pos (by omega) q
  · exact q (by rw [li 3, nI_ltI (by omega) (by omega)]; exact he)
theorem edf {y : aY} (ok : okZ y) {e : Nat} (he : e < 3) : (aCopy (sEd (yCur y) e)).length ≤ 78 ∧ (aWait (sEd (yCur y) e)).length ≤ 6 ∧ (aBacks (sEd (yCur y) e)).length ≤ 6 ∧ aMark (sEd (yCur y) e) ≤ (aCopy (sEd (yCur y) e)).length ∧ aHeard (sEd (yCur y) e) ≤ (sLog (yCur y)).length ∧ (sLog (yCur y)).length ≤ 60 ∧ ∀ a ∈ aCopy (sEd (yCur y) e), a < 26 := by
  have hI := ok.1.1.1.1 e he
  have hl := ok.1.1.2
  have hb := hI.bound
  have hp := pend_le hI
  have ht := ok.1.1.1.2
  obtain ⟨h1, h2, h3, h4, h5, h6, h7, h8, h9, h10, h11, h12, h13⟩ := hI
  exact ⟨by omega, h7, h5, h8, h1, hl, h9⟩
section SC
variable {x : zX} {y : aY} {e : Nat}
theorem rE_at (he : e < 3) (w : Int32) : rEditor y (nI e) w = (if w = 0 then nI (aCopy (sEd (yCur y) e)).length else if w = 1 then nI (aWait (sEd (yCur y) e)).length else if w = 2 then bI (aWay (sEd (yCur y) e)) else if w = 3 then nI (aHeard (sEd (yCur y) e)) else if w = 4 then nI ((sLog (yCur y)).length - aHeard (sEd (yCur y) e)) else if w = 5 then nI (aMark (sEd (yCur y) e)) else if w = 6 then nI (aBacks (sEd (yCur y) e)).length else if w = 7 then (if (aCopy (sEd (yCur y) e)).map nI = (txt (sLog (yCur y))).map fL then 1 else 0) else if w = 8 then aWr (sEd (yCur y) e) else -1) := by
  unfold rEditor
  rw [if_neg (ed_in he), ixE_nI he]
theorem s_e0 (h : RX x y) (ok : okZ y) (he : e < 3) {Q : Int32 → Prop} (hQ : Q (nI (aCopy (sEd (yCur y) e)).length)) : wp_X6_editorOf x (nI e) 0 Q := by
  refine sx_editorOf h ok.1 (nI e) 0 ?_
  rw [rE_at he, if_pos rfl]; exact hQ
theorem s_e1 (h : RX x y) (ok : okZ y) (he : e < 3) {Q : Int32 → Prop} (hQ : Q (nI (aWait (sEd (yCur y) e)).length)) : wp_X6_editorOf x (nI e) 1 Q := by
  refine sx_editorOf h ok.1 (nI e) 1 ?_
  rw [rE_at he, if_neg (by decide), if_pos rfl]; exact hQ
theorem s_e2 (h : RX x y) (ok : okZ y) (he : e < 3) {Q : Int32 → Prop} (hQ : Q (bI (aWay (sEd (yCur y) e)))) : wp_X6_editorOf x (nI e) 2 Q := by
  refine sx_editorOf h ok.1 (nI e) 2 ?_
  rw [rE_at he, if_neg (by decide), if_neg (by decide), if_pos rfl]; exact hQ
theorem s_e3 (h : RX x y) (ok : okZ y) (he : e < 3) {Q : Int32 → Prop} (hQ : Q (nI (aHeard (sEd (yCur y) e)))) : wp_X6_editorOf x (nI e) 3 Q := by
  refine sx_editorOf h ok.1 (nI e) 3 ?_
  rw [rE_at he, if_neg (by decide), if_neg (by decide), if_neg (by decide), if_pos rfl]; exact hQ
theorem s_e4 (h : RX x y) (ok : okZ y) (he : e < 3) {Q : Int32 → Prop} (hQ : Q (nI ((sLog (yCur y)).length - aHeard (sEd (yCur y) e)))) : wp_X6_editorOf x (nI e) 4 Q := by
  refine sx_editorOf h ok.1 (nI e) 4 ?_
  rw [rE_at he, if_neg (by decide), if_neg (by decide), if_neg (by decide), if_neg (by decide), if_pos rfl]; exact hQ
theorem s_e5 (h : RX x y) (ok : okZ y) (he : e < 3) {Q : Int32 → Prop} (hQ : Q (nI (aMark (sEd (yCur y) e)))) : wp_X6_editorOf x (nI e) 5 Q := by
  refine sx_editorOf h ok.1 (nI e) 5 ?_
  rw [rE_at he, if_neg (by decide), if_neg (by decide), if_neg (by decide), if_neg (by decide), if_neg (by decide), if_pos rfl]; exact hQ
theorem s_e6 (h : RX x y) (ok : okZ y) (he : e < 3) {Q : Int32 → Prop} (hQ : Q (nI (aBacks (sEd (yCur y) e)).length)) : wp_X6_editorOf x (nI e) 6 Q := by
  refine sx_editorOf h ok.1 (nI e) 6 ?_
  rw [rE_at he, if_neg (by decide), if_neg (by decide), if_neg (by decide), if_neg (by decide), if_neg (by decide), if_neg (by decide), if_pos rfl]; exact hQ
theorem s_e7 (h : RX x y) (ok : okZ y) (he : e < 3) (hs : settled (yCur y) e) {Q : Int32 → Prop} (hQ : Q 1) : wp_X6_editorOf x (nI e) 7 Q := by
  refine sx_editorOf h ok.1 (nI e) 7 ?_
  have hq : (aCopy (sEd (yCur y) e)).map nI = (txt (sLog (yCur y))).map fL := sameE_of ok.2.1 he hs
  rw [rE_at he, if_neg (by decide), if_neg (by decide), if_neg (by decide), if_neg (by decide), if_neg (by decide), if_neg (by decide), if_neg (by decide), if_pos rfl, if_pos hq]; exact hQ
theorem s_c0 (h : RX x y) (ok : okZ y) {Q : Int32 → Prop} (hQ : Q (nI (sLog (yCur y)).length)) : wp_X6_count x 0 Q := by
  refine sx_count h ok.1 0 ?_
  unfold rCount
  rw [if_pos rfl]; exact hQ
theorem s_c1 (h : RX x y) (ok : okZ y) {Q : Int32 → Prop} (hQ : Q (nI (txt (sLog (yCur y))).length)) : wp_X6_count x 1 Q := by
  refine sx_count h ok.1 1 ?_
  unfold rCount
  rw [if_neg (by decide), if_pos rfl]; exact hQ
theorem s_c2 (h : RX x y) (ok : okZ y) {Q : Int32 → Prop} (hQ : Q (nI (nothN (sLog (yCur y))))) : wp_X6_count x 2 Q := by
  refine sx_count h ok.1 2 ?_
  unfold rCount
  rw [if_neg (by decide), if_neg (by decide), if_pos rfl]; exact hQ
def waitN (s : aS) : Nat → Nat
  | 0 => 0
  | i + 1 => waitN s i + (aWait (sEd s i)).length
theorem s_c3 (h : RX x y) (ok : okZ y) {Q : Int32 → Prop} (hQ : Q (nI (waitN (yCur y) 3))) : wp_X6_count x 3 Q := by
  refine sx_count h ok.1 3 ?_
  unfold rCount
  rw [if_neg (by decide), if_neg (by decide), if_neg (by decide), if_pos rfl]
  have e : waitN (yCur y) 3 = (aWait (sEd (yCur y) 0)).length + (aWait (sEd (yCur y) 1)).length + (aWait (sEd (yCur y) 2)).length := by
    simp only [waitN]
    omega
  rw [← e]; exact hQ
theorem s_c4 (h : RX x y) (ok : okZ y) {Q : Int32 → Prop} (hQ : Q (nI (setN (yCur y) 3))) : wp_X6_count x 4 Q := by
  refine sx_count h ok.1 4 ?_
  unfold rCount
  rw [if_neg (by decide), if_neg (by decide), if_neg (by decide), if_neg (by decide), if_pos rfl]; exact hQ
theorem rGet_nI {α : Type} (f : α → Int32) (L : List α) (d : α) {p : Nat} (hL : L.length < 2 ^ 31) (hp : p < 2 ^ 31) : rGet f L d (nI p) = if L.length ≤ p then -4 else f (L.getD p d) := by
  unfold rGet
  simp only [nI_leI hL hp, nI_clamp hp]
theorem txt_mem {log : List Ch} (hc : chain 0 log) : ∀ q ∈ txt log, q.1 < 26 ∧ q.2 < 3 := by
  have key : ∀ (cs : List Ch) (T : List (Nat × Nat)), chain T.length cs → (∀ q ∈ T, q.1 < 26 ∧ q.2 < 3) → ∀ q ∈ cs.foldl tstep T, q.1 < 26 ∧ q.2 < 3 := by
    intro cs
    induction cs with
    | nil => intro T _ h; exact h
    | cons c cs ih =>
      intro T hc h
      have h1 : (tstep T c).length = aft T.length c := applC_len hc.2.1
      refine ih (tstep T c) (by rw [h1]; exact hc.2.2) ?_
      intro q hq
      unfold tstep applC at hq
      split at hq
      next k1 =>
        rcases (List.mem_insertIdx (hc.2.1.1 k1)).mp hq with h2 | h2
        · rw [h2]; exact ⟨hc.1.2.1, hc.1.2.2.1⟩
        · exact h q h2
      next k1 =>
        split at hq
        · exact h q (List.mem_of_mem_eraseIdx hq)
        · exact h q hq
  exact key log [] hc (fun q h => by cases h)
theorem getD_mem {α : Type} {L : List α} {p : Nat} (d : α) (h : p < L.length) : L.getD p d ∈ L := by
  rw [List.getD_eq_getElem?_getD, List.getElem?_eq_getElem h]
  exact List.getElem_mem h
theorem chain_log (ok : okZ y) : chain 0 (sLog (yCur y)) := (ok.1.1.1.1 0 (by omega)).2.2.2.2.2.2.2.2.2.2.1
theorem txt_le {log : List Ch} (h : chain 0 log) : (txt log).length ≤ log.length := by
  rw [txt_len h]
  have := lenC_le log 0
  omega
theorem s_let (h : RX x y) (ok : okZ y) (he : e < 3) {p : Nat} (hp : p < 2 ^ 31) {Q : Int32 → Prop} (hQ : Q (if (aCopy (sEd (yCur y) e)).length ≤ p then -4 else nI ((aCopy (sEd (yCur y) e)).getD p 0))) : wp_X6_letter x (nI e) (nI p) Q := by
  have hf := edf ok he
  refine sx_letter h ok.1 (nI e) (nI p) ?_
  unfold rLetter
  have n3 : ¬ nI e = 3 := fun q => by
    have := (nI_eq (a := e) (b := 3) (by omega) (by omega)).mp q
    omega
  rw [if_neg (fun q => ed_in he q.1), if_neg (nI_pos hp), if_neg n3, ixE_nI he, rGet_nI _ _ _ (by omega) hp]
  exact hQ
theorem s_let3 (h : RX x y) (ok : okZ y) {p : Nat} (hp : p < 2 ^ 31) {Q : Int32 → Prop} (hQ : Q (if (txt (sLog (yCur y))).length ≤ p then -4 else fL ((txt (sLog (yCur y))).getD p (0, 0)))) : wp_X6_letter x 3 (nI p) Q := by
  have hl := ok.1.1.2
  have ht := txt_le (chain_log ok)
  refine sx_letter h ok.1 3 (nI p) ?_
  unfold rLetter
  rw [if_neg (fun q => q.2 rfl), if_neg (nI_pos hp), if_pos rfl, rGet_nI _ _ _ (by omega) hp]
  exact hQ
theorem s_by0 (h : RX x y) (ok : okZ y) {p : Nat} (hp : p < 2 ^ 31) {Q : Int32 → Prop} (hQ : Q (if (txt (sLog (yCur y))).length ≤ p then -4 else fB ((txt (sLog (yCur y))).getD p (0, 0)))) : wp_X6_by x (nI p) Q := by
  have hl := ok.1.1.2
  have ht := txt_le (chain_log ok)
  refine sx_by h ok.1 (nI p) ?_
  unfold rBy
  rw [if_neg (nI_pos hp), rGet_nI _ _ _ (by omega) hp]
  exact hQ
theorem s_logAt (h : RX x y) (ok : okZ y) {p : Nat} (hp : p < (sLog (yCur y)).length) (w : Nat) (hw : w ≤ 3) {Q : Int32 → Prop} (hQ : Q (rPart ((sLog (yCur y)).getD p (mkC 0 0 0 0)) (nI w))) : wp_X6_logOf x (nI p) (nI w) Q := by
  have hl := ok.1.1.2
  refine sx_logOf h ok.1 (nI p) (nI w) ?_
  unfold rLog rRow
  have h1 : ¬ (nI w < 0 ∨ ¬ nI w ≤ 3) := by
    rintro (q | q)
    · exact nI_pos (by omega) q
    · exact q (by rw [li 3, nI_leI (by omega) (by omega)]; exact hw)
  rw [if_neg (nI_pos (by omega)), if_neg h1, if_neg (by rw [nI_leI (by omega) (by omega)]; omega), nI_clamp (by omega)]
  exact hQ
theorem s_waitEnd (h : RX x y) (ok : okZ y) (he : e < 3) {Q : Int32 → Prop} (hQ : Q (-4)) : wp_X6_waitingOf x (nI e) (nI (aWait (sEd (yCur y) e)).length) 0 Q := by
  have hf := edf ok he
  refine sx_waitingOf h ok.1 (nI e) (nI (aWait (sEd (yCur y) e)).length) 0 ?_
  unfold rWaiting rRow
  rw [if_neg (ed_in he), if_neg (nI_pos (by omega)), if_neg (by decide), ixE_nI he, if_pos (by rw [nI_leI (by omega) (by omega)]; exact Nat.le_refl _)]
  exact hQ
/-! calls that are recorded -/
theorem s_rec (h : RX x y) (ok : okZ y) (call a b c : Int32) {r : Int32 × aS} (hr : opAns (yCur y) call a b c = r) {Q : Int32 → zX → Prop} (hno : r.1 < 0 → ∀ x1, RX x1 y → Q r.1 x1) (hyes : ¬ r.1 < 0 → ∀ x1, RX x1 (pushY y r.2) → okZ (pushY y r.2) → Q r.1 x1) : wp_X6_recorded x call a b c Q := by
  subst hr
  have hk := okZ_rec ok call a b c
  refine sx_recorded h ok.1 call a b c (fun x1 h1 => ?_)
  unfold recY at h1 hk ⊢
  by_cases q : (opAns (yCur y) call a b c).1 < 0
  · rw [if_pos q] at h1 hk ⊢
    exact hno q x1 h1
  · rw [if_neg q] at h1 hk ⊢
    exact hyes q x1 h1 hk
theorem op_105 (s : aS) (he : e < 3) (p l : Int32) : opAns s 105 (nI e) p l = liftE s e (opIns e (sEd s e) p l) := by
  unfold opAns
  rw [if_neg (ed_in he), if_neg (by decide), if_neg (by decide), if_neg (by decide), if_neg (by decide), if_pos rfl, ixE_nI he]
theorem op_100 (s : aS) (he : e < 3) (p l : Int32) : opAns s 100 (nI e) p l = liftE s e (opDel e (sEd s e) p) := by
  unfold opAns
  rw [if_neg (ed_in he), if_neg (by decide), if_neg (by decide), if_pos rfl, ixE_nI he]
theorem op_98 (s : aS) (he : e < 3) (p l : Int32) : opAns s 98 (nI e) p l = liftE s e (opBack (sEd s e)) := by
  unfold opAns
  rw [if_neg (ed_in he), if_neg (by decide), if_pos rfl, ixE_nI he]
theorem op_77 (s : aS) (he : e < 3) (p l : Int32) : opAns s 77 (nI e) p l = liftE s e (opMark (sEd s e) p) := by
  unfold opAns
  rw [if_neg (ed_in he), if_pos rfl, ixE_nI he]
theorem op_104 (s : aS) (he : e < 3) (p l : Int32) : opAns s 104 (nI e) p l = liftE s e (opHear e (sLog s) (sEd s e)) := by
  unfold opAns
  rw [if_neg (ed_in he), if_neg (by decide), if_neg (by decide), if_neg (by decide), if_pos rfl, ixE_nI he]
theorem op_115 (s : aS) (he : e < 3) (p l : Int32) : opAns s 115 (nI e) p l = opSend s e := by
  unfold opAns
  rw [if_neg (ed_in he), if_neg (by decide), if_neg (by decide), if_neg (by decide), if_neg (by decide), if_neg (by decide), if_pos rfl, ixE_nI he]
theorem op_65 (s : aS) (he : e < 3) (p l : Int32) : opAns s 65 (nI e) p l = liftE s e (opHearAll e (sLog s) (sEd s e)) := by
  unfold opAns
  rw [if_neg (ed_in he), if_neg (by decide), if_neg (by decide), if_neg (by decide), if_neg (by decide), if_neg (by decide), if_neg (by decide), ixE_nI he]
/-- a state with the editor e as d, what was ahead of it recorded -/
abbrev yPut (y : aY) (e : Nat) (d : aE) : aY := pushY y (upE (yCur y) e d)
theorem yPut_E (d : aE) : sEd (yCur (yPut y e d)) e = d := upE_same _ _ _
theorem s_ins (h : RX x y) (ok : okZ y) (he : e < 3) {p l : Nat} (hp : p ≤ (aCopy (sEd (yCur y) e)).length) (hl : l < 26) {Q : Int32 → zX → Prop} (hno : 30 ≤ (aCopy (sEd (yCur y) e)).length ∨ 6 ≤ (aWait (sEd (yCur y) e)).length → ∀ x1, RX x1 y → Q (-3) x1)
    (hyes : ¬ (30 ≤ (aCopy (sEd (yCur y) e)).length ∨ 6 ≤ (aWait (sEd (yCur y) e)).length) → ∀ x1, RX x1 (yPut y e (sIns e (sEd (yCur y) e) p l)) → okZ (yPut y e (sIns e (sEd (yCur y) e) p l)) → Q (nI ((aCopy (sEd (yCur y) e)).length + 1)) x1) : wp_X6_insert x (nI e) (nI p) (nI l) Q := by
  have hf := edf ok he
  have hc : ¬ (nI p < 0 ∨ nI (aCopy (sEd (yCur y) e)).length < nI p ∨ nI l < 0 ∨ ¬ nI l < 26) := by
    rintro (q | q | q | q)
    · exact nI_pos (by omega) q
    · exact nI_nlt hp (by omega) q
    · exact nI_pos (by omega) q
    · exact q (by rw [li 26, nI_ltI (by omega) (by omega)]; exact hl)
  have hlen : (aCopy (sIns e (sEd (yCur y) e) p l)).length = (aCopy (sEd (yCur y) e)).length + 1 := by
    have f1 : fitsC (aCopy (sEd (yCur y) e)).length (mkC 1 p l e) := ⟨fun _ => hp, fun q => by exact absurd q (by show ¬ (1 : Nat) = 2; omega)⟩
    exact sApply_copy f1
  unfold wp_X6_insert
  by_cases q : 30 ≤ (aCopy (sEd (yCur y) e)).length ∨ 6 ≤ (aWait (sEd (yCur y) e)).length
  · refine s_rec h ok 105 (nI e) (nI p) (nI l) (r := (-3, yCur y)) ?_ (fun _ => hno q) (fun z => absurd (show (-3 : Int32) < 0 by decide) z)
    rw [op_105 _ he]
    unfold opIns
    rw [if_neg hc, if_pos q]
    unfold liftE
    rw [upE_self]
  · refine s_rec h ok 105 (nI e) (nI p) (nI l) (r := (nI ((aCopy (sEd (yCur y) e)).length + 1), upE (yCur y) e (sIns e (sEd (yCur y) e) p l))) ?_ (fun z => absurd z (nI_pos (by omega))) (fun _ => hyes q)
    rw [op_105 _ he]
    unfold opIns
    rw [if_neg hc, if_neg q, nI_clamp (by omega), nI_clamp (by omega), hlen]
    rfl
theorem s_del (h : RX x y) (ok : okZ y) (he : e < 3) {p : Nat} (hp : p < (aCopy (sEd (yCur y) e)).length) {Q : Int32 → zX → Prop} (hno : 6 ≤ (aWait (sEd (yCur y) e)).length → ∀ x1, RX x1 y → Q (-3) x1)
    (hyes : ¬ 6 ≤ (aWait (sEd (yCur y) e)).length → ∀ x1, RX x1 (yPut y e (sDel e (sEd (yCur y) e) p)) → okZ (yPut y e (sDel e (sEd (yCur y) e) p)) → Q (nI ((aCopy (sEd (yCur y) e)).getD p 0)) x1) : wp_X6_delete x (nI e) (nI p) Q := by
  have hf := edf ok he
  have hc : ¬ (nI p < 0 ∨ ¬ nI p < nI (aCopy (sEd (yCur y) e)).length) := by
    rintro (q | q)
    · exact nI_pos (by omega) q
    · exact q (nI_lt hp (by omega))
  have h26 := hf.2.2.2.2.2.2 _ (getD_mem 0 hp)
  unfold wp_X6_delete
  by_cases q : 6 ≤ (aWait (sEd (yCur y) e)).length
  · refine s_rec h ok 100 (nI e) (nI p) 0 (r := (-3, yCur y)) ?_ (fun _ => hno q) (fun z => absurd (show (-3 : Int32) < 0 by decide) z)
    rw [op_100 _ he]
    unfold opDel
    rw [if_neg hc, if_pos q]
    unfold liftE
    rw [upE_self]
  · refine s_rec h ok 100 (nI e) (nI p) 0 (r := (nI ((aCopy (sEd (yCur y) e)).getD p 0), upE (yCur y) e (sDel e (sEd (yCur y) e) p))) ?_ (fun z => absurd z (nI_pos (by omega))) (fun _ => hyes q)
    rw [op_100 _ he]
    unfold opDel
    rw [if_neg hc, if_neg q, nI_clamp (by omega)]
    rfl
/-- a call that is recorded answers no less than -3, and keeps what holds -/
theorem s_any (h : RX x y) (ok : okZ y) (call a b c : Int32) (hr : ¬ (opAns (yCur y) call a b c).1 < -3) {Q : Int32 → zX → Prop} (hQ : ∀ r x1 y1, RX x1 y1 → okZ y1 → ¬ r < -3 → Q r x1) : wp_X6_recorded x call a b c Q :=
  s_rec h ok call a b c rfl (fun _ x1 h1 => hQ _ x1 y h1 ok hr) (fun _ x1 h1 k1 => hQ _ x1 _ h1 k1 hr)
theorem nI_n3 {n : Nat} (h : n < 2 ^ 31) : ¬ nI n < -3 := by
  intro q
  rw [Int32.lt_iff_toInt_lt, nI_toInt h] at q
  have : (-3 : Int32).toInt = -3 := by decide
  omega
theorem s_undo1 (h : RX x y) (ok : okZ y) {s : aS} {l : List aS} (hh : yHist y = s :: l) {Q : Int32 → zX → Prop} (hQ : ∀ x1, RX x1 (s, l, yCmds y) → okZ (s, l, yCmds y) → Q (nI l.length) x1) : wp_X6_undo x Q := by
  have hk := okZ_undo ok
  refine sx_undo h ok.1 (fun x1 h1 => ?_)
  unfold undoY at h1 hk ⊢
  rw [hh] at h1 hk ⊢
  exact hQ x1 h1 hk
end SC
