/-! what the calls make of an editor: answer and state; they keep what holds -/
def opIns (k : Nat) (d : aE) (p l : Int32) : Int32 × aE :=
  if p < 0 ∨ nI (aCopy d).length < p ∨ l < 0 ∨ ¬ l < 26 then (-1, d) else if 30 ≤ (aCopy d).length ∨ 6 ≤ (aWait d).length then (-3, d)
  else (nI (aCopy (sIns k d p.toNatClampNeg l.toNatClampNeg)).length, sIns k d p.toNatClampNeg l.toNatClampNeg)
def opDel (k : Nat) (d : aE) (p : Int32) : Int32 × aE :=
  if p < 0 ∨ ¬ p < nI (aCopy d).length then (-1, d) else if 6 ≤ (aWait d).length then (-3, d)
  else (nI ((aCopy d).getD p.toNatClampNeg 0), sDel k d p.toNatClampNeg)
def opBack (d : aE) : Int32 × aE :=
  if (aBacks d).length = 0 then (-2, d) else if 6 ≤ (aWait d).length ∨ (cK (lastB d) = 1 ∧ 30 ≤ (aCopy d).length) then (-3, d)
  else (nI (cK (lastB d)), sBack d)
def opMark (d : aE) (p : Int32) : Int32 × aE := if p < 0 ∨ nI (aCopy d).length < p then (-1, d) else (nI (aMark d), sMark d p.toNatClampNeg)
def opHear (k : Nat) (log : List Ch) (d : aE) : Int32 × aE := if log.length ≤ aHeard d then (-2, d) else (nI (rHear k log d), sHear k log d)
def opHearAll (k : Nat) (log : List Ch) (d : aE) : Int32 × aE := if log.length ≤ aHeard d then (-2, d) else (nI (log.length - aHeard d), sHearAll k log d)
theorem lenC_take {log : List Ch} {h : Nat} {u : Ch} (hu : log[h]? = some u) : lenC 0 (log.take (h + 1)) = aft (lenC 0 (log.take h)) u := by
  obtain ⟨h1, rfl⟩ := List.getElem?_eq_some_iff.mp hu
  rw [← List.take_append_getElem h1, lenC_app]; rfl
theorem chain_at {log : List Ch} {h : Nat} {u : Ch} (hc : chain 0 log) (hu : log[h]? = some u) : good u ∧ fitsC (lenC 0 (log.take h)) u := by
  have e : log = log.take h ++ log.drop h := (List.take_append_drop h log).symm
  rw [e, chain_app, outC_drop (w := u) hu] at hc
  exact ⟨hc.2.1, hc.2.2.1⟩
/-- a change is written: what holds is kept -/
theorem inv_write {k : Nat} {log : List Ch} {d : aE} {c : Ch} (h : invE k log d) (gc : good c) (fc : fitsC (aCopy d).length c) (ec : cE c = k) (hw : (aWait d).length < 6) (hb : log.length + pend d + 1 ≤ 78) : invE k log (sWrite d c) := by
  have hbd := h.bound
  obtain ⟨h1, h2, h3, h4, h5, h6, h7, h8, h9, h10, h11, h12, h13⟩ := h
  have hn : (aCopy d).length ≤ 78 := by omega
  have e1 : (aCopy (sWrite d c)).length = aft (aCopy d).length c := sApply_copy fc
  refine ⟨h1, ?_, ?_, ?_, ?_, ?_, ?_, ?_, ?_, ?_, h11, ?_, h13⟩
  · show chain _ (aWait d ++ [c])
    rw [chain_app]
    refine ⟨h2, gc, ?_, trivial⟩
    show fitsC (lenC (lenC 0 (log.take (aHeard d))) (aWait d)) c
    rw [← h3]; exact fc
  · rw [e1]
    show _ = lenC _ (aWait d ++ [c])
    rw [lenC_app]
    show _ = aft (lenC (lenC 0 (log.take (aHeard d))) (aWait d)) c
    rw [← h3]
  · exact sApply_backs gc fc h4 hn
  · show ((aBacks d).map (fun a => resh a c)).length ≤ 6
    rw [List.length_map]; exact h5
  · intro a ha
    rcases List.mem_append.mp ha with h | h
    · exact h6 a h
    · rw [List.mem_singleton.mp h]; exact ec
  · show (aWait d ++ [c]).length ≤ 6
    rw [List.length_append]; show _ + 1 ≤ 6; omega
  · rw [e1]; exact markC_le h8 fc
  · exact applC_mem h9 gc.2.1 fc
  · rcases h10 with ⟨hw, w, ws, pre, post, e1, e2, e3, e4⟩ | ⟨hw, e⟩
    · refine Or.inl ⟨hw, w, ws ++ [c], pre, post, ?_, e2, e3, e4⟩
      show aWait d ++ [c] = _
      rw [e1]; rfl
    · exact Or.inr ⟨hw, e⟩
  · show log.length + ((aWait d ++ [c]).length - (if aWay d = true then 1 else 0)) ≤ 78
    unfold pend at hb
    rw [List.length_append]
    show log.length + ((aWait d).length + 1 - (if aWay d = true then 1 else 0)) ≤ 78
    split at hb <;> simp_all <;> omega
theorem pend_write (d : aE) (c : Ch) : pend (sWrite d c) ≤ pend d + 1 := by
  show (aWait d ++ [c]).length - (if aWay d = true then 1 else 0) ≤ (aWait d).length - (if aWay d = true then 1 else 0) + 1
  rw [List.length_append]
  show (aWait d).length + 1 - _ ≤ _
  omega
theorem inv_keep {k : Nat} {log : List Ch} {d : aE} {c : Ch} (h : invE k log d) (gc : good c) (fc : fitsC (aCopy d).length c) (ec : cE c = k) : invE k log (sKeep d c) := by
  obtain ⟨h1, h2, h3, h4, h5, h6, h7, h8, h9, h10, h11, h12, h13⟩ := h
  refine ⟨h1, h2, h3, ?_, ?_, h6, h7, h8, h9, h10, h11, h12, h13⟩
  · intro a ha
    have hm : a ∈ aBacks d ∨ a = c := by
      have ha : a ∈ keepL (aBacks d) c := ha
      unfold keepL at ha
      split at ha
      · rcases List.mem_append.mp ha with h | h
        · exact Or.inl (List.mem_of_mem_eraseIdx h)
        · exact Or.inr (List.mem_singleton.mp h)
      · rcases List.mem_append.mp ha with h | h
        · exact Or.inl h
        · exact Or.inr (List.mem_singleton.mp h)
    rcases hm with hm | rfl
    · exact h4 a hm
    · exact ⟨gc, fc, ec⟩
  · show (keepL (aBacks d) c).length ≤ 6
    unfold keepL
    split
    · rw [List.length_append, List.length_eraseIdx_of_lt (by omega)]; show _ + 1 ≤ 6; omega
    · rw [List.length_append]; show _ + 1 ≤ 6; omega
theorem pend_keep (d : aE) (c : Ch) : pend (sKeep d c) = pend d := rfl
theorem inv_pop {k : Nat} {log : List Ch} {d : aE} (h : invE k log d) : invE k log (popB d) := by
  obtain ⟨h1, h2, h3, h4, h5, h6, h7, h8, h9, h10, h11, h12, h13⟩ := h
  refine ⟨h1, h2, h3, fun a ha => h4 a (List.mem_of_mem_eraseIdx ha), ?_, h6, h7, h8, h9, h10, h11, h12, h13⟩
  show ((aBacks d).eraseIdx ((aBacks d).length - 1)).length ≤ 6
  exact Nat.le_trans (List.length_eraseIdx_le _ _) h5
theorem lastB_mem {d : aE} (h : (aBacks d).length ≠ 0) : lastB d ∈ aBacks d := by
  have hl : (aBacks d).length - 1 < (aBacks d).length := by omega
  unfold lastB
  rw [List.getD_eq_getElem?_getD, List.getElem?_eq_getElem hl]
  exact List.getElem_mem hl
theorem inv_back {k : Nat} {log : List Ch} {d : aE} (h : invE k log d) (hb : (aBacks d).length ≠ 0) (hw : (aWait d).length < 6) (hb2 : log.length + pend d + 1 ≤ 78) : invE k log (sBack d) ∧ pend (sBack d) ≤ pend d + 1 := by
  have hl := h.2.2.2.1 _ (lastB_mem hb)
  unfold sBack
  split
  · exact ⟨inv_pop h, Nat.le_succ _⟩
  · exact ⟨inv_write (inv_pop h) hl.1 hl.2.1 hl.2.2 hw hb2, pend_write _ _⟩
theorem inv_mark {k : Nat} {log : List Ch} {d : aE} {p : Nat} (h : invE k log d) (hp : p ≤ (aCopy d).length) : invE k log (sMark d p) := by
  obtain ⟨h1, h2, h3, h4, h5, h6, h7, h8, h9, h10, h11, h12, h13⟩ := h
  exact ⟨h1, h2, h3, h4, h5, h6, h7, hp, h9, h10, h11, h12, h13⟩
theorem inv_ins {k : Nat} {log : List Ch} {d : aE} {p l : Nat} (h : invE k log d) (hp : p ≤ (aCopy d).length) (hl : l < 26) (hc : (aCopy d).length < 30) (hw : (aWait d).length < 6) (hb : log.length + pend d + 1 ≤ 78) : invE k log (sIns k d p l) ∧ pend (sIns k d p l) ≤ pend d + 1 := by
  have hk := h.2.2.2.2.2.2.2.2.2.2.2.2
  have g1 : good (mkC 1 p l k) := ⟨by show 1 ≤ 2; omega, hl, hk, by show p ≤ 80; omega, fun e => by exact absurd e (by show ¬ (1 : Nat) = 2; omega)⟩
  have f1 : fitsC (aCopy d).length (mkC 1 p l k) := ⟨fun _ => hp, fun e => by exact absurd e (by show ¬ (1 : Nat) = 2; omega)⟩
  have i1 := inv_write h g1 f1 rfl hw hb
  have e1 : (aCopy (sWrite d (mkC 1 p l k))).length = (aCopy d).length + 1 := sApply_copy f1
  refine ⟨inv_keep i1 ⟨by show 2 ≤ 2; omega, by show 0 < 26; omega, hk, by show p ≤ 80; omega, fun _ => rfl⟩ ⟨fun e => by exact absurd e (by show ¬ (2 : Nat) = 1; omega), fun _ => by show p < _; omega⟩ rfl, pend_write _ _⟩
theorem inv_del {k : Nat} {log : List Ch} {d : aE} {p : Nat} (h : invE k log d) (hp : p < (aCopy d).length) (hw : (aWait d).length < 6) (hb : log.length + pend d + 1 ≤ 78) : invE k log (sDel k d p) ∧ pend (sDel k d p) ≤ pend d + 1 := by
  have hk := h.2.2.2.2.2.2.2.2.2.2.2.2
  have hbd := h.bound
  have h9 := h.2.2.2.2.2.2.2.2.1
  have g1 : good (mkC 2 p 0 k) := ⟨by show 2 ≤ 2; omega, by show 0 < 26; omega, hk, by show p ≤ 80; omega, fun _ => rfl⟩
  have f1 : fitsC (aCopy d).length (mkC 2 p 0 k) := ⟨fun e => by exact absurd e (by show ¬ (2 : Nat) = 1; omega), fun _ => hp⟩
  have i1 := inv_write h g1 f1 rfl hw hb
  have e1 : (aCopy (sWrite d (mkC 2 p 0 k))).length = (aCopy d).length - 1 := sApply_copy f1
  have hl : (aCopy d).getD p 0 < 26 := by
    rw [List.getD_eq_getElem?_getD, List.getElem?_eq_getElem hp]
    exact h9 _ (List.getElem_mem hp)
  refine ⟨inv_keep i1 ⟨by show 1 ≤ 2; omega, hl, hk, by show p ≤ 80; omega, fun e => by exact absurd e (by show ¬ (1 : Nat) = 2; omega)⟩ ⟨fun _ => by show p ≤ _; omega, fun e => by exact absurd e (by show ¬ (1 : Nat) = 2; omega)⟩ rfl, pend_write _ _⟩
/-- the next change is heard: what holds is kept -/
theorem inv_hear {k : Nat} {log : List Ch} {d : aE} (h : invE k log d) (hu : aHeard d < log.length) : invE k log (sHear k log d) ∧ pend (sHear k log d) = pend d ∧ aHeard (sHear k log d) = aHeard d + 1 := by
  have hbd := h.bound
  obtain ⟨h1, h2, h3, h4, h5, h6, h7, h8, h9, h10, h11, h12, h13⟩ := h
  have hn : (aCopy d).length ≤ 78 := by omega
  have hu2 : log[aHeard d]? = some (nextU log d) := by
    unfold nextU
    rw [List.getD_eq_getElem?_getD, List.getElem?_eq_getElem hu]; rfl
  obtain ⟨gu, fu⟩ := chain_at h11 hu2
  have hdrop := outC_drop (w := nextU log d) hu2
  have hlen := lenC_take hu2
  generalize nextU log d = u at *
  unfold sHear
  have hu3 : nextU log d = u := by
    unfold nextU
    rw [List.getD_eq_getElem?_getD, hu2]; rfl
  rw [hu3]
  by_cases he : cE u = k
  · rw [if_pos he]
    rcases h10 with ⟨hw, w, ws, pre, post, e1, e2, e3, e4⟩ | ⟨hw, e⟩
    · cases pre with
      | cons a pre =>
        rw [hdrop] at e2
        injection e2 with e5 e6
        exact absurd (by rw [← e5]; exact he) (e3 a List.mem_cons_self)
      | nil =>
        rw [hdrop] at e2
        injection e2 with e5 e6
        have e7 : u = w := e5
        subst e7
        refine ⟨⟨hu, ?_, ?_, h4, h5, ?_, ?_, h8, h9, Or.inr ⟨rfl, ?_⟩, h11, ?_, h13⟩, ?_, rfl⟩
        · show chain (lenC 0 (log.take (aHeard d + 1))) ((aWait d).eraseIdx 0)
          rw [hlen, e1]
          rw [e1] at h2
          exact h2.2.2
        · show (aCopy d).length = lenC (lenC 0 (log.take (aHeard d + 1))) ((aWait d).eraseIdx 0)
          rw [hlen, h3, e1]; rfl
        · exact fun c hc => h6 c (List.mem_of_mem_eraseIdx hc)
        · exact Nat.le_trans (List.length_eraseIdx_le _ _) h7
        · show ∀ c ∈ log.drop (aHeard d + 1), cE c ≠ k
          rw [e6]; exact e4
        · show log.length + (((aWait d).eraseIdx 0).length - 0) ≤ 78
          unfold pend at h12
          rw [if_pos hw, e1] at h12
          rw [e1]; exact h12
        · show ((aWait d).eraseIdx 0).length - 0 = pend d
          unfold pend
          rw [if_pos hw, e1]; rfl
    · exact absurd he (e u (by rw [hdrop]; exact List.mem_cons_self))
  · rw [if_neg he]
    have a1 := hbd.2.2
    have hp0 : lenC 0 (log.take (aHeard d)) + (aWait d).length ≤ 78 := by omega
    obtain ⟨p1, p2, p3, p4⟩ := passT_ok (aWait d) u _ h2 gu fu hp0
    generalize hE : mkE (aCopy d) (passT (aWait d) u).1 (aBacks d) (aWay d) (aHeard d + 1) (aMark d) (aWr d) = d1
    generalize hX : (passT (aWait d) u).2 = x at *
    have c1 : aCopy d1 = aCopy d := by rw [← hE]; rfl
    have fx : fitsC (aCopy d1).length x := by rw [c1, h3]; exact p3
    have hcl : (aCopy (sApply d1 x)).length = aft (aCopy d).length x := by rw [sApply_copy fx, c1]
    have w1 : aWait (sApply d1 x) = (passT (aWait d) u).1 := by rw [← hE]; rfl
    have hd1 : aHeard (sApply d1 x) = aHeard d + 1 := by rw [← hE]; rfl
    have y1 : aWay (sApply d1 x) = aWay d := by rw [← hE]; rfl
    have hpe : pend (sApply d1 x) = pend d := by
      unfold pend
      rw [w1, y1, passT_len]
    refine ⟨⟨?_, ?_, ?_, ?_, ?_, ?_, ?_, ?_, ?_, ?_, h11, ?_, h13⟩, hpe, hd1⟩
    · rw [hd1]; exact hu
    · rw [hd1, w1, hlen]; exact p1
    · rw [hcl, hd1, w1, hlen, p4, h3]
    · refine sApply_backs p2 fx ?_ (by rw [c1]; exact hn)
      rw [c1, ← hE]; exact h4
    · show ((aBacks d1).map (fun a => resh a x)).length ≤ 6
      rw [List.length_map, ← hE]; exact h5
    · rw [w1]; exact passT_mE _ _ h6
    · rw [w1, passT_len]; exact h7
    · rw [hcl]
      have m1 : aMark (sApply d1 x) = markC (aMark d) x := by rw [← hE]; rfl
      rw [m1]; exact markC_le h8 (by rw [h3]; exact p3)
    · have : aCopy (sApply d1 x) = applC (cL x) (aCopy d) x := by rw [← hE]; rfl
      rw [this]; exact applC_mem h9 p2.2.1 (by rw [h3]; exact p3)
    · rw [hd1]
      unfold wayOK
      rw [y1, w1]
      rcases h10 with ⟨hw, w, ws, pre, post, e1, e2, e3, e4⟩ | ⟨hw, e⟩
      · refine Or.inl ⟨hw, ?_⟩
        cases pre with
        | nil =>
          rw [hdrop] at e2
          injection e2 with e5 e6
          exfalso
          apply he
          rw [e5]
          show cE w = k
          exact h6 w (by rw [e1]; exact List.mem_cons_self)
        | cons a pre =>
          rw [hdrop] at e2
          injection e2 with e5 e6
          subst e5
          refine ⟨resh w u, (passT ws (resh u w)).1, pre, post, by rw [e1]; rfl, e6, fun c hc => e3 c (List.mem_cons_of_mem _ hc), e4⟩
      · exact Or.inr ⟨hw, fun c hc => e c (by rw [hdrop]; exact List.mem_cons_of_mem _ hc)⟩
    · rw [hpe]; exact h12
theorem inv_hearN {k : Nat} {log : List Ch} : ∀ (n : Nat) (d : aE), invE k log d → aHeard d + n ≤ log.length → invE k log (sHearN k log d n) ∧ pend (sHearN k log d n) = pend d ∧ aHeard (sHearN k log d n) = aHeard d + n
  | 0, d, h, _ => ⟨h, rfl, rfl⟩
  | n + 1, d, h, hn => by
    obtain ⟨i1, i2, i3⟩ := inv_hear h (by omega)
    obtain ⟨j1, j2, j3⟩ := inv_hearN n _ i1 (by omega)
    exact ⟨j1, by rw [sHearN, j2, i2], by rw [sHearN, j3, i3]; omega⟩
theorem inv_hearAll {k : Nat} {log : List Ch} {d : aE} (h : invE k log d) : invE k log (sHearAll k log d) ∧ pend (sHearAll k log d) = pend d ∧ aHeard (sHearAll k log d) = log.length := by
  have h1 := h.1
  obtain ⟨i1, i2, i3⟩ := inv_hearN (log.length - aHeard d) d h (by omega)
  exact ⟨i1, i2, by rw [sHearAll, i3]; omega⟩
