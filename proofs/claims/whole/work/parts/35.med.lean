/-! the reference's editor: writing, keeping, sending, hearing -/
theorem mS_set {v : zM} {g : Nat → Int32} : mS (mSetS v g) = g := rfl
theorem mSet2 {v : zM} {g g1 : Nat → Int32} : mSetS (mSetS v g) g1 = mSetS v g1 := rfl
theorem rowAt.snoc {α : Type} {g g1 : Nat → Int32} {o : Nat} {f : α → Int32} {A : List α} {a : α} (h : rowAt g o f A) (e : ∀ i, i < A.length → g1 (o + i) = g (o + i)) (e2 : g1 (o + A.length) = f a) : rowAt g1 o f (A ++ [a]) := fun i b hi => by
  by_cases h1 : i < A.length
  · rw [List.getElem?_append_left h1] at hi
    rw [e i h1]; exact h i b hi
  · rw [List.getElem?_append_right (by omega)] at hi
    have : i - A.length = 0 := by
      have := (List.getElem?_eq_some_iff.mp hi).1
      simp at this
      omega
    rw [this] at hi
    cases hi
    have : i = A.length := by omega
    rw [this]; exact e2
theorem m_writes {v : zM} {k : Nat} {d : aE} {c : Ch} (hk : k < 3) (h : RMe (mS v) k d) (gc : good c) (fc : fitsC (aCopy d).length c) (gB : ∀ a ∈ aBacks d, good a) (hl : (aCopy d).length ≤ 78) (hb : (aBacks d).length ≤ 7) (hw : (aWait d).length < 6) (hm : aMark d ≤ 80) {Q : zM → Prop} (hQ : ∀ g1, RMe g1 k (sWrite d c) → outE k (mS v) g1 → Q (mSetS v g1)) : wp_X7_writes v (nI k) (mcode c) Q := by
  unfold wp_X7_writes
  refine m_perform hk h gc fc gB hl hb (by omega) hm (fun g r o => ?_)
  obtain ⟨h1, h2, h3, h4, h5, h6, h7, h8, h9, h10⟩ := r
  have cl : (aCopy (sApply d c)).length ≤ 79 := by
    have e : (aCopy (sApply d c)).length = aft (aCopy d).length c := sApply_copy fc
    have := aft_le (aCopy d).length c
    omega
  have bl : (aBacks (sApply d c)).length ≤ 7 := by show ((aBacks d).map _).length ≤ 7; rw [List.length_map]; exact hb
  have h3 : g (97 + 116 * k + 97) = nI (aWait d).length := h3
  rw [mS_set, li 97, li 98, li 115, o_c hk 97 (by omega), o_c hk 115 (by omega), h3, nI_add, o_c hk _ (by omega)]
  refine ⟨o_v hk _ (by omega), o_v hk _ (by omega), o_v hk _ (by omega), o_v hk _ (by omega), o_v hk _ (by omega), o_v hk _ (by omega), ?_⟩
  rw [mSet2]
  refine hQ _ ⟨?_, ?_, ?_, ?_, ?_, ?_, ?_, ?_, ?_, ?_⟩ (((o.upd (by omega)).upd (by omega)).upd (by omega))
  · rw [upd_n (by omega), upd_n (by omega), upd_n (by omega)]; exact h1
  · refine rowAt.ext h2 (fun i hi => ?_)
    have hi : i < (aCopy (sApply d c)).length := hi
    rw [upd_n (by omega), upd_n (by omega), upd_n (by omega)]
  · rw [upd_n (by omega), upd_s, upd_n (by omega), h3, nI_1]
    show _ = nI (aWait d ++ [c]).length
    rw [List.length_append]; rfl
  · show rowAt _ _ mcode (aWait d ++ [c])
    have h4 : rowAt g (97 + 116 * k + 98) mcode (aWait d) := h4
    refine rowAt.snoc h4 (fun i hi => ?_) ?_
    · rw [upd_n (by omega), upd_n (by omega), upd_n (by omega)]
    · rw [upd_n (by omega), upd_n (by omega), show 97 + 116 * k + 98 + (aWait d).length = 97 + 116 * k + (98 + (aWait d).length) by omega, upd_s]
  · rw [upd_n (by omega), upd_n (by omega), upd_n (by omega)]; exact h5
  · refine rowAt.ext h6 (fun i hi => ?_)
    have hi : i < (aBacks (sApply d c)).length := hi
    rw [upd_n (by omega), upd_n (by omega), upd_n (by omega)]
  · rw [upd_n (by omega), upd_n (by omega), upd_n (by omega)]; exact h7
  · rw [upd_n (by omega), upd_n (by omega), upd_n (by omega)]; exact h8
  · rw [upd_n (by omega), upd_n (by omega), upd_n (by omega)]; exact h9
  · rw [upd_s, upd_n (by omega), upd_n (by omega), h10]; rfl
theorem m_keep {v : zM} {k : Nat} {d : aE} {c : Ch} (hk : k < 3) (h : RMe (mS v) k d) (hl : (aCopy d).length ≤ 80) (hb : (aBacks d).length ≤ 6) (hw : (aWait d).length ≤ 6) {Q : zM → Prop} (hQ : ∀ g1, RMe g1 k (sKeep d c) → outE k (mS v) g1 → Q (mSetS v g1)) : wp_X7_keep v (nI k) (mcode c) Q := by
  obtain ⟨h1, h2, h3, h4, h5, h6, h7, h8, h9, h10⟩ := h
  unfold wp_X7_keep
  rw [li 104, li 105, o_c hk 104 (by omega), h5, nI_add, o_c hk _ (by omega), upd_n (by omega), h5, nI_1, upd_s]
  refine ⟨o_v hk _ (by omega), o_v hk _ (by omega), o_v hk _ (by omega), o_v hk _ (by omega), o_v hk _ (by omega), ?_⟩
  -- the row with the new one behind
  have hrow : rowAt (upd (upd (mS v) (97 + 116 * k + (105 + (aBacks d).length)) (mcode c)) (97 + 116 * k + 104) (nI ((aBacks d).length + 1))) (97 + 116 * k + 105) mcode (aBacks d ++ [c]) := by
    refine rowAt.snoc h6 (fun i hi => ?_) ?_
    · rw [upd_n (by omega), upd_n (by omega)]
    · rw [upd_n (by omega), show 97 + 116 * k + 105 + (aBacks d).length = 97 + 116 * k + (105 + (aBacks d).length) by omega, upd_s]
  have ho : outE k (mS v) (upd (upd (mS v) (97 + 116 * k + (105 + (aBacks d).length)) (mcode c)) (97 + 116 * k + 104) (nI ((aBacks d).length + 1))) := ((outE.refl).upd (by omega)).upd (by omega)
  have hs : ∀ i, (i < 97 + 116 * k + 104 ∨ 97 + 116 * k + 112 ≤ i) → upd (upd (mS v) (97 + 116 * k + (105 + (aBacks d).length)) (mcode c)) (97 + 116 * k + 104) (nI ((aBacks d).length + 1)) i = mS v i := fun i hi => by rw [upd_n (by omega), upd_n (by omega)]
  have hz : upd (upd (mS v) (97 + 116 * k + (105 + (aBacks d).length)) (mcode c)) (97 + 116 * k + 104) (nI ((aBacks d).length + 1)) (97 + 116 * k + 104) = nI ((aBacks d).length + 1) := upd_s
  generalize upd (upd (mS v) (97 + 116 * k + (105 + (aBacks d).length)) (mcode c)) (97 + 116 * k + 104) (nI ((aBacks d).length + 1)) = g at *
  have fin : ∀ w : Nat → Int32, (∀ i, (i < 97 + 116 * k + 104 ∨ 97 + 116 * k + 112 ≤ i) → w i = mS v i) → w (97 + 116 * k + 104) = nI (keepL (aBacks d) c).length → rowAt w (97 + 116 * k + 105) mcode (keepL (aBacks d) c) → Q (mSetS v w) := by
    intro w w1 w2 w3
    refine hQ w ⟨?_, ?_, ?_, ?_, w2, w3, ?_, ?_, ?_, ?_⟩ (fun i hi => w1 i (by omega))
    · rw [w1 _ (by omega)]; exact h1
    · exact rowAt.ext h2 (fun i hi => by
        have hi : i < (aCopy d).length := hi
        exact w1 _ (by omega))
    · rw [w1 _ (by omega)]; exact h3
    · exact rowAt.ext h4 (fun i hi => by
        have hi : i < (aWait d).length := hi
        exact w1 _ (by omega))
    · rw [w1 _ (by omega)]; exact h7
    · rw [w1 _ (by omega)]; exact h8
    · rw [w1 _ (by omega)]; exact h9
    · rw [w1 _ (by omega)]; exact h10
  refine pk_le ((aBacks d).length + 1) 6 (fun hle => ?_) (fun hgt => ?_)
  · have e : keepL (aBacks d) c = aBacks d ++ [c] := by unfold keepL; rw [if_neg (by omega)]
    refine fin g hs ?_ (by rw [e]; exact hrow)
    rw [hz, e, List.length_append]; rfl
  · have hb6 : (aBacks d).length = 6 := by omega
    have e : keepL (aBacks d) c = (aBacks d ++ [c]).eraseIdx 0 := by
      unfold keepL
      rw [if_pos (by omega)]
      cases hq : aBacks d with
      | nil => rw [hq] at hb6; exact absurd hb6 (by decide)
      | cons a l => rfl
    refine zLoop2_i (fun v3 w => ∃ j : Nat, v3 = nI j ∧ j ≤ 6 ∧ ∀ t : Nat, w t = if 97 + 116 * k + 105 ≤ t ∧ t < 97 + 116 * k + 105 + j then g (t + 1) else g t) (fun v3 _ => 6 - v3.toNatClampNeg) ?_ _ _ ⟨0, rfl, by omega, fun t => by rw [if_neg (by omega)]⟩
    rintro K v3 w ⟨j, rfl, hj, hinv⟩ hK
    unfold lb_X7_keep_57
    refine pk_le 6 j (fun q => ?_) (fun q => ?_)
    · have ej : j = 6 := by omega
      subst ej
      rw [li 104, o_c hk 104 (by omega), hinv (97 + 116 * k + 104), if_neg (by omega), hz, hb6, li 1, pk_sub (by omega)]
      refine ⟨o_v hk _ (by omega), o_v hk _ (by omega), fin _ (fun i hi => ?_) ?_ (fun i a hi => ?_)⟩
      · rw [upd_n (by omega), hinv, if_neg (by omega)]; exact hs i hi
      · rw [upd_s, e, List.length_eraseIdx_of_lt (by rw [List.length_append]; show 0 < _ + 1; omega), List.length_append, hb6]; rfl
      · have hil := (List.getElem?_eq_some_iff.mp hi).1
        rw [e, List.length_eraseIdx_of_lt (by rw [List.length_append]; show 0 < _ + 1; omega), List.length_append, hb6] at hil
        have hil : i < 6 := hil
        rw [e, List.getElem?_eraseIdx, if_neg (by omega)] at hi
        rw [upd_n (by omega), hinv, if_pos (by omega)]
        exact hrow (i + 1) a hi
    · rw [li 105, li 1, nI_add, nI_add, nI_add, o_c hk _ (by omega), o_c hk _ (by omega)]
      refine ⟨o_v hk _ (by omega), o_v hk _ (by omega), hK _ _ ⟨j + 1, rfl, by omega, fun t => ?_⟩ ?_⟩
      · rw [upd_at]
        by_cases e1 : t = 97 + 116 * k + (105 + j)
        · rw [if_pos e1, if_pos (by omega), hinv, if_neg (by omega)]
          refine congrArg _ ?_
          omega
        · rw [if_neg e1, hinv]
          by_cases e2 : 97 + 116 * k + 105 ≤ t ∧ t < 97 + 116 * k + 105 + j
          · rw [if_pos e2, if_pos (by omega)]
          · rw [if_neg e2, if_neg (by omega)]
      · rw [nI_clamp (by omega), nI_clamp (by omega)]; omega
