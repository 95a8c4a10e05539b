/-! the reference's editor: writing, keeping, sending, hearing -/
theorem mS_set {v : zM} {g : Nat → Int32} : mS (mSetS v g) = g := rfl
theorem mSet2 {v : zM} {g g1 : Nat → Int32} : mSetS (mSetS v g) g1 = mSetS v g1 := rfl
theorem rowAt.snoc {α : Type} {g g1 : Nat → Int32} {o : Nat} {f : α → Int32} {A : List α} {a : α} (h : rowAt g o f A) (e : ∀ i, i < A.length → g1 (o + i) = g (o + i)) (e2 : g1 (o + A.length) = f a) : rowAt g1 o f (A ++ [a]) := fun i b hi => by
  by_cases h1 : i < A.length
  · rw [List.getElem?_append_left h1] at hi
    rw [e i h1]; exact h i b hi
  · rw [List.getElem?_append_right (by omega)] at hi
    have : i - A.length = 0 := by
      have := (List.getElem?_eq_some_iff.mp hi).1
      simp at this
      omega
    rw [this] at hi
    cases hi
    have : i = A.length := by omega
    rw [this]; exact e2
theorem m_writes {v : zM} {k : Nat} {d : aE} {c : Ch} (hk : k < 3) (h : RMe (mS v) k d) (gc : good c) (fc : fitsC (aCopy d).length c) (gB : ∀ a ∈ aBacks d, good a) (hl : (aCopy d).length ≤ 78) (hb : (aBacks d).length ≤ 7) (hw : (aWait d).length < 6) (hm : aMark d ≤ 80) {Q : zM → Prop} (hQ : ∀ g1, RMe g1 k (sWrite d c) → outE k (mS v) g1 → Q (mSetS v g1)) : wp_X7_writes v (nI k) (mcode c) Q := by
  unfold wp_X7_writes
  refine m_perform hk h gc fc gB hl hb (by omega) hm (fun g r o => ?_)
  obtain ⟨h1, h2, h3, h4, h5, h6, h7, h8, h9, h10⟩ := r
  have cl : (aCopy (sApply d c)).length ≤ 79 := by
    have e : (aCopy (sApply d c)).length = aft (aCopy d).length c := sApply_copy fc
    have := aft_le (aCopy d).length c
    omega
  have bl : (aBacks (sApply d c)).length ≤ 7 := by show ((aBacks d).map _).length ≤ 7; rw [List.length_map]; exact hb
  have h3 : g (97 + 116 * k + 97) = nI (aWait d).length := h3
  rw [mS_set, li 97, li 98, li 115, o_c hk 97 (by omega), o_c hk 115 (by omega), h3, nI_add, o_c hk _ (by omega)]
  refine ⟨o_v hk _ (by omega), o_v hk _ (by omega), o_v hk _ (by omega), o_v hk _ (by omega), o_v hk _ (by omega), o_v hk _ (by omega), ?_⟩
  rw [mSet2]
  refine hQ _ ⟨?_, ?_, ?_, ?_, ?_, ?_, ?_, ?_, ?_, ?_⟩ (((o.upd (by omega)).upd (by omega)).upd (by omega))
  · rw [upd_n (by omega), upd_n (by omega), upd_n (by omega)]; exact h1
  · refine rowAt.ext h2 (fun i hi => ?_)
    have hi : i < (aCopy (sApply d c)).length := hi
    rw [upd_n (by omega), upd_n (by omega), upd_n (by omega)]
  · rw [upd_n (by omega), upd_s, upd_n (by omega), h3, nI_1]
    show _ = nI (aWait d ++ [c]).length
    rw [List.length_append]; rfl
  · show rowAt _ _ mcode (aWait d ++ [c])
    have h4 : rowAt g (97 + 116 * k + 98) mcode (aWait d) := h4
    refine rowAt.snoc h4 (fun i hi => ?_) ?_
    · rw [upd_n (by omega), upd_n (by omega), upd_n (by omega)]
    · rw [upd_n (by omega), upd_n (by omega), show 97 + 116 * k + 98 + (aWait d).length = 97 + 116 * k + (98 + (aWait d).length) by omega, upd_s]
  · rw [upd_n (by omega), upd_n (by omega), upd_n (by omega)]; exact h5
  · refine rowAt.ext h6 (fun i hi => ?_)
    have hi : i < (aBacks (sApply d c)).length := hi
    rw [upd_n (by omega), upd_n (by omega), upd_n (by omega)]
  · rw [upd_n (by omega), upd_n (by omega), upd_n (by omega)]; exact h7
  · rw [upd_n (by omega), upd_n (by omega), upd_n (by omega)]; exact h8
  · rw [upd_n (by omega), upd_n (by omega), upd_n (by omega)]; exact h9
  · rw [upd_s, upd_n (by omega), upd_n (by omega), h10]; rfl
theorem m_keep {v : zM} {k : Nat} {d : aE} {c : Ch} (hk : k < 3) (h : RMe (mS v) k d) (hl : (aCopy d).length ≤ 80) (hb : (aBacks d).length ≤ 6) (hw : (aWait d).length ≤ 6) {Q : zM → Prop} (hQ : ∀ g1, RMe g1 k (sKeep d c) → outE k (mS v) g1 → Q (mSetS v g1)) : wp_X7_keep v (nI k) (mcode c) Q := by
  obtain ⟨h1, h2, h3, h4, h5, h6, h7, h8, h9, h10⟩ := h
  unfold wp_X7_keep
  have e0 : ∀ x : Int32, upd (mS v) (97 + 116 * k + (105 + (aBacks d).length)) x (97 + 116 * k + 104) = nI (aBacks d).length := fun x => by rw [upd_n (by omega), h5]
  rw [li 104, li 105, o_c hk 104 (by omega), h5, nI_add, o_c hk _ (by omega), e0, nI_1, upd_s]
  refine ⟨o_v hk _ (by omega), o_v hk _ (by omega), o_v hk _ (by omega), o_v hk _ (by omega), o_v hk _ (by omega), ?_⟩
  -- the row with the new one behind
  have hrow : rowAt (upd (upd (mS v) (97 + 116 * k + (105 + (aBacks d).length)) (mcode c)) (97 + 116 * k + 104) (nI ((aBacks d).length + 1))) (97 + 116 * k + 105) mcode (aBacks d ++ [c]) := by
    refine rowAt.snoc h6 (fun i hi => ?_) ?_
    · rw [upd_n (by omega), upd_n (by omega)]
    · rw [upd_n (by omega), show 97 + 116 * k + 105 + (aBacks d).length = 97 + 116 * k + (105 + (aBacks d).length) by omega, upd_s]
  have ho : outE k (mS v) (upd (upd (mS v) (97 + 116 * k + (105 + (aBacks d).length)) (mcode c)) (97 + 116 * k + 104) (nI ((aBacks d).length + 1))) := ((outE.refl).upd (by omega)).upd (by omega)
  have hs : ∀ i, (i < 97 + 116 * k + 104 ∨ 97 + 116 * k + 112 ≤ i) → upd (upd (mS v) (97 + 116 * k + (105 + (aBacks d).length)) (mcode c)) (97 + 116 * k + 104) (nI ((aBacks d).length + 1)) i = mS v i := fun i hi => by rw [upd_n (by omega), upd_n (by omega)]
  have hz : upd (upd (mS v) (97 + 116 * k + (105 + (aBacks d).length)) (mcode c)) (97 + 116 * k + 104) (nI ((aBacks d).length + 1)) (97 + 116 * k + 104) = nI ((aBacks d).length + 1) := upd_s
  generalize upd (upd (mS v) (97 + 116 * k + (105 + (aBacks d).length)) (mcode c)) (97 + 116 * k + 104) (nI ((aBacks d).length + 1)) = g at *
  have fin : ∀ w : Nat → Int32, (∀ i, (i < 97 + 116 * k + 104 ∨ 97 + 116 * k + 112 ≤ i) → w i = mS v i) → w (97 + 116 * k + 104) = nI (keepL (aBacks d) c).length → rowAt w (97 + 116 * k + 105) mcode (keepL (aBacks d) c) → Q (mSetS v w) := by
    intro w w1 w2 w3
    refine hQ w ⟨?_, ?_, ?_, ?_, w2, w3, ?_, ?_, ?_, ?_⟩ (fun i hi => w1 i (by omega))
    · rw [w1 _ (by omega)]; exact h1
    · exact rowAt.ext h2 (fun i hi => by
        have hi : i < (aCopy d).length := hi
        exact w1 _ (by omega))
    · rw [w1 _ (by omega)]; exact h3
    · exact rowAt.ext h4 (fun i hi => by
        have hi : i < (aWait d).length := hi
        exact w1 _ (by omega))
    · rw [w1 _ (by omega)]; exact h7
    · rw [w1 _ (by omega)]; exact h8
    · rw [w1 _ (by omega)]; exact h9
    · rw [w1 _ (by omega)]; exact h10
  refine pk_le ((aBacks d).length + 1) 6 (fun hle => ?_) (fun hgt => ?_)
  · have e : keepL (aBacks d) c = aBacks d ++ [c] := by unfold keepL; rw [if_neg (by omega)]
    refine fin g hs ?_ (by rw [e]; exact hrow)
    rw [hz, e, List.length_append]; rfl
  · have hb6 : (aBacks d).length = 6 := by omega
    have e : keepL (aBacks d) c = (aBacks d ++ [c]).eraseIdx 0 := by
      unfold keepL
      rw [if_pos (by omega)]
      cases hq : aBacks d with
      | nil => rw [hq] at hb6; exact absurd hb6 (by decide)
      | cons a l => rfl
    refine zLoop2_i (fun v3 w => ∃ j : Nat, v3 = nI j ∧ j ≤ 6 ∧ ∀ t : Nat, w t = if 97 + 116 * k + 105 ≤ t ∧ t < 97 + 116 * k + 105 + j then g (t + 1) else g t) (fun v3 _ => 6 - v3.toNatClampNeg) ?_ _ _ ⟨0, rfl, by omega, fun t => by rw [if_neg (by omega)]⟩
    rintro K v3 w ⟨j, rfl, hj, hinv⟩ hK
    unfold lb_X7_keep_57
    refine pk_le 6 j (fun q => ?_) (fun q => ?_)
    · have ej : j = 6 := by omega
      subst ej
      rw [li 104, o_c hk 104 (by omega), hinv (97 + 116 * k + 104), if_neg (by omega), hz, hb6, li 1, pk_sub (by omega)]
      refine ⟨o_v hk _ (by omega), o_v hk _ (by omega), fin _ (fun i hi => ?_) ?_ (fun i a hi => ?_)⟩
      · rw [upd_n (by omega), hinv, if_neg (by omega)]; exact hs i hi
      · rw [upd_s, e, List.length_eraseIdx_of_lt (by rw [List.length_append]; show 0 < _ + 1; omega), List.length_append, hb6]; rfl
      · have hil := (List.getElem?_eq_some_iff.mp hi).1
        rw [e, List.length_eraseIdx_of_lt (by rw [List.length_append]; show 0 < _ + 1; omega), List.length_append, hb6] at hil
        have hil : i < 6 := hil
        rw [e, List.getElem?_eraseIdx, if_neg (by omega)] at hi
        rw [upd_n (by omega), hinv, if_pos (by omega)]
        exact hrow (i + 1) a hi
    · rw [li 105, li 1, nI_add, nI_add, nI_add, o_c hk _ (by omega), o_c hk _ (by omega)]
      refine ⟨o_v hk _ (by omega), o_v hk _ (by omega), hK _ _ ⟨j + 1, rfl, by omega, fun t => ?_⟩ ?_⟩
      · rw [upd_at]
        by_cases e1 : t = 97 + 116 * k + (105 + j)
        · rw [if_pos e1, if_pos (by omega), hinv, if_neg (by omega)]
          refine congrArg _ ?_
          omega
        · rw [if_neg e1, hinv]
          by_cases e2 : 97 + 116 * k + 105 ≤ t ∧ t < 97 + 116 * k + 105 + j
          · rw [if_pos e2, if_pos (by omega)]
          · rw [if_neg e2, if_neg (by omega)]
      · rw [nI_clamp (by omega), nI_clamp (by omega)]; omega

theorem toI {n : Nat} (h : n < 2 ^ 31) : (nI n).toInt = n := Int32.toInt_ofNat_of_lt h
theorem m_in (x a b : Int32) : f_X7_in x a b = if x < a ∨ b < x then 0 else 1 := by
  unfold f_X7_in
  by_cases p : x < a
  · rw [if_pos p, if_pos (Or.inl p)]
  · rw [if_neg p]
    by_cases q : b < x
    · rw [if_pos q, if_pos (Or.inr q)]
    · rw [if_neg q, if_neg (by rintro (z | z); exact p z; exact q z)]
theorem lt_S {n : Nat} (h : n < 1000) (x : Int32) : nI n < x ↔ ¬ x < nI (n + 1) := by
  rw [Int32.lt_iff_toInt_lt, Int32.lt_iff_toInt_lt, toI (by omega), toI (by omega)]
  omega
theorem lt_P {n : Nat} (h : n < 1000) (x : Int32) : nI n - 1 < x ↔ ¬ x < nI n := by
  rw [Int32.lt_iff_toInt_lt, Int32.lt_iff_toInt_lt, li 1, pk_sub_toInt (by omega) (by omega), toI (by omega)]
  omega
theorem in_0 {x a b : Int32} {A B : Prop} (f : (x < a ∨ b < x) → A) (g : ¬ (x < a ∨ b < x) → B) : (f_X7_in x a b = 0 → A) ∧ (¬ f_X7_in x a b = 0 → B) := by
  rw [m_in]
  by_cases p : x < a ∨ b < x
  · rw [if_pos p]; exact br_t rfl (f p)
  · rw [if_neg p]; exact br_f (by decide) (g p)
theorem in_1 {x a b : Int32} {A B : Prop} (f : (x < a ∨ b < x) → A) (g : ¬ (x < a ∨ b < x) → B) : (¬ f_X7_in x a b = 0 → B) ∧ (f_X7_in x a b = 0 → A) := ⟨(in_0 f g).2, (in_0 f g).1⟩
theorem ed_0 {x : Int32} {A B : Prop} (f : (x < 0 ∨ ¬ x < 3) → A) (g : ¬ (x < 0 ∨ ¬ x < 3) → B) : (f_X7_isEditor x = 0 → A) ∧ (¬ f_X7_isEditor x = 0 → B) := by
  rw [m_isEd]
  by_cases p : x < 0 ∨ ¬ x < 3
  · rw [if_pos p]; exact br_t rfl (f p)
  · rw [if_neg p]; exact br_f (by decide) (g p)
theorem ed_1 {x : Int32} {A B : Prop} (f : (x < 0 ∨ ¬ x < 3) → A) (g : ¬ (x < 0 ∨ ¬ x < 3) → B) : (¬ f_X7_isEditor x = 0 → B) ∧ (f_X7_isEditor x = 0 → A) := ⟨(ed_0 f g).2, (ed_0 f g).1⟩
section MED
variable {v : zM} {k : Nat} {d : aE} {log : List Ch} {Q : Int32 → zM → Prop}
theorem m_inserts (hk : k < 3) (h : RMe (mS v) k d) (iv : invE k log d) {p l : Nat} (hp : p ≤ (aCopy d).length) (hl : l < 26) (hc : (aCopy d).length < 30) (hw : (aWait d).length < 6) (hQ : ∀ g1, RMe g1 k (sIns k d p l) → outE k (mS v) g1 → Q (nI (aCopy (sIns k d p l)).length) (mSetS v g1)) : wp_X7_inserts v (nI k) (nI p) (nI l) Q := by
  obtain ⟨i1, i2, i3, i4, i5, i6, i7, i8, i9, i10, i11, i12, i13⟩ := id iv
  have g1 : good (mkC 1 p l k) := ⟨by show 1 ≤ 2; omega, hl, hk, by show p ≤ 80; omega, fun e => by exact absurd e (by show ¬ (1 : Nat) = 2; omega)⟩
  have f1 : fitsC (aCopy d).length (mkC 1 p l k) := ⟨fun _ => hp, fun e => by exact absurd e (by show ¬ (1 : Nat) = 2; omega)⟩
  have e1 : (aCopy (sWrite d (mkC 1 p l k))).length = (aCopy d).length + 1 := sApply_copy f1
  have e2 : (aWait (sWrite d (mkC 1 p l k))).length = (aWait d).length + 1 := by show (aWait d ++ [_]).length = _; rw [List.length_append]; rfl
  have e3 : (aBacks (sWrite d (mkC 1 p l k))).length = (aBacks d).length := by show ((aBacks d).map _).length = _; rw [List.length_map]
  unfold wp_X7_inserts
  rw [li 1, li 2, li 0, m_made_c (by decide), m_made_c (by decide)]
  refine m_writes hk h g1 f1 (fun a ha => (i4 a ha).1) (by omega) (by omega) hw (by omega) (fun u r o => ?_)
  refine m_keep (v := mSetS v u) hk r (by omega) (by omega) (by omega) (fun u2 r2 o2 => ?_)
  refine ⟨o_v hk 0 (by omega), ?_⟩
  rw [mSet2, mS_set, o_c hk 0 (by omega), r2.1]
  exact hQ u2 r2 (o.trans o2)
theorem m_deletes (hk : k < 3) (h : RMe (mS v) k d) (iv : invE k log d) {p : Nat} (hp : p < (aCopy d).length) (hw : (aWait d).length < 6) (hQ : ∀ g1, RMe g1 k (sDel k d p) → outE k (mS v) g1 → Q (nI ((aCopy d).getD p 0)) (mSetS v g1)) : wp_X7_deletes v (nI k) (nI p) Q := by
  obtain ⟨i1, i2, i3, i4, i5, i6, i7, i8, i9, i10, i11, i12, i13⟩ := id iv
  have hbd := iv.bound
  have g1 : good (mkC 2 p 0 k) := ⟨by show 2 ≤ 2; omega, by show 0 < 26; omega, hk, by show p ≤ 80; omega, fun _ => rfl⟩
  have f1 : fitsC (aCopy d).length (mkC 2 p 0 k) := ⟨fun e => by exact absurd e (by show ¬ (2 : Nat) = 1; omega), fun _ => hp⟩
  have e1 : (aCopy (sWrite d (mkC 2 p 0 k))).length = (aCopy d).length - 1 := sApply_copy f1
  have e2 : (aWait (sWrite d (mkC 2 p 0 k))).length = (aWait d).length + 1 := by show (aWait d ++ [_]).length = _; rw [List.length_append]; rfl
  have e3 : (aBacks (sWrite d (mkC 2 p 0 k))).length = (aBacks d).length := by show ((aBacks d).map _).length = _; rw [List.length_map]
  have hx : mS v (97 + 116 * k + (1 + p)) = nI ((aCopy d).getD p 0) := by
    rw [show 97 + 116 * k + (1 + p) = 97 + 116 * k + 1 + p by omega]
    refine h.2.1 p _ ?_
    rw [List.getD_eq_getElem?_getD, List.getElem?_eq_getElem hp]; rfl
  unfold wp_X7_deletes
  rw [li 1, li 2, li 0, nI_add, o_c hk (1 + p) (by omega), hx, m_made_c (by decide)]
  refine ⟨o_v hk _ (by omega), fun x1 hx1 => ?_⟩
  subst hx1
  rw [m_made_c (by decide)]
  refine m_writes hk h g1 f1 (fun a ha => (i4 a ha).1) (by omega) (by omega) hw (by omega) (fun u r o => ?_)
  refine m_keep (v := mSetS v u) hk r (by omega) (by omega) (by omega) (fun u2 r2 o2 => ?_)
  exact hQ u2 r2 (o.trans o2)
theorem last_get (hb : (aBacks d).length ≠ 0) : (aBacks d)[(aBacks d).length - 1]? = some (lastB d) := by
  have hl : (aBacks d).length - 1 < (aBacks d).length := by omega
  unfold lastB
  rw [List.getD_eq_getElem?_getD, List.getElem?_eq_getElem hl]; rfl
theorem m_takes (hk : k < 3) (h : RMe (mS v) k d) (iv : invE k log d) (hb : (aBacks d).length ≠ 0) (hw : (aWait d).length < 6) (hQ : ∀ g1, RMe g1 k (sBack d) → outE k (mS v) g1 → Q (nI (cK (lastB d))) (mSetS v g1)) : wp_X7_backs v (nI k) Q := by
  obtain ⟨i1, i2, i3, i4, i5, i6, i7, i8, i9, i10, i11, i12, i13⟩ := id iv
  obtain ⟨h1, h2, h3, h4, h5, h6, h7, h8, h9, h10⟩ := h
  have hbd := iv.bound
  have hl := i4 _ (lastB_mem hb)
  have hg := h6 _ _ (last_get hb)
  have gk := hl.1.1
  unfold wp_X7_backs
  rw [li 104, li 105, o_c hk 104 (by omega), h5, li 1, pk_sub (by omega), upd_s, nI_add, o_c hk _ (by omega), upd_n (by omega), show 97 + 116 * k + (105 + ((aBacks d).length - 1)) = 97 + 116 * k + 105 + ((aBacks d).length - 1) by omega, hg]
  refine ⟨o_v hk _ (by omega), o_v hk _ (by omega), o_v hk _ (by omega), o_v hk _ (by omega), fun x1 hx1 => ?_⟩
  subst hx1
  have hr : RMe (upd (mS v) (97 + 116 * k + 104) (nI ((aBacks d).length - 1))) k (popB d) := by
    refine ⟨?_, ?_, ?_, ?_, ?_, ?_, ?_, ?_, ?_, ?_⟩
    · rw [upd_n (by omega)]; exact h1
    · exact rowAt.ext h2 (fun i hi => by
        have hi : i < (aCopy d).length := hi
        exact upd_n (by omega))
    · rw [upd_n (by omega)]; exact h3
    · exact rowAt.ext h4 (fun i hi => by
        have hi : i < (aWait d).length := hi
        exact upd_n (by omega))
    · rw [upd_s]
      show _ = nI ((aBacks d).eraseIdx _).length
      rw [List.length_eraseIdx_of_lt (by omega)]
    · intro i a hi
      have hi : ((aBacks d).eraseIdx ((aBacks d).length - 1))[i]? = some a := hi
      have hil := (List.getElem?_eq_some_iff.mp hi).1
      rw [List.length_eraseIdx_of_lt (by omega)] at hil
      rw [List.getElem?_eraseIdx, if_pos (by omega)] at hi
      rw [upd_n (by omega)]
      exact h6 i a hi
    · rw [upd_n (by omega)]; exact h7
    · rw [upd_n (by omega)]; exact h8
    · rw [upd_n (by omega)]; exact h9
    · rw [upd_n (by omega)]; exact h10
  have ho : outE k (mS v) (upd (mS v) (97 + 116 * k + 104) (nI ((aBacks d).length - 1))) := outE.refl.upd (by omega)
  rw [m_kind hl.1]
  unfold sBack at hQ
  refine pk_le (cK (lastB d)) 0 (fun q => ?_) (fun q => ?_)
  · rw [if_pos (by omega)] at hQ
    exact hQ _ hr ho
  · rw [if_neg (by omega)] at hQ
    have e3 : (aBacks (popB d)).length ≤ 7 := by
      show ((aBacks d).eraseIdx _).length ≤ 7
      rw [List.length_eraseIdx_of_lt (by omega)]; omega
    refine m_writes (v := mSetS v _) (d := popB d) hk hr hl.1 hl.2.1 (fun a ha => (i4 a (List.mem_of_mem_eraseIdx ha)).1) ?_ e3 hw ?_ (fun u r o => ?_)
    · show (aCopy d).length ≤ 78; omega
    · show aMark d ≤ 80; omega
    · rw [mSet2]
      exact hQ u r (ho.trans o)
end MED
