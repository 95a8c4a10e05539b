/-! the reference's row: an editor's cells, and a change done in them -/
def rowAt {α : Type} (g : Nat → Int32) (o : Nat) (f : α → Int32) (A : List α) : Prop := ∀ (i : Nat) (a : α), A[i]? = some a → g (o + i) = f a
def RMe (g : Nat → Int32) (k : Nat) (d : aE) : Prop := g (97 + 116 * k + 0) = nI (aCopy d).length ∧ rowAt g (97 + 116 * k + 1) nI (aCopy d) ∧ g (97 + 116 * k + 97) = nI (aWait d).length ∧ rowAt g (97 + 116 * k + 98) mcode (aWait d) ∧ g (97 + 116 * k + 104) = nI (aBacks d).length ∧ rowAt g (97 + 116 * k + 105) mcode (aBacks d) ∧ g (97 + 116 * k + 112) = nI (aHeard d) ∧ g (97 + 116 * k + 113) = bI (aWay d) ∧ g (97 + 116 * k + 114) = nI (aMark d) ∧ g (97 + 116 * k + 115) = aWr d
/-- cells beside the editor k are as they were -/
def outE (k : Nat) (g g1 : Nat → Int32) : Prop := ∀ i, (i < 97 + 116 * k ∨ 213 + 116 * k ≤ i) → g1 i = g i
theorem outE.refl {k : Nat} {g : Nat → Int32} : outE k g g := fun _ _ => rfl
theorem outE.trans {k : Nat} {g g1 g2 : Nat → Int32} (h : outE k g g1) (h2 : outE k g1 g2) : outE k g g2 := fun i hi => by rw [h2 i hi, h i hi]
theorem outE.upd {k j : Nat} {g g1 : Nat → Int32} {x : Int32} (h : outE k g g1) (hj : j < 116) : outE k g (upd g1 (97 + 116 * k + j) x) := fun i hi => by
  rw [upd_at, if_neg (by omega)]; exact h i hi
theorem o_of (k j : Nat) : f_X7_of (nI k) (nI j) = nI (97 + 116 * k + j) := by
  unfold f_X7_of
  rw [li 97, li 116, pk_mul, nI_add, nI_add]
theorem o_l (k j : Nat) : f_X7_of (nI k) (OfNat.ofNat j) = nI (97 + 116 * k + j) := o_of k j
theorem o_v {k : Nat} (hk : k < 3) (j : Nat) (hj : j < 116) : vp_in (f_X7_of (nI k) (nI j)) 445 := by rw [o_of]; exact vp_in_nI (by omega) (by omega)
theorem o_c {k : Nat} (hk : k < 3) (j : Nat) (hj : j < 116) : (f_X7_of (nI k) (nI j)).toNatClampNeg = 97 + 116 * k + j := by rw [o_of]; exact nI_clamp (by omega)
theorem upd_s {g : Nat → Int32} {k : Nat} {x : Int32} : upd g k x k = x := by rw [upd_at, if_pos rfl]
theorem upd_n {g : Nat → Int32} {k j : Nat} {x : Int32} (h : j ≠ k) : upd g k x j = g j := by rw [upd_at, if_neg h]
theorem rowAt.ext {α : Type} {g g1 : Nat → Int32} {o : Nat} {f : α → Int32} {A : List α} (h : rowAt g o f A) (e : ∀ i, i < A.length → g1 (o + i) = g (o + i)) : rowAt g1 o f A := fun i a hi => by
  rw [e i (List.getElem?_eq_some_iff.mp hi).1]; exact h i a hi
/-- the backs are reshaped -/
theorem m_backs {v : zM} {k : Nat} {c : Ch} {B : List Ch} {g : Nat → Int32} (hk : k < 3) (gc : good c) (gB : ∀ a ∈ B, good a) (h0 : g (97 + 116 * k + 104) = nI B.length) (hB : rowAt g (97 + 116 * k + 105) mcode B) (h6 : B.length ≤ 7) {Q : zM → Prop} (hQ : ∀ g1, rowAt g1 (97 + 116 * k + 105) mcode (B.map (fun a => resh a c)) → (∀ i, (i < 97 + 116 * k + 105 ∨ 97 + 116 * k + 112 ≤ i) → g1 i = g i) → Q (mSetS v g1)) : zLoop2 (lb_X7_perform_241 v (nI k) (mcode c) Q) 0 g := by
  refine zLoop2_i (fun v5 w => ∃ j : Nat, v5 = nI j ∧ j ≤ B.length ∧ (∀ (i : Nat) (a : Ch), B[i]? = some a → w (97 + 116 * k + 105 + i) = if i < j then mcode (resh a c) else mcode a) ∧ ∀ i, (i < 97 + 116 * k + 105 ∨ 97 + 116 * k + 112 ≤ i) → w i = g i) (fun v5 _ => B.length - v5.toNatClampNeg) ?_ _ _ ⟨0, rfl, Nat.zero_le _, fun i a hi => by rw [if_neg (by omega)]; exact hB i a hi, fun i _ => rfl⟩
  rintro K v5 w ⟨j, rfl, hj, hin, hout⟩ hK
  unfold lb_X7_perform_241
  rw [li 104, li 105, nI_add, o_c hk 104 (by omega), hout (97 + 116 * k + 104) (by omega), h0]
  refine ⟨o_v hk 104 (by omega), pk_le B.length j (fun hle => ?_) (fun hgt => ?_)⟩
  · have e : j = B.length := by omega
    subst e
    refine hQ _ (fun i a hi => ?_) hout
    rw [List.getElem?_map] at hi
    cases hq : B[i]? with
    | none => rw [hq] at hi; cases hi
    | some b =>
      rw [hq] at hi
      cases hi
      rw [hin i b hq, if_pos (List.getElem?_eq_some_iff.mp hq).1]
  · have hq : B[j]? = some B[j] := List.getElem?_eq_getElem hgt
    rw [o_c hk (105 + j) (by omega), show 97 + 116 * k + (105 + j) = 97 + 116 * k + 105 + j by omega, hin j _ hq, if_neg (by omega), m_resh (gB _ (List.getElem_mem hgt)) gc, nI_1]
    refine ⟨o_v hk (105 + j) (by omega), o_v hk (105 + j) (by omega), hK _ _ ⟨j + 1, rfl, by omega, fun i a hi => ?_, fun i hi => ?_⟩ ?_⟩
    · rw [upd_at]
      by_cases e : i = j
      · subst e
        rw [hq] at hi
        cases hi
        rw [if_pos rfl, if_pos (by omega)]
      · rw [if_neg (by omega), hin i a hi]
        by_cases e2 : i < j
        · rw [if_pos e2, if_pos (by omega)]
        · rw [if_neg e2, if_neg (by omega)]
    · rw [upd_at, if_neg (by omega)]; exact hout i hi
    · rw [nI_clamp (by omega), nI_clamp (by omega)]; omega
/-- a change is done in the cells of the editor k -/
theorem m_perform {v : zM} {k : Nat} {d : aE} {c : Ch} (hk : k < 3) (h : RMe (mS v) k d) (gc : good c) (fc : fitsC (aCopy d).length c) (gB : ∀ a ∈ aBacks d, good a) (hl : (aCopy d).length ≤ 78) (hb : (aBacks d).length ≤ 7) (hw : (aWait d).length ≤ 6) (hm : aMark d ≤ 80) {Q : zM → Prop} (hQ : ∀ g1, RMe g1 k (sApply d c) → outE k (mS v) g1 → Q (mSetS v g1)) : wp_X7_perform v (nI k) (mcode c) Q := by
  obtain ⟨h1, h2, h3, h4, h5, h6, h7, h8, h9, h10⟩ := h
  obtain ⟨f1, f2⟩ := fc
  have gk := gc.1
  have gp := gc.2.2.2.1
  unfold wp_X7_perform
  rw [li 0, o_c hk 0 (by omega), m_kind gc, h1, li 1, li 2]
  intro x1 hx1
  refine ⟨o_v hk 0 (by omega), ?_⟩
  intro x2 hx2
  subst hx2
  -- the end: the backs, then all is as it should
  have fin : ∀ (w : Nat → Int32), w (97 + 116 * k + 0) = nI (applC (cL c) (aCopy d) c).length → rowAt w (97 + 116 * k + 1) nI (applC (cL c) (aCopy d) c) → w (97 + 116 * k + 114) = nI (markC (aMark d) c) → (∀ i, (i < 97 + 116 * k ∨ (97 + 116 * k + 97 ≤ i ∧ i ≠ 97 + 116 * k + 114)) → w i = mS v i) → (applC (cL c) (aCopy d) c).length ≤ 96 → zLoop2 (lb_X7_perform_241 v (nI k) (mcode c) Q) 0 w := by
    intro w w0 w1 w2 w3 w4
    refine m_backs hk gc gB (by rw [w3 _ (by omega), h5]) (h6.ext (fun i hi => w3 _ (by omega))) hb (fun g1 r1 r2 => hQ g1 ⟨?_, ?_, ?_, ?_, ?_, r1, ?_, ?_, ?_, ?_⟩ ?_)
    · rw [r2 _ (by omega)]; exact w0
    · refine rowAt.ext w1 (fun i hi => r2 _ ?_)
      have : i < (applC (cL c) (aCopy d) c).length := hi
      omega
    · rw [r2 _ (by omega), w3 _ (by omega)]; exact h3
    · refine rowAt.ext h4 (fun i hi => ?_)
      have hi : i < (aWait d).length := hi
      rw [r2 _ (by omega), w3 _ (by omega)]
    · rw [r2 _ (by omega), w3 _ (by omega)]
      show _ = nI ((aBacks d).map _).length
      rw [List.length_map]; exact h5
    · rw [r2 _ (by omega), w3 _ (by omega)]; exact h7
    · rw [r2 _ (by omega), w3 _ (by omega)]; exact h8
    · rw [r2 _ (by omega)]; exact w2
    · rw [r2 _ (by omega), w3 _ (by omega)]; exact h10
    · intro i hi
      rw [r2 i (by omega), w3 i (by omega)]
  by_cases k1 : cK c = 1
  · have p1 := f1 k1
    have hx : x1 = nI (cP c) := by rw [hx1, m_place gc (by omega)]
    subst hx
    refine ⟨fun q => absurd (by rw [k1]) q, fun _ => ?_⟩
    have eL : applC (cL c) (aCopy d) c = (aCopy d).insertIdx (cP c) (cL c) := by unfold applC; rw [if_pos k1]
    have eLen : (applC (cL c) (aCopy d) c).length = (aCopy d).length + 1 := by rw [eL, List.length_insertIdx_of_le_length p1]
    refine zLoop2_i (fun v5 w => ∃ j : Nat, v5 = nI j ∧ cP c ≤ j ∧ j ≤ (aCopy d).length ∧ ∀ t : Nat, w t = if 97 + 116 * k + 1 + j < t ∧ t ≤ 97 + 116 * k + 1 + (aCopy d).length then mS v (t - 1) else mS v t) (fun v5 _ => v5.toNatClampNeg) ?_ _ _ ⟨(aCopy d).length, rfl, p1, Nat.le_refl _, fun t => by rw [if_neg (by omega)]⟩
    rintro K v5 w ⟨j, rfl, hj1, hj2, hinv⟩ hK
    unfold lb_X7_perform_29
    refine pk_le j (cP c) (fun hle => ?_) (fun hgt => ?_)
    · have e : j = cP c := by omega
      subst e
      have mark : ∀ z : Int32, z = nI (markC (aMark d) c) → zLoop2 (lb_X7_perform_241 v (nI k) (mcode c) Q) 0 (upd (upd (upd w (97 + 116 * k + (1 + cP c)) (nI (cL c))) (97 + 116 * k + 0) (nI ((aCopy d).length + 1))) (97 + 116 * k + 114) z) := by
        intro z hz
        refine fin _ ?_ ?_ ?_ ?_ (by omega)
        · rw [upd_n (by omega), upd_s, eLen]
        · intro i a hi
          rw [eL, List.getElem?_insertIdx] at hi
          rw [upd_n (by
            have := hi
            have hi2 : i ≤ (aCopy d).length := by
              by_cases e1 : i < cP c
              · omega
              · rw [if_neg e1] at this
                by_cases e2 : i = cP c
                · omega
                · rw [if_neg e2] at this
                  have := (List.getElem?_eq_some_iff.mp this).1
                  omega
            omega), upd_n (by omega), upd_at]
          by_cases e1 : i < cP c
          · rw [if_pos e1] at hi
            rw [if_neg (by omega), hinv, if_neg (by omega)]
            exact h2 i a hi
          · rw [if_neg e1] at hi
            by_cases e2 : i = cP c
            · rw [if_pos e2, if_pos (by omega)] at hi
              rw [if_pos (by omega)]; cases hi; rfl
            · rw [if_neg e2] at hi
              have := (List.getElem?_eq_some_iff.mp hi).1
              rw [if_neg (by omega), hinv, if_pos (by omega)]
              have := h2 (i - 1) a hi
              rw [← this]
              refine congrArg _ ?_
              omega
        · rw [upd_s]; exact hz
        · intro i hi
          rw [upd_n (by omega), upd_n (by omega), upd_n (by omega), hinv, if_neg (by omega)]
      have r0 : upd w (97 + 116 * k + (1 + cP c)) (nI (cL c)) (97 + 116 * k + 0) = nI (aCopy d).length := by rw [upd_n (by omega), hinv, if_neg (by omega), h1]
      have r1 : ∀ x : Int32, upd (upd w (97 + 116 * k + (1 + cP c)) (nI (cL c))) (97 + 116 * k + 0) x (97 + 116 * k + 114) = nI (aMark d) := fun x => by rw [upd_n (by omega), upd_n (by omega), hinv, if_neg (by omega), h9]
      rw [li 1, li 0, li 114, nI_add, o_c hk (1 + cP c) (by omega), o_c hk 0 (by omega), o_c hk 114 (by omega), m_letter gc (by omega), r0, r1, nI_add, nI_add, nI_add]
      refine ⟨o_v hk _ (by omega), o_v hk _ (by omega), o_v hk _ (by omega), o_v hk _ (by omega), o_v hk _ (by omega), pk_lt (aMark d) (cP c) (fun q => ⟨o_v hk _ (by omega), mark _ ?_⟩) (fun q => ⟨o_v hk _ (by omega), mark _ ?_⟩)⟩
      · unfold markC; rw [if_pos k1, if_neg (by omega)]; rfl
      · unfold markC; rw [if_pos k1, if_pos q]
    · obtain ⟨i, rfl⟩ : ∃ i, j = i + 1 := ⟨j - 1, by omega⟩
      rw [pk_m1, li 1, nI_add, pk_sub (by omega), o_c hk _ (by omega), o_c hk _ (by omega)]
      refine ⟨o_v hk _ (by omega), o_v hk _ (by omega), hK _ _ ⟨i, rfl, by omega, by omega, fun t => ?_⟩ ?_⟩
      · rw [upd_at]
        by_cases e : t = 97 + 116 * k + (1 + (i + 1))
        · rw [if_pos e, if_pos (by omega), hinv, if_neg (by omega)]
          refine congrArg _ ?_
          omega
        · rw [if_neg e, hinv]
          by_cases e2 : 97 + 116 * k + 1 + (i + 1) < t ∧ t ≤ 97 + 116 * k + 1 + (aCopy d).length
          · rw [if_pos e2, if_pos (by omega)]
          · rw [if_neg e2, if_neg (by omega)]
      · rw [nI_clamp (by omega), nI_clamp (by omega)]; omega
  · refine ⟨fun _ => ?_, fun q => absurd q (nI_neq k1 (by omega) (by omega))⟩
    by_cases k2 : cK c = 2
    · have p2 := f2 k2
      have hx : x1 = nI (cP c) := by rw [hx1, m_place gc (by omega)]
      subst hx
      refine ⟨fun q => absurd (by rw [k2]) q, fun _ => ?_⟩
      have eL : applC (cL c) (aCopy d) c = (aCopy d).eraseIdx (cP c) := by unfold applC; rw [if_neg k1, if_pos k2]
      have eLen : (applC (cL c) (aCopy d) c).length = (aCopy d).length - 1 := by rw [eL, List.length_eraseIdx_of_lt p2]
      refine zLoop2_i (fun v5 w => ∃ j : Nat, v5 = nI j ∧ cP c ≤ j ∧ j ≤ (aCopy d).length - 1 ∧ ∀ t : Nat, w t = if 97 + 116 * k + 1 + cP c ≤ t ∧ t < 97 + 116 * k + 1 + j then mS v (t + 1) else mS v t) (fun v5 _ => (aCopy d).length - v5.toNatClampNeg) ?_ _ _ ⟨cP c, rfl, Nat.le_refl _, by omega, fun t => by rw [if_neg (by omega)]⟩
      rintro K v5 w ⟨j, rfl, hj1, hj2, hinv⟩ hK
      unfold lb_X7_perform_147
      rw [li 1, pk_sub (by omega)]
      refine pk_le ((aCopy d).length - 1) j (fun hle => ?_) (fun hgt => ?_)
      · have e : j = (aCopy d).length - 1 := by omega
        subst e
        have mark : ∀ z : Int32, z = nI (markC (aMark d) c) → zLoop2 (lb_X7_perform_241 v (nI k) (mcode c) Q) 0 (upd (upd w (97 + 116 * k + 0) (nI ((aCopy d).length - 1))) (97 + 116 * k + 114) z) := by
          intro z hz
          refine fin _ ?_ ?_ ?_ ?_ (by omega)
          · rw [upd_n (by omega), upd_s, eLen]
          · intro i a hi
            have hil : i < (applC (cL c) (aCopy d) c).length := (List.getElem?_eq_some_iff.mp hi).1
            rw [eL, List.getElem?_eraseIdx] at hi
            rw [upd_n (by omega), upd_n (by omega), hinv]
            by_cases e1 : i < cP c
            · rw [if_pos e1] at hi
              rw [if_neg (by omega)]
              exact h2 i a hi
            · rw [if_neg e1] at hi
              rw [if_pos (by omega)]
              exact h2 (i + 1) a hi
          · rw [upd_s]; exact hz
          · intro i hi
            rw [upd_n (by omega), upd_n (by omega), hinv, if_neg (by omega)]
        have r0 : w (97 + 116 * k + 0) = nI (aCopy d).length := by rw [hinv, if_neg (by omega), h1]
        have r1 : ∀ x : Int32, upd w (97 + 116 * k + 0) x (97 + 116 * k + 114) = nI (aMark d) := fun x => by rw [upd_n (by omega), hinv, if_neg (by omega), h9]
        rw [li 0, li 114, o_c hk 0 (by omega), o_c hk 114 (by omega), r0, pk_sub (by omega), r1, pk_sub (by omega)]
        refine ⟨o_v hk _ (by omega), o_v hk _ (by omega), o_v hk _ (by omega), o_v hk _ (by omega), pk_le (aMark d) (cP c) (fun q => ⟨o_v hk _ (by omega), mark _ ?_⟩) (fun q => ⟨o_v hk _ (by omega), mark _ ?_⟩)⟩
        · unfold markC; rw [if_neg k1, if_pos k2, if_neg (by omega)]; rfl
        · unfold markC; rw [if_neg k1, if_pos k2, if_pos (by omega), pk_sub (by omega)]
      · rw [nI_add, nI_add, nI_add, o_c hk _ (by omega), o_c hk _ (by omega)]
        refine ⟨o_v hk _ (by omega), o_v hk _ (by omega), hK _ _ ⟨j + 1, rfl, by omega, by omega, fun t => ?_⟩ ?_⟩
        · rw [upd_at]
          by_cases e : t = 97 + 116 * k + (1 + j)
          · rw [if_pos e, if_pos (by omega), hinv, if_neg (by omega)]
            refine congrArg _ ?_
            omega
          · rw [if_neg e, hinv]
            by_cases e2 : 97 + 116 * k + 1 + cP c ≤ t ∧ t < 97 + 116 * k + 1 + j
            · rw [if_pos e2, if_pos (by omega)]
            · rw [if_neg e2, if_neg (by omega)]
        · rw [nI_clamp (by omega), nI_clamp (by omega)]; omega
    · refine ⟨fun _ => ?_, fun q => absurd q (nI_neq k2 (by omega) (by omega))⟩
      have eL : applC (cL c) (aCopy d) c = aCopy d := by unfold applC; rw [if_neg k1, if_neg k2]
      refine fin _ (by rw [eL]; exact h1) (by rw [eL]; exact h2) ?_ (fun i _ => rfl) (by rw [eL]; omega)
      rw [h9]; unfold markC; rw [if_neg k1, if_neg k2]
