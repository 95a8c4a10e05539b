/-! the reference: what would be; back; signs typed -/
section MWHAT
variable {v : zM} {y : aY} {Q : Int32 → zM → Prop}
theorem end_len (ok : okY y) (b : Bool) : (txt (sLog (endS (yCur y) b))).length ≤ 78 := by
  have h1 := endD_ok (b := b) ok.1.1 3 (by omega)
  have h2 := (endH_ok h1 3 (by omega)).1
  have hc := (h2.1 0 (by omega)).2.2.2.2.2.2.2.2.2.2.1
  have hl : (sLog (endS (yCur y) b)).length ≤ 78 := RS.log60 h2
  rw [txt_len (show chain 0 (sLog (endS (yCur y) b)) from hc)]
  have := lenC_le (sLog (endS (yCur y) b)) 0
  omega
theorem mx_inTheEnd (h : RM v y) (ok : okY y) (a b : Int32) (hQ : ∀ v1, RM v1 y → Q (rInEnd y a b) v1) : wp_X7_inTheEnd v a b Q := by
  unfold wp_X7_inTheEnd
  unfold rInEnd at hQ
  refine in_0 (fun q => ?_) (fun q => ?_)
  · rw [if_pos q] at hQ; exact hQ v h
  · rw [if_neg q] at hQ
    have ho : a = 0 ∨ a = 1 := by
      obtain ⟨j, hj, rfl, hj2⟩ := Int32_of (fun z => q (Or.inl z))
      have hj3 : ¬ nI 1 < nI j := fun z => q (Or.inr z)
      rw [nI_ltI (by omega) (by omega)] at hj3
      have : j = 0 ∨ j = 1 := by omega
      rcases this with rfl | rfl
      · exact Or.inl rfl
      · exact Or.inr rfl
    refine ⟨fun z => ?_, fun z => ?_⟩
    · have hb := nn_of z
      rw [if_neg hb] at hQ
      have hl := end_len ok (decide (a = 1))
      refine m_end h ok ho (fun v1 r1 r2 r3 r4 r5 => ?_)
      rw [r2]
      refine rget_c (L := txt (sLog (endS (yCur y) (decide (a = 1))))) (by omega) (0, 0) hb (P := fun r => Q r v1) (hQ v1 r1) (fun i e hi hg hP => ?_)
      subst e
      refine ⟨vp_in_nI (by omega) (by omega), ?_⟩
      have e2 := r3 i _ hg
      rw [Nat.zero_add] at e2
      rw [nI_clamp (by omega), e2]
      exact hP
    · rw [if_pos (le_not.mp z)] at hQ; exact hQ v h
theorem mx_both (h : RM v y) (ok : okY y) (a : Int32) (hQ : ∀ v1, RM v1 y → Q (rBoth y a) v1) : wp_X7_both v a Q := by
  unfold wp_X7_both
  unfold rBoth at hQ
  have e0 : decide ((0 : Int32) = 1) = false := by decide
  have e1 : decide ((1 : Int32) = 1) = true := by decide
  refine in_1 (fun z => ?_) (fun z => ?_)
  · rw [if_pos (by rcases z with z | z; exact Or.inl z; exact Or.inr (le_not.mpr z))] at hQ; exact hQ v h
  · have hlo := end_len ok false
    have hlt := end_len ok true
    have hz3 : ¬ a = 0 → ¬ a = 1 → ¬ a = 2 → a = 3 := by
      intro a0 a1 a2
      obtain ⟨j, hj, rfl, hj2⟩ := Int32_of (fun w => z (Or.inl w))
      have hj3 : ¬ nI 3 < nI j := fun w => z (Or.inr w)
      rw [nI_ltI (by omega) (by omega)] at hj3
      have : j ≠ 0 := fun e => a0 (by rw [e]; rfl)
      have : j ≠ 1 := fun e => a1 (by rw [e]; rfl)
      have : j ≠ 2 := fun e => a2 (by rw [e]; rfl)
      have : j = 3 := by omega
      rw [this]; rfl
    rw [if_neg (by rintro (w | w); exact z (Or.inl w); exact z (Or.inr (le_not.mp w)))] at hQ
    refine m_end h ok (Or.inl rfl) (fun v1 r1 r2 r3 r4 r5 => ?_)
    rw [e0] at r2 r3 r4
    generalize txt (sLog (endS (yCur y) false)) = T0 at *
    generalize allSame (endS (yCur y) false) = A0 at *
    intro x3 hx3 x4 hx4
    rw [r2] at hx3
    rw [r4] at hx4
    subst hx3
    subst hx4
    -- the first text is kept
    refine zLoop2_i (fun v4 w => ∃ (i : Nat), v4 = nI i ∧ i ≤ T0.length ∧ RM w y ∧ mLogLong w = nI T0.length ∧ rowAt (mLetters w) 0 fL T0 ∧ ∀ (t : Nat) (q : Nat × Nat), t < i → T0[t]? = some q → mFirst w t = fL q) (fun v4 _ => T0.length - v4.toNatClampNeg) ?_ _ _ ⟨0, rfl, Nat.zero_le _, r1, r2, r3, fun t q ht => by omega⟩
    rintro K v4 w ⟨i, rfl, hi, w1, w2, w3, w4⟩ hK
    unfold lb_X7_both_29
    rw [w2]
    refine pk_le T0.length i (fun hle => ?_) (fun hgt => ?_)
    · have ei : i = T0.length := by omega
      subst ei
      refine m_end w1 ok (Or.inr rfl) (fun v2 s1 s2 s3 s4 s5 => ?_)
      rw [e1] at s2 s3 s4
      generalize txt (sLog (endS (yCur y) true)) = T1 at *
      generalize allSame (endS (yCur y) true) = A1 at *
      have w5 : rowAt (mFirst v2) 0 fL T0 := by
        rw [s5]
        intro t q ht
        rw [Nat.zero_add]
        exact w4 t q (List.getElem?_eq_some_iff.mp ht).1 ht
      have jn : ∀ x : Int32, (x = 0 ∧ ¬ T0.map fL = T1.map fL) ∨ (x = 1 ∧ T0.map fL = T1.map fL) → jn_X7_both_125 v a (nI T0.length) (bP A0) x v2 Q := by
        intro x hx
        unfold jn_X7_both_125
        rw [s2, s4]
        refine ⟨fun a0 => ?_, fun a0 => ?_⟩
        · rw [if_neg a0] at hQ
          refine ⟨fun a1 => ?_, fun a1 => ?_⟩
          · rw [if_neg a1] at hQ
            refine ⟨fun a2 => ?_, fun a2 => ?_⟩
            · rw [if_neg a2] at hQ
              refine ⟨fun c0 => ?_, fun c0 => ⟨fun c1 => ?_, fun c1 => ?_⟩⟩
              · rw [bP_f (fun q => absurd (bP_t q.1 ▸ c0) (by decide))] at hQ
                exact hQ _ s1
              · rw [bP_f (fun q => absurd (bP_t q.2 ▸ c1) (by decide))] at hQ
                exact hQ _ s1
              · have p0 : A0 := Classical.byContradiction (fun q => c0 (bP_f q))
                have p1 : A1 := Classical.byContradiction (fun q => c1 (bP_f q))
                rw [bP_t ⟨p0, p1⟩] at hQ
                exact hQ _ s1
            · rw [if_pos a2] at hQ
              rcases hx with ⟨rfl, hx⟩ | ⟨rfl, hx⟩
              · rw [bP_f hx] at hQ
                exact ⟨fun _ => hQ _ s1, fun q => absurd rfl q⟩
              · rw [bP_t hx] at hQ
                exact ⟨fun q => absurd q (by decide), fun _ => hQ _ s1⟩
          · rw [if_pos a1] at hQ; exact hQ _ s1
        · rw [if_pos a0] at hQ; exact hQ _ s1
      have lp : ∀ x : Int32, (x = 0 ∧ ¬ T0.map fL = T1.map fL) ∨ (x = 1 ∧ T0.length = T1.length) → zLoop2 (lb_X7_both_81 v a (nI T0.length) (bP A0) v2 Q) x 0 := by
        intro x hx
        refine zLoop2_i (fun v4 v5 => ∃ j : Nat, v5 = nI j ∧ j ≤ T1.length ∧ ((v4 = 0 ∧ ¬ T0.map fL = T1.map fL) ∨ (v4 = 1 ∧ T0.length = T1.length ∧ ∀ (t : Nat) (p q : Nat × Nat), t < j → T0[t]? = some p → T1[t]? = some q → fL p = fL q))) (fun _ v5 => T1.length - v5.toNatClampNeg) ?_ _ _ ⟨0, rfl, Nat.zero_le _, ?_⟩
        · rintro K3 v4 v5 ⟨j, rfl, hj, hinv⟩ hK3
          unfold lb_X7_both_81
          rw [s2]
          rcases hinv with ⟨rfl, hne⟩ | ⟨rfl, hle2, heq⟩
          · exact ⟨fun _ => jn 0 (Or.inl ⟨rfl, hne⟩), fun _ => ⟨fun _ => jn 0 (Or.inl ⟨rfl, hne⟩), fun q => absurd rfl q⟩⟩
          · refine pk_le T1.length j (fun hjt => jn 1 (Or.inr ⟨rfl, ?_⟩)) (fun hgt => ⟨fun q => absurd q (by decide), fun _ => ?_⟩)
            · apply List.ext_getElem (by simpa using hle2)
              intro t h1 h2
              simp only [List.length_map] at h1 h2
              simp only [List.getElem_map]
              exact heq t _ _ (by omega) (List.getElem?_eq_getElem h1) (List.getElem?_eq_getElem h2)
            · have gb : T1[j]? = some T1[j] := List.getElem?_eq_getElem hgt
              have ga : T0[j]? = some (T0[j]'(by omega)) := List.getElem?_eq_getElem _
              have ra := w5 _ _ ga
              have rb := s3 _ _ gb
              rw [Nat.zero_add] at ra rb
              rw [nI_clamp (by omega), ra, rb, nI_1]
              refine ⟨vp_in_nI (by omega) (by omega), vp_in_nI (by omega) (by omega), fun q => ?_, fun q => ?_⟩
              · refine hK3 _ _ ⟨j + 1, rfl, by omega, Or.inl ⟨rfl, fun hm => q ?_⟩⟩ ?_
                · have h1 : (T0.map fL)[j]? = (T1.map fL)[j]? := by rw [hm]
                  rw [List.getElem?_map, List.getElem?_map, ga, gb] at h1
                  simp only [Option.map_some, Option.some.injEq] at h1
                  exact h1
                · rw [nI_clamp (by omega), nI_clamp (by omega)]; omega
              · refine hK3 _ _ ⟨j + 1, rfl, by omega, Or.inr ⟨rfl, hle2, fun t a b ht h1 h2 => ?_⟩⟩ ?_
                · by_cases e2 : t = j
                  · subst e2
                    rw [ga] at h1; rw [gb] at h2
                    cases h1; cases h2; exact q
                  · exact heq t a b (by omega) h1 h2
                · rw [nI_clamp (by omega), nI_clamp (by omega)]; omega
        · rcases hx with hx | hx
          · exact Or.inl hx
          · exact Or.inr ⟨hx.1, hx.2, fun t a b ht => by omega⟩
      rw [s2]
      refine ⟨fun q => lp 0 (Or.inl ⟨rfl, fun hm => q ?_⟩), fun q => lp 1 (Or.inr ⟨rfl, (nI_eq (by omega) (by omega)).mp q⟩)⟩
      have := congrArg List.length hm
      rw [List.length_map, List.length_map] at this
      rw [this]
    · have ga : T0[i]? = some T0[i] := List.getElem?_eq_getElem hgt
      have ra := w3 _ _ ga
      rw [Nat.zero_add] at ra
      rw [nI_clamp (by omega), ra, nI_1]
      refine ⟨vp_in_nI (by omega) (by omega), vp_in_nI (by omega) (by omega), hK _ _ ⟨i + 1, rfl, by omega, w1, w2, w3, fun t q ht hq => ?_⟩ ?_⟩
      · show upd (mFirst w) i _ t = _
        rw [upd_at]
        by_cases e : t = i
        · subst e
          rw [ga] at hq
          cases hq
          rw [if_pos rfl]
        · rw [if_neg e]; exact w4 t q (by omega) hq
      · rw [nI_clamp (by omega), nI_clamp (by omega)]; omega
theorem mx_undo (h : RM v y) (ok : okY y) (hQ : ∀ v1, RM v1 (undoY y).2 → Q (undoY y).1 v1) : wp_X7_undo v Q := by
  obtain ⟨h1, h2, h3, h4, h5⟩ := id h
  have k4 := ok.2.2.2
  unfold wp_X7_undo
  unfold undoY at hQ
  rw [h2]
  cases hl : yHist y with
  | nil =>
    rw [hl] at hQ
    exact ⟨fun q => absurd rfl q, fun _ => hQ v h⟩
  | cons s l =>
    rw [hl] at hQ h3 k4
    rw [List.length_cons] at k4 ⊢
    refine ⟨fun _ => ?_, fun q => absurd ((nI_eq (b := 0) (by omega) (by omega)).mp q) (by omega)⟩
    rw [nI_pred]
    have hs : okS s := ok.2.1 s (by rw [hl]; exact List.mem_cons_self)
    have hm : (s :: l).reverse[l.length]? = some s := by
      rw [List.reverse_cons, List.getElem?_append_right (by rw [List.length_reverse]; omega), List.length_reverse, Nat.sub_self]; rfl
    have hb := h3 _ _ hm
    refine zLoop2_i (fun v1 w => ∃ j : Nat, v1 = nI j ∧ j ≤ 445 ∧ ∀ t, t < j → w t = mBefore v (445 * l.length + t)) (fun v1 _ => 445 - v1.toNatClampNeg) ?_ _ _ ⟨0, rfl, by omega, fun t ht => by omega⟩
    rintro K v1 w ⟨j, rfl, hj, hinv⟩ hK
    unfold lb_X7_undo_22
    refine pk_le 445 j (fun hle => ?_) (fun hgt => ?_)
    · refine hQ _ ⟨hb.ext hs.1 (fun t ht => hinv t (by omega)), rfl, fun i z hz => h3 i z ?_, h4, h5⟩
      have hz : l.reverse[i]? = some z := hz
      have hi := (List.getElem?_eq_some_iff.mp hz).1
      rw [List.reverse_cons, List.getElem?_append_left hi]
      exact hz
    · have e1 : (445 : Int32) * nI l.length + nI j = nI (445 * l.length + j) := by rw [li 445, pk_mul, nI_add]
      rw [e1, nI_1, nI_clamp (by omega), nI_clamp (by omega)]
      refine ⟨vp_in_nI (by omega) (by omega), vp_in_nI (by omega) (by omega), hK _ _ ⟨j + 1, rfl, by omega, fun t ht => ?_⟩ ?_⟩
      · rw [upd_at]
        by_cases e : t = j
        · rw [if_pos e, e]
        · rw [if_neg e]; exact hinv t (by omega)
      · rw [nI_clamp (by omega), nI_clamp (by omega)]; omega
theorem mx_type (h : RM v y) (ok : okY y) (a : Int32) (hQ : ∀ v1, RM v1 (typeY y a).2 → Q (typeY y a).1 v1) : wp_X7_type v a Q := by
  obtain ⟨h1, h2, h3, h4, h5⟩ := id h
  have hc := ok.2.2.1.1
  unfold wp_X7_type
  unfold typeY at hQ
  rw [h4]
  refine in_1 (fun z => ?_) (fun z => ?_)
  · rw [if_pos (by rcases z with z | z; exact Or.inl z; exact Or.inr (le_not.mpr z))] at hQ; exact hQ v h
  · rw [if_neg (by rintro (w | w); exact z (Or.inl w); exact z (Or.inr (le_not.mp w)))] at hQ
    refine ⟨fun q => ?_, fun q => ?_⟩
    · have hlt : (yCmds y).length < 60 := by
        rcases Nat.lt_or_ge (yCmds y).length 60 with w | w
        · exact w
        · exact absurd (by rw [show (yCmds y).length = 60 by omega]; rfl) q
      rw [if_neg (by omega)] at hQ
      have hp : ¬ a < 0 := fun q => z (Or.inl (by
        rw [Int32.lt_iff_toInt_lt] at q ⊢
        have e0 : (0 : Int32).toInt = 0 := by decide
        have e1 : (32 : Int32).toInt = 32 := by decide
        omega))
      obtain ⟨j, hj, rfl, hj2⟩ := Int32_of hp
      rw [hj2] at hQ
      rw [nI_1, nI_clamp (by omega)]
      refine ⟨vp_in_nI (by omega) (by omega), hQ _ ⟨h1, h2, h3, ?_, ?_⟩⟩
      · show nI ((yCmds y).length + 1) = nI (yCmds y ++ [j]).length
        rw [List.length_append]; rfl
      · show rowAt (upd (mText v) (yCmds y).length (nI j)) 0 nI (yCmds y ++ [j])
        refine rowAt.snoc h5 (fun i hi => upd_n (by omega)) ?_
        rw [Nat.zero_add, upd_s]
    · have e : (yCmds y).length = 60 := (nI_eq (b := 60) (by omega) (by omega)).mp q
      rw [if_pos (by omega)] at hQ; exact hQ v h
theorem mx_clearText (h : RM v y) (ok : okY y) (hQ : ∀ v1, RM v1 (clearTY y).2 → Q (clearTY y).1 v1) : wp_X7_clearText v Q := by
  obtain ⟨h1, h2, h3, h4, h5⟩ := id h
  unfold wp_X7_clearText
  rw [h4]
  intro x1 hx1
  subst hx1
  exact hQ _ ⟨h1, h2, h3, rfl, fun i a hi => by simp [clearTY, yCmds] at hi⟩
end MWHAT
