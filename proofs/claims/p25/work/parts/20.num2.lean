/-! rows of numbers: in, out, copied, compared -/
section NUM2
variable {α : Type} {cap : Nat} {f : α → Int32} {n : zN} {A : List α}
theorem s_addAt (h : rN cap f n A) {i : Nat} (hi : i ≤ A.length) (hl : A.length < cap) (a : α) {x y : Int32} (hx : x = nI i) (hy : y = f a) {Q : zN → Prop} (hQ : ∀ n1, rN cap f n1 (A.insertIdx i a) → Q n1) : wp_X4_addAt n x y Q := by
  subst hx; subst hy
  obtain ⟨h1, h2, h3, h6, h5⟩ := h
  unfold wp_X4_addAt
  rw [h1, h2]
  refine br_f (nI_pos (by omega)) (br_f (nI_nlt hi (by omega)) (br_t (nI_lt hl (by omega)) ?_))
  intro x4 hx4
  refine zLoop2_i (fun v3 row => ∃ j : Nat, v3 = nI j ∧ i ≤ j ∧ j ≤ A.length ∧ ∀ t : Nat, t ≤ A.length → row t = if j < t then nRow n (t - 1) else nRow n t) (fun v3 _ => v3.toNatClampNeg) ?_ _ _ ⟨A.length, hx4, hi, Nat.le_refl _, fun t ht => by rw [if_neg (by omega)]⟩
  rintro K v3 row ⟨j, rfl, hj1, hj2, hinv⟩ hK
  unfold lb_X4_addAt_30
  rw [h1, h2]
  refine pk_le j i (fun hle => ?_) (fun hgt => ?_)
  · have e : j = i := by omega
    subst e
    refine ⟨vp_in_nI (by omega) (by omega), hQ _ ⟨h1, ?_, ?_, h6, ?_⟩⟩
    · show nI A.length + 1 = _
      rw [List.length_insertIdx_of_le_length hi, nI_1]
    · rw [List.length_insertIdx_of_le_length hi]; omega
    · intro t b ht
      show upd row (nI j).toNatClampNeg (f a) t = f b
      rw [nI_clamp (by omega), upd_at]
      rw [List.getElem?_insertIdx] at ht
      by_cases e1 : t < j
      · rw [if_pos e1] at ht
        have := (List.getElem?_eq_some_iff.mp ht).1
        rw [if_neg (by omega), hinv t (by omega), if_neg (by omega)]
        exact h5 t b ht
      · rw [if_neg e1] at ht
        by_cases e2 : t = j
        · rw [if_pos e2, if_pos (by omega)] at ht
          rw [if_pos e2]; cases ht; rfl
        · rw [if_neg e2] at ht
          have := (List.getElem?_eq_some_iff.mp ht).1
          rw [if_neg e2, hinv t (by omega), if_pos (by omega)]
          exact h5 (t - 1) b ht
  · obtain ⟨k, rfl⟩ : ∃ k, j = k + 1 := ⟨j - 1, by omega⟩
    rw [nI_pred, pk_m1]
    refine ⟨vp_in_nI (by omega) (by omega), vp_in_nI (by omega) (by omega), hK _ _ ⟨k, rfl, by omega, by omega, fun t ht => ?_⟩ ?_⟩
    · rw [nI_clamp (by omega), nI_clamp (by omega), upd_at]
      by_cases e : t = k + 1
      · subst e
        rw [if_pos rfl, if_pos (by omega), hinv k (by omega), if_neg (by omega)]; rfl
      · rw [if_neg e, hinv t ht]
        by_cases e2 : k + 1 < t
        · rw [if_pos e2, if_pos (by omega)]
        · rw [if_neg e2, if_neg (by omega)]
    · rw [nI_clamp (by omega), nI_clamp (by omega)]; omega
theorem s_add (h : rN cap f n A) (hl : A.length < cap) (a : α) {y : Int32} (hy : y = f a) {Q : zN → Prop} (hQ : ∀ n1, rN cap f n1 (A ++ [a]) → Q n1) : wp_X4_add n y Q := by
  unfold wp_X4_add
  refine s_addAt h (Nat.le_refl _) hl a h.2.1 hy (fun n1 h1 => hQ n1 ?_)
  rw [List.insertIdx_length_self] at h1
  exact h1
theorem s_removeAt (h : rN cap f n A) {i : Nat} (hi : i < A.length) {x : Int32} (hx : x = nI i) {Q : zN → Prop} (hQ : ∀ n1, rN cap f n1 (A.eraseIdx i) → Q n1) : wp_X4_removeAt n x Q := by
  subst hx
  obtain ⟨h1, h2, h3, h6, h5⟩ := h
  unfold wp_X4_removeAt
  rw [h1, h2]
  refine br_f (nI_pos (by omega)) (br_f (nI_ge hi (by omega)) (br_t (nI_le h3 (by omega)) ?_))
  obtain ⟨L, hL⟩ : ∃ L, A.length = L + 1 := ⟨A.length - 1, by omega⟩
  rw [hL, nI_pred]
  refine zLoop2_i (fun v2 row => ∃ j : Nat, v2 = nI j ∧ i ≤ j ∧ j ≤ L ∧ ∀ t : Nat, row t = if i ≤ t ∧ t < j then nRow n (t + 1) else nRow n t) (fun v2 _ => L - v2.toNatClampNeg) ?_ _ _ ⟨i, rfl, Nat.le_refl _, by omega, fun t => by rw [if_neg (by omega)]⟩
  rintro K v2 row ⟨j, rfl, hj1, hj2, hinv⟩ hK
  unfold lb_X4_removeAt_37
  rw [h1]
  refine pk_le L j (fun hle => ?_) (fun hgt => ?_)
  · have e : j = L := by omega
    subst e
    have hlen : (A.eraseIdx i).length = j := by rw [List.length_eraseIdx_of_lt (by omega)]; omega
    refine hQ _ ⟨h1, by rw [hlen]; rfl, by omega, h6, ?_⟩
    intro t b ht
    show row t = f b
    rw [List.getElem?_eraseIdx] at ht
    rw [hinv]
    by_cases e1 : t < i
    · rw [if_pos e1] at ht
      rw [if_neg (by omega)]; exact h5 t b ht
    · rw [if_neg e1] at ht
      have := (List.getElem?_eq_some_iff.mp ht).1
      rw [if_pos (by omega)]; exact h5 (t + 1) b ht
  · rw [nI_1]
    refine ⟨vp_in_nI (by omega) (by omega), vp_in_nI (by omega) (by omega), hK _ _ ⟨j + 1, rfl, by omega, by omega, fun t => ?_⟩ ?_⟩
    · rw [nI_clamp (by omega), nI_clamp (by omega), upd_at]
      by_cases e : t = j
      · subst e
        rw [if_pos rfl, if_pos (by omega), hinv, if_neg (by omega)]
      · rw [if_neg e, hinv]
        by_cases e2 : i ≤ t ∧ t < j
        · rw [if_pos e2, if_pos (by omega)]
        · rw [if_neg e2, if_neg (by omega)]
    · rw [nI_clamp (by omega), nI_clamp (by omega)]; omega
theorem s_copy {o : zN} (hc : nCap n = cap) (h : rN cap f o A) {Q : zN → Prop} (hQ : ∀ n1, rN cap f n1 A → Q n1) : wp_X4_copyNumbers n o Q := by
  obtain ⟨h1, h2, h3, h6, h5⟩ := h
  unfold wp_X4_copyNumbers
  rw [h1, h2, hc]
  intro x1 hx1
  have e : x1 = nI A.length := by
    rw [hx1]
    simp only [ite_self]
    rw [if_neg (nI_nlt h3 (by omega))]
  subst e
  refine zLoop2_i (fun v3 row => ∃ j : Nat, v3 = nI j ∧ j ≤ A.length ∧ ∀ t : Nat, t < j → row t = nRow o t) (fun v3 _ => A.length - v3.toNatClampNeg) ?_ _ _ ⟨0, rfl, Nat.zero_le _, fun t ht => by omega⟩
  rintro K v3 row ⟨j, rfl, hj, hinv⟩ hK
  unfold lb_X4_copyNumbers_23
  rw [h1, hc]
  refine pk_le A.length j (fun hle => ?_) (fun hgt => ?_)
  · refine hQ _ ⟨hc, rfl, h3, h6, fun t b ht => ?_⟩
    have := (List.getElem?_eq_some_iff.mp ht).1
    show row t = f b
    rw [hinv t (by omega)]
    exact h5 t b ht
  · rw [nI_1]
    refine ⟨vp_in_nI (by omega) (by omega), vp_in_nI (by omega) (by omega), hK _ _ ⟨j + 1, rfl, by omega, fun t ht => ?_⟩ ?_⟩
    · rw [nI_clamp (by omega), upd_at]
      by_cases e : t = j
      · rw [if_pos e, e]
      · rw [if_neg e]; exact hinv t (by omega)
    · rw [nI_clamp (by omega), nI_clamp (by omega)]; omega
theorem s_same {β : Type} {cap2 : Nat} {g : β → Int32} {o : zN} {B : List β} (h : rN cap f n A) (h0 : rN cap2 g o B) {Q : Int32 → Prop} (hQ : Q (if A.map f = B.map g then 1 else 0)) : wp_X4_isSameAs n o Q := by
  have hA := h.2.2.1
  have hA2 := h.2.2.2.1
  have hB := h0.2.2.1
  have hB2 := h0.2.2.2.1
  unfold wp_X4_isSameAs
  rw [h.2.1, h0.2.1]
  refine pk_eq A.length B.length (fun he => ?_) (fun hne => ?_)
  · refine zLoop1_i (fun v2 => ∃ j : Nat, v2 = nI j ∧ j ≤ A.length ∧ ∀ (t : Nat) (a : α) (b : β), t < j → A[t]? = some a → B[t]? = some b → f a = g b) (fun v2 => A.length - v2.toNatClampNeg) ?_ _ ⟨0, rfl, Nat.zero_le _, fun t a b ht => by omega⟩
    rintro K v2 ⟨j, rfl, hj, hinv⟩ hK
    unfold lb_X4_isSameAs_15
    rw [h.2.1]
    refine pk_le A.length j (fun hle => ?_) (fun hgt => ?_)
    · rw [if_pos] at hQ
      · exact hQ
      · apply List.ext_getElem (by simpa using he)
        intro t h1 h2
        simp only [List.length_map] at h1 h2
        simp only [List.getElem_map]
        exact hinv t _ _ (by omega) (List.getElem?_eq_getElem h1) (List.getElem?_eq_getElem h2)
    · have ga : A[j]? = some A[j] := List.getElem?_eq_getElem hgt
      have gb : B[j]? = some B[j] := List.getElem?_eq_getElem (by omega)
      refine s_at h ga rfl (s_at h0 gb rfl (br_c (fun e => ?_) (fun e => ?_)))
      · rw [nI_1]
        refine hK _ ⟨j + 1, rfl, by omega, fun t a b ht h1 h2 => ?_⟩ ?_
        · by_cases e2 : t = j
          · subst e2
            rw [ga] at h1; rw [gb] at h2
            cases h1; cases h2; exact e
          · exact hinv t a b (by omega) h1 h2
        · rw [nI_clamp (by omega), nI_clamp (by omega)]; omega
      · rw [if_neg] at hQ
        · exact hQ
        · intro hm
          have h1 : (A.map f)[j]? = (B.map g)[j]? := by rw [hm]
          rw [List.getElem?_map, List.getElem?_map, ga, gb] at h1
          simp at h1
          exact e h1
  · rw [if_neg] at hQ
    · exact hQ
    · intro hm
      exact hne (by simpa using congrArg List.length hm)
end NUM2
