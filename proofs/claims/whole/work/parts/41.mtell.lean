/-! the reference's answers about what is -/
theorem rrow_c {L : List Ch} (hl : L.length < 1000) {p w : Int32} (hp : ¬ p < 0) {P : Int32 → Prop} {B : Prop} (hQ : P (rRow L p w)) (g : ∀ (j : Nat) (c : Ch), p = nI j → j < L.length → L[j]? = some c → P (rPart c w) → B) : (nI L.length ≤ p → P (-4)) ∧ (¬ nI L.length ≤ p → B) := by
  unfold rRow at hQ
  refine ⟨fun z => by rw [if_pos z] at hQ; exact hQ, fun z => ?_⟩
  rw [if_neg z] at hQ
  obtain ⟨j, hj, rfl, hj2⟩ := Int32_of hp
  rw [nI_leI (by omega) (by omega)] at z
  rw [hj2] at hQ
  refine g j _ rfl (by omega) ?_ hQ
  rw [List.getD_eq_getElem?_getD, List.getElem?_eq_getElem (by omega)]; rfl
section MTELL
variable {v : zM} {y : aY} {Q : Int32 → zM → Prop}
theorem ok_chain (ok : okY y) : chain 0 (sLog (yCur y)) := (ok.1.1.1 0 (by omega)).2.2.2.2.2.2.2.2.2.2.1
theorem ok_txt (ok : okY y) : (txt (sLog (yCur y))).length ≤ 60 := by
  rw [txt_len (ok_chain ok)]
  have := lenC_le (sLog (yCur y)) 0
  have := ok.1.2
  omega
theorem RM.laid {lt bt : Nat → Int32} {n : Int32} (h : RM v y) : RM (mSetLogLong (mSetBys (mSetLetters v lt) bt) n) y := h
theorem mx_letter (h : RM v y) (ok : okY y) (a b : Int32) (hQ : ∀ v1, RM v1 y → Q (rLetter y a b) v1) : wp_X7_letter v a b Q := by
  have ht := ok_txt ok
  unfold wp_X7_letter
  unfold rLetter at hQ
  refine in_0 (fun q => ?_) (fun q => ?_)
  · have q1 : (a < 0 ∨ ¬ a < 3) ∧ ¬ a = 3 := by
      have e3 : (3 : Int32).toInt = 3 := by decide
      have e0 : (0 : Int32).toInt = 0 := by decide
      rcases q with q | q
      · exact ⟨Or.inl q, fun e => by rw [e] at q; exact absurd q (by decide)⟩
      · rw [Int32.lt_iff_toInt_lt, e3] at q
        refine ⟨Or.inr (fun z => ?_), fun e => by rw [e, e3] at q; omega⟩
        rw [Int32.lt_iff_toInt_lt, e3] at z
        omega
    rw [if_pos q1] at hQ; exact hQ v h
  · obtain ⟨j, hj, rfl, hj2⟩ := Int32_of (fun z => q (Or.inl z))
    have hj3 : ¬ nI 3 < nI j := fun z => q (Or.inr z)
    rw [nI_ltI (by omega) (by omega)] at hj3
    have q1 : ¬ ((nI j < 0 ∨ ¬ nI j < 3) ∧ ¬ nI j = 3) := by
      rintro ⟨z1, z2⟩
      by_cases e : j = 3
      · exact z2 (by rw [e]; rfl)
      · exact neK (k := j) (by omega) z1
    rw [if_neg q1] at hQ
    refine ⟨fun z => ?_, fun z => ?_⟩
    · have hb := nn_of z
      rw [if_neg hb] at hQ
      refine pk_le 3 j (fun w => ?_) (fun w => ?_)
      · have e : j = 3 := by omega
        subst e
        rw [if_pos (show nI 3 = 3 from rfl)] at hQ
        refine m_lay h.1.1 (ok_chain ok) (fun lt bt r1 r2 => ?_)
        refine rget_c (L := txt (sLog (yCur y))) (by omega) (0, 0) hb (P := fun r => Q r _) (hQ _ h.laid) (fun i e hi hg hP => ?_)
        subst e
        refine ⟨vp_in_nI (by omega) (by omega), ?_⟩
        have e2 : lt (0 + i) = _ := r1 i _ hg
        rw [Nat.zero_add] at e2
        show Q (lt (nI i).toNatClampNeg) _
        rw [nI_clamp (by omega), e2]
        exact hP
      · rw [if_neg (show ¬ nI j = 3 from nI_neq (a := j) (b := 3) (by omega) (by omega) (by omega)), ixE_nI w] at hQ
        have hI := ok.1.1.1 j w
        have hbd := hI.bound
        have i12 := hI.2.2.2.2.2.2.2.2.2.2.2.1
        have hR := h.1.2 j w
        rw [li 0, li 1, o_c w 0 (by omega), hR.1]
        refine ⟨o_v w _ (by omega), rget_c (L := aCopy (sEd (yCur y) j)) (by omega) 0 hb (P := fun r => Q r v) (hQ v h) (fun i e hi hg hP => ?_)⟩
        subst e
        have e2 := hR.2.1 i _ hg
        rw [show 97 + 116 * j + 1 + i = 97 + 116 * j + (1 + i) by omega] at e2
        rw [nI_add, o_c w _ (by omega), e2]
        exact ⟨o_v w _ (by omega), hP⟩
    · rw [if_pos (le_not.mp z)] at hQ; exact hQ v h
theorem mx_by (h : RM v y) (ok : okY y) (b : Int32) (hQ : ∀ v1, RM v1 y → Q (rBy y b) v1) : wp_X7_by v b Q := by
  have ht := ok_txt ok
  unfold wp_X7_by
  unfold rBy at hQ
  refine ⟨fun z => ?_, fun z => ?_⟩
  · have hb := nn_of z
    rw [if_neg hb] at hQ
    refine m_lay h.1.1 (ok_chain ok) (fun lt bt r1 r2 => ?_)
    refine rget_c (L := txt (sLog (yCur y))) (by omega) (0, 0) hb (P := fun r => Q r _) (hQ _ h.laid) (fun i e hi hg hP => ?_)
    subst e
    refine ⟨vp_in_nI (by omega) (by omega), ?_⟩
    have e2 : bt (0 + i) = _ := r2 i _ hg
    rw [Nat.zero_add] at e2
    show Q (bt (nI i).toNatClampNeg) _
    rw [nI_clamp (by omega), e2]
    exact hP
  · rw [if_pos (le_not.mp z)] at hQ; exact hQ v h
theorem mx_editorOf (h : RM v y) (ok : okY y) (a b : Int32) (hQ : ∀ v1, RM v1 y → Q (rEditor y a b) v1) : wp_X7_editorOf v a b Q := by
  have ht := ok_txt ok
  unfold wp_X7_editorOf
  unfold rEditor at hQ
  refine ed_1 (fun q => by rw [if_pos q] at hQ; exact hQ v h) (fun q => ?_)
  rw [if_neg q] at hQ
  have ha := isEd_of q
  have hk := ixE_lt a
  generalize ixE a = k at *
  subst ha
  have hI := ok.1.1.1 k hk
  have hbd := hI.bound
  have i12 := hI.2.2.2.2.2.2.2.2.2.2.2.1
  have hR := h.1.2 k hk
  have hhd := hI.1
  have hLg := h.1.1
  obtain ⟨r1, r2, r3, r4, r5, r6, r7, r8, r9, r10⟩ := id hR
  rw [show f_X7_of (nI k) 0 = f_X7_of (nI k) (nI 0) from rfl, li 97, li 104, li 112, li 113, li 114, li 115, o_c hk 0 (by omega), o_c hk 97 (by omega), o_c hk 104 (by omega), o_c hk 112 (by omega), o_c hk 113 (by omega), o_c hk 114 (by omega), o_c hk 115 (by omega), r1, r3, r5, r7, r8, r9, r10, show (0 : Int32).toNatClampNeg = 0 from rfl, hLg.1, pk_sub hhd]
  refine ⟨fun z => ?_, fun z => ?_⟩
  · rw [if_pos z] at hQ; exact ⟨o_v hk _ (by omega), hQ v h⟩
  rw [if_neg z] at hQ
  refine ⟨fun z => ?_, fun z => ?_⟩
  · rw [if_pos z] at hQ; exact ⟨o_v hk _ (by omega), hQ v h⟩
  rw [if_neg z] at hQ
  refine ⟨fun z => ?_, fun z => ?_⟩
  · rw [if_pos z] at hQ; exact ⟨o_v hk _ (by omega), hQ v h⟩
  rw [if_neg z] at hQ
  refine ⟨fun z => ?_, fun z => ?_⟩
  · rw [if_pos z] at hQ; exact ⟨o_v hk _ (by omega), hQ v h⟩
  rw [if_neg z] at hQ
  refine ⟨fun z => ?_, fun z => ?_⟩
  · rw [if_pos z] at hQ; exact ⟨vp_in_nI (n := 0) (by omega) (by omega), o_v hk _ (by omega), hQ v h⟩
  rw [if_neg z] at hQ
  refine ⟨fun z => ?_, fun z => ?_⟩
  · rw [if_pos z] at hQ; exact ⟨o_v hk _ (by omega), hQ v h⟩
  rw [if_neg z] at hQ
  refine ⟨fun z => ?_, fun z => ?_⟩
  · rw [if_pos z] at hQ; exact ⟨o_v hk _ (by omega), hQ v h⟩
  rw [if_neg z] at hQ
  refine ⟨fun z => ?_, fun z => ?_⟩
  · rw [if_pos z] at hQ
    refine m_lay hLg (ok_chain ok) (fun lt bt q1 q2 => ?_)
    refine m_isSame (v := mSetLogLong (mSetBys (mSetLetters v lt) bt) (nI (txt (sLog (yCur y))).length)) (T := txt (sLog (yCur y))) hk hR (by omega) (by omega) rfl q1 (fun w => ?_) (fun w => ?_)
    · rw [if_pos w] at hQ
      exact ⟨fun x => absurd x (by decide), fun _ => hQ _ h.laid⟩
    · rw [if_neg w] at hQ
      exact ⟨fun _ => hQ _ h.laid, fun x => absurd rfl x⟩
  rw [if_neg z] at hQ
  refine ⟨fun z => ?_, fun z => ?_⟩
  · rw [if_pos z] at hQ; exact ⟨o_v hk _ (by omega), hQ v h⟩
  rw [if_neg z] at hQ
  exact hQ v h
theorem mx_waitingOf (h : RM v y) (ok : okY y) (a b c : Int32) (hQ : ∀ v1, RM v1 y → Q (rWaiting y a b c) v1) : wp_X7_waitingOf v a b c Q := by
  unfold wp_X7_waitingOf
  unfold rWaiting at hQ
  refine ed_0 (fun q => by rw [if_pos q] at hQ; exact hQ v h) (fun q => ?_)
  rw [if_neg q] at hQ
  have ha := isEd_of q
  have hk := ixE_lt a
  generalize ixE a = k at *
  subst ha
  have hI := ok.1.1.1 k hk
  have i7 := hI.2.2.2.2.2.2.1
  have hR := h.1.2 k hk
  refine ⟨fun z => by rw [if_pos z] at hQ; exact hQ v h, fun hb => ?_⟩
  rw [if_neg hb] at hQ
  refine in_1 (fun z => ?_) (fun z => ?_)
  · rw [if_pos (by rcases z with z | z; exact Or.inl z; exact Or.inr (le_not.mpr z))] at hQ; exact hQ v h
  · rw [if_neg (by rintro (w | w); exact z (Or.inl w); exact z (Or.inr (le_not.mp w)))] at hQ
    rw [li 97, li 98, o_c hk 97 (by omega), hR.2.2.1]
    refine ⟨o_v hk _ (by omega), rrow_c (by omega) hb (P := fun r => Q r v) (hQ v h) (fun i u e hi hg hP => ?_)⟩
    subst e
    have e2 := hR.2.2.2.1 i _ hg
    rw [show 97 + 116 * k + 98 + i = 97 + 116 * k + (98 + i) by omega] at e2
    rw [nI_add, o_c hk _ (by omega), e2, m_told (chain_good _ _ hI.2.1 _ (List.mem_of_getElem? hg))]
    exact ⟨o_v hk _ (by omega), hP⟩
theorem mx_logOf (h : RM v y) (ok : okY y) (b c : Int32) (hQ : ∀ v1, RM v1 y → Q (rLog y b c) v1) : wp_X7_logOf v b c Q := by
  have hl := h.1.1.2.2
  unfold wp_X7_logOf
  unfold rLog at hQ
  refine ⟨fun z => by rw [if_pos z] at hQ; exact hQ v h, fun hb => ?_⟩
  rw [if_neg hb] at hQ
  refine in_1 (fun z => ?_) (fun z => ?_)
  · rw [if_pos (by rcases z with z | z; exact Or.inl z; exact Or.inr (le_not.mpr z))] at hQ; exact hQ v h
  · rw [if_neg (by rintro (w | w); exact z (Or.inl w); exact z (Or.inr (le_not.mp w)))] at hQ
    rw [show (0 : Int32).toNatClampNeg = 0 from rfl, h.1.1.1]
    refine ⟨vp_in_nI (n := 0) (by omega) (by omega), rrow_c (by omega) hb (P := fun r => Q r v) (hQ v h) (fun i u e hi hg hP => ?_)⟩
    subst e
    have e2 := h.1.1.2.1 i _ hg
    have e1 : (1 : Int32) + nI i = nI (1 + i) := by rw [li 1, nI_add]
    rw [e1, nI_clamp (by omega), e2, m_told (chain_good _ _ (ok_chain ok) _ (List.mem_of_getElem? hg))]
    exact ⟨vp_in_nI (by omega) (by omega), hP⟩
theorem mx_wouldSend (h : RM v y) (ok : okY y) (a b : Int32) (hQ : ∀ v1, RM v1 y → Q (rWould y a b) v1) : wp_X7_wouldSend v a b Q := by
  unfold wp_X7_wouldSend
  unfold rWould at hQ
  refine ed_0 (fun q => by rw [if_pos q] at hQ; exact hQ v h) (fun q => ?_)
  rw [if_neg q] at hQ
  have ha := isEd_of q
  have hk := ixE_lt a
  generalize ixE a = k at *
  subst ha
  have hI := ok.1.1.1 k hk
  have hR := h.1.2 k hk
  have hl := h.1.1.2.2
  refine in_1 (fun z => ?_) (fun z => ?_)
  · rw [if_pos (by rcases z with z | z; exact Or.inl z; exact Or.inr (le_not.mpr z))] at hQ; exact hQ v h
  · rw [if_neg (by rintro (w | w); exact z (Or.inl w); exact z (Or.inr (le_not.mp w)))] at hQ
    refine m_canSend h.1 ok.1.1 hk ?_
    by_cases c : canS (yCur y) k = true
    · rw [if_pos c] at hQ ⊢
      refine ⟨fun x => absurd x (by decide), fun _ => ?_⟩
      obtain ⟨cw, cy⟩ := canS_iff.mp c
      have hw0 : (aWait (sEd (yCur y) k))[0]? = some (firstW (sEd (yCur y) k)) := by
        unfold firstW
        rw [List.getD_eq_getElem?_getD, List.getElem?_eq_getElem (by omega)]; rfl
      have e0 := hR.2.2.2.1 0 _ hw0
      rw [Nat.add_zero] at e0
      rw [li 98, o_c hk 98 (by omega), e0]
      refine ⟨o_v hk _ (by omega), m_behind hk hR h.1.1 hI cw ?_⟩
      obtain ⟨go, -, -⟩ := outS_ok hI cw hl
      rw [show outC (firstW (sEd (yCur y) k)) ((sLog (yCur y)).drop (aHeard (sEd (yCur y) k))) = outS (yCur y) k from rfl, m_told go]
      exact hQ v h
    · rw [if_neg c] at hQ ⊢
      exact ⟨fun _ => hQ v h, fun x => absurd rfl x⟩
/-- sums -/
theorem m_sum2 (h : RM v y) (ok : okY y) (hQ : Q (nI (nothN (sLog (yCur y)))) v) : wp_X7_sum v 2 Q := by
  have hl := h.1.1.2.2
  have hg := chain_good _ _ (ok_chain ok)
  unfold wp_X7_sum
  refine zLoop2_i (fun v1 v2 => ∃ j : Nat, v2 = nI j ∧ j ≤ (sLog (yCur y)).length ∧ v1 = nI (nothN ((sLog (yCur y)).take j))) (fun _ v2 => (sLog (yCur y)).length - v2.toNatClampNeg) ?_ _ _ ⟨0, rfl, Nat.zero_le _, rfl⟩
  rintro K v1 v2 ⟨j, rfl, hj, rfl⟩ hK
  unfold lb_X7_sum_4
  rw [show (0 : Int32).toNatClampNeg = 0 from rfl, h.1.1.1]
  refine ⟨vp_in_nI (n := 0) (by omega) (by omega), pk_le (sLog (yCur y)).length j (fun hle => ?_) (fun hgt => ⟨fun z => absurd rfl z, fun _ => ?_⟩)⟩
  · rw [List.take_of_length_le hle]
    refine zLoop2_i (fun x z => x = nI (nothN (sLog (yCur y))) ∧ z = 0) (fun _ _ => 0) ?_ _ _ ⟨rfl, rfl⟩
    rintro K2 x z ⟨rfl, rfl⟩ hK2
    unfold lb_X7_sum_49
    exact ⟨fun w => absurd w (by decide), fun _ => ⟨fun _ => hQ, fun w => absurd (by decide) w⟩⟩
  · have hu : (sLog (yCur y))[j]? = some (sLog (yCur y))[j] := List.getElem?_eq_getElem hgt
    have gu := hg _ (List.getElem_mem hgt)
    have e1 : (1 : Int32) + nI j = nI (1 + j) := by rw [li 1, nI_add]
    rw [e1, nI_clamp (by omega), h.1.1.2.1 _ _ hu, m_kind gu]
    have ht : (sLog (yCur y)).take (j + 1) = (sLog (yCur y)).take j ++ [(sLog (yCur y))[j]] := (List.take_append_getElem hgt).symm
    have step : ∀ x : Int32, x = nI (nothN ((sLog (yCur y)).take (j + 1))) → K x (nI j + 1) := by
      intro x hx
      rw [nI_1]
      refine hK _ _ ⟨j + 1, rfl, by omega, hx⟩ ?_
      rw [nI_clamp (by omega), nI_clamp (by omega)]; omega
    have := gu.1
    refine ⟨vp_in_nI (by omega) (by omega), fun q x4 hx4 => step _ ?_, fun q x5 hx5 => step _ ?_⟩
    · rw [hx4, ht, li 0, nI_add]
      unfold nothN
      have : ¬ cK (sLog (yCur y))[j] = 0 := fun z => q (by rw [z]; rfl)
      rw [List.filter_append]; simp [this]
    · rw [hx5, ht, nI_1]
      unfold nothN
      have : cK (sLog (yCur y))[j] = 0 := (nI_eq (b := 0) (by omega) (by omega)).mp q
      rw [List.filter_append]; simp [this]
def waitN (s : aS) : Nat → Nat
  | 0 => 0
  | i + 1 => waitN s i + (aWait (sEd s i)).length
theorem m_sum34 (h : RM v y) (ok : okY y) (p : Int32) (hp : p = 3 ∨ p = 4) (f : Nat → Nat) (f0 : f 0 = 0) (f3 : p = 3 → ∀ i, f (i + 1) = f i + (aWait (sEd (yCur y) i)).length) (f4 : p = 4 → ∀ i, f (i + 1) = f i + (if decSettled (yCur y) i = true then 1 else 0)) (hQ : Q (nI (f 3)) v) : wp_X7_sum v p Q := by
  have hl := h.1.1.2.2
  have p2 : ¬ p = 2 := by rcases hp with rfl | rfl <;> decide
  have p22 : ¬ p ≤ 2 := by rcases hp with rfl | rfl <;> decide
  have lp : zLoop2 (lb_X7_sum_49 v p Q) 0 0 := by
    refine zLoop2_i (fun x z => ∃ i : Nat, z = nI i ∧ i ≤ 3 ∧ x = nI (f i)) (fun _ z => 3 - z.toNatClampNeg) ?_ _ _ ⟨0, rfl, by omega, by rw [f0]; rfl⟩
    rintro K x z ⟨i, rfl, hi, rfl⟩ hK
    unfold lb_X7_sum_49
    refine pk_le 3 i (fun hle => ?_) (fun hk => ⟨fun w => absurd w p22, fun _ => ?_⟩)
    · have e : i = 3 := by omega
      subst e
      exact hQ
    · have hI := ok.1.1.1 i hk
      have i7 := hI.2.2.2.2.2.2.1
      have i1 := hI.1
      have hR := h.1.2 i hk
      have next : ∀ x : Int32, x = nI (f (i + 1)) → K x (nI i + 1) := by
        intro x hx
        rw [nI_1]
        refine hK _ _ ⟨i + 1, rfl, by omega, hx⟩ ?_
        rw [nI_clamp (by omega), nI_clamp (by omega)]; omega
      have jn : ∀ s : Int32, (s = if decSettled (yCur y) i = true then 1 else 0) → jn_X7_sum_98 v p (nI (f i)) (nI i) s Q K := by
        intro s hs
        unfold jn_X7_sum_98
        rw [li 97, o_c hk 97 (by omega), hR.2.2.1]
        refine ⟨fun z => ?_, fun z => ⟨o_v hk _ (by omega), fun x hx => next x ?_⟩⟩
        · have z4 : p = 4 := by
            rcases hp with rfl | rfl
            · exact absurd rfl z
            · rfl
          have e4 := f4 z4 i
          by_cases w : decSettled (yCur y) i = true
          · rw [if_pos w] at hs e4
            subst hs
            refine ⟨fun q => absurd q (by decide), fun _ x hx => next x ?_⟩
            rw [hx, e4, nI_1]
          · rw [if_neg w] at hs e4
            subst hs
            refine ⟨fun _ x hx => next x ?_, fun q => absurd rfl q⟩
            rw [hx, e4, li 0, nI_add]
        · rw [hx, f3 z i, nI_add]
      rw [li 112, li 97, o_c hk 112 (by omega), o_c hk 97 (by omega), hR.2.2.2.2.2.2.1, hR.2.2.1, show (0 : Int32).toNatClampNeg = 0 from rfl, h.1.1.1]
      refine ⟨o_v hk _ (by omega), vp_in_nI (n := 0) (by omega) (by omega), fun z => ?_, fun z => ⟨o_v hk _ (by omega), fun w => ?_, fun w => ?_⟩⟩
      · unfold jn_X7_sum_97
        refine jn 0 ?_
        rw [if_neg (fun q => z (by rw [(decSettled_iff.mp q).2]))]
      · unfold jn_X7_sum_97
        refine jn 0 ?_
        rw [if_neg (fun q => w (by rw [(decSettled_iff.mp q).1]; rfl))]
      · refine jn 1 ?_
        rw [if_pos (decSettled_iff.mpr ⟨(nI_eq (b := 0) (by omega) (by omega)).mp w, (nI_eq (by omega) (by omega)).mp z⟩)]
  unfold wp_X7_sum
  refine zLoop2_i (fun x z => x = 0 ∧ z = 0) (fun _ _ => 0) ?_ _ _ ⟨rfl, rfl⟩
  rintro K x z ⟨rfl, rfl⟩ hK
  unfold lb_X7_sum_4
  exact ⟨vp_in_nI (n := 0) (by omega) (by omega), fun _ => lp, fun _ => ⟨fun _ => lp, fun w => absurd w p2⟩⟩
theorem mx_count (h : RM v y) (ok : okY y) (b : Int32) (hQ : ∀ v1, RM v1 y → Q (rCount y b) v1) : wp_X7_count v b Q := by
  have hl := h.1.1.2.2
  unfold wp_X7_count
  unfold rCount at hQ
  refine ⟨fun q => ?_, fun q => ?_⟩
  · rw [if_pos q] at hQ
    refine ⟨vp_in_nI (n := 0) (by omega) (by omega), ?_⟩
    rw [show (0 : Int32).toNatClampNeg = 0 from rfl, h.1.1.1]
    exact hQ v h
  rw [if_neg q] at hQ
  refine ⟨fun q => ?_, fun q => ?_⟩
  · rw [if_pos q] at hQ
    exact m_lay h.1.1 (ok_chain ok) (fun lt bt r1 r2 => hQ _ h.laid)
  rw [if_neg q] at hQ
  refine ⟨fun q => ?_, fun q => ?_⟩
  · rw [if_pos q] at hQ; subst q; exact m_sum2 h ok (hQ v h)
  rw [if_neg q] at hQ
  refine ⟨fun q => ?_, fun q => ?_⟩
  · rw [if_pos q] at hQ; subst q
    refine m_sum34 h ok 3 (Or.inl rfl) (waitN (yCur y)) rfl (fun _ i => rfl) (fun w => absurd w (by decide)) ?_
    have e : waitN (yCur y) 3 = (aWait (sEd (yCur y) 0)).length + (aWait (sEd (yCur y) 1)).length + (aWait (sEd (yCur y) 2)).length := by
      show 0 + _ + _ + _ = _
      rw [Nat.zero_add]
    rw [e]
    exact hQ v h
  rw [if_neg q] at hQ
  refine ⟨fun q => ?_, fun q => ?_⟩
  · rw [if_pos q] at hQ; subst q
    exact m_sum34 h ok 4 (Or.inr rfl) (setN (yCur y)) rfl (fun w => absurd w (by decide)) (fun _ i => rfl) (hQ v h)
  rw [if_neg q] at hQ
  refine ⟨fun q => ?_, fun q => ?_⟩
  · rw [if_pos q] at hQ
    rw [h.2.1]; exact hQ v h
  rw [if_neg q] at hQ
  refine ⟨fun q => ?_, fun q => ?_⟩
  · rw [if_pos q] at hQ
    rw [h.2.2.2.1]; exact hQ v h
  rw [if_neg q] at hQ; exact hQ v h
end MTELL
