/-! the class's calls -/
def RX (x : zX) (y : aY) : Prop := RS (xNow x) (yCur y) ∧ RS0 (xTrial x) ∧ RS0 (xUp x) ∧ RS0 (xDown x) ∧ (∀ i, i < 5 → RS0 (xHv x i)) ∧ (∀ (i : Nat) (s : aS), (yHist y)[i]? = some s → RS (xHv x i) s) ∧ xHsz x = nI (yHist y).length ∧ RC (xCm x) (yCmds y)
theorem z5_at {α : Type} (a b c d e : α) {P : Nat → α → Prop} (h0 : P 0 a) (h1 : P 1 b) (h2 : P 2 c) (h3 : P 3 d) (h4 : P 4 e) : ∀ i, i < 5 → P i (z5 a b c d e i)
  | 0, _ => h0
  | 1, _ => h1
  | 2, _ => h2
  | 3, _ => h3
  | 4, _ => h4
  | i + 5, h => absurd h (by omega)
/-- a new state comes to the history -/
theorem RX.push {x : zX} {y : aY} {s : aS} (h : RX x y) (ok : okY y) {now u trial : zT} {cm : zC} {gh : Nat → Nat → Nat} {sz : Int32} (hu : RS u (yCur y)) (hn : RS now s) (ht : RS0 trial) (hc : RC cm (yCmds y)) (hs : sz = nI (((yCur y :: yHist y).take 4).length)) :
    ∀ x1 : zX, xNow x1 = now → xTrial x1 = trial → xUp x1 = xUp x → xDown x1 = xDown x → xHv x1 = z5 u (xHv x 0) (xHv x 1) (xHv x 2) (xHv x 3) → xHsz x1 = sz → xCm x1 = cm → RX x1 (pushY y s) := by
  intro x1 e1 e2 e3 e4 e5 e6 e7
  obtain ⟨h1, h2, h3, h4, h5, h6, h7, h8⟩ := h
  refine ⟨by rw [e1]; exact hn, by rw [e2]; exact ht, by rw [e3]; exact h3, by rw [e4]; exact h4, ?_, ?_, by rw [e6, hs]; rfl, by rw [e7]; exact hc⟩
  · rw [e5]
    exact z5_at _ _ _ _ _ (P := fun _ t => RS0 t) hu.rs0 (h5 0 (by omega)) (h5 1 (by omega)) (h5 2 (by omega)) (h5 3 (by omega))
  · intro i z hz
    have hl : i < 4 := by
      have := (List.getElem?_eq_some_iff.mp hz).1
      have h2 : ((yCur y :: yHist y).take 4).length ≤ 4 := by rw [List.length_take]; omega
      have h3 : i < ((yCur y :: yHist y).take 4).length := this
      omega
    have hz2 : (yCur y :: yHist y)[i]? = some z := by
      have : ((yCur y :: yHist y).take 4)[i]? = some z := hz
      rw [List.getElem?_take_of_lt hl] at this
      exact this
    rw [e5]
    have hi : i = 0 ∨ i = 1 ∨ i = 2 ∨ i = 3 := by omega
    rcases hi with rfl | rfl | rfl | rfl
    · cases hz2; exact hu
    · exact h6 0 z hz2
    · exact h6 1 z hz2
    · exact h6 2 z hz2
theorem keep_size {n : Nat} (h : n ≤ 4) : (if (4 : Int32) < nI n + 1 then 4 else nI n + 1) = nI (min (n + 1) 4) := by
  rw [nI_1, li 4]
  simp only [nI_ltI (a := 4) (b := n + 1) (by omega) (by omega)]
  by_cases h4 : 4 < n + 1
  · rw [if_pos h4, show min (n + 1) 4 = 4 by omega]
  · rw [if_neg h4, show min (n + 1) 4 = n + 1 by omega]
theorem take_size (y : aY) : ((yCur y :: yHist y).take 4).length = min ((yHist y).length + 1) 4 := by
  rw [List.length_take, List.length_cons]; omega
theorem s_prepare {hs : Int32} {t o : zT} {s : aS} (h0 : RS0 t) (h : RS o s) {Q : zT → Prop} (hQ : ∀ t1, RS t1 s → Q t1) : wp_X3_prepare hs t o Q := by
  unfold wp_X3_prepare
  exact s_copyState h0 h hQ
theorem sx_recorded {x : zX} {y : aY} (h : RX x y) (ok : okY y) (call a b c : Int32) {Q : Int32 → zX → Prop} (hQ : ∀ x1, RX x1 (recY y call a b c).2 → Q (recY y call a b c).1 x1) : wp_X6_recorded x call a b c Q := by
  have hh := h
  obtain ⟨h1, h2, h3, h4, h5, h6, h7, h8⟩ := h
  unfold wp_X6_recorded
  unfold recY at hQ
  refine s_prepare (h5 4 (by omega)) h1 (fun u hu => ?_)
  refine s_answer h1 ok.1.1 ok.1.2 call a b c (fun t1 ht1 => ?_)
  refine ⟨fun hn => ?_, fun hp => ?_⟩
  · rw [if_pos hn] at hQ
    rw [opAns_err ok.1 _ _ _ _ hn] at ht1
    refine hQ _ ⟨ht1, h2, h3, h4, ?_, ?_, h7, h8⟩
    · exact z5_at _ _ _ _ _ (P := fun _ t => RS0 t) (h5 0 (by omega)) (h5 1 (by omega)) (h5 2 (by omega)) (h5 3 (by omega)) hu.rs0
    · intro i z hz
      have hz : (yHist y)[i]? = some z := hz
      have hl : i < 4 := by
        have := (List.getElem?_eq_some_iff.mp hz).1
        have := ok.2.2.2
        omega
      have hi : i = 0 ∨ i = 1 ∨ i = 2 ∨ i = 3 := by omega
      rcases hi with rfl | rfl | rfl | rfl
      · exact h6 0 z hz
      · exact h6 1 z hz
      · exact h6 2 z hz
      · exact h6 3 z hz
  · rw [if_neg hp] at hQ
    unfold wp_X3_keep
    refine hQ _ (hh.push ok hu ht1 h2 h8 (sz := if (4 : Int32) < xHsz x + 1 then 4 else xHsz x + 1) (gh := xGh x) ?_ _ rfl rfl rfl rfl rfl rfl rfl)
    rw [h7, keep_size ok.2.2.2, take_size]
theorem le_not {x y : Int32} : ¬ x ≤ y ↔ y < x := nle_lt
theorem nn_of {p : Int32} (h : (0 : Int32) ≤ p) : ¬ p < 0 := by rw [Int32.lt_iff_toInt_lt]; rw [Int32.le_iff_toInt_le] at h; omega
theorem nn_of' {p : Int32} (h : ¬ p < 0) : (0 : Int32) ≤ p := by rw [Int32.lt_iff_toInt_lt] at h; rw [Int32.le_iff_toInt_le]; omega
theorem s_get {α : Type} {cap : Nat} {f : α → Int32} {n : zN} {L : List α} (h : rN cap f n L) (d : α) {p : Int32} (hp : ¬ p < 0) {Q : Int32 → Prop} (hQ : Q (rGet f L d p)) : ((nI L.length ≤ p → Q (-4)) ∧ (¬ nI L.length ≤ p → wp_X4_at n p (fun r => Q r))) := by
  have h6 := h.2.2.2.1
  have h3 := h.2.2.1
  unfold rGet at hQ
  refine ⟨fun a => ?_, fun a => ?_⟩
  · rw [if_pos a] at hQ; exact hQ
  · rw [if_neg a] at hQ
    obtain ⟨j, hj, rfl, hj2⟩ := Int32_of hp
    rw [nI_leI (by omega) (by omega)] at a
    rw [hj2, List.getD_eq_getElem?_getD, List.getElem?_eq_getElem (by omega)] at hQ
    exact s_at h (List.getElem?_eq_getElem (by omega)) rfl hQ
theorem sx_letter {x : zX} {y : aY} (h : RX x y) (ok : okY y) (a b : Int32) {Q : Int32 → Prop} (hQ : Q (rLetter y a b)) : wp_X6_letter x a b Q := by
  obtain ⟨h1, -⟩ := h
  have hk := ixE_lt a
  unfold wp_X6_letter
  unfold rLetter at hQ
  rw [f_noEd]
  have jn : ¬ ((a < 0 ∨ ¬ a < 3) ∧ ¬ a = 3) → jn_X6_letter_12 x a b Q := by
    intro c
    rw [if_neg c] at hQ
    unfold jn_X6_letter_12
    rw [(h1.1 _ hk).2.1.size, h1.2.2.1.size]
    refine ⟨fun p => ?_, fun p => ?_⟩
    · have hb := nn_of p
      rw [if_neg hb] at hQ
      refine ⟨fun q => ?_, fun q => ?_⟩
      · rw [if_neg q] at hQ; exact s_get (h1.1 _ hk).2.1 0 hb hQ
      · rw [if_pos q] at hQ; exact s_get h1.2.2.1 (0, 0) hb hQ
    · have hb : b < 0 := by rw [le_not] at p; exact p
      rw [if_pos hb] at hQ; exact hQ
  by_cases c : a < 0 ∨ ¬ a < 3
  · rw [if_pos c]
    refine ⟨fun q => absurd q (by decide), fun _ => ⟨fun q => ?_, fun q => jn (fun z => z.2 q)⟩⟩
    rw [if_pos ⟨c, q⟩] at hQ; exact hQ
  · rw [if_neg c]
    exact ⟨fun _ => jn (fun z => c z.1), fun q => absurd rfl q⟩
theorem sx_editorOf {x : zX} {y : aY} (h : RX x y) (ok : okY y) (a b : Int32) {Q : Int32 → Prop} (hQ : Q (rEditor y a b)) : wp_X6_editorOf x a b Q := by
  obtain ⟨h1, -⟩ := h
  have hk := ixE_lt a
  have hE := h1.1 _ hk
  have hI := ok.1.1.1 _ hk
  unfold wp_X6_editorOf
  unfold rEditor at hQ
  rw [f_noEd]
  by_cases c : a < 0 ∨ ¬ a < 3
  · rw [if_pos c] at hQ ⊢
    exact ⟨fun q => absurd q (by decide), fun _ => hQ⟩
  rw [if_neg c] at hQ ⊢
  refine ⟨fun _ => ?_, fun q => absurd rfl q⟩
  rw [hE.2.1.size, hE.2.2.1.size, hE.2.2.2.1.size, hE.2.2.2.2.1, hE.2.2.2.2.2.1, hE.2.2.2.2.2.2.1, hE.2.2.2.2.2.2.2, h1.2.1.size]
  refine ⟨fun q => ?_, fun q => ?_⟩
  · rw [if_pos q] at hQ; exact hQ
  rw [if_neg q] at hQ
  refine ⟨fun q => ?_, fun q => ?_⟩
  · rw [if_pos q] at hQ; exact hQ
  rw [if_neg q] at hQ
  refine ⟨fun q => ?_, fun q => ?_⟩
  · rw [if_pos q] at hQ
    cases hb : aWay (sEd (yCur y) (ixE a)) with
    | true => rw [hb] at hQ; exact ⟨fun z => absurd z (by decide), fun _ => hQ⟩
    | false => rw [hb] at hQ; exact ⟨fun _ => hQ, fun z => absurd rfl z⟩
  rw [if_neg q] at hQ
  refine ⟨fun q => ?_, fun q => ?_⟩
  · rw [if_pos q] at hQ; exact hQ
  rw [if_neg q] at hQ
  refine ⟨fun q => ?_, fun q => ?_⟩
  · rw [if_pos q] at hQ; rw [pk_sub hI.1]; exact hQ
  rw [if_neg q] at hQ
  refine ⟨fun q => ?_, fun q => ?_⟩
  · rw [if_pos q] at hQ; exact hQ
  rw [if_neg q] at hQ
  refine ⟨fun q => ?_, fun q => ?_⟩
  · rw [if_pos q] at hQ; exact hQ
  rw [if_neg q] at hQ
  refine ⟨fun q => ?_, fun q => ?_⟩
  · rw [if_pos q] at hQ
    refine s_sameT h1 hk (fun z => ?_) (fun z => ?_)
    · unfold sameE at z
      rw [if_pos z] at hQ; exact ⟨fun z => absurd z (by decide), fun _ => hQ⟩
    · unfold sameE at z
      rw [if_neg z] at hQ; exact ⟨fun _ => hQ, fun z => absurd rfl z⟩
  rw [if_neg q] at hQ
  refine ⟨fun q => ?_, fun q => ?_⟩
  · rw [if_pos q] at hQ; exact hQ
  rw [if_neg q] at hQ; exact hQ
theorem f_part_c {c : Ch} (g : good c) (w : Int32) : f_X0_part (ccode c) w = rPart c w := by
  have g1 := g.1
  unfold f_X0_part rPart
  rw [f_kind_c g, f_place_c g, f_sign_c g, f_writer_c g]
  have e0 : (nI (cK c) = 0) = (cK c = 0) := by rw [li 0, nI_eq (by omega) (by omega)]
  have e1 : (nI (cK c) = 1) = (cK c = 1) := by rw [li 1, nI_eq (by omega) (by omega)]
  simp only [e0, e1]
theorem s_row {n : zN} {cap : Nat} {L : List Ch} (h : rN cap ccode n L) (hg : ∀ c ∈ L, good c) {p : Int32} (hp : ¬ p < 0) (w : Int32) {Q : Int32 → Prop} (hQ : Q (rRow L p w)) : wp_X6_partOf n p w Q := by
  have h6 := h.2.2.2.1
  have h3 := h.2.2.1
  unfold wp_X6_partOf
  unfold rRow at hQ
  rw [h.size]
  refine ⟨fun a => ?_, fun a => ?_⟩
  · rw [if_pos a] at hQ; exact hQ
  · rw [if_neg a] at hQ
    obtain ⟨j, hj, rfl, hj2⟩ := Int32_of hp
    rw [nI_leI (by omega) (by omega)] at a
    have hl : j < L.length := by omega
    rw [hj2, List.getD_eq_getElem?_getD, List.getElem?_eq_getElem hl] at hQ
    refine s_at h (List.getElem?_eq_getElem hl) rfl ?_
    rw [f_part_c (hg _ (List.getElem_mem hl))]
    exact hQ
theorem sx_waitingOf {x : zX} {y : aY} (h : RX x y) (ok : okY y) (a b c : Int32) {Q : Int32 → Prop} (hQ : Q (rWaiting y a b c)) : wp_X6_waitingOf x a b c Q := by
  obtain ⟨h1, -⟩ := h
  have hk := ixE_lt a
  have hI := ok.1.1.1 _ hk
  unfold wp_X6_waitingOf
  unfold rWaiting at hQ
  rw [f_noEd]
  by_cases c0 : a < 0 ∨ ¬ a < 3
  · rw [if_pos c0] at hQ ⊢
    exact ⟨fun _ => hQ, fun q => absurd q (by decide)⟩
  rw [if_neg c0] at hQ ⊢
  refine ⟨fun q => absurd rfl q, fun _ => ⟨fun q => ?_, fun qb => ?_⟩⟩
  · rw [if_pos q] at hQ; exact hQ
  rw [if_neg qb] at hQ
  refine ⟨fun q => ?_, fun q => ⟨fun q2 => ?_, fun q2 => ?_⟩⟩
  · rw [if_pos (Or.inl q)] at hQ; exact hQ
  · rw [if_neg (by rintro (z | z); exact q z; exact z q2)] at hQ
    exact s_row (h1.1 _ hk).2.2.1 (chain_good _ _ hI.2.1) qb c hQ
  · rw [if_pos (Or.inr q2)] at hQ; exact hQ
theorem sx_logOf {x : zX} {y : aY} (h : RX x y) (ok : okY y) (b c : Int32) {Q : Int32 → Prop} (hQ : Q (rLog y b c)) : wp_X6_logOf x b c Q := by
  obtain ⟨h1, -⟩ := h
  have hI := ok.1.1.1 0 (by omega)
  unfold wp_X6_logOf
  unfold rLog at hQ
  refine ⟨fun q => ?_, fun qb => ?_⟩
  · rw [if_pos q] at hQ; exact hQ
  rw [if_neg qb] at hQ
  refine ⟨fun q => ?_, fun q => ⟨fun q2 => ?_, fun q2 => ?_⟩⟩
  · rw [if_pos (Or.inl q)] at hQ; exact hQ
  · rw [if_neg (by rintro (z | z); exact q z; exact z q2)] at hQ
    exact s_row h1.2.1 (chain_good _ _ hI.2.2.2.2.2.2.2.2.2.2.1) qb c hQ
  · rw [if_pos (Or.inr q2)] at hQ; exact hQ
theorem sx_by {x : zX} {y : aY} (h : RX x y) (ok : okY y) (b : Int32) {Q : Int32 → Prop} (hQ : Q (rBy y b)) : wp_X6_by x b Q := by
  obtain ⟨h1, -⟩ := h
  unfold wp_X6_by
  unfold rBy at hQ
  rw [h1.2.2.2.size]
  refine ⟨fun p => ?_, fun p => ?_⟩
  · have hb := nn_of p
    rw [if_neg hb] at hQ
    exact s_get h1.2.2.2 (0, 0) hb hQ
  · rw [if_pos (le_not.mp p)] at hQ; exact hQ
theorem sx_count {x : zX} {y : aY} (h : RX x y) (ok : okY y) (b : Int32) {Q : Int32 → Prop} (hQ : Q (rCount y b)) : wp_X6_count x b Q := by
  obtain ⟨h1, h2, h3, h4, h5, h6, h7, h8⟩ := h
  have w3 : f_X5_waitingOfAll (xNow x) = nI ((aWait (sEd (yCur y) 0)).length + (aWait (sEd (yCur y) 1)).length + (aWait (sEd (yCur y) 2)).length) := by
    unfold f_X5_waitingOfAll
    rw [(h1.1 0 (by omega)).2.2.1.size, (h1.1 1 (by omega)).2.2.1.size, (h1.1 2 (by omega)).2.2.1.size, nI_add, nI_add]
  unfold wp_X6_count
  unfold rCount at hQ
  rw [h1.2.1.size, h1.2.2.1.size, w3, h7, h8.1.size]
  refine ⟨fun q => ?_, fun q => ?_⟩
  · rw [if_pos q] at hQ; exact hQ
  rw [if_neg q] at hQ
  refine ⟨fun q => ?_, fun q => ?_⟩
  · rw [if_pos q] at hQ; exact hQ
  rw [if_neg q] at hQ
  refine ⟨fun q => ?_, fun q => ?_⟩
  · rw [if_pos q] at hQ; exact s_nothings h1 ok.1.1 hQ
  rw [if_neg q] at hQ
  refine ⟨fun q => ?_, fun q => ?_⟩
  · rw [if_pos q] at hQ; exact hQ
  rw [if_neg q] at hQ
  refine ⟨fun q => ?_, fun q => ?_⟩
  · rw [if_pos q] at hQ; exact s_settledEds h1 ok.1.1 hQ
  rw [if_neg q] at hQ
  refine ⟨fun q => ?_, fun q => ?_⟩
  · rw [if_pos q] at hQ; exact hQ
  rw [if_neg q] at hQ
  refine ⟨fun q => ?_, fun q => ?_⟩
  · rw [if_pos q] at hQ; exact hQ
  rw [if_neg q] at hQ; exact hQ
