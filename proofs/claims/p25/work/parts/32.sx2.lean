/-! the class's calls: what would be; texts -/
theorem RX.trial {x : zX} {y : aY} {t : zT} (h : RX x y) (ht : RS0 t) : RX (xSetTrial x t) y := by
  obtain ⟨h1, h2, h3, h4, h5, h6, h7, h8⟩ := h
  exact ⟨h1, ht, h3, h4, h5, h6, h7, h8⟩
theorem RX.updown {x : zX} {y : aY} {t u : zT} (h : RX x y) (ht : RS0 t) (hu : RS0 u) : RX (xSetDown (xSetUp x t) u) y := by
  obtain ⟨h1, h2, h3, h4, h5, h6, h7, h8⟩ := h
  exact ⟨h1, h2, ht, hu, h5, h6, h7, h8⟩
theorem sx_inTheEnd {x : zX} {y : aY} (h : RX x y) (ok : okY y) (a b : Int32) {Q : Int32 → zX → Prop} (hQ : ∀ x1, RX x1 y → Q (rInEnd y a b) x1) : wp_X6_inTheEnd x a b Q := by
  have h2 := h.2.1
  unfold wp_X6_inTheEnd
  unfold rInEnd at hQ
  refine ⟨fun q => ?_, fun q => ⟨fun q2 => ?_, fun q2 => ⟨fun q3 => ?_, fun q3 => ?_⟩⟩⟩
  · rw [if_pos (Or.inl q)] at hQ; exact hQ x h
  · rw [if_pos (Or.inr q2)] at hQ; exact hQ x h
  · have hb := nn_of q3
    rw [if_neg (by rintro (z | z); exact q z; exact q2 z), if_neg hb] at hQ
    have jn : ∀ o : Int32, (o = 0 ∨ o = 1) → decide (o = 1) = decide (a = 1) → jn_X6_inTheEnd_33 x a b o Q := by
      intro o ho hoa
      unfold jn_X6_inTheEnd_33
      refine s_copyEnd h2 h.1 ok.1.1 ho (fun t1 ht1 => ?_)
      rw [hoa] at ht1
      have hx := h.trial ht1.rs0
      rw [ht1.2.2.1.size]
      have hg := s_get ht1.2.2.1 (0, 0) hb (Q := fun r => Q r (xSetTrial x t1)) (hQ _ hx)
      exact hg
    exact ⟨fun q4 => jn 0 (Or.inl rfl) (by rw [decide_eq_false q4]; decide), fun q4 => jn 1 (Or.inr rfl) (by rw [q4])⟩
  · rw [if_neg (by rintro (z | z); exact q z; exact q2 z), if_pos (le_not.mp q3)] at hQ; exact hQ x h
theorem sx_both {x : zX} {y : aY} (h : RX x y) (ok : okY y) (a : Int32) {Q : Int32 → zX → Prop} (hQ : ∀ x1, RX x1 y → Q (rBoth y a) x1) : wp_X6_both x a Q := by
  unfold wp_X6_both
  unfold rBoth at hQ
  refine ⟨fun q => ?_, fun q => ⟨fun q2 => ?_, fun q2 => ?_⟩⟩
  · rw [if_pos (Or.inl q)] at hQ; exact hQ x h
  · rw [if_neg (by rintro (z | z); exact q z; exact z q2)] at hQ
    refine s_copyEnd h.2.2.1 h.1 ok.1.1 (Or.inl rfl) (fun t1 ht1 => ?_)
    refine s_copyEnd h.2.2.2.1 h.1 ok.1.1 (Or.inr rfl) (fun t2 ht2 => ?_)
    have e1 : decide ((0 : Int32) = 1) = false := by decide
    have e2 : decide ((1 : Int32) = 1) = true := by decide
    rw [e1] at ht1
    rw [e2] at ht2
    have hx := h.updown ht1.rs0 ht2.rs0
    rw [ht1.2.2.1.size, ht2.2.2.1.size]
    refine ⟨fun q3 => ?_, fun q3 => ?_⟩
    · rw [if_pos q3] at hQ; exact hQ _ hx
    rw [if_neg q3] at hQ
    refine ⟨fun q3 => ?_, fun q3 => ?_⟩
    · rw [if_pos q3] at hQ; exact hQ _ hx
    rw [if_neg q3] at hQ
    refine ⟨fun q3 => ?_, fun q3 => ?_⟩
    · rw [if_pos q3] at hQ
      refine s_same ht1.2.2.1 ht2.2.2.1 ?_
      by_cases z : (txt (sLog (endS (yCur y) false))).map fL = (txt (sLog (endS (yCur y) true))).map fL
      · rw [if_pos z]; rw [bP_t z] at hQ
        exact ⟨fun w => absurd w (by decide), fun _ => hQ _ hx⟩
      · rw [if_neg z]; rw [bP_f z] at hQ
        exact ⟨fun _ => hQ _ hx, fun w => absurd rfl w⟩
    rw [if_neg q3] at hQ
    refine s_oneText ht1 (fun z1 => ?_) (fun z1 => ?_)
    · refine ⟨fun w => absurd w (by decide), fun _ => ?_⟩
      refine s_oneText ht2 (fun z2 => ?_) (fun z2 => ?_)
      · rw [bP_t ⟨z1, z2⟩] at hQ
        exact ⟨fun w => absurd w (by decide), fun _ => hQ _ hx⟩
      · rw [bP_f (fun w => z2 w.2)] at hQ
        exact ⟨fun _ => hQ _ hx, fun w => absurd rfl w⟩
    · rw [bP_f (fun w => z1 w.1)] at hQ
      exact ⟨fun _ => hQ _ hx, fun w => absurd rfl w⟩
  · rw [if_pos (Or.inr q2)] at hQ; exact hQ x h
theorem sx_wouldSend {x : zX} {y : aY} (h : RX x y) (ok : okY y) (a b : Int32) {Q : Int32 → Prop} (hQ : Q (rWould y a b)) : wp_X6_wouldSend x a b Q := by
  obtain ⟨h1, -⟩ := h
  have hk := ixE_lt a
  have hI := ok.1.1.1 _ hk
  unfold wp_X6_wouldSend
  unfold rWould at hQ
  rw [f_noEd]
  by_cases c0 : a < 0 ∨ ¬ a < 3
  · rw [if_pos c0] at hQ ⊢
    exact ⟨fun _ => hQ, fun q => absurd q (by decide)⟩
  rw [if_neg c0] at hQ ⊢
  refine ⟨fun q => absurd rfl q, fun _ => ⟨fun q => ?_, fun q => ⟨fun q2 => ?_, fun q2 => ?_⟩⟩⟩
  · rw [if_pos (Or.inl q)] at hQ; exact hQ
  · rw [if_neg (by rintro (z | z); exact q z; exact z q2)] at hQ
    rw [f_canS h1 ok.1.1 hk]
    by_cases z : canS (yCur y) (ixE a) = true
    · rw [if_pos z] at hQ ⊢
      obtain ⟨cw, cy⟩ := canS_iff.mp z
      refine ⟨fun _ => ?_, fun w => absurd w (by decide)⟩
      refine s_outgoing (h1.1 _ hk) h1.2.1 hI cw ?_
      obtain ⟨go, -, -⟩ := outS_ok hI cw (RS.log60 ok.1.1)
      have e : outC (firstW (sEd (yCur y) (ixE a))) ((sLog (yCur y)).drop (aHeard (sEd (yCur y) (ixE a)))) = outS (yCur y) (ixE a) := rfl
      rw [e, f_part_c go]
      exact hQ
    · rw [if_neg z] at hQ ⊢
      exact ⟨fun w => absurd rfl w, fun _ => hQ⟩
  · rw [if_pos (Or.inr q2)] at hQ; exact hQ
theorem sx_undo {x : zX} {y : aY} (h : RX x y) (ok : okY y) {Q : Int32 → zX → Prop} (hQ : ∀ x1, RX x1 (undoY y).2 → Q (undoY y).1 x1) : wp_X6_undo x Q := by
  have hh := h
  obtain ⟨h1, h2, h3, h4, h5, h6, h7, h8⟩ := h
  have h44 := ok.2.2.2
  unfold wp_X6_undo
  unfold undoY at hQ
  rw [h7]
  cases hl : yHist y with
  | nil =>
    rw [hl] at hQ
    exact ⟨fun q => absurd rfl q, fun _ => hQ x hh⟩
  | cons s l =>
    rw [hl] at hQ h6 h44
    rw [List.length_cons] at h44
    refine ⟨fun _ => ?_, fun q => absurd ((nI_eq (b := 0) (by rw [List.length_cons]; omega) (by omega)).mp q) (by rw [List.length_cons]; omega)⟩
    unfold wp_X3_restore
    refine s_copyState h1.rs0 (h6 0 s rfl) (fun t1 ht1 => ?_)
    have e1 : nI (s :: l).length - 1 = nI l.length := by rw [List.length_cons, nI_pred]
    rw [e1, if_neg (nI_pos (by omega))]
    refine hQ _ ⟨ht1, h2, h3, h4, ?_, ?_, rfl, h8⟩
    · exact z5_at _ _ _ _ _ (P := fun _ t => RS0 t) (h5 1 (by omega)) (h5 2 (by omega)) (h5 3 (by omega)) (h5 0 (by omega)) (h5 4 (by omega))
    · intro i z hz
      have hz : l[i]? = some z := hz
      have hl2 := (List.getElem?_eq_some_iff.mp hz).1
      have hi : i = 0 ∨ i = 1 ∨ i = 2 := by omega
      rcases hi with rfl | rfl | rfl
      · exact h6 1 z hz
      · exact h6 2 z hz
      · exact h6 3 z hz
theorem sx_start (gh : Nat → Nat → Nat) : RX (x0 gh) y0 := by
  have hE : ∀ k, k < 3 → RE k (tEd t0 k) d0 := k3 ⟨rfl, ⟨rfl, rfl, by decide, by decide, fun i a h => by simp [d0, mkE, aCopy] at h⟩, ⟨rfl, rfl, by decide, by decide, fun i a h => by simp [d0, mkE, aWait] at h⟩, ⟨rfl, rfl, by decide, by decide, fun i a h => by simp [d0, mkE, aBacks] at h⟩, rfl, rfl, rfl, rfl⟩
    ⟨rfl, ⟨rfl, rfl, by decide, by decide, fun i a h => by simp [d0, mkE, aCopy] at h⟩, ⟨rfl, rfl, by decide, by decide, fun i a h => by simp [d0, mkE, aWait] at h⟩, ⟨rfl, rfl, by decide, by decide, fun i a h => by simp [d0, mkE, aBacks] at h⟩, rfl, rfl, rfl, rfl⟩
    ⟨rfl, ⟨rfl, rfl, by decide, by decide, fun i a h => by simp [d0, mkE, aCopy] at h⟩, ⟨rfl, rfl, by decide, by decide, fun i a h => by simp [d0, mkE, aWait] at h⟩, ⟨rfl, rfl, by decide, by decide, fun i a h => by simp [d0, mkE, aBacks] at h⟩, rfl, rfl, rfl, rfl⟩
  have hT : RS t0 s0 := ⟨hE, ⟨rfl, rfl, by decide, by decide, fun i a h => by simp [s0, sLog] at h⟩, ⟨rfl, rfl, by decide, by decide, fun i a h => by simp [s0, sLog, txt] at h⟩, ⟨rfl, rfl, by decide, by decide, fun i a h => by simp [s0, sLog, txt] at h⟩⟩
  exact ⟨hT, hT.rs0, hT.rs0, hT.rs0, fun i _ => hT.rs0, fun i s h => by simp [y0, yHist] at h, rfl, ⟨rfl, rfl, by decide, by decide, fun i a h => by simp [y0, yCmds] at h⟩, rfl⟩
