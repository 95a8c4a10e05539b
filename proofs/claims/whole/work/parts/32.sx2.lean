/-! the class's calls: what would be; texts -/
theorem RX.trial {x : zX} {y : aY} {t : zT} (h : RX x y) (ht : RS0 t) : RX (xSetTrial x t) y := by
  obtain ⟨h1, h2, h3, h4, h5, h6, h7, h8⟩ := h
  exact ⟨h1, ht, h3, h4, h5, h6, h7, h8⟩
theorem RX.updown {x : zX} {y : aY} {t u : zT} (h : RX x y) (ht : RS0 t) (hu : RS0 u) : RX (xSetDown (xSetUp x t) u) y := by
  obtain ⟨h1, h2, h3, h4, h5, h6, h7, h8⟩ := h
  exact ⟨h1, h2, ht, hu, h5, h6, h7, h8⟩
theorem RX.tcm {x : zX} {y : aY} {t : zT} {v : zC} (h : RX x y) (ht : RS0 t) (hv : RC v (yCmds y)) : RX (xSetCm (xSetTrial x t) v) y := by
  obtain ⟨h1, h2, h3, h4, h5, h6, h7, h8⟩ := h
  exact ⟨h1, ht, h3, h4, h5, h6, h7, hv⟩
theorem sx_inTheEnd {x : zX} {y : aY} (h : RX x y) (ok : okY y) (a b : Int32) {Q : Int32 → zX → Prop} (hQ : ∀ x1, RX x1 y → Q (rInEnd y a b) x1) : wp_X6_inTheEnd x a b Q := by
  have h2 := h.2.1
  unfold wp_X6_inTheEnd
  unfold rInEnd at hQ
  refine ⟨fun q => ?_, fun q => ⟨fun q2 => ?_, fun q2 => ⟨fun q3 => ?_, fun q3 => ?_⟩⟩⟩
  · rw [if_pos (Or.inl q)] at hQ; exact hQ x h
  · rw [if_pos (Or.inr q2)] at hQ; exact hQ x h
  · have hb := nn_of q3
    rw [if_neg (by rintro (z | z); exact q z; exact q2 z), if_neg hb] at hQ
    have jn : ∀ o : Int32, (o = 0 ∨ o = 1) → decide (o = 1) = decide (a = 1) → jn_X6_inTheEnd_33 x a b o Q := by
      intro o ho hoa
      unfold jn_X6_inTheEnd_33
      refine s_copyEnd h2 h.1 ok.1.1 ho (fun t1 ht1 => ?_)
      rw [hoa] at ht1
      have hx := h.trial ht1.rs0
      rw [ht1.2.2.1.size]
      have hg := s_get ht1.2.2.1 (0, 0) hb (Q := fun r => Q r (xSetTrial x t1)) (hQ _ hx)
      exact hg
    exact ⟨fun q4 => jn 0 (Or.inl rfl) (by rw [decide_eq_false q4]; decide), fun q4 => jn 1 (Or.inr rfl) (by rw [q4])⟩
  · rw [if_neg (by rintro (z | z); exact q z; exact q2 z), if_pos (le_not.mp q3)] at hQ; exact hQ x h
theorem sx_both {x : zX} {y : aY} (h : RX x y) (ok : okY y) (a : Int32) {Q : Int32 → zX → Prop} (hQ : ∀ x1, RX x1 y → Q (rBoth y a) x1) : wp_X6_both x a Q := by
  unfold wp_X6_both
  unfold rBoth at hQ
  refine ⟨fun q => ?_, fun q => ⟨fun q2 => ?_, fun q2 => ?_⟩⟩
  · rw [if_pos (Or.inl q)] at hQ; exact hQ x h
  · rw [if_neg (by rintro (z | z); exact q z; exact z q2)] at hQ
    refine s_copyEnd h.2.2.1 h.1 ok.1.1 (Or.inl rfl) (fun t1 ht1 => ?_)
    refine s_copyEnd h.2.2.2.1 h.1 ok.1.1 (Or.inr rfl) (fun t2 ht2 => ?_)
    have e1 : decide ((0 : Int32) = 1) = false := by decide
    have e2 : decide ((1 : Int32) = 1) = true := by decide
    rw [e1] at ht1
    rw [e2] at ht2
    have hx := h.updown ht1.rs0 ht2.rs0
    rw [ht1.2.2.1.size, ht2.2.2.1.size]
    refine ⟨fun q3 => ?_, fun q3 => ?_⟩
    · rw [if_pos q3] at hQ; exact hQ _ hx
    rw [if_neg q3] at hQ
    refine ⟨fun q3 => ?_, fun q3 => ?_⟩
    · rw [if_pos q3] at hQ; exact hQ _ hx
    rw [if_neg q3] at hQ
    refine ⟨fun q3 => ?_, fun q3 => ?_⟩
    · rw [if_pos q3] at hQ
      refine s_same ht1.2.2.1 ht2.2.2.1 ?_
      by_cases z : (txt (sLog (endS (yCur y) false))).map fL = (txt (sLog (endS (yCur y) true))).map fL
      · rw [if_pos z]; rw [bP_t z] at hQ
        exact ⟨fun w => absurd w (by decide), fun _ => hQ _ hx⟩
      · rw [if_neg z]; rw [bP_f z] at hQ
        exact ⟨fun _ => hQ _ hx, fun w => absurd rfl w⟩
    rw [if_neg q3] at hQ
    refine s_oneText ht1 (fun z1 => ?_) (fun z1 => ?_)
    · refine ⟨fun w => absurd w (by decide), fun _ => ?_⟩
      refine s_oneText ht2 (fun z2 => ?_) (fun z2 => ?_)
      · rw [bP_t ⟨z1, z2⟩] at hQ
        exact ⟨fun w => absurd w (by decide), fun _ => hQ _ hx⟩
      · rw [bP_f (fun w => z2 w.2)] at hQ
        exact ⟨fun _ => hQ _ hx, fun w => absurd rfl w⟩
    · rw [bP_f (fun w => z1 w.1)] at hQ
      exact ⟨fun _ => hQ _ hx, fun w => absurd rfl w⟩
  · rw [if_pos (Or.inr q2)] at hQ; exact hQ x h
theorem sx_wouldSend {x : zX} {y : aY} (h : RX x y) (ok : okY y) (a b : Int32) {Q : Int32 → Prop} (hQ : Q (rWould y a b)) : wp_X6_wouldSend x a b Q := by
  obtain ⟨h1, -⟩ := h
  have hk := ixE_lt a
  have hI := ok.1.1.1 _ hk
  unfold wp_X6_wouldSend
  unfold rWould at hQ
  rw [f_noEd]
  by_cases c0 : a < 0 ∨ ¬ a < 3
  · rw [if_pos c0] at hQ ⊢
    exact ⟨fun _ => hQ, fun q => absurd q (by decide)⟩
  rw [if_neg c0] at hQ ⊢
  refine ⟨fun q => absurd rfl q, fun _ => ⟨fun q => ?_, fun q => ⟨fun q2 => ?_, fun q2 => ?_⟩⟩⟩
  · rw [if_pos (Or.inl q)] at hQ; exact hQ
  · rw [if_neg (by rintro (z | z); exact q z; exact z q2)] at hQ
    rw [f_canS h1 ok.1.1 hk]
    by_cases z : canS (yCur y) (ixE a) = true
    · rw [if_pos z] at hQ ⊢
      obtain ⟨cw, cy⟩ := canS_iff.mp z
      refine ⟨fun _ => ?_, fun w => absurd w (by decide)⟩
      refine s_outgoing (h1.1 _ hk) h1.2.1 hI cw ?_
      obtain ⟨go, -, -⟩ := outS_ok hI cw (RS.log60 ok.1.1)
      have e : outC (firstW (sEd (yCur y) (ixE a))) ((sLog (yCur y)).drop (aHeard (sEd (yCur y) (ixE a)))) = outS (yCur y) (ixE a) := rfl
      rw [e, f_part_c go]
      exact hQ
    · rw [if_neg z] at hQ ⊢
      exact ⟨fun w => absurd rfl w, fun _ => hQ⟩
  · rw [if_pos (Or.inr q2)] at hQ; exact hQ
theorem sx_undo {x : zX} {y : aY} (h : RX x y) (ok : okY y) {Q : Int32 → zX → Prop} (hQ : ∀ x1, RX x1 (undoY y).2 → Q (undoY y).1 x1) : wp_X6_undo x Q := by
  have hh := h
  obtain ⟨h1, h2, h3, h4, h5, h6, h7, h8⟩ := h
  have h44 := ok.2.2.2
  unfold wp_X6_undo
  unfold undoY at hQ
  rw [h7]
  cases hl : yHist y with
  | nil =>
    rw [hl] at hQ
    exact ⟨fun q => absurd rfl q, fun _ => hQ x hh⟩
  | cons s l =>
    rw [hl] at hQ h6 h44
    rw [List.length_cons] at h44
    refine ⟨fun _ => ?_, fun q => absurd ((nI_eq (b := 0) (by rw [List.length_cons]; omega) (by omega)).mp q) (by rw [List.length_cons]; omega)⟩
    unfold wp_X3_restore
    refine s_copyState h1.rs0 (h6 0 s rfl) (fun t1 ht1 => ?_)
    have e1 : nI (s :: l).length - 1 = nI l.length := by rw [List.length_cons, nI_pred]
    rw [e1, if_neg (nI_pos (by omega))]
    refine hQ _ ⟨ht1, h2, h3, h4, ?_, ?_, rfl, h8⟩
    · exact z5_at _ _ _ _ _ (P := fun _ t => RS0 t) (h5 1 (by omega)) (h5 2 (by omega)) (h5 3 (by omega)) (h5 0 (by omega)) (h5 4 (by omega))
    · intro i z hz
      have hz : l[i]? = some z := hz
      have hl2 := (List.getElem?_eq_some_iff.mp hz).1
      have hi : i = 0 ∨ i = 1 ∨ i = 2 := by omega
      rcases hi with rfl | rfl | rfl
      · exact h6 1 z hz
      · exact h6 2 z hz
      · exact h6 3 z hz
theorem sx_type {x : zX} {y : aY} (h : RX x y) (ok : okY y) (a : Int32) {Q : Int32 → zX → Prop} (hQ : ∀ x1, RX x1 (typeY y a).2 → Q (typeY y a).1 x1) : wp_X6_type x a Q := by
  have hh := h
  obtain ⟨h1, h2, h3, h4, h5, h6, h7, h8⟩ := h
  have hc := ok.2.2.1.1
  unfold wp_X6_type
  unfold typeY at hQ
  rw [h8.1.size]
  refine ⟨fun q => ?_, fun q => ⟨fun q2 => ?_, fun q2 => ?_⟩⟩
  · rw [if_pos (Or.inl q)] at hQ; exact hQ x hh
  · rw [if_neg (by rintro (z | z); exact q z; exact z q2)] at hQ
    refine pk_lt (yCmds y).length 60 (fun q3 => ?_) (fun q3 => ?_)
    · rw [if_neg (by omega)] at hQ
      have hp : ¬ a < 0 := fun z => q (by
        rw [Int32.lt_iff_toInt_lt] at z ⊢
        have e0 : (0 : Int32).toInt = 0 := by decide
        have e1 : (32 : Int32).toInt = 32 := by decide
        omega)
      obtain ⟨j, hj, rfl, hj2⟩ := Int32_of hp
      rw [hj2] at hQ
      refine s_add h8.1 q3 j rfl (fun n1 hn1 => ?_)
      rw [hn1.size, List.length_append]
      exact hQ _ ⟨h1, h2, h3, h4, h5, h6, h7, hn1, h8.2⟩
    · rw [if_pos q3] at hQ; exact hQ x hh
  · rw [if_pos (Or.inr q2)] at hQ; exact hQ x hh
theorem sx_clearText {x : zX} {y : aY} (h : RX x y) (ok : okY y) {Q : Int32 → zX → Prop} (hQ : ∀ x1, RX x1 (clearTY y).2 → Q (clearTY y).1 x1) : wp_X6_clearText x Q := by
  obtain ⟨h1, h2, h3, h4, h5, h6, h7, h8⟩ := h
  unfold wp_X6_clearText
  rw [h8.1.size]
  intro x1 hx1
  subst hx1
  refine s_empty (f := nI) h8.1.1 (by decide) (fun n1 hn1 => ?_)
  exact hQ _ ⟨h1, h2, h3, h4, h5, h6, h7, hn1, h8.2⟩
theorem sx_fault {x : zX} {y : aY} (h : RX x y) (ok : okY y) (a : Int32) {Q : Int32 → zX → Prop} (hQ : ∀ x1, RX x1 y → Q (rFault y a) x1) : wp_X6_fault x a Q := by
  unfold wp_X6_fault
  unfold rFault at hQ
  refine ⟨fun q => ?_, fun q => ⟨fun q2 => ?_, fun q2 => ?_⟩⟩
  · rw [if_pos (Or.inl q)] at hQ; exact hQ x h
  · rw [if_neg (by rintro (z | z); exact q z; exact z q2)] at hQ
    refine s_copyState h.2.1 h.1 (fun t1 ht1 => ?_)
    obtain ⟨le1, le2, le3⟩ := runC_le ok.2.2.1 61 (yCur y) 0 0 (Nat.zero_le _) (Nat.le_refl _)
    refine s_runOn h.2.2.2.2.2.2.2 ok.2.2.1 ht1 ok.1 (fun v1 t2 r1 r2 r3 r4 r5 r6 => ?_)
    have hx := h.tcm r6.rs0 r1
    rw [r3]
    change (runT (yCmds y) (yCur y)).2.1 ≤ 60 at le1
    change (runT (yCmds y) (yCur y)).1 ≤ 2 at le3
    have jn : (runT (yCmds y) (yCur y)).1 ≠ 0 → ¬ (a = 2 ∧ (runT (yCmds y) (yCur y)).1 = 1) → jn_X6_fault_62 x a (xSetCm (xSetTrial x t2) v1) Q := by
      intro n0 n1
      rw [if_neg n0] at hQ
      unfold jn_X6_fault_62
      refine ⟨fun z0 => ⟨fun z1 => ?_, fun z1 => ?_⟩, fun z0 => ?_⟩
      · have ha2 : a = 2 := by
          have hp : ¬ a < 0 := q
          obtain ⟨j, hj, rfl, hj2⟩ := Int32_of hp
          rw [li 2, nI_leI (by omega) (by omega)] at q2
          have w0 : j ≠ 0 := fun e => z0 (by rw [e]; rfl)
          have w1 : j ≠ 1 := fun e => z1 (by rw [e]; rfl)
          have : j = 2 := by omega
          rw [this]; rfl
        have hr1 : (runT (yCmds y) (yCur y)).1 ≠ 1 := fun e => n1 ⟨ha2, e⟩
        rw [if_neg z0, if_neg z1, if_neg hr1] at hQ
        have hr2 : (runT (yCmds y) (yCur y)).1 = 2 := by omega
        show Q (cCause v1) _
        rw [r4 hr2]; exact hQ _ hx
      · rw [if_neg z0, if_pos z1] at hQ
        show Q (cRsn v1) _
        rw [r3]; exact hQ _ hx
      · rw [if_pos z0] at hQ
        show Q (cPos v1) _
        rw [r2]; exact hQ _ hx
    refine pk_eq (runT (yCmds y) (yCur y)).1 0 (fun e0 => ?_) (fun e0 => ?_)
    · rw [if_pos e0] at hQ; exact hQ _ hx
    · refine ⟨fun z => jn e0 (fun w => z w.1), fun z => ?_⟩
      refine ⟨fun z1 => jn e0 (fun w => z1 (by rw [w.2]; rfl)), fun z1 => ?_⟩
      have e1 : (runT (yCmds y) (yCur y)).1 = 1 := (nI_eq (b := 1) (by omega) (by omega)).mp z1
      rw [if_neg e0, if_neg (by rw [z]; decide), if_neg (by rw [z]; decide), if_pos e1] at hQ
      exact hQ _ hx
  · rw [if_pos (Or.inr q2)] at hQ; exact hQ x h
theorem sx_play {x : zX} {y : aY} (h : RX x y) (ok : okY y) {Q : Int32 → zX → Prop} (hQ : ∀ x1, RX x1 (playY y).2 → Q (playY y).1 x1) : wp_X6_play x Q := by
  have hh := h
  obtain ⟨h1, h2, h3, h4, h5, h6, h7, h8⟩ := h
  obtain ⟨le1, le2, le3⟩ := runC_le ok.2.2.1 61 (yCur y) 0 0 (Nat.zero_le _) (Nat.le_refl _)
  change (runT (yCmds y) (yCur y)).1 ≤ 2 at le3
  unfold wp_X6_play
  unfold playY at hQ
  refine s_copyState h2 h1 (fun t1 ht1 => ?_)
  refine s_runOn h8 ok.2.2.1 ht1 ok.1 (fun v1 t2 r1 r2 r3 r4 r5 r6 => ?_)
  rw [r3, r5]
  refine pk_eq (runT (yCmds y) (yCur y)).1 0 (fun e0 => ?_) (fun e0 => ?_)
  · rw [if_pos e0] at hQ
    refine s_prepare (h5 4 (by omega)) h1 (fun u hu => ?_)
    unfold wp_X3_keep
    refine s_copyState h1.rs0 r6 (fun t3 ht3 => ?_)
    refine hQ _ (hh.push ok hu ht3 r6.rs0 r1 (sz := if (4 : Int32) < xHsz x + 1 then 4 else xHsz x + 1) (gh := xGh x) ?_ _ rfl rfl rfl rfl rfl rfl rfl)
    rw [h7, keep_size ok.2.2.2, take_size]
  · rw [if_neg e0] at hQ
    exact hQ _ (hh.tcm r6.rs0 r1)
theorem sx_start (gh : Nat → Nat → Nat) : RX (x0 gh) y0 := by
  have hE : ∀ k, k < 3 → RE k (tEd t0 k) d0 := k3 ⟨rfl, ⟨rfl, rfl, by decide, by decide, fun i a h => by simp [d0, mkE, aCopy] at h⟩, ⟨rfl, rfl, by decide, by decide, fun i a h => by simp [d0, mkE, aWait] at h⟩, ⟨rfl, rfl, by decide, by decide, fun i a h => by simp [d0, mkE, aBacks] at h⟩, rfl, rfl, rfl, rfl⟩
    ⟨rfl, ⟨rfl, rfl, by decide, by decide, fun i a h => by simp [d0, mkE, aCopy] at h⟩, ⟨rfl, rfl, by decide, by decide, fun i a h => by simp [d0, mkE, aWait] at h⟩, ⟨rfl, rfl, by decide, by decide, fun i a h => by simp [d0, mkE, aBacks] at h⟩, rfl, rfl, rfl, rfl⟩
    ⟨rfl, ⟨rfl, rfl, by decide, by decide, fun i a h => by simp [d0, mkE, aCopy] at h⟩, ⟨rfl, rfl, by decide, by decide, fun i a h => by simp [d0, mkE, aWait] at h⟩, ⟨rfl, rfl, by decide, by decide, fun i a h => by simp [d0, mkE, aBacks] at h⟩, rfl, rfl, rfl, rfl⟩
  have hT : RS t0 s0 := ⟨hE, ⟨rfl, rfl, by decide, by decide, fun i a h => by simp [s0, sLog] at h⟩, ⟨rfl, rfl, by decide, by decide, fun i a h => by simp [s0, sLog, txt] at h⟩, ⟨rfl, rfl, by decide, by decide, fun i a h => by simp [s0, sLog, txt] at h⟩⟩
  exact ⟨hT, hT.rs0, hT.rs0, hT.rs0, fun i _ => hT.rs0, fun i s h => by simp [y0, yHist] at h, rfl, ⟨rfl, rfl, by decide, by decide, fun i a h => by simp [y0, yCmds] at h⟩, rfl⟩
