/-! the reference's calls that change its state -/
section MOP
variable {v : zM} {y : aY} {Q : Int32 → zM → Prop}
theorem m_got {x : zM} {g : Nat → Int32} (h : mS x = g) (s : aS) (r : RMs g s) : RMs (mS x) s := by rw [h]; exact r
theorem mx_insert (h : RM v y) (ok : okY y) (a b c : Int32) (hQ : ∀ v1, RM v1 (recY y 105 a b c).2 → Q (recY y 105 a b c).1 v1) : wp_X7_insert v a b c Q := by
  have iv := ok.1.1
  have hl := ok.1.2
  unfold wp_X7_insert
  refine m_insertFault h.1 iv a b c (fun r hr e => ⟨fun z => absurd hr (nn_of z), fun _ => rec_bad h hQ hr e⟩) (fun k p l hk ha hb hc hp hl2 hcp hw e => ⟨fun _ => ?_, fun z => absurd (by decide) z⟩)
  have hI := iv.1 k hk
  have hp6 := pend_le hI
  subst ha; subst hb; subst hc
  refine m_know h ok (fun bb hb => ?_)
  obtain ⟨j1, j2⟩ := inv_ins hI hp hl2 hcp hw (by omega)
  refine m_inserts (v := mSetKnown (mSetBefore v bb) (nI ((yCur y :: yHist y).take 4).length)) (d := sEd (yCur y) k) (log := sLog (yCur y)) hk (h.1.2 k hk) hI hp hl2 hcp hw (fun g1 r o => ?_)
  have := j1.bound
  exact rec_ok hQ (nI_pos (by omega)) e (h.push hb (h.1.up iv hk r o))
theorem mx_delete (h : RM v y) (ok : okY y) (a b c : Int32) (hQ : ∀ v1, RM v1 (recY y 100 a b c).2 → Q (recY y 100 a b c).1 v1) : wp_X7_delete v a b Q := by
  have iv := ok.1.1
  have hl := ok.1.2
  unfold wp_X7_delete
  refine m_deleteFault h.1 iv a b c (fun r hr e => ⟨fun z => absurd hr (nn_of z), fun _ => rec_bad h hQ hr e⟩) (fun k p hk ha hb hp hw e => ⟨fun _ => ?_, fun z => absurd (by decide) z⟩)
  have hI := iv.1 k hk
  have h9 := hI.2.2.2.2.2.2.2.2.1
  subst ha; subst hb
  refine m_know h ok (fun bb hb => ?_)
  refine m_deletes (v := mSetKnown (mSetBefore v bb) (nI ((yCur y :: yHist y).take 4).length)) (d := sEd (yCur y) k) (log := sLog (yCur y)) hk (h.1.2 k hk) hI hp hw (fun g1 r o => ?_)
  have : (aCopy (sEd (yCur y) k)).getD p 0 < 26 := by
    rw [List.getD_eq_getElem?_getD, List.getElem?_eq_getElem hp]
    exact h9 _ (List.getElem_mem hp)
  exact rec_ok hQ (nI_pos (by omega)) e (h.push hb (h.1.up iv hk r o))
theorem mx_takeBack (h : RM v y) (ok : okY y) (a b c : Int32) (hQ : ∀ v1, RM v1 (recY y 98 a b c).2 → Q (recY y 98 a b c).1 v1) : wp_X7_takeBack v a Q := by
  have iv := ok.1.1
  have hl := ok.1.2
  unfold wp_X7_takeBack
  refine m_backFault h.1 iv a b c (fun r hr e => ⟨fun z => absurd hr (nn_of z), fun _ => rec_bad h hQ hr e⟩) (fun k hk ha hb0 hw e => ⟨fun _ => ?_, fun z => absurd (by decide) z⟩)
  have hI := iv.1 k hk
  have gk := (hI.2.2.2.1 _ (lastB_mem hb0)).1.1
  subst ha
  refine m_know h ok (fun bb hb => ?_)
  refine m_takes (v := mSetKnown (mSetBefore v bb) (nI ((yCur y :: yHist y).take 4).length)) (d := sEd (yCur y) k) (log := sLog (yCur y)) hk (h.1.2 k hk) hI hb0 hw (fun g1 r o => ?_)
  exact rec_ok hQ (nI_pos (by omega)) e (h.push hb (h.1.up iv hk r o))
theorem mx_send (h : RM v y) (ok : okY y) (a b c : Int32) (hQ : ∀ v1, RM v1 (recY y 115 a b c).2 → Q (recY y 115 a b c).1 v1) : wp_X7_send v a Q := by
  have iv := ok.1.1
  have hl := ok.1.2
  unfold wp_X7_send
  refine m_sendFault h.1 iv a b c (fun r hr e => ⟨fun z => absurd hr (nn_of z), fun _ => rec_bad h hQ hr e⟩) (fun k hk ha hc hl2 e => ⟨fun _ => ?_, fun z => absurd (by decide) z⟩)
  subst ha
  refine m_know h ok (fun bb hb => ?_)
  refine m_sends (v := mSetKnown (mSetBefore v bb) (nI ((yCur y :: yHist y).take 4).length)) (s := yCur y) h.1 iv hk hc (by omega) (fun g1 r => ?_)
  exact rec_ok hQ (nI_pos (by omega)) e (h.push hb r)
theorem rHear_le {k : Nat} {log : List Ch} {d : aE} (iv : invE k log d) (hu : aHeard d < log.length) : rHear k log d ≤ 2 := by
  unfold rHear
  split
  · omega
  · have hbd := iv.bound
    have hu2 : log[aHeard d]? = some (nextU log d) := by
      unfold nextU
      rw [List.getD_eq_getElem?_getD, List.getElem?_eq_getElem (by omega)]; rfl
    obtain ⟨gu, fu⟩ := chain_at iv.2.2.2.2.2.2.2.2.2.2.1 hu2
    have i12 := iv.2.2.2.2.2.2.2.2.2.2.2.1
    exact (passT_ok _ _ _ iv.2.1 gu fu (by omega)).2.1.1
theorem mx_hear (h : RM v y) (ok : okY y) (a b c : Int32) (hQ : ∀ v1, RM v1 (recY y 104 a b c).2 → Q (recY y 104 a b c).1 v1) : wp_X7_hear v a Q := by
  have iv := ok.1.1
  have hl := ok.1.2
  unfold wp_X7_hear
  refine m_hearFault h.1 iv a (fun q => ⟨fun z => absurd z (by decide), fun _ => rec_bad h hQ neg_lit.1 (by rw [op_no q])⟩) (fun k hk ha hh => ⟨fun z => absurd z (by decide), fun _ => rec_bad h hQ neg_lit.2.1 ?_⟩) (fun k hk ha hh => ⟨fun _ => ?_, fun z => absurd (by decide) z⟩)
  · subst ha
    rw [op_104 hk]
    show (opHear k _ _).1 = _
    unfold opHear
    rw [if_pos hh]
  · subst ha
    have hI := iv.1 k hk
    refine m_know h ok (fun bb hb => ?_)
    refine m_hears (v := mSetKnown (mSetBefore v bb) (nI ((yCur y :: yHist y).take 4).length)) (d := sEd (yCur y) k) (log := sLog (yCur y)) hk (h.1.2 k hk) h.1.1 hI hh (fun g1 r o => ?_)
    have := rHear_le hI hh
    refine rec_ok hQ (nI_pos (by omega)) ?_ (h.push hb (h.1.up iv hk r o))
    rw [op_104 hk]
    show (_, _) = _
    unfold opHear
    rw [if_neg (by omega)]
theorem mx_hearAll (h : RM v y) (ok : okY y) (a b c : Int32) (hQ : ∀ v1, RM v1 (recY y 65 a b c).2 → Q (recY y 65 a b c).1 v1) : wp_X7_hearAll v a Q := by
  have iv := ok.1.1
  have hl := ok.1.2
  unfold wp_X7_hearAll
  refine m_hearFault h.1 iv a (fun q => ⟨fun z => absurd z (by decide), fun _ => rec_bad h hQ neg_lit.1 (by rw [op_no q])⟩) (fun k hk ha hh => ⟨fun z => absurd z (by decide), fun _ => rec_bad h hQ neg_lit.2.1 ?_⟩) (fun k hk ha hh => ⟨fun _ => ?_, fun z => absurd (by decide) z⟩)
  · subst ha
    rw [op_65 hk]
    show (opHearAll k _ _).1 = _
    unfold opHearAll
    rw [if_pos hh]
  · subst ha
    have hI := iv.1 k hk
    refine m_know h ok (fun bb hb => ?_)
    refine m_hearsAll (v := mSetKnown (mSetBefore v bb) (nI ((yCur y :: yHist y).take 4).length)) (d := sEd (yCur y) k) (log := sLog (yCur y)) hk (h.1.2 k hk) h.1.1 hI (fun g1 r o => ?_)
    refine rec_ok hQ (nI_pos (by omega)) ?_ (h.push hb (h.1.up iv hk r o))
    rw [op_65 hk]
    show (_, _) = _
    unfold opHearAll
    rw [if_neg (by omega)]
theorem mx_mark (h : RM v y) (ok : okY y) (a b c : Int32) (hQ : ∀ v1, RM v1 (recY y 77 a b c).2 → Q (recY y 77 a b c).1 v1) : wp_X7_mark v a b Q := by
  have iv := ok.1.1
  have hl := ok.1.2
  unfold wp_X7_mark
  refine ed_0 (fun q => rec_bad h hQ neg_lit.1 (by rw [op_no q])) (fun q => ?_)
  have ha := isEd_of q
  have hk := ixE_lt a
  generalize ixE a = k at *
  subst ha
  have hI := iv.1 k hk
  have hbd := hI.bound
  have hw6 := hI.2.2.2.2.2.2.1
  have hb6 := hI.2.2.2.2.1
  have i12 := hI.2.2.2.2.2.2.2.2.2.2.2.1
  have hm := hI.2.2.2.2.2.2.2.1
  have hR := h.1.2 k hk
  rw [li 0, li 114, o_c hk 0 (by omega), o_c hk 114 (by omega), hR.1]
  refine ⟨o_v hk _ (by omega), in_1 (fun q1 => rec_bad h hQ neg_lit.1 ?_) (fun q1 => ?_)⟩
  · have q1 : b < 0 ∨ nI (aCopy (sEd (yCur y) k)).length < b := q1
    rw [op_77 hk]
    show (opMark _ _).1 = _
    unfold opMark
    rw [if_pos q1]
  · have q1 : ¬ (b < 0 ∨ nI (aCopy (sEd (yCur y) k)).length < b) := q1
    refine m_know h ok (fun bb hb => ⟨o_v hk _ (by omega), fun x4 hx4 => ⟨o_v hk _ (by omega), ?_⟩⟩)
    subst hx4
    obtain ⟨r1, r2, r3, r4, r5, r6, r7, r8, r9, r10⟩ := hR
    obtain ⟨j, hj, rfl, hj2⟩ := Int32_of (fun q => q1 (Or.inl q))
    have o : ∀ t, t ≠ 97 + 116 * k + 114 → upd (mS v) (97 + 116 * k + 114) (nI j) t = mS v t := fun t ht => upd_n ht
    have r : RMe (upd (mS v) (97 + 116 * k + 114) (nI j)) k (sMark (sEd (yCur y) k) j) := by
      refine ⟨?_, r2.ext (fun i hi => o _ (by omega)), ?_, r4.ext (fun i hi => o _ (by omega)), ?_, r6.ext (fun i hi => o _ (by omega)), ?_, ?_, ?_, ?_⟩
      · rw [o _ (by omega)]; exact r1
      · rw [o _ (by omega)]; exact r3
      · rw [o _ (by omega)]; exact r5
      · rw [o _ (by omega)]; exact r7
      · rw [o _ (by omega)]; exact r8
      · rw [upd_s]; rfl
      · rw [o _ (by omega)]; exact r10
    have e9 : mS (mSetKnown (mSetBefore v bb) (nI ((yCur y :: yHist y).take 4).length)) (97 + 116 * k + 114) = nI (aMark (sEd (yCur y) k)) := r9
    rw [e9]
    refine rec_ok hQ (nI_pos (by omega)) ?_ (h.push hb (h.1.up iv hk r (outE.refl.upd (by omega))))
    rw [op_77 hk]
    show (_, _) = _
    unfold opMark
    rw [if_neg q1, hj2]
theorem RMs0 {g : Nat → Int32} (h : ∀ t, t < 445 → g t = 0) : RMs g s0 := by
  have hrow : ∀ {α : Type} (o : Nat) (f : α → Int32), rowAt g o f ([] : List α) := fun o f i a hi => by simp at hi
  refine ⟨⟨h 0 (by omega), hrow _ _, by decide⟩, fun k hk => ⟨h _ (by omega), hrow _ _, h _ (by omega), hrow _ _, h _ (by omega), hrow _ _, h _ (by omega), h _ (by omega), h _ (by omega), h _ (by omega)⟩⟩
theorem mx_clear (h : RM v y) (ok : okY y) (hQ : ∀ v1, RM v1 (clearY y).2 → Q (clearY y).1 v1) : wp_X7_clear v Q := by
  unfold wp_X7_clear
  unfold clearY at hQ
  refine m_know h ok (fun bb hb => ⟨vp_in_nI (n := 0) (by omega) (by omega), fun x2 hx2 => ?_⟩)
  subst hx2
  have e : mS (mSetKnown (mSetBefore v bb) (nI ((yCur y :: yHist y).take 4).length)) (0 : Int32).toNatClampNeg = nI (sLog (yCur y)).length := h.1.1.1
  rw [e]
  refine zLoop2_i (fun v2 w => ∃ (j : Nat) (g : Nat → Int32), v2 = nI j ∧ j ≤ 445 ∧ w = mSetS (mSetKnown (mSetBefore v bb) (nI ((yCur y :: yHist y).take 4).length)) g ∧ ∀ t, t < j → g t = 0) (fun v2 _ => 445 - v2.toNatClampNeg) ?_ _ _ ⟨0, mS v, rfl, by omega, rfl, fun t ht => by omega⟩
  rintro K v2 w ⟨j, g, rfl, hj, rfl, hinv⟩ hK
  unfold lb_X7_clear_13
  refine pk_le 445 j (fun hle => ?_) (fun hgt => ⟨vp_in_nI (by omega) (by omega), ?_⟩)
  · exact hQ _ (h.push hb (RMs0 (fun t ht => hinv t (by omega))))
  · rw [nI_1, nI_clamp (by omega), mSet2, mS_set]
    refine hK _ _ ⟨j + 1, _, rfl, by omega, rfl, fun t ht => ?_⟩ ?_
    · rw [upd_at]
      by_cases e : t = j
      · rw [if_pos e]
      · rw [if_neg e]; exact hinv t (by omega)
    · rw [nI_clamp (by omega), nI_clamp (by omega)]; omega
end MOP
