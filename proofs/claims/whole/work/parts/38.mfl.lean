/-! the reference's faults -/
section MFL
variable {v : zM} {s : aS} {Q : Int32 → zM → Prop}
theorem m_insertFault (h : RMs (mS v) s) (iv : invS s) (a b c : Int32) (bad : ∀ r : Int32, r < 0 → (opAns s 105 a b c).1 = r → Q r v) (good : ∀ k p l : Nat, k < 3 → a = nI k → b = nI p → c = nI l → p ≤ (aCopy (sEd s k)).length → l < 26 → (aCopy (sEd s k)).length < 30 → (aWait (sEd s k)).length < 6 → opAns s 105 a b c = (nI (aCopy (sIns k (sEd s k) p l)).length, upE s k (sIns k (sEd s k) p l)) → Q 0 v) : wp_X7_insertFault v a b c Q := by
  unfold wp_X7_insertFault
  refine ed_0 (fun q => bad _ neg_lit.1 (by rw [op_no q])) (fun q => ?_)
  have ha := isEd_of q
  have hk := ixE_lt a
  generalize ixE a = k at *
  subst ha
  have hI := iv.1 k hk
  have hbd := hI.bound
  have hw6 := hI.2.2.2.2.2.2.1
  have hR := h.2 k hk
  rw [op_105 hk] at *
  rw [li 0, li 97, o_c hk 0 (by omega), o_c hk 97 (by omega), hR.1, hR.2.2.1]
  have hl78 := h.1.2.2
  have hI12 := hI.2.2.2.2.2.2.2.2.2.2.2.1
  refine ⟨o_v hk _ (by omega), in_0 (fun q1 => ?_) (fun q1 => in_1 (fun q2 => ?_) (fun q2 => ⟨o_v hk _ (by omega), ?_⟩))⟩
  · refine bad _ neg_lit.1 ?_
    show (opIns k (sEd s k) b c).1 = _
    unfold opIns
    rw [if_pos (by rcases q1 with z | z; exact Or.inl z; exact Or.inr (Or.inl z))]
  · refine bad _ neg_lit.1 ?_
    show (opIns k (sEd s k) b c).1 = _
    unfold opIns
    rw [if_pos (by
      rcases q2 with z | z
      · exact Or.inr (Or.inr (Or.inl z))
      · exact Or.inr (Or.inr (Or.inr ((lt_S (n := 25) (by omega) c).mp z))))]
  · have hc : ¬ (b < 0 ∨ nI (aCopy (sEd s k)).length < b ∨ c < 0 ∨ ¬ c < 26) := by
      rintro (z | z | z | z)
      · exact q1 (Or.inl z)
      · exact q1 (Or.inr z)
      · exact q2 (Or.inl z)
      · exact q2 (Or.inr ((lt_S (n := 25) (by omega) c).mpr z))
    refine pk_le 30 (aCopy (sEd s k)).length (fun z => bad _ neg_lit.2.2.1 ?_) (fun z => ⟨o_v hk _ (by omega), ?_⟩)
    · show (opIns k (sEd s k) b c).1 = _
      unfold opIns
      rw [if_neg hc, if_pos (Or.inl z)]
    · refine ⟨fun z2 => ?_, fun z2 => bad _ neg_lit.2.2.1 ?_⟩
      · have z3 : (aWait (sEd s k)).length < 6 := by
          rcases Nat.lt_or_ge (aWait (sEd s k)).length 6 with w | w
          · exact w
          · exact absurd (by rw [show (aWait (sEd s k)).length = 6 by omega]; rfl) z2
        obtain ⟨j, hj, rfl, hj2⟩ := Int32_of (fun q => hc (Or.inl q))
        obtain ⟨i, hi, rfl, hi2⟩ := Int32_of (fun q => hc (Or.inr (Or.inr (Or.inl q))))
        have h1 : ¬ nI (aCopy (sEd s k)).length < nI j := fun q => hc (Or.inr (Or.inl q))
        rw [nI_ltI (by omega) (by omega)] at h1
        have h3 : nI i < 26 := Decidable.byContradiction (fun q => hc (Or.inr (Or.inr (Or.inr q))))
        rw [li 26, nI_ltI (by omega) (by omega)] at h3
        refine good k j i hk rfl rfl rfl (by omega) h3 z z3 ?_
        show (_, _) = _
        unfold opIns
        rw [if_neg hc, if_neg (by omega), hj2, hi2]
      · have z3 : (aWait (sEd s k)).length = 6 := (nI_eq (b := 6) (by omega) (by omega)).mp z2
        show (opIns k (sEd s k) b c).1 = _
        unfold opIns
        rw [if_neg hc, if_pos (Or.inr (by omega))]
theorem m_deleteFault (h : RMs (mS v) s) (iv : invS s) (a b c : Int32) (bad : ∀ r : Int32, r < 0 → (opAns s 100 a b c).1 = r → Q r v) (good : ∀ k p : Nat, k < 3 → a = nI k → b = nI p → p < (aCopy (sEd s k)).length → (aWait (sEd s k)).length < 6 → opAns s 100 a b c = (nI ((aCopy (sEd s k)).getD p 0), upE s k (sDel k (sEd s k) p)) → Q 0 v) : wp_X7_deleteFault v a b Q := by
  unfold wp_X7_deleteFault
  refine ed_0 (fun q => bad _ neg_lit.1 (by rw [op_no q])) (fun q => ?_)
  have ha := isEd_of q
  have hk := ixE_lt a
  generalize ixE a = k at *
  subst ha
  have hI := iv.1 k hk
  have hbd := hI.bound
  have hw6 := hI.2.2.2.2.2.2.1
  have hR := h.2 k hk
  rw [op_100 hk] at *
  rw [li 0, li 97, o_c hk 0 (by omega), o_c hk 97 (by omega), hR.1, hR.2.2.1]
  have hl78 := h.1.2.2
  have hI12 := hI.2.2.2.2.2.2.2.2.2.2.2.1
  refine ⟨o_v hk _ (by omega), in_1 (fun q1 => ?_) (fun q1 => ⟨o_v hk _ (by omega), ?_⟩)⟩
  · refine bad _ neg_lit.1 ?_
    show (opDel k (sEd s k) b).1 = _
    unfold opDel
    rw [if_pos (by rcases q1 with z | z; exact Or.inl z; exact Or.inr ((lt_P (by omega) b).mp z))]
  · have hc : ¬ (b < 0 ∨ ¬ b < nI (aCopy (sEd s k)).length) := by
      rintro (z | z)
      · exact q1 (Or.inl z)
      · exact q1 (Or.inr ((lt_P (by omega) b).mpr z))
    refine ⟨fun z2 => ?_, fun z2 => bad _ neg_lit.2.2.1 ?_⟩
    · have z3 : (aWait (sEd s k)).length < 6 := by
        rcases Nat.lt_or_ge (aWait (sEd s k)).length 6 with w | w
        · exact w
        · exact absurd (by rw [show (aWait (sEd s k)).length = 6 by omega]; rfl) z2
      obtain ⟨j, hj, rfl, hj2⟩ := Int32_of (fun q => hc (Or.inl q))
      have h1 : nI j < nI (aCopy (sEd s k)).length := Decidable.byContradiction (fun q => hc (Or.inr q))
      rw [nI_ltI (by omega) (by omega)] at h1
      refine good k j hk rfl rfl h1 z3 ?_
      show (_, _) = _
      unfold opDel
      rw [if_neg hc, if_neg (by omega), hj2]
    · have z3 : (aWait (sEd s k)).length = 6 := (nI_eq (b := 6) (by omega) (by omega)).mp z2
      show (opDel k (sEd s k) b).1 = _
      unfold opDel
      rw [if_neg hc, if_pos (by omega)]
theorem m_backFault (h : RMs (mS v) s) (iv : invS s) (a b c : Int32) (bad : ∀ r : Int32, r < 0 → (opAns s 98 a b c).1 = r → Q r v) (good : ∀ k : Nat, k < 3 → a = nI k → (aBacks (sEd s k)).length ≠ 0 → (aWait (sEd s k)).length < 6 → opAns s 98 a b c = (nI (cK (lastB (sEd s k))), upE s k (sBack (sEd s k))) → Q 0 v) : wp_X7_backFault v a Q := by
  unfold wp_X7_backFault
  refine ed_1 (fun q => bad _ neg_lit.1 (by rw [op_no q])) (fun q => ?_)
  have ha := isEd_of q
  have hk := ixE_lt a
  generalize ixE a = k at *
  subst ha
  have hI := iv.1 k hk
  have hbd := hI.bound
  have hw6 := hI.2.2.2.2.2.2.1
  have hb6 := hI.2.2.2.2.1
  have hR := h.2 k hk
  rw [op_98 hk] at *
  have hl78 := h.1.2.2
  have hI12 := hI.2.2.2.2.2.2.2.2.2.2.2.1
  rw [li 0, li 104, li 105, o_c hk 0 (by omega), o_c hk 104 (by omega), hR.1, hR.2.2.2.2.1]
  refine ⟨o_v hk _ (by omega), fun x2 hx2 => ?_⟩
  subst hx2
  refine ⟨fun z => ?_, fun z => ?_⟩
  · have hb0 : (aBacks (sEd s k)).length ≠ 0 := fun e => z (by rw [e])
    have hl := hI.2.2.2.1 _ (lastB_mem hb0)
    have gk := hl.1.1
    have hg := hR.2.2.2.2.2.1 _ _ (last_get hb0)
    rw [li 1, nI_add, pk_sub (by omega), o_c hk _ (by omega), show 97 + 116 * k + (105 + (aBacks (sEd s k)).length - 1) = 97 + 116 * k + 105 + ((aBacks (sEd s k)).length - 1) by omega, hg, m_kind hl.1]
    have jn : ∀ x : Int32, (x = 0 ∧ ¬ (cK (lastB (sEd s k)) = 1 ∧ 30 ≤ (aCopy (sEd s k)).length)) ∨ (x = 1 ∧ (cK (lastB (sEd s k)) = 1 ∧ 30 ≤ (aCopy (sEd s k)).length)) → jn_X7_backFault_70 v (nI k) x Q := by
      intro x hx
      unfold jn_X7_backFault_70
      rw [li 97, o_c hk 97 (by omega), hR.2.2.1]
      refine ⟨o_v hk _ (by omega), fun z2 => bad _ neg_lit.2.2.1 ?_, fun z2 => ?_⟩
      · have z3 : (aWait (sEd s k)).length = 6 := (nI_eq (b := 6) (by omega) (by omega)).mp z2
        show (opBack (sEd s k)).1 = _
        unfold opBack
        rw [if_neg hb0, if_pos (Or.inl (by omega))]
      · have z3 : (aWait (sEd s k)).length < 6 := by
          rcases Nat.lt_or_ge (aWait (sEd s k)).length 6 with w | w
          · exact w
          · exact absurd (by rw [show (aWait (sEd s k)).length = 6 by omega]; rfl) z2
        rcases hx with ⟨rfl, hx⟩ | ⟨rfl, hx⟩
        · refine br_t rfl (good k hk rfl hb0 z3 ?_)
          show (_, _) = _
          unfold opBack
          rw [if_neg hb0, if_neg (by omega)]
        · refine br_f (by decide) (bad _ neg_lit.2.2.1 ?_)
          show (opBack (sEd s k)).1 = _
          unfold opBack
          rw [if_neg hb0, if_pos (Or.inr hx)]
    refine ⟨o_v hk _ (by omega), fun z2 => jn 0 (Or.inl ⟨rfl, fun e => z2 (by rw [e.1])⟩), fun z2 => ⟨o_v hk _ (by omega), ?_⟩⟩
    have k1 : cK (lastB (sEd s k)) = 1 := (nI_eq (b := 1) (by omega) (by omega)).mp z2
    exact pk_lt (aCopy (sEd s k)).length 30 (fun w => jn 0 (Or.inl ⟨rfl, fun e => by omega⟩)) (fun w => jn 1 (Or.inr ⟨rfl, k1, w⟩))
  · refine bad _ neg_lit.2.1 ?_
    have hb0 : (aBacks (sEd s k)).length = 0 := (nI_eq (b := 0) (by omega) (by omega)).mp z
    show (opBack (sEd s k)).1 = _
    unfold opBack
    rw [if_pos hb0]
theorem m_canSend (h : RMs (mS v) s) (iv : invS s) {k : Nat} (hk : k < 3) (hQ : Q (if canS s k = true then 1 else 0) v) : wp_X7_canSend v (nI k) Q := by
  have hI := iv.1 k hk
  have hw6 := hI.2.2.2.2.2.2.1
  have hR := h.2 k hk
  unfold wp_X7_canSend
  rw [li 97, li 113, o_c hk 97 (by omega), o_c hk 113 (by omega), hR.2.2.1, hR.2.2.2.2.2.2.2.1]
  refine ⟨o_v hk _ (by omega), pk_le (aWait (sEd s k)).length 0 (fun z => ?_) (fun z => ⟨o_v hk _ (by omega), ?_⟩)⟩
  · rw [if_neg (by rw [canS_iff]; omega)] at hQ
    exact hQ
  · cases hw : aWay (sEd s k) with
    | true =>
      rw [if_neg (by rw [canS_iff, hw]; rintro ⟨-, e⟩; cases e)] at hQ
      exact ⟨fun _ => hQ, fun e => absurd e (by decide)⟩
    | false =>
      rw [if_pos (by rw [canS_iff, hw]; exact ⟨by omega, rfl⟩)] at hQ
      exact ⟨fun e => absurd rfl e, fun _ => hQ⟩
theorem m_sendFault (h : RMs (mS v) s) (iv : invS s) (a b c : Int32) (bad : ∀ r : Int32, r < 0 → (opAns s 115 a b c).1 = r → Q r v) (good : ∀ k : Nat, k < 3 → a = nI k → canS s k = true → (sLog s).length < 60 → opAns s 115 a b c = (nI ((sLog s).length + 1), sSend s k) → Q 0 v) : wp_X7_sendFault v a Q := by
  unfold wp_X7_sendFault
  refine ed_1 (fun q => bad _ neg_lit.1 (by rw [op_no q])) (fun q => ?_)
  have ha := isEd_of q
  have hk := ixE_lt a
  generalize ixE a = k at *
  subst ha
  have hl78 := h.1.2.2
  rw [op_115 hk] at *
  unfold opSend at bad good
  refine m_canSend h iv hk ?_
  by_cases z : canS s k = true
  · rw [if_pos z] at bad good ⊢
    rw [show (0 : Int32).toNatClampNeg = 0 from rfl, h.1.1]
    refine ⟨fun _ => ⟨vp_in_nI (n := 0) (by omega) (by omega), pk_lt (sLog s).length 60 (fun w => ?_) (fun w => ?_)⟩, fun e => absurd e (by decide)⟩
    · exact good k hk rfl z w (by rw [if_neg (by omega)])
    · exact bad _ neg_lit.2.2.1 (by rw [if_pos w])
  · rw [if_neg z] at bad ⊢
    exact ⟨fun e => absurd rfl e, fun _ => bad _ neg_lit.2.1 rfl⟩
theorem m_hearFault (h : RMs (mS v) s) (iv : invS s) (a : Int32) (no : (a < 0 ∨ ¬ a < 3) → Q (-1) v) (bad : ∀ k : Nat, k < 3 → a = nI k → (sLog s).length ≤ aHeard (sEd s k) → Q (-2) v) (good : ∀ k : Nat, k < 3 → a = nI k → aHeard (sEd s k) < (sLog s).length → Q 0 v) : wp_X7_hearFault v a Q := by
  unfold wp_X7_hearFault
  refine ed_1 no (fun q => ?_)
  have ha := isEd_of q
  have hk := ixE_lt a
  generalize ixE a = k at *
  subst ha
  have hI := iv.1 k hk
  have hR := h.2 k hk
  have hl78 := h.1.2.2
  have i1 := hI.1
  rw [li 112, o_c hk 112 (by omega), hR.2.2.2.2.2.2.1, show (0 : Int32).toNatClampNeg = 0 from rfl, h.1.1]
  refine ⟨o_v hk _ (by omega), vp_in_nI (n := 0) (by omega) (by omega), fun z => good k hk rfl ?_, fun z => bad k hk rfl ?_⟩
  · rcases Nat.lt_or_ge (aHeard (sEd s k)) (sLog s).length with w | w
    · exact w
    · exact absurd (by rw [show aHeard (sEd s k) = (sLog s).length by omega]) z
  · have := (nI_eq (by omega) (by omega)).mp z
    omega
theorem m_sends (h : RMs (mS v) s) (iv : invS s) {k : Nat} (hk : k < 3) (hc : canS s k = true) (hl : (sLog s).length < 78) (hQ : ∀ g1, RMs g1 (sSend s k) → Q (nI ((sLog s).length + 1)) (mSetS v g1)) : wp_X7_sends v (nI k) Q := by
  obtain ⟨cw, cy⟩ := canS_iff.mp hc
  have hI := iv.1 k hk
  have hR := h.2 k hk
  have hL := h.1
  have hw0 : (aWait (sEd s k))[0]? = some (firstW (sEd s k)) := by
    unfold firstW
    rw [List.getD_eq_getElem?_getD, List.getElem?_eq_getElem (by omega)]; rfl
  have e0 := hR.2.2.2.1 0 _ hw0
  rw [Nat.add_zero] at e0
  unfold wp_X7_sends
  rw [li 98, o_c hk 98 (by omega), e0, show (0 : Int32).toNatClampNeg = 0 from rfl]
  refine ⟨vp_in_nI (n := 0) (by omega) (by omega), o_v hk _ (by omega), ?_⟩
  refine m_behind hk hR hL hI cw ?_
  have e1 : (1 : Int32) + nI (sLog s).length = nI (1 + (sLog s).length) := by rw [li 1, nI_add]
  have eu : ∀ x : Int32, upd (mS v) (1 + (sLog s).length) x 0 = nI (sLog s).length := fun x => by rw [upd_n (by omega), hL.1]
  rw [hL.1, e1, nI_clamp (by omega), li 113, o_c hk 113 (by omega), eu, nI_1]
  refine ⟨vp_in_nI (by omega) (by omega), vp_in_nI (n := 0) (by omega) (by omega), vp_in_nI (n := 0) (by omega) (by omega), o_v hk _ (by omega), vp_in_nI (n := 0) (by omega) (by omega), ?_⟩
  rw [upd_n (by omega), upd_s]
  refine hQ _ ⟨⟨?_, ?_, ?_⟩, fun j hj => ?_⟩
  · rw [upd_n (by omega), upd_s]
    show _ = nI (sLog s ++ [_]).length
    rw [List.length_append]; rfl
  · show rowAt _ 1 mcode (sLog s ++ [outS s k])
    refine rowAt.snoc hL.2.1 (fun i hi => ?_) ?_
    · rw [upd_n (by omega), upd_n (by omega), upd_n (by omega)]
    · rw [upd_n (by omega), upd_n (by omega), upd_s]; rfl
  · show (sLog s ++ [_]).length ≤ 78
    rw [List.length_append]; show _ + 1 ≤ 78; omega
  · have hIj := iv.1 j hj
    have hRj := h.2 j hj
    have o : ∀ t, 97 ≤ t → t ≠ 97 + 116 * k + 113 → upd (upd (upd (mS v) (1 + (sLog s).length) (mcode (outC (firstW (sEd s k)) (List.drop (aHeard (sEd s k)) (sLog s))))) 0 (nI ((sLog s).length + 1))) (97 + 116 * k + 113) 1 t = mS v t := fun t h1 h2 => by rw [upd_n h2, upd_n (by omega), upd_n (by omega)]
    by_cases q : j = k
    · subst q
      rw [sSend_same]
      have hbd := hIj.bound
      have i7 := hIj.2.2.2.2.2.2.1
      have i5 := hIj.2.2.2.2.1
      obtain ⟨r1, r2, r3, r4, r5, r6, r7, r8, r9, r10⟩ := hRj
      have i12 := hIj.2.2.2.2.2.2.2.2.2.2.2.1
      refine ⟨?_, r2.ext (fun i hi => o _ (by omega) (by omega)), ?_, r4.ext (fun i hi => o _ (by omega) (by omega)), ?_, r6.ext (fun i hi => o _ (by omega) (by omega)), ?_, ?_, ?_, ?_⟩
      · rw [o _ (by omega) (by omega)]; exact r1
      · rw [o _ (by omega) (by omega)]; exact r3
      · rw [o _ (by omega) (by omega)]; exact r5
      · rw [o _ (by omega) (by omega)]; exact r7
      · rw [upd_s]; rfl
      · rw [o _ (by omega) (by omega)]; exact r9
      · rw [o _ (by omega) (by omega)]; exact r10
    · rw [sSend_ne _ q]
      exact hRj.ext hIj hIj.2.2.2.2.2.2.2.2.2.2.2.1 (fun t h1 h2 => o t (by omega) (by omega))
end MFL
