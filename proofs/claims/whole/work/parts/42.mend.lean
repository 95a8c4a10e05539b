/-! the reference's ends; going back; the text of commands -/
theorem m_putAside {v : zM} {Q : zM → Prop} (hQ : ∀ a, (∀ t, t < 445 → a t = mS v t) → Q (mSetAside v a)) : wp_X7_putAside v Q := by
  unfold wp_X7_putAside
  refine zLoop2_i (fun v1 w => ∃ j : Nat, v1 = nI j ∧ j ≤ 445 ∧ ∀ t, t < j → w t = mS v t) (fun v1 _ => 445 - v1.toNatClampNeg) ?_ _ _ ⟨0, rfl, by omega, fun t ht => by omega⟩
  rintro K v1 w ⟨j, rfl, hj, hinv⟩ hK
  unfold lb_X7_putAside_2
  refine pk_le 445 j (fun hle => hQ w (fun t ht => hinv t (by omega))) (fun hgt => ?_)
  rw [nI_1, nI_clamp (by omega)]
  refine ⟨vp_in_nI (by omega) (by omega), vp_in_nI (by omega) (by omega), hK _ _ ⟨j + 1, rfl, by omega, fun t ht => ?_⟩ ?_⟩
  · rw [upd_at]
    by_cases e : t = j
    · rw [if_pos e, e]
    · rw [if_neg e]; exact hinv t (by omega)
  · rw [nI_clamp (by omega), nI_clamp (by omega)]; omega
theorem m_putBack {v : zM} {Q : zM → Prop} (hQ : ∀ g, (∀ t, t < 445 → g t = mAside v t) → Q (mSetS v g)) : wp_X7_putBack v Q := by
  unfold wp_X7_putBack
  refine zLoop2_i (fun v1 w => ∃ j : Nat, v1 = nI j ∧ j ≤ 445 ∧ ∀ t, t < j → w t = mAside v t) (fun v1 _ => 445 - v1.toNatClampNeg) ?_ _ _ ⟨0, rfl, by omega, fun t ht => by omega⟩
  rintro K v1 w ⟨j, rfl, hj, hinv⟩ hK
  unfold lb_X7_putBack_2
  refine pk_le 445 j (fun hle => hQ w (fun t ht => hinv t (by omega))) (fun hgt => ?_)
  rw [nI_1, nI_clamp (by omega)]
  refine ⟨vp_in_nI (by omega) (by omega), vp_in_nI (by omega) (by omega), hK _ _ ⟨j + 1, rfl, by omega, fun t ht => ?_⟩ ?_⟩
  · rw [upd_at]
    by_cases e : t = j
    · rw [if_pos e, e]
    · rw [if_neg e]; exact hinv t (by omega)
  · rw [nI_clamp (by omega), nI_clamp (by omega)]; omega
theorem hearAll_2 (k : Nat) (log : List Ch) (d : aE) : (opHearAll k log d).2 = sHearAll k log d := by
  unfold opHearAll
  by_cases h : log.length ≤ aHeard d
  · rw [if_pos h]
    unfold sHearAll
    rw [show log.length - aHeard d = 0 by omega]; rfl
  · rw [if_neg h]
theorem m_hAll {w : zM} {s : aS} {k : Nat} (hk : k < 3) (h : RMs (mS w) s) (iv : invS s) {Q : Int32 → zM → Prop} (hQ : ∀ (r : Int32) (g1 : Nat → Int32), RMs g1 (hAll s k) → Q r (mSetS w g1)) : wp_X7_hearsAll w (nI k) Q := by
  refine m_hearsAll hk (h.2 k hk) h.1 (iv.1 k hk) (fun g1 r o => hQ _ g1 ?_)
  unfold hAll
  rw [hearAll_2]
  exact h.up iv hk r o
def muW (k : Nat) (w : zM) : Nat := 2 * (mS w (97 + 116 * k + 97)).toNatClampNeg + (if mS w (97 + 116 * k + 112) = mS w 0 then 0 else 1)
theorem muW_e {k : Nat} {w : zM} {s : aS} (hk : k < 3) (h : RMs (mS w) s) (iv : invS s) : muW k w = 2 * (aWait (sEd s k)).length + (if aHeard (sEd s k) = (sLog s).length then 0 else 1) := by
  have hR := h.2 k hk
  have hI := iv.1 k hk
  have := hI.2.2.2.2.2.2.1
  have := hI.1
  have := h.1.2.2
  unfold muW
  rw [hR.2.2.1, hR.2.2.2.2.2.2.1, h.1.1, nI_clamp (by omega)]
  simp only [nI_eq (a := aHeard (sEd s k)) (b := (sLog s).length) (by omega) (by omega)]
theorem m_drain {u : zM} {g : Nat → Int32} {s : aS} {k : Nat} {vv : zM} {p : Int32} {i : Nat} {Q : zM → Prop} {K6 : Int32 → zM → Prop} (hk : k < 3) (h : RMs g s) (iv : invS s) (hK : ∀ g1, RMs g1 (drain s k 7) → K6 (nI (i + 1)) (mSetS u g1)) : zLoop1 (lb_X7_end_23 vv p (nI i) (nI k) Q K6) (mSetS u g) := by
  refine zLoop1_i (fun w => ∃ (j : Nat) (sj : aS) (g1 : Nat → Int32), w = mSetS u g1 ∧ j ≤ 7 ∧ invS sj ∧ RMs g1 sj ∧ drain sj k (7 - j) = drain s k 7 ∧ (j = 0 ∨ aHeard (sEd sj k) = (sLog sj).length) ∧ (aWait (sEd sj k)).length ≤ 6 - j) (fun w => muW k w) ?_ _ ⟨0, s, g, rfl, by omega, iv, h, rfl, Or.inl rfl, wait_le iv hk⟩
  rintro K w ⟨j, sj, g1, rfl, hj, ij, rj, dj, oj, wj⟩ hK2
  have hR := rj.2 k hk
  have hI := ij.1 k hk
  have i1 := hI.1
  have hl := rj.1.2.2
  have done : decSettled sj k = true → K6 (nI i + 1) (mSetS u g1) := by
    intro q
    rw [nI_1]
    refine hK g1 ?_
    rw [← dj, drain_settled _ (decSettled_iff.mp q)]; exact rj
  have jn : ¬ decSettled sj k = true → jn_X7_end_57 vv p (nI i) (nI k) (mSetS u g1) Q K6 K := by
    intro q
    have hj7 : j < 7 := by
      rcases Nat.lt_or_ge j 7 with z | z
      · exact z
      · refine absurd (decSettled_iff.mpr ⟨by omega, ?_⟩) q
        rcases oj with oj | oj
        · omega
        · exact oj
    obtain ⟨t1, t2, t3⟩ := turn_ok ij hk
    have next : ∀ g2, RMs g2 (turnS sj k) → K (mSetS u g2) := by
      intro g2 r
      refine hK2 _ ⟨j + 1, turnS sj k, g2, rfl, by omega, t1, r, ?_, Or.inr t2, by omega⟩ ?_
      · rw [← dj, show 7 - j = (7 - (j + 1)) + 1 by omega, drain_step q]
      · rw [muW_e (w := mSetS u g2) hk r t1, muW_e (w := mSetS u g1) hk rj ij, if_pos t2, t3]
        by_cases z : (aWait (sEd sj k)).length = 0
        · rw [if_neg (fun e => q (decSettled_iff.mpr ⟨z, e⟩))]; omega
        · split <;> omega
    unfold jn_X7_end_57
    unfold turnS at next
    refine m_canSend (v := mSetS u g1) rj ij hk ?_
    by_cases z : canS sj k = true
    · rw [if_pos z] at next ⊢
      refine ⟨fun x => absurd x (by decide), fun _ => ?_⟩
      obtain ⟨cw, cy⟩ := canS_iff.mp z
      have is := inv_send ij hk cw cy
      have hl78 : (sLog sj).length < 78 := by
        have h2 := is.2
        have e : (sLog (sSend sj k)).length = (sLog sj).length + 1 := by show (sLog sj ++ [_]).length = _; rw [List.length_append]; rfl
        omega
      refine m_sends (v := mSetS u g1) rj ij hk z hl78 (fun g2 r2 => ?_)
      exact m_hAll (w := mSetS u g2) hk r2 is (fun r g3 r3 => next g3 r3)
    · rw [if_neg z] at next ⊢
      refine ⟨fun _ => ?_, fun x => absurd rfl x⟩
      exact m_hAll (w := mSetS u g1) hk rj ij (fun r g3 r3 => next g3 r3)
  unfold lb_X7_end_23
  have e97 : mS (mSetS u g1) (97 + 116 * k + 97) = nI (aWait (sEd sj k)).length := hR.2.2.1
  have e112 : mS (mSetS u g1) (97 + 116 * k + 112) = nI (aHeard (sEd sj k)) := hR.2.2.2.2.2.2.1
  have e0 : mS (mSetS u g1) 0 = nI (sLog sj).length := rj.1.1
  have i7 := hI.2.2.2.2.2.2.1
  rw [li 97, li 112, o_c hk 97 (by omega), o_c hk 112 (by omega), e97, e112, show (0 : Int32).toNatClampNeg = 0 from rfl, e0]
  refine ⟨o_v hk _ (by omega), pk_lt 0 (aWait (sEd sj k)).length (fun z => jn (fun q => ?_)) (fun z => ⟨o_v hk _ (by omega), vp_in_nI (n := 0) (by omega) (by omega), pk_le (sLog sj).length (aHeard (sEd sj k)) (fun x => done (decSettled_iff.mpr ⟨by omega, by omega⟩)) (fun x => jn (fun q => ?_))⟩)⟩
  · have := (decSettled_iff.mp q).1; omega
  · have := (decSettled_iff.mp q).2; omega
theorem endH_succ (s : aS) (i : Nat) : endH s (i + 1) = hAll (endH s i) i := rfl
def atW (v : zM) (a lt : Nat → Int32) (n x : Int32) (w : zM) : Prop := mAside w = a ∧ mKnown w = mKnown v ∧ mBefore w = mBefore v ∧ mLength w = mLength v ∧ mText w = mText v ∧ mFirst w = mFirst v ∧ mLetters w = lt ∧ mLogLong w = n ∧ mAreSame w = x
theorem atW.start (v : zM) : atW v (mAside v) (mLetters v) (mLogLong v) (mAreSame v) v := ⟨rfl, rfl, rfl, rfl, rfl, rfl, rfl, rfl, rfl⟩
section ATW
variable {v w : zM} {a lt : Nat → Int32} {n x : Int32}
theorem atW.s (h : atW v a lt n x w) (g : Nat → Int32) : atW v a lt n x (mSetS w g) := ⟨h.1, h.2.1, h.2.2.1, h.2.2.2.1, h.2.2.2.2.1, h.2.2.2.2.2.1, h.2.2.2.2.2.2.1, h.2.2.2.2.2.2.2.1, h.2.2.2.2.2.2.2.2⟩
theorem atW.aside (h : atW v a lt n x w) (z : Nat → Int32) : atW v z lt n x (mSetAside w z) := ⟨rfl, h.2.1, h.2.2.1, h.2.2.2.1, h.2.2.2.2.1, h.2.2.2.2.2.1, h.2.2.2.2.2.2.1, h.2.2.2.2.2.2.2.1, h.2.2.2.2.2.2.2.2⟩
theorem atW.letters (h : atW v a lt n x w) (z : Nat → Int32) : atW v a z n x (mSetLetters w z) := ⟨h.1, h.2.1, h.2.2.1, h.2.2.2.1, h.2.2.2.2.1, h.2.2.2.2.2.1, rfl, h.2.2.2.2.2.2.2.1, h.2.2.2.2.2.2.2.2⟩
theorem atW.bys (h : atW v a lt n x w) (z : Nat → Int32) : atW v a lt n x (mSetBys w z) := ⟨h.1, h.2.1, h.2.2.1, h.2.2.2.1, h.2.2.2.2.1, h.2.2.2.2.2.1, h.2.2.2.2.2.2.1, h.2.2.2.2.2.2.2.1, h.2.2.2.2.2.2.2.2⟩
theorem atW.long (h : atW v a lt n x w) (z : Int32) : atW v a lt z x (mSetLogLong w z) := ⟨h.1, h.2.1, h.2.2.1, h.2.2.2.1, h.2.2.2.2.1, h.2.2.2.2.2.1, h.2.2.2.2.2.2.1, rfl, h.2.2.2.2.2.2.2.2⟩
theorem atW.same (h : atW v a lt n x w) (z : Int32) : atW v a lt n z (mSetAreSame w z) := ⟨h.1, h.2.1, h.2.2.1, h.2.2.2.1, h.2.2.2.2.1, h.2.2.2.2.2.1, h.2.2.2.2.2.2.1, h.2.2.2.2.2.2.2.1, rfl⟩
end ATW
theorem m_end99 {v : zM} {y : aY} (h : RM v y) (ok : okY y) {p : Int32} {a lt : Nat → Int32} {vv : zM} {sD : aS} (ivi : invS sD) (ha : ∀ t, t < 445 → a t = mS v t) (r1 : rowAt lt 0 fL (txt (sLog sD))) {Q : zM → Prop} (hQ : ∀ v1, RM v1 y → mLogLong v1 = nI (txt (sLog sD)).length → rowAt (mLetters v1) 0 fL (txt (sLog sD)) → mAreSame v1 = bP (allSame (endH sD 3)) → mFirst v1 = mFirst v → Q v1) {w0 : zM} (h0 : RMs (mS w0) sD) (h1 : atW v a lt (nI (txt (sLog sD)).length) 1 w0) : zLoop2 (lb_X7_end_99 vv p Q) 0 w0 := by
  have hch := (ivi.1 0 (by omega)).2.2.2.2.2.2.2.2.2.2.1
  have hl := h0.1.2.2
  have htl : (txt (sLog sD)).length ≤ 78 := by
    rw [txt_len hch]
    have := lenC_le (sLog sD) 0
    omega
  refine zLoop2_i (fun v2 w => ∃ (i : Nat) (x : Int32), v2 = nI i ∧ i ≤ 3 ∧ atW v a lt (nI (txt (sLog sD)).length) x w ∧ RMs (mS w) (endH sD i) ∧ ((x = 1 ∧ ∀ k, k < i → sameE (endH sD i) k) ∨ (x = 0 ∧ ¬ ∀ k, k < i → sameE (endH sD i) k))) (fun v2 _ => 3 - v2.toNatClampNeg) ?_ _ _ ⟨0, 1, rfl, by omega, h1, h0, Or.inl ⟨rfl, fun k hk => by omega⟩⟩
  rintro K v2 w ⟨i, x, rfl, hi, hat, hg, hx⟩ hK
  obtain ⟨iv2, hlg2⟩ := endH_ok ivi i hi
  unfold lb_X7_end_99
  refine pk_le 3 i (fun hle => ?_) (fun hk => ?_)
  · have e : i = 3 := by omega
    subst e
    refine m_putBack (fun gb hgb => ?_)
    have hat2 := hat.s gb
    have hS : mS (mSetS w gb) = gb := rfl
    generalize mSetS w gb = w1 at hat2 hS ⊢
    obtain ⟨b1, b2, b3, b4, b5, b6, b7, b8, b9⟩ := hat2
    refine hQ w1 ⟨?_, ?_, ?_, ?_, ?_⟩ b8 (by rw [b7]; exact r1) ?_ b6
    · rw [hS]
      refine h.1.ext ok.1.1 (fun t ht => ?_)
      rw [hgb t ht, hat.1]
      exact ha t ht
    · rw [b2]; exact h.2.1
    · rw [b3]; exact h.2.2.1
    · rw [b4]; exact h.2.2.2.1
    · rw [b5]; exact h.2.2.2.2
    · rw [b9]
      rcases hx with ⟨rfl, hx⟩ | ⟨rfl, hx⟩
      · exact (bP_t (show allSame (endH sD 3) from hx)).symm
      · exact (bP_f (show ¬ allSame (endH sD 3) from hx)).symm
  · refine m_hAll (w := w) hk hg iv2 (fun r g2 r2 => ?_)
    have hat2 := hat.s g2
    have hS : mS (mSetS w g2) = g2 := rfl
    generalize mSetS w g2 = w1 at hat2 hS ⊢
    have hsame : ∀ k, k < i → (sameE (endH sD (i + 1)) k ↔ sameE (endH sD i) k) := by
      intro k hki
      unfold sameE
      rw [endH_succ]
      unfold hAll
      rw [upE_ne _ _ (by omega), upE_log]
    have hlast : sameE (endH sD (i + 1)) i ↔ (aCopy (sEd (hAll (endH sD i) i) i)).map nI = (txt (sLog sD)).map fL := by
      unfold sameE
      rw [(endH_ok ivi (i + 1) (by omega)).2]; rfl
    have next : ∀ z : Int32, ((z = 1 ∧ ∀ k, k < i + 1 → sameE (endH sD (i + 1)) k) ∨ (z = 0 ∧ ¬ ∀ k, k < i + 1 → sameE (endH sD (i + 1)) k)) → K (nI i + 1) (mSetAreSame w1 z) := by
      intro z hz
      rw [nI_1]
      have hm : mS (mSetAreSame w1 z) = mS w1 := rfl
      refine hK _ _ ⟨i + 1, z, rfl, by omega, hat2.same z, by rw [hm, hS]; exact r2, hz⟩ ?_
      rw [nI_clamp (by omega), nI_clamp (by omega)]; omega
    rw [hat2.2.2.2.2.2.2.2.2]
    rcases hx with ⟨rfl, hx⟩ | ⟨rfl, hx⟩
    · refine ⟨fun q => absurd q (by decide), fun _ => ?_⟩
      have iv3 := (endH_ok ivi (i + 1) (by omega)).1
      have hI3 := iv3.1 i hk
      have hbd := hI3.bound
      have i12 := hI3.2.2.2.2.2.2.2.2.2.2.2.1
      refine m_isSame (v := w1) (d := sEd (hAll (endH sD i) i) i) (T := txt (sLog sD)) hk (by rw [hS]; exact r2.2 i hk) (by rw [← endH_succ]; omega) htl hat2.2.2.2.2.2.2.2.1 (by rw [hat2.2.2.2.2.2.2.1]; exact r1) (fun q => ?_) (fun q => ?_)
      · refine ⟨fun z => absurd z (by decide), fun _ => next 1 (Or.inl ⟨rfl, fun k hk2 => ?_⟩)⟩
        by_cases e : k = i
        · subst e; exact hlast.mpr q
        · exact (hsame k (by omega)).mpr (hx k (by omega))
      · refine ⟨fun _ => next 0 (Or.inr ⟨rfl, fun z => q (hlast.mp (z i (by omega)))⟩), fun z => absurd rfl z⟩
    · refine ⟨fun _ => next 0 (Or.inr ⟨rfl, fun z => hx (fun k hki => (hsame k hki).mp (z k (by omega)))⟩), fun q => absurd rfl q⟩
theorem m_end {v : zM} {y : aY} (h : RM v y) (ok : okY y) {p : Int32} (hp : p = 0 ∨ p = 1) {Q : zM → Prop} (hQ : ∀ v1, RM v1 y → mLogLong v1 = nI (txt (sLog (endS (yCur y) (decide (p = 1))))).length → rowAt (mLetters v1) 0 fL (txt (sLog (endS (yCur y) (decide (p = 1))))) → mAreSame v1 = bP (allSame (endS (yCur y) (decide (p = 1)))) → mFirst v1 = mFirst v → Q v1) : wp_X7_end v p Q := by
  unfold wp_X7_end
  refine m_putAside (fun a ha => ?_)
  have hst := (atW.start v).aside a
  have hst2 : mS (mSetAside v a) = mS v := rfl
  generalize mSetAside v a = va at hst hst2 ⊢
  have h1 : RMs (mS va) (yCur y) := by rw [hst2]; exact h.1
  refine zLoop2_i (fun v2 w => ∃ (i : Nat), v2 = nI i ∧ i ≤ 3 ∧ atW v a (mLetters v) (mLogLong v) (mAreSame v) w ∧ RMs (mS w) (endD (yCur y) (decide (p = 1)) i)) (fun v2 _ => 3 - v2.toNatClampNeg) ?_ _ _ ⟨0, rfl, by omega, hst, h1⟩
  rintro K v2 w ⟨i, rfl, hi, hat, hg⟩ hK
  have ivi := endD_ok (b := decide (p = 1)) ok.1.1 i hi
  unfold lb_X7_end_6
  refine pk_le 3 i (fun hle => ?_) (fun hgt => ?_)
  · have e : i = 3 := by omega
    subst e
    have hch := (ivi.1 0 (by omega)).2.2.2.2.2.2.2.2.2.2.1
    have hend : endS (yCur y) (decide (p = 1)) = endH (endD (yCur y) (decide (p = 1)) 3) 3 := rfl
    rw [hend] at hQ
    generalize endD (yCur y) (decide (p = 1)) 3 = sD at *
    have hlog := (endH_ok ivi 3 (by omega)).2
    rw [hlog] at hQ
    refine m_lay (v := w) hg.1 hch (fun lt bt r1 r2 => ?_)
    have hat2 := (((hat.letters lt).bys bt).long (nI (txt (sLog sD)).length)).same 1
    have hS : mS (mSetAreSame (mSetLogLong (mSetBys (mSetLetters w lt) bt) (nI (txt (sLog sD)).length)) 1) = mS w := rfl
    generalize mSetAreSame (mSetLogLong (mSetBys (mSetLetters w lt) bt) (nI (txt (sLog sD)).length)) 1 = w0 at hat2 hS ⊢
    exact m_end99 h ok ivi ha r1 hQ (by rw [hS]; exact hg) hat2
  · have hord : ordE (decide (p = 1)) i < 3 := by unfold ordE; split <;> omega
    have inner : ∀ g1, RMs g1 (drain (endD (yCur y) (decide (p = 1)) i) (ordE (decide (p = 1)) i) 7) → K (nI (i + 1)) (mSetS w g1) := by
      intro g1 r
      refine hK _ _ ⟨i + 1, rfl, by omega, hat.s g1, r⟩ ?_
      rw [nI_clamp (by omega), nI_clamp (by omega)]; omega
    have ew : w = mSetS w (mS w) := rfl
    rcases hp with hp | hp
    · refine ⟨fun z => absurd hp z, fun _ => ?_⟩
      have eo : ordE (decide (p = 1)) i = i := by unfold ordE; rw [if_neg (by rw [hp]; decide)]
      rw [eo] at inner
      have := m_drain (u := w) (vv := v) (p := p) (i := i) (Q := Q) hgt hg ivi inner
      rw [← ew] at this
      exact this
    · refine ⟨fun _ x hx => ?_, fun z => absurd z (by rw [hp]; decide)⟩
      have eo : ordE (decide (p = 1)) i = 2 - i := by unfold ordE; rw [if_pos (by rw [hp]; decide)]
      rw [eo] at inner
      rw [li 2, pk_sub (by omega)] at hx
      subst hx
      have := m_drain (u := w) (vv := v) (p := p) (i := i) (Q := Q) (show 2 - i < 3 by omega) hg ivi inner
      rw [← ew] at this
      exact this
