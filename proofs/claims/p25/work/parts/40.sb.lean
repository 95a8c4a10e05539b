/-! isSendSo, isBackSo answer 1 -/
section SB
variable {x : zX} {y : aY} {e : Nat}
theorem s_would (h : RX x y) (ok : okZ y) (he : e < 3) (w : Int32) (hw : ¬ (w < 0 ∨ ¬ w ≤ 1)) {Q : Int32 → Prop} (hQ : Q (if canS (yCur y) e = true then rPart (outS (yCur y) e) w else -2)) : wp_X6_wouldSend x (nI e) w Q := by
  refine sx_wouldSend h ok.1 (nI e) w ?_
  unfold rWould
  rw [if_neg (ed_in he), if_neg hw, ixE_nI he]
  exact hQ
theorem rPart_3 (c : Ch) : rPart c (nI 3) = nI (cE c) := by
  unfold rPart
  rw [if_neg (by decide), if_neg (by decide), if_neg (by decide)]
theorem s_sendso (h : RX x y) (ok : okZ y) (he : e < 3) {Q : Int32 → zX → Prop} (hQ : ∀ x1 y1, RX x1 y1 → okZ y1 → Q 1 x1) : wp_X8_isSendSo x (nI e) Q := by
  have hl := ok.1.1.2
  unfold wp_X8_isSendSo
  refine s_would h ok he 0 (by decide) (s_would h ok he 1 (by decide) (s_c0 h ok ?_))
  by_cases hc : canS (yCur y) e = true
  · rw [if_pos hc, if_pos hc]
    obtain ⟨cw, cy⟩ := canS_iff.mp hc
    obtain ⟨go, fo, eo⟩ := outS_ok (ok.1.1.1.1 e he) cw (by omega)
    have hk0 : rPart (outS (yCur y) e) 0 = nI (cK (outS (yCur y) e)) := if_pos rfl
    by_cases q60 : 60 ≤ (sLog (yCur y)).length
    · unfold wp_X6_send
      refine s_rec h ok 115 (nI e) 0 0 (r := (-3, yCur y)) ?_ (fun _ x1 h1 => ?_) (fun z => absurd (show (-3 : Int32) < 0 by decide) z)
      · rw [op_115 _ he]
        unfold opSend
        rw [if_pos hc, if_pos q60]
      · refine br_f (show ¬ (0 : Int32) ≤ -3 by decide) ?_
        refine ⟨fun _ => ?_, fun q => absurd q (show ¬ (-3 : Int32) = -2 by decide)⟩
        unfold jn_X8_isSendSo_45
        refine ⟨fun _ => ?_, fun q => ?_⟩
        · unfold jn_X8_isSendSo_56
          refine ⟨fun q => absurd rfl q, fun _ => ⟨fun q => absurd q (show ¬ (-3 : Int32) = -2 by decide), fun _ => ⟨fun q => ?_, fun _ => hQ _ _ h1 ok⟩⟩⟩
          exact absurd (show nI (sLog (yCur y)).length = 60 by rw [show (sLog (yCur y)).length = 60 by omega]; rfl) q
        · rw [hk0] at q
          exact absurd (show nI (cK (outS (yCur y) e)) < 0 by rw [q]; decide) (nI_pos (by have := go.1; omega))
    · have hlen : (sLog (sSend (yCur y) e)).length = (sLog (yCur y)).length + 1 := by show (sLog (yCur y) ++ [_]).length = _; rw [List.length_append]; rfl
      have hget : (sLog (yCur (pushY y (sSend (yCur y) e)))).getD (sLog (yCur y)).length (mkC 0 0 0 0) = outS (yCur y) e := by
        show (sLog (yCur y) ++ [outS (yCur y) e]).getD _ _ = _
        rw [List.getD_eq_getElem?_getD, List.getElem?_append_right (Nat.le_refl _), Nat.sub_self]; rfl
      have hlt : (sLog (yCur y)).length < (sLog (yCur (pushY y (sSend (yCur y) e)))).length := by show _ < (sLog (sSend (yCur y) e)).length; rw [hlen]; omega
      unfold wp_X6_send
      refine s_rec h ok 115 (nI e) 0 0 (r := (nI ((sLog (yCur y)).length + 1), sSend (yCur y) e)) ?_ (fun z => absurd z (nI_pos (by omega))) (fun _ x1 h1 k1 => ?_)
      · rw [op_115 _ he]
        unfold opSend
        rw [if_pos hc, if_neg q60]
      · refine br_t (nI_pos' (by omega)) ?_
        refine ⟨fun q => absurd (nI_1 _).symm q, fun _ => ?_⟩
        refine s_logAt h1 k1 hlt 0 (by omega) ?_
        rw [hget]
        refine ⟨fun q => absurd rfl q, fun _ => ?_⟩
        refine s_logAt h1 k1 hlt 1 (by omega) ?_
        rw [hget]
        refine ⟨fun q => absurd rfl q, fun _ => ?_⟩
        refine s_logAt h1 k1 hlt 3 (by omega) ?_
        rw [hget, rPart_3, eo]
        refine ⟨fun q => absurd rfl q, fun _ => ?_⟩
        refine s_e2 h1 k1 he ?_
        have hway : aWay (sEd (yCur (pushY y (sSend (yCur y) e))) e) = true := by
          show aWay (sEd (sSend (yCur y) e) e) = true
          rw [sSend_same]; rfl
        rw [hway]
        refine ⟨fun q => absurd rfl q, fun _ => ?_⟩
        unfold jn_X8_isSendSo_136
        refine s_undo1 h1 k1 (s := yCur y) (l := (yHist y).take 3) rfl (fun x2 h2 k2 => ?_)
        refine br_f (by decide) (br_f (nI_pos ?_) ?_)
        · rw [List.length_take]; omega
        · exact s_c0 h2 k2 ⟨fun q => absurd rfl q, fun _ => hQ _ _ h2 k2⟩
  · rw [if_neg hc, if_neg hc]
    unfold wp_X6_send
    refine s_rec h ok 115 (nI e) 0 0 (r := (-2, yCur y)) ?_ (fun _ x1 h1 => ?_) (fun z => absurd (show (-2 : Int32) < 0 by decide) z)
    · rw [op_115 _ he]
      unfold opSend
      rw [if_neg hc]
    · refine br_f (show ¬ (0 : Int32) ≤ -2 by decide) ?_
      refine ⟨fun q => absurd rfl q, fun _ => ?_⟩
      unfold jn_X8_isSendSo_45
      refine ⟨fun q => absurd rfl q, fun _ => ?_⟩
      unfold jn_X8_isSendSo_56
      exact ⟨fun q => absurd rfl q, fun _ => ⟨fun _ => hQ _ _ h1 ok, fun q => absurd rfl q⟩⟩
/-! a change that is taken back at once -/
theorem ins_era : ∀ (L : List Nat) (p : Nat), p < L.length → (L.eraseIdx p).insertIdx p (L.getD p 0) = L
  | [], p, h => absurd h (Nat.not_lt_zero _)
  | a :: L, 0, _ => rfl
  | a :: L, p + 1, h => by
    show a :: ((L.eraseIdx p).insertIdx p (L.getD p 0)) = a :: L
    rw [ins_era L p (by rw [List.length_cons] at h; omega)]
theorem lastB_keep (d : aE) (c : Ch) : lastB (sKeep d c) = c ∧ (aBacks (sKeep d c)).length ≠ 0 := by
  have key : ∀ l : List Ch, (l ++ [c]).getD ((l ++ [c]).length - 1) (mkC 0 0 0 0) = c ∧ (l ++ [c]).length ≠ 0 := by
    intro l
    have e1 : (l ++ [c]).length = l.length + 1 := by rw [List.length_append]; rfl
    rw [e1]
    refine ⟨?_, by omega⟩
    rw [Nat.add_sub_cancel, List.getD_eq_getElem?_getD, List.getElem?_append_right (Nat.le_refl _), Nat.sub_self]; rfl
  show (keepL (aBacks d) c).getD ((keepL (aBacks d) c).length - 1) (mkC 0 0 0 0) = c ∧ (keepL (aBacks d) c).length ≠ 0
  unfold keepL
  split
  · exact key _
  · exact key _
theorem s_tb (h : RX x y) (ok : okZ y) (he : e < 3) {c : Ch} (hb : lastB (sEd (yCur y) e) = c) (hne : (aBacks (sEd (yCur y) e)).length ≠ 0) (hw : (aWait (sEd (yCur y) e)).length < 6) (hk : cK c ≠ 0) (hc : cK c = 1 → (aCopy (sEd (yCur y) e)).length < 30) (hk2 : cK c ≤ 2) {Q : Int32 → zX → Prop} (hQ : ∀ x1, RX x1 (yPut y e (sWrite (popB (sEd (yCur y) e)) c)) → okZ (yPut y e (sWrite (popB (sEd (yCur y) e)) c)) → Q (nI (cK c)) x1) : wp_X6_takeBack x (nI e) Q := by
  unfold wp_X6_takeBack
  refine s_rec h ok 98 (nI e) 0 0 (r := (nI (cK c), upE (yCur y) e (sWrite (popB (sEd (yCur y) e)) c))) ?_ (fun z => absurd z (nI_pos (by omega))) (fun _ x1 h1 k1 => hQ x1 h1 k1)
  rw [op_98 _ he]
  unfold opBack
  have n2 : ¬ (6 ≤ (aWait (sEd (yCur y) e)).length ∨ cK (lastB (sEd (yCur y) e)) = 1 ∧ 30 ≤ (aCopy (sEd (yCur y) e)).length) := by
    rw [hb]
    rintro (q | ⟨q1, q2⟩)
    · omega
    · have := hc q1; omega
  rw [if_neg hne, if_neg n2]
  unfold sBack
  rw [hb, if_neg hk]
  rfl
theorem back_224 {p3 s v8 : Int32} (h : RX x y) (ok : okZ y) (w : zX) (hs : ¬ s = 0) (hv : ¬ v8 < 0) {Q : Int32 → zX → Prop} (hQ : ∀ x1 y1, RX x1 y1 → okZ y1 → Q 1 x1) : jn_X8_isBackSo_224 w (nI e) p3 s v8 x Q := by
  unfold jn_X8_isBackSo_224
  exact br_f hs (br_f hv (hQ _ _ h ok))
/-- two states back -/
theorem s_undo2 {d1 d2 : aE} (h : RX x (yPut (yPut y e d1) e d2)) (ok : okZ (yPut (yPut y e d1) e d2)) {Q : Int32 → zX → Prop} (hQ : ∀ r x1, RX x1 (yCur y, ((yHist y).take 3).take 2, yCmds y) → okZ (yCur y, ((yHist y).take 3).take 2, yCmds y) → ¬ r < 0 → Q r x1) : wp_X6_undo x (fun _ u => wp_X6_undo u Q) := by
  refine s_undo1 h ok (s := upE (yCur y) e d1) (l := ((yCur y :: yHist y).take 4).take 3) rfl (fun x1 h1 k1 => ?_)
  refine s_undo1 h1 k1 (s := yCur y) (l := ((yHist y).take 3).take 2) rfl (fun x2 h2 k2 => ?_)
  refine hQ _ x2 h2 k2 (nI_pos ?_)
  rw [List.length_take]; omega
theorem back_41 (h : RX x y) (ok : okZ y) (he : e < 3) (p3 : Int32) {pl : Nat} (hp : pl ≤ (aCopy (sEd (yCur y) e)).length) {v5 v6 : Int32} (h5 : v5 = if (aCopy (sEd (yCur y) e)).length ≤ pl then -4 else nI ((aCopy (sEd (yCur y) e)).getD pl 0)) (h6 : (aCopy (sEd (yCur y) e)).length ≠ 0 → v6 = nI ((aCopy (sEd (yCur y) e)).getD ((aCopy (sEd (yCur y) e)).length - 1) 0)) {Q : Int32 → zX → Prop} (hQ : ∀ x1 y1, RX x1 y1 → okZ y1 → Q 1 x1) : jn_X8_isBackSo_41 x (nI e) p3 (nI (aCopy (sEd (yCur y) e)).length) (nI pl) v5 v6 Q := by
  have hf := edf ok he
  unfold jn_X8_isBackSo_41
  refine pk_lt 29 (aCopy (sEd (yCur y) e)).length (fun _ => hQ _ _ h ok) (fun h29 => ?_)
  refine s_e1 h ok he ?_
  refine pk_le (aWait (sEd (yCur y) e)).length 4 (fun h4 => ?_) (fun _ => hQ _ _ h ok)
  refine s_ins h ok he hp (l := 7) (by omega) (fun q => by omega) (fun _ x1 h1 k1 => ?_)
  have c1 : aCopy (sIns e (sEd (yCur y) e) pl 7) = (aCopy (sEd (yCur y) e)).insertIdx pl 7 := rfl
  have c1l : (aCopy (sIns e (sEd (yCur y) e) pl 7)).length = (aCopy (sEd (yCur y) e)).length + 1 := by rw [c1, List.length_insertIdx_of_le_length hp]
  have c1g : (aCopy (sIns e (sEd (yCur y) e) pl 7)).getD pl 0 = 7 := by
    rw [c1, List.getD_eq_getElem?_getD, List.getElem?_insertIdx_self, if_pos hp]; rfl
  have w1l : (aWait (sIns e (sEd (yCur y) e) pl 7)).length = (aWait (sEd (yCur y) e)).length + 1 := by
    show (aWait (sEd (yCur y) e) ++ [_]).length = _
    rw [List.length_append]; rfl
  have e1 : sEd (yCur (yPut y e (sIns e (sEd (yCur y) e) pl 7))) e = sIns e (sEd (yCur y) e) pl 7 := upE_same _ _ _
  refine ⟨fun q => absurd (nI_1 _).symm q, fun _ => ?_⟩
  refine s_let h1 k1 he (by omega) ?_
  rw [e1, c1l, if_neg (by omega), c1g]
  refine ⟨fun q => absurd rfl q, fun _ => ?_⟩
  have hlk := lastB_keep (sWrite (sEd (yCur y) e) (mkC 1 pl 7 e)) (mkC 2 pl 0 e)
  refine s_tb h1 k1 he (c := mkC 2 pl 0 e) (by rw [e1]; exact hlk.1) (by rw [e1]; exact hlk.2) (by rw [e1, w1l]; omega) (by show (2 : Nat) ≠ 0; omega) (fun q => absurd q (by show ¬ (2 : Nat) = 1; omega)) (Nat.le_refl 2) (fun x2 h2 k2 => ?_)
  rw [e1] at h2 k2
  generalize hd2 : sWrite (popB (sIns e (sEd (yCur y) e) pl 7)) (mkC 2 pl 0 e) = d2 at h2 k2
  have c2 : aCopy d2 = aCopy (sEd (yCur y) e) := by
    rw [← hd2]
    show ((aCopy (sEd (yCur y) e)).insertIdx pl 7).eraseIdx pl = _
    exact List.eraseIdx_insertIdx_self _
  have e2 : sEd (yCur (yPut (yPut y e (sIns e (sEd (yCur y) e) pl 7)) e d2)) e = d2 := upE_same _ _ _
  refine ⟨fun q => absurd rfl q, fun _ => ?_⟩
  refine s_e0 h2 k2 he ?_
  rw [e2, c2]
  refine ⟨fun q => absurd rfl q, fun _ => ?_⟩
  refine s_let h2 k2 he (by omega) ?_
  rw [e2, c2, ← h5]
  refine ⟨fun q => absurd rfl q, fun _ => ?_⟩
  unfold jn_X8_isBackSo_124
  refine s_undo2 h2 k2 (fun r x4 h4' k4 hr => ?_)
  refine pk_le (aCopy (sEd (yCur y) e)).length pl (fun _ => back_224 h4' k4 _ (by decide) hr hQ) (fun hlt => ?_)
  refine br_f (by decide) ?_
  refine s_del h4' k4 he (p := pl) hlt (fun q => absurd (show 6 ≤ (aWait (sEd (yCur y) e)).length from q) (by omega)) (fun _ x5 h5' k5 => ?_)
  change RX x5 (yPut (yCur y, ((yHist y).take 3).take 2, yCmds y) e (sDel e (sEd (yCur y) e) pl)) at h5'
  change okZ (yPut (yCur y, ((yHist y).take 3).take 2, yCmds y) e (sDel e (sEd (yCur y) e) pl)) at k5
  have h5b : v5 = nI ((aCopy (sEd (yCur y) e)).getD pl 0) := by rw [h5, if_neg (by omega)]
  refine ⟨fun q => absurd h5b.symm q, fun _ => ?_⟩
  have e5 : ∀ z : aY, sEd (yCur (yPut z e (sDel e (sEd (yCur y) e) pl))) e = sDel e (sEd (yCur y) e) pl := fun z => upE_same _ _ _
  have c5 : aCopy (sDel e (sEd (yCur y) e) pl) = (aCopy (sEd (yCur y) e)).eraseIdx pl := rfl
  have c5l : (aCopy (sDel e (sEd (yCur y) e) pl)).length = (aCopy (sEd (yCur y) e)).length - 1 := by rw [c5, List.length_eraseIdx_of_lt hlt]
  have w5l : (aWait (sDel e (sEd (yCur y) e) pl)).length = (aWait (sEd (yCur y) e)).length + 1 := by
    show (aWait (sEd (yCur y) e) ++ [_]).length = _
    rw [List.length_append]; rfl
  have hlk5 := lastB_keep (sWrite (sEd (yCur y) e) (mkC 2 pl 0 e)) (mkC 1 pl ((aCopy (sEd (yCur y) e)).getD pl 0) e)
  have e5' := e5 (yCur y, ((yHist y).take 3).take 2, yCmds y)
  refine s_tb h5' k5 he (c := mkC 1 pl ((aCopy (sEd (yCur y) e)).getD pl 0) e) (by rw [e5']; exact hlk5.1) (by rw [e5']; exact hlk5.2) (by rw [e5', w5l]; omega) (by show (1 : Nat) ≠ 0; omega) (fun _ => by rw [e5', c5l]; omega) (by show 1 ≤ 2; omega) (fun x6 h6' k6 => ?_)
  rw [e5'] at h6' k6
  generalize hd6 : sWrite (popB (sDel e (sEd (yCur y) e) pl)) (mkC 1 pl ((aCopy (sEd (yCur y) e)).getD pl 0) e) = d6 at h6' k6
  have c6 : aCopy d6 = aCopy (sEd (yCur y) e) := by
    rw [← hd6]
    exact ins_era _ _ hlt
  have e6 : ∀ z : aY, sEd (yCur (yPut z e d6)) e = d6 := fun z => upE_same _ _ _
  refine ⟨fun q => absurd rfl q, fun _ => ?_⟩
  refine s_let h6' k6 he (by omega) ?_
  rw [e6, c6, if_neg (by omega), ← h5b]
  refine ⟨fun q => absurd rfl q, fun _ => ?_⟩
  have e7 : nI (aCopy (sEd (yCur y) e)).length - 1 = nI ((aCopy (sEd (yCur y) e)).length - 1) := by
    obtain ⟨n, hn⟩ : ∃ n, (aCopy (sEd (yCur y) e)).length = n + 1 := ⟨_, (Nat.succ_pred_eq_of_ne_zero (by omega)).symm⟩
    rw [hn, nI_pred]; rfl
  rw [e7]
  refine s_let h6' k6 he (by omega) ?_
  rw [e6, c6, if_neg (by omega), ← h6 (by omega)]
  refine ⟨fun q => absurd rfl q, fun _ => ?_⟩
  refine s_e0 h6' k6 he ?_
  rw [e6, c6]
  refine ⟨fun q => absurd rfl q, fun _ => ?_⟩
  unfold jn_X8_isBackSo_210
  refine s_undo2 h6' k6 (fun r x7 h7 k7 hr => ?_)
  exact back_224 h7 k7 _ (by decide) hr hQ
theorem s_backso (h : RX x y) (ok : okZ y) (he : e < 3) (v : Int32) {Q : Int32 → zX → Prop} (hQ : ∀ x1 y1, RX x1 y1 → okZ y1 → Q 1 x1) : wp_X8_isBackSo x (nI e) v Q := by
  have hf := edf ok he
  unfold wp_X8_isBackSo
  refine s_e0 h ok he ?_
  refine s_low ((aCopy (sEd (yCur y) e)).length + 1) (nI_1 _) (by omega) (by omega) ?_
  have hp := lowN_lt v (N := (aCopy (sEd (yCur y) e)).length + 1) (by omega)
  generalize lowN v ((aCopy (sEd (yCur y) e)).length + 1) = pl at *
  refine s_let h ok he (by omega) ?_
  refine ⟨fun q => ?_, fun q => ?_⟩
  · have hne : (aCopy (sEd (yCur y) e)).length ≠ 0 := fun z => q (by rw [z]; rfl)
    have e7 : nI (aCopy (sEd (yCur y) e)).length - 1 = nI ((aCopy (sEd (yCur y) e)).length - 1) := by
      obtain ⟨n, hn⟩ : ∃ n, (aCopy (sEd (yCur y) e)).length = n + 1 := ⟨_, (Nat.succ_pred_eq_of_ne_zero hne).symm⟩
      rw [hn, nI_pred]; rfl
    rw [e7]
    refine s_let h ok he (by omega) ?_
    exact back_41 h ok he v (by omega) rfl (fun _ => if_neg (by omega)) hQ
  · have h0 : (aCopy (sEd (yCur y) e)).length = 0 := (nI_eq (b := 0) (by omega) (by omega)).mp q
    exact back_41 h ok he v (by omega) rfl (fun z => absurd h0 z) hQ
end SB
