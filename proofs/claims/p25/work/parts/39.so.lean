/-! areEditorsSo answers 1 -/
section SO
variable {x : zX} {y : aY}
theorem so_235 (h : RX x y) (ok : okZ y) {e : Nat} (he : e < 3) (v1 v2 v3 v4 : Int32) {Q : Int32 → Prop} {K : Int32 → Int32 → Int32 → Prop} (hK : K v1 v2 (nI (e + 1))) : jn_X8_areEditorsSo_235 x v1 v2 v3 v4 (nI e) (nI (aWait (sEd (yCur y) e)).length) Q K := by
  have hf := edf ok he
  unfold jn_X8_areEditorsSo_235
  refine s_waitEnd h ok he ?_
  refine ⟨fun q => absurd rfl q, fun _ => ?_⟩
  refine s_e6 h ok he ?_
  refine br_f (by rw [li 6, nI_ltI (by omega) (by omega)]; omega) ?_
  refine s_e0 h ok he ?_
  refine s_let h ok he (p := (aCopy (sEd (yCur y) e)).length) (by omega) ?_
  rw [if_pos (Nat.le_refl _)]
  refine ⟨fun q => absurd rfl q, fun _ => ?_⟩
  rw [nI_1]; exact hK
theorem so_213 (h : RX x y) (ok : okZ y) {e : Nat} (he : e < 3) (v1 v2 v3 v4 : Int32) {Q : Int32 → Prop} {K : Int32 → Int32 → Int32 → Prop} (hK : K v1 v2 (nI (e + 1))) : jn_X8_areEditorsSo_213 x v1 v2 v3 v4 (nI e) (nI (aWait (sEd (yCur y) e)).length) 1 Q K := by
  have hf := edf ok he
  unfold jn_X8_areEditorsSo_213
  refine br_f (by decide) ?_
  refine pk_lt 0 (aWait (sEd (yCur y) e)).length (fun _ => so_235 h ok he v1 v2 v3 v4 hK) (fun h0 => ?_)
  refine s_e2 h ok he ?_
  have hw : aWay (sEd (yCur y) e) = false := by
    rcases (ok.1.1.1.1 e he).2.2.2.2.2.2.2.2.2.1 with ⟨_, w, ws, _, _, e1, _⟩ | ⟨q, _⟩
    · rw [e1, List.length_cons] at h0; omega
    · exact q
  rw [hw]
  exact ⟨fun q => absurd rfl q, fun _ => so_235 h ok he v1 v2 v3 v4 hK⟩
theorem so_201 (h : RX x y) (ok : okZ y) {e : Nat} (he : e < 3) (v1 v2 v3 v4 : Int32) {Q : Int32 → Prop} {K : Int32 → Int32 → Int32 → Prop} (hK : K v1 v2 (nI (e + 1))) : jn_X8_areEditorsSo_201 x v1 v2 v3 v4 (nI e) (nI (aWait (sEd (yCur y) e)).length) Q K := by
  have hf := edf ok he
  unfold jn_X8_areEditorsSo_201
  refine br_f (by rw [li 6, nI_ltI (by omega) (by omega)]; omega) ?_
  exact so_213 h ok he v1 v2 v3 v4 hK
theorem so_132 (h : RX x y) (ok : okZ y) {e : Nat} (he : e < 3) (v1 v3 v4 v7 s0 s1 : Int32) (hs : ¬ v7 = 0 → settled (yCur y) e) {Q : Int32 → Prop} {K : Int32 → Int32 → Int32 → Prop} (hK : K v1 (s1 + s0) (nI (e + 1))) : jn_X8_areEditorsSo_132 x v1 v3 v4 (nI e) (nI (aWait (sEd (yCur y) e)).length) v7 s0 s1 Q K := by
  have hf := edf ok he
  unfold jn_X8_areEditorsSo_132
  intro x24 hx24
  subst hx24
  refine s_e3 h ok he (s_e4 h ok he (s_c0 h ok ?_))
  refine ⟨fun q => absurd (by rw [nI_add]; refine congrArg nI ?_; omega) q, fun _ => ?_⟩
  refine s_e5 h ok he ?_
  refine br_f (nI_pos (by omega)) ?_
  refine s_e5 h ok he (s_e0 h ok he ?_)
  refine br_f (nI_nlt hf.2.2.2.1 (by omega)) ?_
  refine ⟨fun _ => so_201 h ok he v1 _ v3 v4 hK, fun q => ?_⟩
  refine s_e7 h ok he (hs q) ?_
  exact ⟨fun q => absurd rfl q, fun _ => so_201 h ok he v1 _ v3 v4 hK⟩
theorem so_79 (h : RX x y) (ok : okZ y) {e : Nat} (he : e < 3) (v3 v4 : Int32) {Q : Int32 → Prop} {K : Int32 → Int32 → Int32 → Prop} (hK : K (nI (waitN (yCur y) (e + 1))) (nI (setN (yCur y) (e + 1))) (nI (e + 1))) : lb_X8_areEditorsSo_79 x v3 v4 Q K (nI (waitN (yCur y) e)) (nI (setN (yCur y) e)) (nI e) := by
  have hf := edf ok he
  unfold lb_X8_areEditorsSo_79
  refine br_f (by rw [li 3, nI_leI (by omega) (by omega)]; omega) ?_
  refine s_e1 h ok he ?_
  have w1 : nI (waitN (yCur y) e) + nI (aWait (sEd (yCur y) e)).length = nI (waitN (yCur y) (e + 1)) := by rw [nI_add]; rfl
  have no : ¬ settled (yCur y) e → jn_X8_areEditorsSo_113 x (nI (waitN (yCur y) e)) (nI (setN (yCur y) e)) v3 v4 (nI e) (nI (aWait (sEd (yCur y) e)).length) Q K := by
    intro hn
    unfold jn_X8_areEditorsSo_113 jn_X8_areEditorsSo_114
    intro x22 hx
    subst hx
    rw [w1]
    refine br_t rfl ?_
    refine so_132 h ok he _ v3 v4 0 0 _ (fun q => absurd rfl q) ?_
    have e1 : nI (setN (yCur y) e) + 0 = nI (setN (yCur y) (e + 1)) := by
      rw [li 0, nI_add, setN, if_neg (fun q => hn (decSettled_iff.mp q))]
    rw [e1]; exact hK
  refine ⟨fun q => no (fun z => q (by rw [z.1]; rfl)), fun q => ?_⟩
  have q0 : (aWait (sEd (yCur y) e)).length = 0 := (nI_eq (b := 0) (by omega) (by omega)).mp q
  refine s_e4 h ok he ?_
  refine ⟨fun q2 => no (fun z => q2 (by rw [z.2, Nat.sub_self]; rfl)), fun q2 => ?_⟩
  have q3 : (sLog (yCur y)).length - aHeard (sEd (yCur y) e) = 0 := (nI_eq (b := 0) (by omega) (by omega)).mp q2
  have hs : settled (yCur y) e := ⟨q0, by omega⟩
  unfold jn_X8_areEditorsSo_114
  intro x22 hx
  subst hx
  rw [w1]
  refine br_f (by decide) ?_
  refine so_132 h ok he _ v3 v4 1 1 _ (fun _ => hs) ?_
  have e1 : nI (setN (yCur y) e) + 1 = nI (setN (yCur y) (e + 1)) := by
    rw [nI_1, setN, if_pos (decSettled_iff.mpr hs)]
  rw [e1]; exact hK
theorem so_342 (h : RX x y) (ok : okZ y) {Q : Int32 → Prop} (hQ : Q 1) : jn_X8_areEditorsSo_342 x (nI (txt (sLog (yCur y))).length) 1 Q := by
  have hl := ok.1.1.2
  have ht := txt_le (chain_log ok)
  have hm := txt_mem (chain_log ok)
  unfold jn_X8_areEditorsSo_342
  refine br_f (by decide) ?_
  refine s_by0 h ok (by omega) ?_
  rw [if_pos (Nat.le_refl _)]
  refine ⟨fun q => absurd rfl q, fun _ => ?_⟩
  refine ⟨fun _ => hQ, fun q => ?_⟩
  have hne : (txt (sLog (yCur y))).length ≠ 0 := fun z => q (by rw [z]; rfl)
  have e1 : nI (txt (sLog (yCur y))).length - 1 = nI ((txt (sLog (yCur y))).length - 1) := by
    obtain ⟨n, hn⟩ : ∃ n, (txt (sLog (yCur y))).length = n + 1 := ⟨_, (Nat.succ_pred_eq_of_ne_zero hne).symm⟩
    rw [hn, nI_pred]; rfl
  rw [e1]
  refine s_by0 h ok (by omega) ?_
  rw [if_neg (by omega)]
  have h1 := hm _ (getD_mem (p := (txt (sLog (yCur y))).length - 1) (0, 0) (by omega))
  refine br_f (nI_pos (by omega)) ?_
  refine s_let3 h ok (by omega) ?_
  rw [if_neg (by omega)]
  exact br_f (nI_pos (by omega)) hQ
theorem s_so (h : RX x y) (ok : okZ y) {Q : Int32 → Prop} (hQ : Q 1) : wp_X8_areEditorsSo x Q := by
  have hl := ok.1.1.2
  have hch := chain_log ok
  unfold wp_X8_areEditorsSo
  refine zLoop3_i (fun v3 v4 v5 => ∃ j : Nat, v5 = nI j ∧ j ≤ (sLog (yCur y)).length ∧ v3 = nI (lenC 0 ((sLog (yCur y)).take j)) ∧ v4 = nI (nothN ((sLog (yCur y)).take j))) (fun _ _ v5 => (sLog (yCur y)).length - v5.toNatClampNeg) ?_ _ _ _ ⟨0, rfl, Nat.zero_le _, rfl, rfl⟩
  rintro K v3 v4 v5 ⟨j, rfl, hj, rfl, rfl⟩ hK
  unfold lb_X8_areEditorsSo_12
  refine s_c0 h ok ?_
  refine pk_le (sLog (yCur y)).length j (fun hle => ?_) (fun hgt => ?_)
  · rw [List.take_of_length_le hle]
    refine zLoop3_i (fun v1 v2 v5 => ∃ i : Nat, v5 = nI i ∧ i ≤ 3 ∧ v1 = nI (waitN (yCur y) i) ∧ v2 = nI (setN (yCur y) i)) (fun _ _ v5 => 3 - v5.toNatClampNeg) ?_ _ _ _ ⟨0, rfl, by omega, rfl, rfl⟩
    rintro K2 v1 v2 v5 ⟨i, rfl, hi, rfl, rfl⟩ hK2
    by_cases h3 : i < 3
    · refine so_79 h ok h3 _ _ (hK2 _ _ _ ⟨i + 1, rfl, by omega, rfl, rfl⟩ ?_)
      rw [nI_clamp (by omega), nI_clamp (by omega)]; omega
    · have e3 : i = 3 := by omega
      subst e3
      unfold lb_X8_areEditorsSo_79
      refine br_t (by decide) ?_
      refine s_c3 h ok ⟨fun q => absurd rfl q, fun _ => ?_⟩
      refine s_c4 h ok ⟨fun q => absurd rfl q, fun _ => ?_⟩
      rw [← txt_len hch]
      refine s_c1 h ok ⟨fun q => absurd rfl q, fun _ => ?_⟩
      refine s_c2 h ok ⟨fun q => absurd rfl q, fun _ => ?_⟩
      exact so_342 h ok hQ
  · have hu : (sLog (yCur y))[j]? = some (sLog (yCur y))[j] := List.getElem?_eq_getElem hgt
    have hg : (sLog (yCur y)).getD j (mkC 0 0 0 0) = (sLog (yCur y))[j] := by rw [List.getD_eq_getElem?_getD, hu]; rfl
    obtain ⟨gu, fu⟩ := chain_at hch hu
    have hlc := lenC_take hu
    have ht : (sLog (yCur y)).take (j + 1) = (sLog (yCur y)).take j ++ [(sLog (yCur y))[j]] := (List.take_append_getElem hgt).symm
    refine s_logAt h ok hgt 0 (by omega) ?_
    rw [hg, show rPart (sLog (yCur y))[j] (nI 0) = nI (cK (sLog (yCur y))[j]) from if_pos rfl]
    have step : ∀ x y' : Int32, x = nI (lenC 0 ((sLog (yCur y)).take (j + 1))) → y' = nI (nothN ((sLog (yCur y)).take (j + 1))) → K x y' (nI j + 1) := by
      intro a b ha hb
      rw [nI_1]
      refine hK _ _ _ ⟨j + 1, rfl, by omega, ha, hb⟩ ?_
      rw [nI_clamp (by omega), nI_clamp (by omega)]; omega
    have g2 := gu.1
    generalize hq : (sLog (yCur y))[j] = u at *
    have hnoth : nothN ((sLog (yCur y)).take (j + 1)) = nothN ((sLog (yCur y)).take j) + (if cK u = 0 then 1 else 0) := by
      rw [ht]
      unfold nothN
      rw [List.filter_append, List.length_append]
      by_cases z : cK u = 0
      · simp [z]
      · simp [z]
    have jn : ∀ δ : Int32, nI (lenC 0 ((sLog (yCur y)).take j)) + δ = nI (lenC 0 ((sLog (yCur y)).take (j + 1))) → jn_X8_areEditorsSo_53 x 0 0 (nI (nothN ((sLog (yCur y)).take j))) (nI j) (nI (cK u)) δ (nI (lenC 0 ((sLog (yCur y)).take j))) Q K := by
      intro δ hδ
      unfold jn_X8_areEditorsSo_53
      intro x56 hx
      refine ⟨fun q x58 h58 => step _ _ (hx.trans hδ) ?_, fun q x59 h59 => step _ _ (hx.trans hδ) ?_⟩
      · have z : ¬ cK u = 0 := fun z => q (by rw [z]; rfl)
        rw [h58, hnoth, if_neg z, li 0, nI_add]
      · have z : cK u = 0 := (nI_eq (b := 0) (by omega) (by omega)).mp q
        rw [h59, hnoth, if_pos z, nI_1]
    refine ⟨fun n1 => ⟨fun n2 => jn 0 ?_, fun q => jn (-1) ?_⟩, fun q => jn 1 ?_⟩
    · have z1 : ¬ cK u = 1 := fun z => n1 (by rw [z]; rfl)
      have z2 : ¬ cK u = 2 := fun z => n2 (by rw [z]; rfl)
      rw [hlc, li 0, nI_add]
      unfold aft
      rw [if_neg z1, if_neg z2]; rfl
    · have z : cK u = 2 := (nI_eq (b := 2) (by omega) (by omega)).mp q
      have := fu.2 z
      rw [hlc]
      unfold aft
      rw [if_neg (by omega), if_pos z]
      obtain ⟨n, hn⟩ : ∃ n, lenC 0 ((sLog (yCur y)).take j) = n + 1 := ⟨_, (Nat.succ_pred_eq_of_ne_zero (by omega)).symm⟩
      rw [hn, pk_m1]; rfl
    · have z : cK u = 1 := (nI_eq (b := 1) (by omega) (by omega)).mp q
      rw [hlc]
      unfold aft
      rw [if_pos z, nI_1]
end SO
