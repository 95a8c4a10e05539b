/-! the reference's log and editors together -/
def LogAt (g : Nat → Int32) (log : List Ch) : Prop := g 0 = nI log.length ∧ rowAt g 1 mcode log ∧ log.length ≤ 78
theorem LogAt.out {g g1 : Nat → Int32} {log : List Ch} {k : Nat} (h : LogAt g log) (o : outE k g g1) : LogAt g1 log := ⟨by rw [o 0 (by omega)]; exact h.1, h.2.1.ext (fun i hi => o _ (by have := h.2.2; omega)), h.2.2⟩
theorem sHearN_succ (k : Nat) (log : List Ch) : ∀ (n : Nat) (d : aE), sHearN k log d (n + 1) = sHear k log (sHearN k log d n)
  | 0, d => rfl
  | n + 1, d => by rw [sHearN, sHearN_succ k log n]; rfl
section MLOG
variable {v : zM} {k : Nat} {d : aE} {log : List Ch} {Q : Int32 → zM → Prop}
theorem m_behind (hk : k < 3) (h : RMe (mS v) k d) (hL : LogAt (mS v) log) (iv : invE k log d) (hw : (aWait d).length ≠ 0) (hQ : Q (mcode (outC (firstW d) (log.drop (aHeard d)))) v) : wp_X7_behind v (nI k) (mcode (firstW d)) Q := by
  have hl := hL.2.2
  have hbd := iv.bound
  obtain ⟨i1, i2, i3, i4, i5, i6, i7, i8, i9, i10, i11, i12, i13⟩ := iv
  obtain ⟨w, ws, hws⟩ : ∃ w ws, aWait d = w :: ws := by
    cases hh : aWait d with
    | nil => rw [hh] at hw; exact absurd rfl hw
    | cons a b => exact ⟨a, b, rfl⟩
  have hfw : firstW d = w := by unfold firstW; rw [hws]; rfl
  rw [hws] at i2
  have gw : good w := i2.1
  have fw := i2.2.1
  have hch : chain (lenC 0 (log.take (aHeard d))) (log.drop (aHeard d)) := by
    have e : log = log.take (aHeard d) ++ log.drop (aHeard d) := (List.take_append_drop _ log).symm
    have i11b := i11
    rw [e, chain_app] at i11b
    exact i11b.2
  unfold wp_X7_behind
  rw [li 112, o_c hk 112 (by omega), h.2.2.2.2.2.2.1]
  refine ⟨o_v hk _ (by omega), fun x1 hx1 => ?_⟩
  subst hx1
  rw [hfw] at hQ ⊢
  refine zLoop2_i (fun v2 v3 => ∃ j : Nat, v3 = nI (aHeard d + j) ∧ aHeard d + j ≤ log.length ∧ v2 = mcode (outC w ((log.drop (aHeard d)).take j)) ∧ good (outC w ((log.drop (aHeard d)).take j))) (fun _ v3 => log.length - v3.toNatClampNeg) ?_ _ _ ⟨0, rfl, i1, rfl, gw⟩
  rintro K v2 v3 ⟨j, rfl, hj, rfl, gj⟩ hK
  unfold lb_X7_behind_15
  rw [show (0 : Int32).toNatClampNeg = 0 from rfl, hL.1]
  refine ⟨vp_in_nI (n := 0) (by omega) (by omega), pk_le log.length (aHeard d + j) (fun hle => ?_) (fun hgt => ?_)⟩
  · rw [List.take_of_length_le (by rw [List.length_drop]; omega)]
    exact hQ
  · have hu : log[aHeard d + j]? = some (log[aHeard d + j]'(by omega)) := List.getElem?_eq_getElem _
    generalize log[aHeard d + j]'(by omega) = u at hu
    have hu2 : (log.drop (aHeard d))[j]? = some u := by rw [List.getElem?_drop]; exact hu
    have gu : good u := chain_good log 0 i11 u (List.mem_of_getElem? hu)
    have e1 : (1 : Int32) + nI (aHeard d + j) = nI (1 + (aHeard d + j)) := by rw [li 1, nI_add]
    rw [e1, nI_clamp (by omega), hL.2.1 _ _ hu, m_resh gj gu, ← outC_take hu2]
    refine ⟨vp_in_nI (by omega) (by omega), fun x3 hx3 => ?_⟩
    subst hx3
    rw [nI_1]
    refine hK _ _ ⟨j + 1, rfl, by omega, rfl, ?_⟩ ?_
    · have hc1 : chain (lenC 0 (log.take (aHeard d))) ((log.drop (aHeard d)).take (j + 1)) := by
        have e : log.drop (aHeard d) = (log.drop (aHeard d)).take (j + 1) ++ (log.drop (aHeard d)).drop (j + 1) := (List.take_append_drop _ _).symm
        rw [e, chain_app] at hch
        exact hch.1
      refine (outC_ok _ w _ hc1 gw fw ?_).1
      have := hbd.2.2
      rw [List.length_take, List.length_drop]
      omega
    · rw [nI_clamp (by omega), nI_clamp (by omega)]; omega
theorem m_hears (hk : k < 3) (h : RMe (mS v) k d) (hL : LogAt (mS v) log) (iv : invE k log d) (hu : aHeard d < log.length) (hQ : ∀ g1, RMe g1 k (sHear k log d) → outE k (mS v) g1 → Q (nI (rHear k log d)) (mSetS v g1)) : wp_X7_hears v (nI k) Q := by
  have hl := hL.2.2
  have hbd := iv.bound
  obtain ⟨i1, i2, i3, i4, i5, i6, i7, i8, i9, i10, i11, i12, i13⟩ := id iv
  obtain ⟨h1, h2, h3, h4, h5, h6, h7, h8, h9, h10⟩ := id h
  have hu2 : log[aHeard d]? = some (nextU log d) := by
    unfold nextU
    rw [List.getD_eq_getElem?_getD, List.getElem?_eq_getElem hu]; rfl
  obtain ⟨gu, fu⟩ := chain_at i11 hu2
  have hdrop := outC_drop (w := nextU log d) hu2
  have a1 := hbd.2.2
  have hp0 : lenC 0 (log.take (aHeard d)) + (aWait d).length ≤ 78 := by omega
  obtain ⟨p1, p2, p3, p4⟩ := passT_ok (aWait d) (nextU log d) _ i2 gu fu hp0
  have hpre : ∀ j, chain (lenC 0 (log.take (aHeard d))) ((aWait d).take j) := by
    intro j
    have e : aWait d = (aWait d).take j ++ (aWait d).drop j := (List.take_append_drop _ _).symm
    have h2 := i2
    rw [e, chain_app] at h2
    exact h2.1
  have e1 : (1 : Int32) + nI (aHeard d) = nI (1 + aHeard d) := by rw [li 1, nI_add]
  have hE3 := gu.2.2.1
  unfold wp_X7_hears
  rw [li 112, li 97, li 113, o_c hk 112 (by omega), o_c hk 97 (by omega), o_c hk 113 (by omega), h7, e1, nI_clamp (by omega), hL.2.1 _ _ hu2, nI_1, upd_n (by omega), h3]
  refine ⟨o_v hk _ (by omega), vp_in_nI (by omega) (by omega), fun x1 hx1 => ?_⟩
  subst hx1
  rw [m_by gu]
  refine ⟨o_v hk _ (by omega), o_v hk _ (by omega), fun hne => ?_, fun he => ?_⟩
  · have hne : cE (nextU log d) ≠ k := fun z => hne (by rw [z])
    have hh : rHear k log d = cK (passT (aWait d) (nextU log d)).2 := by unfold rHear; rw [if_neg hne]
    have hs : sHear k log d = sApply (mkE (aCopy d) (passT (aWait d) (nextU log d)).1 (aBacks d) (aWay d) (aHeard d + 1) (aMark d) (aWr d)) (passT (aWait d) (nextU log d)).2 := by unfold sHear; rw [if_neg hne]
    refine zLoop3_i (fun v2 v3 w => ∃ j : Nat, v3 = nI j ∧ j ≤ (aWait d).length ∧ v2 = mcode (passT ((aWait d).take j) (nextU log d)).2 ∧ rowAt w (97 + 116 * k + 98) mcode ((passT ((aWait d).take j) (nextU log d)).1 ++ (aWait d).drop j) ∧ w (97 + 116 * k + 112) = nI (aHeard d + 1) ∧ ∀ i, (i < 97 + 116 * k + 98 ∨ 97 + 116 * k + 104 ≤ i) → i ≠ 97 + 116 * k + 112 → w i = mS v i) (fun _ v3 _ => (aWait d).length - v3.toNatClampNeg) ?_ _ _ _ ⟨0, rfl, Nat.zero_le _, rfl, ?_, upd_s, fun i hi hi2 => upd_n hi2⟩
    · rintro K v2 v3 w ⟨j, rfl, hj, rfl, hr, hh2, hout⟩ hK
      have l1 : (passT ((aWait d).take j) (nextU log d)).1.length = j := by rw [passT_len, List.length_take]; omega
      have hlen : ((passT ((aWait d).take j) (nextU log d)).1 ++ (aWait d).drop j).length = (aWait d).length := by
        rw [List.length_append, l1, List.length_drop]; omega
      obtain ⟨-, gxj, -, -⟩ := passT_ok ((aWait d).take j) (nextU log d) _ (hpre j) gu fu (by rw [List.length_take]; omega)
      unfold lb_X7_hears_124
      rw [li 97, li 98, o_c hk 97 (by omega), hout (97 + 116 * k + 97) (by omega) (by omega), h3]
      refine ⟨o_v hk _ (by omega), pk_le (aWait d).length j (fun hle => ?_) (fun hgt => ?_)⟩
      · have e : j = (aWait d).length := by omega
        subst e
        rw [List.take_length] at hr ⊢
        rw [List.drop_length, List.append_nil] at hr
        have f3 : fitsC (aCopy d).length (passT (aWait d) (nextU log d)).2 := by rw [i3]; exact p3
        have r1 : RMe (mS (mSetS v w)) k (mkE (aCopy d) (passT (aWait d) (nextU log d)).1 (aBacks d) (aWay d) (aHeard d + 1) (aMark d) (aWr d)) := by
          rw [mS_set]
          refine ⟨?_, ?_, ?_, hr, ?_, ?_, hh2, ?_, ?_, ?_⟩
          · rw [hout _ (by omega) (by omega)]; exact h1
          · exact rowAt.ext h2 (fun i hi => by
              have hi : i < (aCopy d).length := hi
              exact hout _ (by omega) (by omega))
          · rw [hout _ (by omega) (by omega), h3]
            show _ = nI (passT (aWait d) (nextU log d)).1.length
            rw [passT_len]
          · rw [hout _ (by omega) (by omega)]; exact h5
          · exact rowAt.ext h6 (fun i hi => by
              have hi : i < (aBacks d).length := hi
              exact hout _ (by omega) (by omega))
          · rw [hout _ (by omega) (by omega)]; exact h8
          · rw [hout _ (by omega) (by omega)]; exact h9
          · rw [hout _ (by omega) (by omega)]; exact h10
        refine m_perform hk r1 p2 f3 (fun a ha => (i4 a ha).1) (by show (aCopy d).length ≤ 78; omega) (by show (aBacks d).length ≤ 7; omega) (by show (passT (aWait d) (nextU log d)).1.length ≤ 6; rw [passT_len]; exact i7) (by show aMark d ≤ 80; omega) (fun g1 r2 o2 => ?_)
        rw [m_kind p2, ← hh, mSet2]
        refine hQ g1 (by rw [hs]; exact r2) ?_
        have o1 : outE k (mS v) w := fun i hi => hout i (by omega) (by omega)
        exact o1.trans o2
      · have gw : good (aWait d)[j] := chain_good (aWait d) _ i2 _ (List.getElem_mem hgt)
        have hget : ((passT ((aWait d).take j) (nextU log d)).1 ++ (aWait d).drop j)[j]? = some (aWait d)[j] := by
          rw [List.getElem?_append_right (by omega), l1, Nat.sub_self, List.getElem?_drop]
          simp [hgt]
        have ht : (aWait d).take (j + 1) = (aWait d).take j ++ [(aWait d)[j]] := (List.take_append_getElem hgt).symm
        have hg2 := hr _ _ hget
        rw [show 97 + 116 * k + 98 + j = 97 + 116 * k + (98 + j) by omega] at hg2
        rw [nI_add, o_c hk _ (by omega), hg2]
        refine ⟨o_v hk _ (by omega), fun x5 hx5 => ⟨o_v hk _ (by omega), fun x6 hx6 => ?_⟩⟩
        subst hx5
        rw [m_resh gxj gw] at hx6
        subst hx6
        rw [m_resh gw gxj, nI_1]
        refine hK _ _ _ ⟨j + 1, rfl, by omega, by rw [ht, passT_app], ?_, by rw [upd_n (by omega)]; exact hh2, fun i hi hi2 => by rw [upd_n (by omega)]; exact hout i hi hi2⟩ ?_
        · rw [ht, passT_app]
          intro i a hi
          have hi2 : (((passT ((aWait d).take j) (nextU log d)).1 ++ (aWait d).drop j).set j (resh (aWait d)[j] (passT ((aWait d).take j) (nextU log d)).2))[i]? = some a := by
            rw [List.set_append_right _ _ (by omega), l1, Nat.sub_self, List.drop_eq_getElem_cons hgt, List.set_cons_zero]
            rw [List.append_assoc] at hi
            exact hi
          rw [upd_at]
          by_cases e : i = j
          · subst e
            rw [List.getElem?_set_self (by omega)] at hi2
            cases hi2
            rw [if_pos (by omega)]
          · rw [List.getElem?_set_ne (by omega)] at hi2
            rw [if_neg (by omega)]
            exact hr i a hi2
        · rw [nI_clamp (by omega), nI_clamp (by omega)]; omega
    · exact rowAt.ext h4 (fun i hi => by
        have hi : i < (aWait d).length := hi
        exact upd_n (by omega))
  · have he2 : cE (nextU log d) = k := (nI_eq (by omega) (by omega)).mp he
    have hh : rHear k log d = 0 := by unfold rHear; rw [if_pos he2]
    have hs : sHear k log d = mkE (aCopy d) ((aWait d).eraseIdx 0) (aBacks d) false (aHeard d + 1) (aMark d) (aWr d) := by unfold sHear; rw [if_pos he2]
    have hne : (aWait d).length ≠ 0 := by
      rcases i10 with ⟨hw, w, ws, pre, post, e1, e2, e3, e4⟩ | ⟨hw, hno⟩
      · rw [e1, List.length_cons]; omega
      · exact absurd he2 (hno _ (by rw [hdrop]; exact List.mem_cons_self))
    rw [hh] at hQ
    rw [li 1, pk_sub (by omega)]
    refine ⟨o_v hk _ (by omega), o_v hk _ (by omega), o_v hk _ (by omega), ?_⟩
    refine zLoop2_i (fun v3 w => ∃ j : Nat, v3 = nI j ∧ j ≤ (aWait d).length - 1 ∧ ∀ t, w t = if t = 97 + 116 * k + 112 then nI (aHeard d + 1) else if t = 97 + 116 * k + 97 then nI ((aWait d).length - 1) else if t = 97 + 116 * k + 113 then 0 else if 97 + 116 * k + 98 ≤ t ∧ t < 97 + 116 * k + 98 + j then mS v (t + 1) else mS v t) (fun v3 _ => (aWait d).length - v3.toNatClampNeg) ?_ _ _ ⟨0, rfl, Nat.zero_le _, fun t => ?_⟩
    · rintro K v3 w ⟨j, rfl, hj, hinv⟩ hK
      have e97 : w (97 + 116 * k + 97) = nI ((aWait d).length - 1) := by rw [hinv, if_neg (by omega), if_pos rfl]
      have eo : ∀ t, t ≠ 97 + 116 * k + 112 → t ≠ 97 + 116 * k + 97 → t ≠ 97 + 116 * k + 113 → (t < 97 + 116 * k + 98 ∨ 97 + 116 * k + 104 ≤ t) → w t = mS v t := fun t a b c e => by rw [hinv, if_neg a, if_neg b, if_neg c, if_neg (by omega)]
      unfold lb_X7_hears_71
      rw [li 97, li 98, o_c hk 97 (by omega), e97]
      refine ⟨o_v hk _ (by omega), pk_le ((aWait d).length - 1) j (fun hle => ?_) (fun hgt => ?_)⟩
      · have e : j = (aWait d).length - 1 := by omega
        subst e
        refine hQ w ?_ (fun i hi => eo i (by omega) (by omega) (by omega) (by omega))
        rw [hs]
        refine ⟨?_, ?_, ?_, ?_, ?_, ?_, ?_, ?_, ?_, ?_⟩
        · rw [eo _ (by omega) (by omega) (by omega) (by omega)]; exact h1
        · exact rowAt.ext h2 (fun i hi => by
            have hi : i < (aCopy d).length := hi
            exact eo _ (by omega) (by omega) (by omega) (by omega))
        · rw [e97]
          show _ = nI ((aWait d).eraseIdx 0).length
          rw [List.length_eraseIdx_of_lt (by omega)]
        · intro i a hi
          have hi : ((aWait d).eraseIdx 0)[i]? = some a := hi
          have hil := (List.getElem?_eq_some_iff.mp hi).1
          rw [List.length_eraseIdx_of_lt (by omega)] at hil
          rw [List.getElem?_eraseIdx, if_neg (by omega)] at hi
          rw [hinv, if_neg (by omega), if_neg (by omega), if_neg (by omega), if_pos (by omega)]
          exact h4 (i + 1) a hi
        · rw [eo _ (by omega) (by omega) (by omega) (by omega)]; exact h5
        · exact rowAt.ext h6 (fun i hi => by
            have hi : i < (aBacks d).length := hi
            exact eo _ (by omega) (by omega) (by omega) (by omega))
        · rw [hinv, if_pos rfl]; rfl
        · rw [hinv, if_neg (by omega), if_neg (by omega), if_pos rfl]; rfl
        · rw [eo _ (by omega) (by omega) (by omega) (by omega)]; exact h9
        · rw [eo _ (by omega) (by omega) (by omega) (by omega)]; exact h10
      · rw [li 1, nI_add, nI_add, nI_add, o_c hk _ (by omega), o_c hk _ (by omega)]
        refine ⟨o_v hk _ (by omega), o_v hk _ (by omega), hK _ _ ⟨j + 1, rfl, by omega, fun t => ?_⟩ ?_⟩
        · rw [upd_at]
          by_cases e1 : t = 97 + 116 * k + (98 + j)
          · rw [if_pos e1, if_neg (by omega), if_neg (by omega), if_neg (by omega), if_pos (by omega), hinv, if_neg (by omega), if_neg (by omega), if_neg (by omega), if_neg (by omega)]
            refine congrArg _ ?_
            omega
          · rw [if_neg e1, hinv]
            by_cases e2 : 97 + 116 * k + 98 ≤ t ∧ t < 97 + 116 * k + 98 + j
            · rw [if_pos e2, if_pos (show 97 + 116 * k + 98 ≤ t ∧ t < 97 + 116 * k + 98 + (j + 1) by omega)]
            · rw [if_neg e2, if_neg (show ¬ (97 + 116 * k + 98 ≤ t ∧ t < 97 + 116 * k + 98 + (j + 1)) by omega)]
        · rw [nI_clamp (by omega), nI_clamp (by omega)]; omega
    · rw [upd_at, upd_at, upd_at]
      by_cases e1 : t = 97 + 116 * k + 112
      · rw [if_neg (by omega), if_neg (by omega), if_pos e1, if_pos e1]
      · rw [if_neg e1, if_neg e1]
        by_cases e2 : t = 97 + 116 * k + 97
        · rw [if_neg (by omega), if_pos e2, if_pos e2]
        · rw [if_neg e2, if_neg e2]
          by_cases e3 : t = 97 + 116 * k + 113
          · rw [if_pos e3, if_pos e3]
          · rw [if_neg e3, if_neg e3, if_neg (by omega)]
theorem m_hearsAll (hk : k < 3) (h : RMe (mS v) k d) (hL : LogAt (mS v) log) (iv : invE k log d) (hQ : ∀ g1, RMe g1 k (sHearAll k log d) → outE k (mS v) g1 → Q (nI (log.length - aHeard d)) (mSetS v g1)) : wp_X7_hearsAll v (nI k) Q := by
  have hl := hL.2.2
  have i1 := iv.1
  unfold wp_X7_hearsAll
  refine zLoop2_i (fun v2 w => ∃ (j : Nat) (g1 : Nat → Int32), v2 = nI j ∧ j ≤ log.length - aHeard d ∧ w = mSetS v g1 ∧ RMe g1 k (sHearN k log d j) ∧ outE k (mS v) g1) (fun v2 _ => (log.length - aHeard d) - v2.toNatClampNeg) ?_ _ _ ⟨0, mS v, rfl, Nat.zero_le _, rfl, h, outE.refl⟩
  rintro K v2 w ⟨j, g1, rfl, hj, rfl, r1, o1⟩ hK
  have hL1 := hL.out o1
  obtain ⟨j1, j2, j3⟩ := inv_hearN j d iv (by omega)
  unfold lb_X7_hearsAll_2
  rw [mS_set, li 112, o_c hk 112 (by omega), r1.2.2.2.2.2.2.1, j3, show (0 : Int32).toNatClampNeg = 0 from rfl, hL1.1]
  refine ⟨o_v hk _ (by omega), vp_in_nI (n := 0) (by omega) (by omega), pk_le log.length (aHeard d + j) (fun hle => ?_) (fun hgt => ?_)⟩
  · have e : j = log.length - aHeard d := by omega
    subst e
    exact hQ g1 r1 o1
  · refine m_hears (v := mSetS v g1) hk r1 hL1 j1 (by omega) (fun g2 r2 o2 => ?_)
    rw [nI_1, mSet2]
    refine hK _ _ ⟨j + 1, g2, rfl, by omega, rfl, by rw [sHearN_succ]; exact r2, o1.trans o2⟩ ?_
    rw [nI_clamp (by omega), nI_clamp (by omega)]; omega
end MLOG
