/-! the class's editor: the calls -/
theorem Int32_of {p : Int32} (h : ¬ p < 0) : ∃ j : Nat, j < 2 ^ 31 ∧ p = nI j ∧ p.toNatClampNeg = j := by
  obtain ⟨j, h1, h2⟩ := nI_of h
  exact ⟨j, h1, h2, by rw [h2, nI_clamp h1]⟩
theorem s_setSpot {k : Nat} {e : zE} {d : aE} (h : RE k e d) (p : Int32) {Q : Int32 → zE → Prop} (hQ : ∀ e1, RE k e1 (opMark d p).2 → Q (opMark d p).1 e1) : wp_X2_setSpot e p Q := by
  obtain ⟨h1, h2, h3, h4, h5, h6, h7, h8⟩ := id h
  unfold wp_X2_setSpot
  unfold opMark at hQ
  rw [h2.size]
  refine ⟨fun hp => ?_, fun hp => ?_⟩
  · rw [if_pos (Or.inl hp)] at hQ; exact hQ e h
  · refine ⟨fun hl => ?_, fun hl => ?_⟩
    · have hc : ¬ (p < 0 ∨ nI (aCopy d).length < p) := by
        rintro (h | h)
        · exact hp h
        · rw [Int32.lt_iff_toInt_lt] at h; rw [Int32.le_iff_toInt_le] at hl; omega
      rw [if_neg hc] at hQ
      intro x3 hx3
      subst hx3
      rw [h7]
      obtain ⟨j, hj, rfl, hj2⟩ := Int32_of hp
      exact hQ _ ⟨h1, h2, h3, h4, h5, h6, by rw [hj2]; rfl, h8⟩
    · have hc : nI (aCopy d).length < p := by
        rw [Int32.le_iff_toInt_le] at hl; rw [Int32.lt_iff_toInt_lt]; omega
      rw [if_pos (Or.inr hc)] at hQ; exact hQ e h
theorem nlt_le {x y : Int32} : ¬ x < y ↔ y ≤ x := by
  rw [Int32.lt_iff_toInt_lt, Int32.le_iff_toInt_le]; omega
theorem nle_lt {x y : Int32} : ¬ x ≤ y ↔ y < x := by
  rw [Int32.lt_iff_toInt_lt, Int32.le_iff_toInt_le]; omega
theorem s_putIn {k : Nat} {log : List Ch} {e : zE} {d : aE} (h : RE k e d) (iv : invE k log d) (hb : (aWait d).length < 6 → log.length + pend d + 1 ≤ 78) (p l : Int32) {Q : Int32 → zE → Prop} (hQ : ∀ e1, RE k e1 (opIns k d p l).2 → Q (opIns k d p l).1 e1) : wp_X2_putIn e p l Q := by
  obtain ⟨h1, h2, h3, h4, h5, h6, h7, h8⟩ := id h
  have hbd := iv.bound
  have hm := iv.2.2.2.2.2.2.2.1
  have hk := iv.2.2.2.2.2.2.2.2.2.2.2.2
  have hpl := iv.2.2.2.2.2.2.2.2.2.2.2.1
  have hw6 := iv.2.2.2.2.2.2.1
  unfold wp_X2_putIn
  unfold opIns at hQ
  rw [h2.size, h3.size]
  by_cases a1 : p < 0
  · rw [if_pos (Or.inl a1)] at hQ; exact br_t a1 (hQ e h)
  by_cases a2 : nI (aCopy d).length < p
  · rw [if_pos (Or.inr (Or.inl a2))] at hQ; exact br_f a1 (br_t a2 (hQ e h))
  by_cases a3 : l < 0
  · rw [if_pos (Or.inr (Or.inr (Or.inl a3)))] at hQ; exact br_f a1 (br_f a2 (br_t a3 (hQ e h)))
  by_cases a4 : l < 26
  · rw [if_neg (by rintro (q | q | q | q) <;> contradiction)] at hQ
    refine br_f a1 (br_f a2 (br_f a3 (br_t a4 ?_)))
    refine pk_le 30 (aCopy d).length (fun b1 => ?_) (fun b1 => ?_)
    · rw [if_pos (Or.inl b1)] at hQ; exact hQ e h
    refine pk_lt (aWait d).length 6 (fun b2 => ?_) (fun b2 => ?_)
    · rw [if_neg (by omega)] at hQ
      obtain ⟨j, hj, rfl, hj2⟩ := Int32_of a1
      obtain ⟨i, hi, rfl, hi2⟩ := Int32_of a3
      rw [hj2, hi2] at hQ
      have hjl : j ≤ (aCopy d).length := by
        rw [nI_ltI (by omega) (by omega)] at a2; omega
      have hil : i < 26 := by
        rw [li 26, nI_ltI (by omega) (by omega)] at a4; omega
      have g1 : good (mkC 1 j i k) := ⟨by show 1 ≤ 2; omega, hil, hk, by show j ≤ 80; omega, fun e => by exact absurd e (by show ¬ (1 : Nat) = 2; omega)⟩
      have f1 : fitsC (aCopy d).length (mkC 1 j i k) := ⟨fun _ => hjl, fun e => by exact absurd e (by show ¬ (1 : Nat) = 2; omega)⟩
      rw [h1, li 1, f_of_c (by omega) (by omega) (by omega) (by omega)]
      refine s_write h g1 f1 (fun a ha => (iv.2.2.2.1 a ha).1) (by show (aCopy d).length + 1 ≤ 78; omega) (by omega) b2 (fun e1 r1 => ?_)
      rw [r1.1, li 2, li 0, f_of_c (by omega) (by omega) (by omega) (by omega)]
      refine s_keep r1 (fun e2 r2 => ?_)
      rw [r2.2.1.size]
      exact hQ e2 r2
    · rw [if_pos (Or.inr b2)] at hQ; exact hQ e h
  · rw [if_pos (Or.inr (Or.inr (Or.inr a4)))] at hQ; exact br_f a1 (br_f a2 (br_f a3 (br_f a4 (hQ e h))))
theorem s_takeOut {k : Nat} {log : List Ch} {e : zE} {d : aE} (h : RE k e d) (iv : invE k log d) (hb : (aWait d).length < 6 → log.length + pend d + 1 ≤ 78) (p : Int32) {Q : Int32 → zE → Prop} (hQ : ∀ e1, RE k e1 (opDel k d p).2 → Q (opDel k d p).1 e1) : wp_X2_takeOut e p Q := by
  obtain ⟨h1, h2, h3, h4, h5, h6, h7, h8⟩ := id h
  have hbd := iv.bound
  have hm := iv.2.2.2.2.2.2.2.1
  have h9 := iv.2.2.2.2.2.2.2.2.1
  have hk := iv.2.2.2.2.2.2.2.2.2.2.2.2
  have hpl := iv.2.2.2.2.2.2.2.2.2.2.2.1
  unfold wp_X2_takeOut
  unfold opDel at hQ
  rw [h2.size, h3.size]
  by_cases a1 : p < 0
  · rw [if_pos (Or.inl a1)] at hQ; exact br_t a1 (hQ e h)
  by_cases a2 : p < nI (aCopy d).length
  · rw [if_neg (by rintro (q | q) <;> contradiction)] at hQ
    refine br_f a1 (br_t a2 ?_)
    refine pk_lt (aWait d).length 6 (fun b2 => ?_) (fun b2 => ?_)
    · rw [if_neg (by omega)] at hQ
      obtain ⟨j, hj, rfl, hj2⟩ := Int32_of a1
      rw [hj2] at hQ
      have hjl : j < (aCopy d).length := by
        rw [nI_ltI (by omega) (by omega)] at a2; exact a2
      have hg : (aCopy d)[j]? = some ((aCopy d).getD j 0) := by
        rw [List.getD_eq_getElem?_getD, List.getElem?_eq_getElem hjl]; rfl
      have hg26 : (aCopy d).getD j 0 < 26 := h9 _ (List.mem_of_getElem? hg)
      have g1 : good (mkC 2 j 0 k) := ⟨by show 2 ≤ 2; omega, by show 0 < 26; omega, hk, by show j ≤ 80; omega, fun _ => rfl⟩
      have f1 : fitsC (aCopy d).length (mkC 2 j 0 k) := ⟨fun e => by exact absurd e (by show ¬ (2 : Nat) = 1; omega), fun _ => hjl⟩
      refine s_at h2 hg rfl ?_
      rw [h1, li 2, li 0, f_of_c (by omega) (by omega) (by omega) (by omega)]
      refine s_write h g1 f1 (fun a ha => (iv.2.2.2.1 a ha).1) (by show (aCopy d).length - 1 ≤ 78; omega) (by omega) b2 (fun e1 r1 => ?_)
      rw [r1.1, li 1, f_of_c (by omega) (by omega) (by omega) (by omega)]
      exact s_keep r1 (fun e2 r2 => hQ e2 r2)
    · rw [if_pos b2] at hQ; exact hQ e h
  · rw [if_pos (Or.inr a2)] at hQ; exact br_f a1 (br_f a2 (hQ e h))
theorem s_goBack {k : Nat} {log : List Ch} {e : zE} {d : aE} (h : RE k e d) (iv : invE k log d) (hb : (aWait d).length < 6 → log.length + pend d + 1 ≤ 78) {Q : Int32 → zE → Prop} (hQ : ∀ e1, RE k e1 (opBack d).2 → Q (opBack d).1 e1) : wp_X2_goBack e Q := by
  obtain ⟨h1, h2, h3, h4, h5, h6, h7, h8⟩ := id h
  have hbd := iv.bound
  have hm := iv.2.2.2.2.2.2.2.1
  have hk := iv.2.2.2.2.2.2.2.2.2.2.2.2
  have hpl := iv.2.2.2.2.2.2.2.2.2.2.2.1
  have h46 := iv.2.2.2.2.1
  unfold wp_X2_goBack
  unfold opBack at hQ
  rw [h2.size, h3.size, h4.size]
  intro x1 hx1
  by_cases b0 : (aBacks d).length = 0
  · rw [if_pos b0] at hQ
    rw [b0] at hx1
    subst hx1
    exact br_f (by decide) (hQ e h)
  · rw [if_neg b0] at hQ
    obtain ⟨n, hn⟩ : ∃ n, (aBacks d).length = n + 1 := ⟨(aBacks d).length - 1, by omega⟩
    rw [hn, nI_pred] at hx1
    subst hx1
    refine br_t (nI_pos' (by omega)) ?_
    have hg : (aBacks d)[n]? = some (lastB d) := by
      unfold lastB
      rw [hn, Nat.add_sub_cancel, List.getD_eq_getElem?_getD, List.getElem?_eq_getElem (by omega)]; rfl
    obtain ⟨gl, fl, el⟩ := iv.2.2.2.1 _ (List.mem_of_getElem? hg)
    have hk2 := gl.1
    refine s_at h4 hg rfl ?_
    intro x4 hx4
    rw [f_kind_c gl] at hx4
    subst hx4
    have fin : (aWait d).length < 6 → ¬ (cK (lastB d) = 1 ∧ 30 ≤ (aCopy d).length) → jn_X2_goBack_63 e (nI n) (ccode (lastB d)) (nI (cK (lastB d))) Q := by
      intro w6 c30
      rw [if_neg (by rintro (q | q); omega; exact c30 q)] at hQ
      unfold jn_X2_goBack_63
      refine s_removeAt h4 (i := n) (by omega) rfl (fun b1 hb1 => ?_)
      have rp : RE k (eSetBacks e b1) (popB d) := ⟨h1, h2, h3, by show rN 6 ccode b1 ((aBacks d).eraseIdx ((aBacks d).length - 1)); rw [hn, Nat.add_sub_cancel]; exact hb1, h5, h6, h7, h8⟩
      unfold sBack at hQ
      refine pk_eq (cK (lastB d)) 0 (fun e0 => ?_) (fun e0 => ?_)
      · rw [if_pos e0] at hQ
        exact hQ _ rp
      · rw [if_neg e0] at hQ
        refine s_write rp gl fl (fun a ha => (iv.2.2.2.1 a (List.mem_of_mem_eraseIdx ha)).1) ?_ (by show aMark d ≤ 80; omega) w6 (fun e1 r1 => hQ _ r1)
        have h1 := aft_le (aCopy d).length (lastB d)
        have h2 := hb w6
        show aft (aCopy d).length (lastB d) ≤ 78
        omega
    refine pk_le 6 (aWait d).length (fun b2 => ?_) (fun b2 => ?_)
    · rw [if_pos (Or.inl b2)] at hQ; exact hQ e h
    refine ⟨fun n1 => fin b2 (fun q => n1 (by rw [q.1]; rfl)), fun y1 => ?_⟩
    refine pk_lt (aCopy d).length 30 (fun b3 => fin b2 (fun q => by omega)) (fun b3 => ?_)
    rw [if_pos (Or.inr ⟨(nI_eq (b := 1) (by omega) (by omega)).mp y1, b3⟩)] at hQ
    exact hQ e h
theorem f_canSend {k : Nat} {e : zE} {d : aE} (h : RE k e d) (hw : (aWait d).length ≤ 6) : f_X2_canSend e = if (aWait d).length ≠ 0 ∧ aWay d = false then 1 else 0 := by
  obtain ⟨h1, h2, h3, h4, h5, h6, h7, h8⟩ := h
  unfold f_X2_canSend
  rw [h3.size, h5, li 0]
  simp only [nI_leI (a := (aWait d).length) (b := 0) (by omega) (by omega)]
  by_cases a1 : (aWait d).length ≤ 0
  · rw [if_pos a1, if_neg (by omega)]
  · rw [if_neg a1]
    cases hb : aWay d with
    | true => rw [if_neg (by decide), if_neg (by simp)]
    | false => rw [if_pos (by decide), if_pos (by simp; intro e; rw [e] at a1; simp at a1)]
theorem f_isSettled {k : Nat} {e : zE} {d : aE} {o : zN} {log : List Ch} (h : RE k e d) (ho : rN 78 ccode o log) (hw : (aWait d).length ≤ 6) (hh : aHeard d ≤ log.length) : f_X2_isSettled e o = if (aWait d).length = 0 ∧ aHeard d = log.length then 1 else 0 := by
  obtain ⟨h1, h2, h3, h4, h5, h6, h7, h8⟩ := h
  have hl := ho.2.2.1
  unfold f_X2_isSettled
  rw [h3.size, h6, ho.size, li 0]
  simp only [nI_eq (a := (aWait d).length) (b := 0) (by omega) (by omega), nI_ltI (a := aHeard d) (b := log.length) (by omega) (by omega)]
  by_cases a1 : (aWait d).length = 0
  · rw [if_pos a1]
    by_cases a2 : aHeard d < log.length
    · rw [if_pos a2, if_neg (by omega)]
    · rw [if_neg a2, if_pos (by omega)]
  · rw [if_neg a1, if_neg (by omega)]
theorem outC_take {w : Ch} {us : List Ch} {i : Nat} {u : Ch} (hu : us[i]? = some u) : outC w (us.take (i + 1)) = resh (outC w (us.take i)) u := by
  obtain ⟨h1, rfl⟩ := List.getElem?_eq_some_iff.mp hu
  rw [← List.take_append_getElem h1]
  unfold outC
  rw [List.foldl_append]; rfl
theorem s_outgoing {k : Nat} {e : zE} {d : aE} {o : zN} {log : List Ch} (h : RE k e d) (ho : rN 78 ccode o log) (iv : invE k log d) (hw : (aWait d).length ≠ 0) {Q : Int32 → Prop} (hQ : Q (ccode (outC (firstW d) (log.drop (aHeard d))))) : wp_X2_outgoing e o Q := by
  obtain ⟨h1, h2, h3, h4, h5, h6, h7, h8⟩ := id h
  have hl := ho.2.2.1
  have hbd := iv.bound
  obtain ⟨i1, i2, i3, i4, i5, i6, i7, i8, i9, i10, i11, i12, i13⟩ := iv
  have hg : (aWait d)[0]? = some (firstW d) := by
    unfold firstW
    rw [List.getD_eq_getElem?_getD, List.getElem?_eq_getElem (by omega)]; rfl
  obtain ⟨w, ws, hws⟩ : ∃ w ws, aWait d = w :: ws := by
    cases hh : aWait d with
    | nil => rw [hh] at hw; exact absurd rfl hw
    | cons a b => exact ⟨a, b, rfl⟩
  have hfw : firstW d = w := by unfold firstW; rw [hws]; rfl
  rw [hws] at i2
  have gw : good w := i2.1
  have fw := i2.2.1
  have hch : chain (lenC 0 (log.take (aHeard d))) (log.drop (aHeard d)) := by
    have e : log = log.take (aHeard d) ++ log.drop (aHeard d) := (List.take_append_drop _ log).symm
    have i11b := i11
    rw [e, chain_app] at i11b
    exact i11b.2
  unfold wp_X2_outgoing
  refine s_at h3 hg rfl ?_
  rw [h6]
  intro x2 hx2
  subst hx2
  rw [hfw] at hQ ⊢
  refine zLoop2_i (fun v2 v3 => ∃ j : Nat, v3 = nI (aHeard d + j) ∧ aHeard d + j ≤ log.length ∧ v2 = ccode (outC w ((log.drop (aHeard d)).take j)) ∧ good (outC w ((log.drop (aHeard d)).take j))) (fun _ v3 => log.length - v3.toNatClampNeg) ?_ _ _ ⟨0, rfl, i1, rfl, gw⟩
  rintro K v2 v3 ⟨j, rfl, hj, rfl, gj⟩ hK
  unfold lb_X2_outgoing_14
  rw [ho.size]
  refine pk_le log.length (aHeard d + j) (fun hle => ?_) (fun hgt => ?_)
  · rw [List.take_of_length_le (by rw [List.length_drop]; omega)]
    exact hQ
  · have hu : log[aHeard d + j]? = some (log[aHeard d + j]'(by omega)) := List.getElem?_eq_getElem _
    generalize log[aHeard d + j]'(by omega) = u at hu
    have hu2 : (log.drop (aHeard d))[j]? = some u := by rw [List.getElem?_drop]; exact hu
    have gu : good u := chain_good log 0 i11 u (List.mem_of_getElem? hu)
    refine s_at ho hu rfl ?_
    rw [f_resh_c gj gu, ← outC_take hu2]
    intro x5 hx5
    subst hx5
    rw [nI_1]
    refine hK _ _ ⟨j + 1, rfl, by omega, rfl, ?_⟩ ?_
    · have hc1 : chain (lenC 0 (log.take (aHeard d))) ((log.drop (aHeard d)).take (j + 1)) := by
        have e : log.drop (aHeard d) = (log.drop (aHeard d)).take (j + 1) ++ (log.drop (aHeard d)).drop (j + 1) := (List.take_append_drop _ _).symm
        rw [e, chain_app] at hch
        exact hch.1
      refine (outC_ok _ w _ hc1 gw fw ?_).1
      have := hbd.2.2
      rw [List.length_take, List.length_drop]
      have := ho.2.2.1
      omega
    · rw [nI_clamp (by omega), nI_clamp (by omega)]; omega
