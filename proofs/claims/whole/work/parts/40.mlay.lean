/-! the reference's text, and what it tells -/
theorem row_ins {α : Type} {g w : Nat → Int32} {f : α → Int32} {A : List α} {P : Nat} (h : rowAt g 0 f A) (hp : P ≤ A.length) (a : α) (hw : ∀ t, w t = if P < t ∧ t ≤ A.length then g (t - 1) else g t) : rowAt (upd w P (f a)) 0 f (A.insertIdx P a) := by
  intro i b hi
  rw [Nat.zero_add, upd_at]
  rw [List.getElem?_insertIdx] at hi
  by_cases e1 : i < P
  · rw [if_pos e1] at hi
    rw [if_neg (by omega), hw, if_neg (by omega)]
    have := h i b hi
    rw [Nat.zero_add] at this
    exact this
  · rw [if_neg e1] at hi
    by_cases e2 : i = P
    · rw [if_pos e2, if_pos (by omega)] at hi
      rw [if_pos e2]; cases hi; rfl
    · rw [if_neg e2] at hi
      have h3 := (List.getElem?_eq_some_iff.mp hi).1
      rw [if_neg e2, hw, if_pos (by omega)]
      have := h (i - 1) b hi
      rw [Nat.zero_add] at this
      exact this
theorem row_del {α : Type} {g w : Nat → Int32} {f : α → Int32} {A : List α} {P : Nat} (h : rowAt g 0 f A) (hp : P < A.length) (hw : ∀ t, w t = if P ≤ t ∧ t < A.length - 1 then g (t + 1) else g t) : rowAt w 0 f (A.eraseIdx P) := by
  intro i b hi
  have hil := (List.getElem?_eq_some_iff.mp hi).1
  rw [List.length_eraseIdx_of_lt hp] at hil
  rw [Nat.zero_add]
  rw [List.getElem?_eraseIdx] at hi
  by_cases e1 : i < P
  · rw [if_pos e1] at hi
    rw [hw, if_neg (by omega)]
    have := h i b hi
    rw [Nat.zero_add] at this
    exact this
  · rw [if_neg e1] at hi
    rw [hw, if_pos (by omega)]
    have := h (i + 1) b hi
    rw [Nat.zero_add] at this
    exact this
theorem m_lay {v : zM} {log : List Ch} (hL : LogAt (mS v) log) (hc : chain 0 log) {Q : zM → Prop} (hQ : ∀ lt bt : Nat → Int32, rowAt lt 0 fL (txt log) → rowAt bt 0 fB (txt log) → Q (mSetLogLong (mSetBys (mSetLetters v lt) bt) (nI (txt log).length))) : wp_X7_lay v Q := by
  have hl := hL.2.2
  have hg := chain_good _ _ hc
  unfold wp_X7_lay
  refine zLoop4_i (fun v1 L B n => ∃ j : Nat, v1 = nI j ∧ j ≤ log.length ∧ rowAt L 0 fL (txt (log.take j)) ∧ rowAt B 0 fB (txt (log.take j)) ∧ n = nI (txt (log.take j)).length) (fun v1 _ _ _ => log.length - v1.toNatClampNeg) ?_ _ _ _ _ ⟨0, rfl, Nat.zero_le _, fun i a hi => by simp [txt] at hi, fun i a hi => by simp [txt] at hi, rfl⟩
  rintro K v1 L B n ⟨j, rfl, hj, hLr, hBr, rfl⟩ hK
  unfold lb_X7_lay_7
  rw [show (0 : Int32).toNatClampNeg = 0 from rfl, hL.1]
  refine ⟨vp_in_nI (n := 0) (by omega) (by omega), pk_le log.length j (fun hle => ?_) (fun hgt => ?_)⟩
  · have e : j = log.length := by omega
    subst e
    rw [List.take_length] at hLr hBr ⊢
    exact hQ L B hLr hBr
  · have hu : log[j]? = some log[j] := List.getElem?_eq_getElem hgt
    have gu := hg _ (List.getElem_mem hgt)
    have hu0 := hL.2.1 j _ hu
    have ht : log.take (j + 1) = log.take j ++ [log[j]] := (List.take_append_getElem hgt).symm
    have htx : txt (log.take (j + 1)) = tstep (txt (log.take j)) log[j] := by rw [ht, txt_snoc]
    have hcj : chain 0 (log.take j) := by
      have e : log = log.take j ++ log.drop j := (List.take_append_drop _ _).symm
      rw [e, chain_app] at hc
      exact hc.1
    obtain ⟨-, fu⟩ := chain_at hc hu
    have hlen : (txt (log.take j)).length = lenC 0 (log.take j) := txt_len hcj
    have hlen2 := lenC_le (log.take j) 0
    rw [List.length_take] at hlen2
    generalize log[j] = u at hu gu hu0 ht htx fu
    have e1 : (1 : Int32) + nI j = nI (1 + j) := by rw [li 1, nI_add]
    rw [e1, nI_clamp (by omega), hu0]
    refine ⟨vp_in_nI (by omega) (by omega), fun x2 hx2 x3 hx3 => ?_⟩
    subst hx2
    have gk := gu.1
    have gp := gu.2.2.2.1
    rw [m_kind gu, li 1, li 2]
    have step : ∀ (L2 B2 : Nat → Int32) (n2 : Int32), rowAt L2 0 fL (tstep (txt (log.take j)) u) → rowAt B2 0 fB (tstep (txt (log.take j)) u) → n2 = nI (tstep (txt (log.take j)) u).length → K (nI j + 1) L2 B2 n2 := by
      intro L2 B2 n2 a1 a2 a3
      rw [nI_1]
      refine hK _ _ _ _ ⟨j + 1, rfl, by omega, by rw [htx]; exact a1, by rw [htx]; exact a2, by rw [htx]; exact a3⟩ ?_
      rw [nI_clamp (by omega), nI_clamp (by omega)]; omega
    generalize txt (log.take j) = T at *
    unfold tstep at step
    have hal : (applC (cL u, cE u) T u).length = aft T.length u := applC_len (by rw [hlen]; exact fu)
    rw [hal] at step
    unfold applC aft at step
    have fu1 : cK u = 1 → cP u ≤ T.length := by rw [hlen]; exact fu.1
    have fu2 : cK u = 2 → cP u < T.length := by rw [hlen]; exact fu.2
    by_cases k1 : cK u = 1
    · rw [if_pos k1, if_pos k1] at step
      have hx : x3 = nI (cP u) := by rw [hx3, m_place gu (by omega)]
      subst hx
      have p1 := fu1 k1
      refine ⟨fun q => absurd (by rw [k1]) q, fun _ => ?_⟩
      refine zLoop3_i (fun v4 L2 B2 => ∃ i : Nat, v4 = nI i ∧ cP u ≤ i ∧ i ≤ T.length ∧ (∀ t, L2 t = if i < t ∧ t ≤ T.length then L (t - 1) else L t) ∧ ∀ t, B2 t = if i < t ∧ t ≤ T.length then B (t - 1) else B t) (fun v4 _ _ => v4.toNatClampNeg) ?_ _ _ _ ⟨T.length, rfl, p1, Nat.le_refl _, fun t => by rw [if_neg (by omega)], fun t => by rw [if_neg (by omega)]⟩
      rintro K2 v4 L2 B2 ⟨i, rfl, hi1, hi2, w1, w2⟩ hK2
      unfold lb_X7_lay_45
      refine pk_le i (cP u) (fun hle => ⟨vp_in_nI (by omega) (by omega), vp_in_nI (by omega) (by omega), ?_⟩) (fun hgt2 => ?_)
      · have e : i = cP u := by omega
        subst e
        rw [nI_clamp (by omega), m_letter gu (by omega), m_by gu, nI_1 T.length]
        refine step _ _ _ ?_ ?_ rfl
        · exact row_ins hLr p1 (cL u, cE u) w1
        · exact row_ins hBr p1 (cL u, cE u) w2
      · obtain ⟨r, rfl⟩ : ∃ r, i = r + 1 := ⟨i - 1, by omega⟩
        rw [pk_m1, nI_pred, nI_clamp (by omega), nI_clamp (by omega)]
        have sh : ∀ (X X2 : Nat → Int32), (∀ t, X2 t = if r + 1 < t ∧ t ≤ T.length then X (t - 1) else X t) → ∀ t, upd X2 (r + 1) (X2 r) t = if r < t ∧ t ≤ T.length then X (t - 1) else X t := by
          intro X X2 hX t
          rw [upd_at]
          by_cases e : t = r + 1
          · rw [if_pos e, if_pos (by omega), hX, if_neg (by omega), e]; rfl
          · rw [if_neg e, hX]
            by_cases e2 : r + 1 < t ∧ t ≤ T.length
            · rw [if_pos e2, if_pos (by omega)]
            · rw [if_neg e2, if_neg (by omega)]
        refine ⟨vp_in_nI (by omega) (by omega), vp_in_nI (by omega) (by omega), vp_in_nI (by omega) (by omega), vp_in_nI (by omega) (by omega), hK2 _ _ _ ⟨r, rfl, by omega, by omega, sh _ _ w1, sh _ _ w2⟩ ?_⟩
        rw [nI_clamp (by omega), nI_clamp (by omega)]; omega
    · rw [if_neg k1, if_neg k1] at step
      refine ⟨fun _ => ?_, fun q => absurd q (nI_neq k1 (by omega) (by omega))⟩
      by_cases k2 : cK u = 2
      · rw [if_pos k2, if_pos k2] at step
        have hx : x3 = nI (cP u) := by rw [hx3, m_place gu (by omega)]
        subst hx
        have p2 := fu2 k2
        refine ⟨fun q => absurd (by rw [k2]) q, fun _ => ?_⟩
        refine zLoop3_i (fun v4 L2 B2 => ∃ i : Nat, v4 = nI i ∧ cP u ≤ i ∧ i ≤ T.length - 1 ∧ (∀ t, L2 t = if cP u ≤ t ∧ t < i then L (t + 1) else L t) ∧ ∀ t, B2 t = if cP u ≤ t ∧ t < i then B (t + 1) else B t) (fun v4 _ _ => T.length - v4.toNatClampNeg) ?_ _ _ _ ⟨cP u, rfl, Nat.le_refl _, by omega, fun t => by rw [if_neg (by omega)], fun t => by rw [if_neg (by omega)]⟩
        rintro K2 v4 L2 B2 ⟨i, rfl, hi1, hi2, w1, w2⟩ hK2
        unfold lb_X7_lay_133
        rw [li 1, pk_sub (by omega)]
        refine pk_le (T.length - 1) i (fun hle => ?_) (fun hgt2 => ?_)
        · have e : i = T.length - 1 := by omega
          subst e
          exact step _ _ _ (row_del hLr p2 w1) (row_del hBr p2 w2) rfl
        · rw [nI_add, nI_clamp (by omega), nI_clamp (by omega)]
          have sh : ∀ (X X2 : Nat → Int32), (∀ t, X2 t = if cP u ≤ t ∧ t < i then X (t + 1) else X t) → ∀ t, upd X2 i (X2 (i + 1)) t = if cP u ≤ t ∧ t < i + 1 then X (t + 1) else X t := by
            intro X X2 hX t
            rw [upd_at]
            by_cases e : t = i
            · rw [if_pos e, if_pos (by omega), hX, if_neg (by omega), e]
            · rw [if_neg e, hX]
              by_cases e2 : cP u ≤ t ∧ t < i
              · rw [if_pos e2, if_pos (by omega)]
              · rw [if_neg e2, if_neg (by omega)]
          refine ⟨vp_in_nI (by omega) (by omega), vp_in_nI (by omega) (by omega), vp_in_nI (by omega) (by omega), vp_in_nI (by omega) (by omega), hK2 _ _ _ ⟨i + 1, rfl, by omega, by omega, sh _ _ w1, sh _ _ w2⟩ ?_⟩
          rw [nI_clamp (by omega), nI_clamp (by omega)]; omega
      · rw [if_neg k2, if_neg k2] at step
        refine ⟨fun _ => step _ _ _ hLr hBr rfl, fun q => absurd q (nI_neq k2 (by omega) (by omega))⟩
theorem m_isSame {v : zM} {k : Nat} {d : aE} {T : List (Nat × Nat)} (hk : k < 3) (h : RMe (mS v) k d) (hc : (aCopy d).length ≤ 78) (hT : T.length ≤ 78) (hn : mLogLong v = nI T.length) (hr : rowAt (mLetters v) 0 fL T) {Q : Int32 → zM → Prop} (hy : (aCopy d).map nI = T.map fL → Q 1 v) (hno : ¬ (aCopy d).map nI = T.map fL → Q 0 v) : wp_X7_isSame v (nI k) Q := by
  unfold wp_X7_isSame
  have lp : ∀ x : Int32, (x = 0 ∧ ¬ (aCopy d).map nI = T.map fL) ∨ (x = 1 ∧ (aCopy d).length = T.length) → zLoop2 (lb_X7_isSame_25 v (nI k) Q) x 0 := by
    intro x hx
    refine zLoop2_i (fun v2 v3 => ∃ j : Nat, v3 = nI j ∧ j ≤ T.length ∧ ((v2 = 0 ∧ ¬ (aCopy d).map nI = T.map fL) ∨ (v2 = 1 ∧ (aCopy d).length = T.length ∧ ∀ (t : Nat) (a : Nat) (b : Nat × Nat), t < j → (aCopy d)[t]? = some a → T[t]? = some b → nI a = fL b))) (fun _ v3 => T.length - v3.toNatClampNeg) ?_ _ _ ⟨0, rfl, Nat.zero_le _, ?_⟩
    · rintro K v2 v3 ⟨j, rfl, hj, hinv⟩ hK
      unfold lb_X7_isSame_25
      rw [hn]
      rcases hinv with ⟨rfl, hne⟩ | ⟨rfl, hle, heq⟩
      · exact ⟨fun _ => ⟨zB_bI false, hno hne⟩, fun _ => ⟨fun _ => ⟨zB_bI false, hno hne⟩, fun z => absurd rfl z⟩⟩
      · refine pk_le T.length j (fun hjt => ⟨zB_bI true, hy ?_⟩) (fun hgt => ⟨fun z => absurd z (by decide), fun _ => ?_⟩)
        · apply List.ext_getElem (by simpa using hle)
          intro t h1 h2
          simp only [List.length_map] at h1 h2
          simp only [List.getElem_map]
          exact heq t _ _ (by omega) (List.getElem?_eq_getElem h1) (List.getElem?_eq_getElem h2)
        · have gb : T[j]? = some T[j] := List.getElem?_eq_getElem hgt
          have ga : (aCopy d)[j]? = some ((aCopy d)[j]'(by omega)) := List.getElem?_eq_getElem _
          have ra := h.2.1 _ _ ga
          have rb := hr _ _ gb
          rw [show 97 + 116 * k + 1 + j = 97 + 116 * k + (1 + j) by omega] at ra
          rw [Nat.zero_add] at rb
          rw [li 1, nI_add, o_c hk _ (by omega), nI_clamp (by omega), ra, rb]
          refine ⟨o_v hk _ (by omega), vp_in_nI (by omega) (by omega), fun z => ?_, fun z => ?_⟩
          · rw [nI_add]
            refine hK _ _ ⟨j + 1, rfl, by omega, Or.inl ⟨rfl, fun hm => z ?_⟩⟩ ?_
            · have h1 : ((aCopy d).map nI)[j]? = (T.map fL)[j]? := by rw [hm]
              rw [List.getElem?_map, List.getElem?_map, ga, gb] at h1
              simp only [Option.map_some, Option.some.injEq] at h1
              exact h1
            · rw [nI_clamp (by omega), nI_clamp (by omega)]; omega
          · rw [nI_add]
            refine hK _ _ ⟨j + 1, rfl, by omega, Or.inr ⟨rfl, hle, fun t a b ht h1 h2 => ?_⟩⟩ ?_
            · by_cases e2 : t = j
              · subst e2
                rw [ga] at h1; rw [gb] at h2
                cases h1; cases h2; exact z
              · exact heq t a b (by omega) h1 h2
            · rw [nI_clamp (by omega), nI_clamp (by omega)]; omega
    · rcases hx with hx | hx
      · exact Or.inl hx
      · exact Or.inr ⟨hx.1, hx.2, fun t a b ht => by omega⟩
  rw [li 0, o_c hk 0 (by omega), h.1, hn]
  refine ⟨o_v hk _ (by omega), fun z => lp 0 (Or.inl ⟨rfl, fun hm => z ?_⟩), fun z => lp 1 (Or.inr ⟨rfl, (nI_eq (by omega) (by omega)).mp z⟩)⟩
  have := congrArg List.length hm
  rw [List.length_map, List.length_map] at this
  rw [this]
theorem rget_c {α : Type} {f : α → Int32} {L : List α} (hl : L.length < 1000) (d : α) {p : Int32} (hp : ¬ p < 0) {P : Int32 → Prop} {B : Prop} (hQ : P (rGet f L d p)) (g : ∀ j : Nat, p = nI j → j < L.length → L[j]? = some (L.getD j d) → P (f (L.getD j d)) → B) : (nI L.length ≤ p → P (-4)) ∧ (¬ nI L.length ≤ p → B) := by
  unfold rGet at hQ
  refine ⟨fun z => by rw [if_pos z] at hQ; exact hQ, fun z => ?_⟩
  rw [if_neg z] at hQ
  obtain ⟨j, hj, rfl, hj2⟩ := Int32_of hp
  rw [nI_leI (by omega) (by omega)] at z
  rw [hj2] at hQ
  refine g j rfl (by omega) ?_ hQ
  rw [List.getD_eq_getElem?_getD, List.getElem?_eq_getElem (by omega)]; rfl
