/-! the class's state -/
abbrev fL : Nat × Nat → Int32 := fun q => nI q.1
abbrev fB : Nat × Nat → Int32 := fun q => nI q.2
def RS (t : zT) (s : aS) : Prop := (∀ k, k < 3 → RE k (tEd t k) (sEd s k)) ∧ rN 78 ccode (tLog t) (sLog s) ∧ rN 78 fL (tText t) (txt (sLog s)) ∧ rN 78 fB (tWrs t) (txt (sLog s))
def RS0 (t : zT) : Prop := (∀ k, k < 3 → RE0 k (tEd t k)) ∧ nCap (tLog t) = 78 ∧ nCap (tText t) = 78 ∧ nCap (tWrs t) = 78
theorem RS.rs0 {t : zT} {s : aS} (h : RS t s) : RS0 t := ⟨fun k hk => (h.1 k hk).re0, h.2.1.1, h.2.2.1.1, h.2.2.2.1⟩
theorem RS.up {t : zT} {s : aS} {k : Nat} {e : zE} {d : aE} (h : RS t s) (he : RE k e d) : RS (tSetEds t (va_up (tEds t) k e)) (upE s k d) := by
  refine ⟨fun j hj => ?_, h.2.1, h.2.2.1, h.2.2.2⟩
  by_cases q : j = k
  · subst q
    rw [upE_same]
    have : tEd (tSetEds t (va_up (tEds t) j e)) j = e := by show va_up (tEds t) j e j = e; simp [va_up]
    rw [this]; exact he
  · rw [upE_ne _ _ q]
    have : tEd (tSetEds t (va_up (tEds t) k e)) j = tEd t j := by show va_up (tEds t) k e j = tEds t j; simp [va_up, q]
    rw [this]; exact h.1 j hj
theorem RS.log60 {s : aS} (h : invS s) : (sLog s).length ≤ 78 := by have := h.2; omega
theorem s_append {t : zT} {s : aS} {k : Nat} (h : RS t s) (iv : invS s) (hk : k < 3) (hw : (aWait (sEd s k)).length ≠ 0) (hy : aWay (sEd s k) = false) {Q : zT → Prop} (hQ : ∀ t1, RS t1 (sSend s k) → Q t1) : wp_X5_append k t Q := by
  have hE := h.1 k hk
  have hiv := inv_send iv hk hw hy
  have hl78 : (sLog s).length + 1 ≤ 78 := by
    have := hiv.2
    have e : (sLog (sSend s k)).length = (sLog s).length + 1 := by show (sLog s ++ [_]).length = _; rw [List.length_append]; rfl
    omega
  obtain ⟨go, fo, eo⟩ := outS_ok (iv.1 k hk) hw (RS.log60 iv)
  have hch := (iv.1 k hk).2.2.2.2.2.2.2.2.2.2.1
  have htl := txt_len hch
  have hlc := lenC_le (sLog s) 0
  obtain ⟨g1, g2, g3, g4, g5⟩ := id go
  have fin : ∀ (x y : zN), rN 78 fL x (txt (sLog s ++ [outS s k])) → rN 78 fB y (txt (sLog s ++ [outS s k])) → jn_X5_append_75 k t (ccode (outS s k)) x y Q := by
    intro x y hx hy2
    unfold jn_X5_append_75
    refine s_add h.2.1 (by omega) (outS s k) rfl (fun n1 hn1 => hQ _ ⟨fun j hj => ?_, hn1, hx, hy2⟩)
    by_cases q : j = k
    · subst q
      rw [sSend_same]
      obtain ⟨a1, a2, a3, a4, a5, a6, a7, a8⟩ := hE
      have e1 : ∀ (z : zE), tEd (tSetWrs (tSetText (tSetLog (tSetEds t (va_up (tEds t) j z)) n1) x) y) j = z := fun z => by
        show va_up (tEds t) j z j = z
        simp [va_up]
      rw [e1]
      exact ⟨a1, a2, a3, a4, rfl, a6, a7, a8⟩
    · rw [sSend_ne _ q]
      have e1 : ∀ (z : zE), tEd (tSetWrs (tSetText (tSetLog (tSetEds t (va_up (tEds t) k z)) n1) x) y) j = tEd t j := fun z => by
        show va_up (tEds t) k z j = tEds t j
        simp [va_up, q]
      rw [e1]; exact h.1 j hj
  unfold wp_X5_append
  refine s_outgoing hE h.2.1 (iv.1 k hk) hw ?_
  rw [show outC (firstW (sEd s k)) (List.drop (aHeard (sEd s k)) (sLog s)) = outS s k from rfl]
  rw [f_place_c go, f_kind_c go, f_sign_c go, f_writer_c go]
  intro x2 hx2 x3 hx3
  subst hx2; subst hx3
  rw [txt_snoc] at fin
  unfold tstep applC at fin
  rw [li 1, li 2]
  by_cases k1 : cK (outS s k) = 1
  · rw [if_pos k1] at fin
    have hp : cP (outS s k) ≤ (txt (sLog s)).length := by rw [htl]; exact fo.1 k1
    refine ⟨fun q => absurd (by rw [k1]) q, fun _ => ?_⟩
    exact s_addAt h.2.2.1 hp (by omega) (cL (outS s k), cE (outS s k)) rfl rfl (fun n1 h1 => s_addAt h.2.2.2 hp (by omega) (cL (outS s k), cE (outS s k)) rfl rfl (fun n2 h2 => fin _ _ h1 h2))
  · rw [if_neg k1] at fin
    refine ⟨fun _ => ?_, fun q => absurd q (nI_neq k1 (by omega) (by omega))⟩
    by_cases k2 : cK (outS s k) = 2
    · rw [if_pos k2] at fin
      have hp : cP (outS s k) < (txt (sLog s)).length := by rw [htl]; exact fo.2 k2
      refine ⟨fun q => absurd (by rw [k2]) q, fun _ => ?_⟩
      exact s_removeAt h.2.2.1 hp rfl (fun n1 h1 => s_removeAt h.2.2.2 hp rfl (fun n2 h2 => fin _ _ h1 h2))
    · rw [if_neg k2] at fin
      refine ⟨fun _ => fin _ _ h.2.2.1 h.2.2.2, fun q => absurd q (nI_neq k2 (by omega) (by omega))⟩
def opSend (s : aS) (k : Nat) : Int32 × aS := if canS s k = true then (if 60 ≤ (sLog s).length then (-3, s) else (nI ((sLog s).length + 1), sSend s k)) else (-2, s)
theorem f_canS {t : zT} {s : aS} {k : Nat} (h : RS t s) (iv : invS s) (hk : k < 3) : f_X2_canSend (tEd t k) = if canS s k = true then 1 else 0 := by
  rw [f_canSend (h.1 k hk) (wait_le iv hk)]
  by_cases q : canS s k = true
  · rw [if_pos q, if_pos (canS_iff.mp q)]
  · rw [if_neg q, if_neg (fun z => q (canS_iff.mpr z))]
theorem s_passS {t : zT} {s : aS} {k : Nat} (h : RS t s) (iv : invS s) (hk : k < 3) {Q : Int32 → zT → Prop} (hQ : ∀ t1, RS t1 (opSend s k).2 → Q (opSend s k).1 t1) : wp_X5_pass k t Q := by
  have hl := RS.log60 iv
  unfold wp_X5_pass
  unfold opSend at hQ
  rw [f_canS h iv hk, h.2.1.size]
  by_cases q : canS s k = true
  · rw [if_pos q] at hQ ⊢
    obtain ⟨hw, hy⟩ := canS_iff.mp q
    refine ⟨fun _ => ?_, fun e => absurd e (by decide)⟩
    refine pk_lt (sLog s).length 60 (fun hlt => ?_) (fun hge => ?_)
    · rw [if_neg (by omega)] at hQ
      refine s_append h iv hk hw hy (fun t1 h1 => ?_)
      rw [h1.2.1.size]
      have e : (sLog (sSend s k)).length = (sLog s).length + 1 := by show (sLog s ++ [_]).length = _; rw [List.length_append]; rfl
      rw [e]
      exact hQ t1 h1
    · rw [if_pos hge] at hQ; exact hQ t h
  · rw [if_neg q] at hQ ⊢
    exact ⟨fun e => absurd rfl e, fun _ => hQ t h⟩
/-- a call, or a command of a text -/
def liftE (s : aS) (k : Nat) (r : Int32 × aE) : Int32 × aS := (r.1, upE s k r.2)
def opAns (s : aS) (call number place sign : Int32) : Int32 × aS :=
  if number < 0 ∨ ¬ number < 3 then (-1, s)
  else if call = 77 then liftE s (ixE number) (opMark (sEd s (ixE number)) place)
  else if call = 98 then liftE s (ixE number) (opBack (sEd s (ixE number)))
  else if call = 100 then liftE s (ixE number) (opDel (ixE number) (sEd s (ixE number)) place)
  else if call = 104 then liftE s (ixE number) (opHear (ixE number) (sLog s) (sEd s (ixE number)))
  else if call = 105 then liftE s (ixE number) (opIns (ixE number) (sEd s (ixE number)) place sign)
  else if call = 115 then opSend s (ixE number)
  else liftE s (ixE number) (opHearAll (ixE number) (sLog s) (sEd s (ixE number)))
theorem f_noEd (x : Int32) : f_X6_isNoEditor x = if x < 0 ∨ ¬ x < 3 then 1 else 0 := by
  unfold f_X6_isNoEditor
  by_cases a : x < 0
  · rw [if_pos a, if_pos (Or.inl a)]
  · rw [if_neg a]
    by_cases b : x < 3
    · rw [if_pos b, if_neg (by rintro (q | q); exact a q; exact q b)]
    · rw [if_neg b, if_pos (Or.inr b)]
theorem s_answer {t : zT} {s : aS} (h : RS t s) (iv : invS s) (hl : (sLog s).length ≤ 60) (call number place sign : Int32) {Q : Int32 → zT → Prop} (hQ : ∀ t1, RS t1 (opAns s call number place sign).2 → Q (opAns s call number place sign).1 t1) : wp_X5_answer t call number place sign Q := by
  unfold wp_X5_answer
  unfold opAns at hQ
  rw [f_noEd]
  have hk := ixE_lt number
  have hE := h.1 _ hk
  have hI := iv.1 _ hk
  have hb : (aWait (sEd s (ixE number))).length < 6 → (sLog s).length + pend (sEd s (ixE number)) + 1 ≤ 78 := by
    intro _
    have := pend_le hI
    omega
  by_cases a0 : number < 0 ∨ ¬ number < 3
  · rw [if_pos a0] at hQ ⊢
    exact ⟨fun e => absurd e (by decide), fun _ => hQ t h⟩
  rw [if_neg a0] at hQ ⊢
  refine ⟨fun _ => ?_, fun e => absurd rfl e⟩
  refine ⟨fun a => ?_, fun a => ?_⟩
  · rw [if_pos a] at hQ; exact s_setSpot hE place (fun e1 r1 => hQ _ (h.up r1))
  rw [if_neg a] at hQ
  refine ⟨fun a => ?_, fun a => ?_⟩
  · rw [if_pos a] at hQ; exact s_goBack hE hI hb (fun e1 r1 => hQ _ (h.up r1))
  rw [if_neg a] at hQ
  refine ⟨fun a => ?_, fun a => ?_⟩
  · rw [if_pos a] at hQ; exact s_takeOut hE hI hb place (fun e1 r1 => hQ _ (h.up r1))
  rw [if_neg a] at hQ
  refine ⟨fun a => ?_, fun a => ?_⟩
  · rw [if_pos a] at hQ; exact s_hearNext hE h.2.1 hI (fun e1 r1 => hQ _ (h.up r1))
  rw [if_neg a] at hQ
  refine ⟨fun a => ?_, fun a => ?_⟩
  · rw [if_pos a] at hQ; exact s_putIn hE hI hb place sign (fun e1 r1 => hQ _ (h.up r1))
  rw [if_neg a] at hQ
  refine ⟨fun a => ?_, fun a => ?_⟩
  · rw [if_pos a] at hQ; exact s_passS h iv hk hQ
  rw [if_neg a] at hQ
  exact s_hearRest hE h.2.1 hI (fun e1 r1 => hQ _ (h.up r1))
def nothN (log : List Ch) : Nat := (log.filter (fun c => cK c = 0)).length
theorem s_nothings {t : zT} {s : aS} (h : RS t s) (iv : invS s) {Q : Int32 → Prop} (hQ : Q (nI (nothN (sLog s)))) : wp_X5_nothingsInLog t Q := by
  have hl := RS.log60 iv
  have hg := chain_good _ _ (iv.1 0 (by omega)).2.2.2.2.2.2.2.2.2.2.1
  unfold wp_X5_nothingsInLog
  refine zLoop2_i (fun v1 v2 => ∃ j : Nat, v2 = nI j ∧ j ≤ (sLog s).length ∧ v1 = nI (nothN ((sLog s).take j))) (fun _ v2 => (sLog s).length - v2.toNatClampNeg) ?_ _ _ ⟨0, rfl, Nat.zero_le _, rfl⟩
  rintro K v1 v2 ⟨j, rfl, hj, rfl⟩ hK
  unfold lb_X5_nothingsInLog_4
  rw [h.2.1.size]
  refine pk_le (sLog s).length j (fun hle => ?_) (fun hgt => ?_)
  · rw [List.take_of_length_le hle]; exact hQ
  · have hu : (sLog s)[j]? = some (sLog s)[j] := List.getElem?_eq_getElem hgt
    have gu := hg _ (List.getElem_mem hgt)
    refine s_at h.2.1 hu rfl ?_
    rw [f_kind_c gu]
    have ht : (sLog s).take (j + 1) = (sLog s).take j ++ [(sLog s)[j]] := (List.take_append_getElem hgt).symm
    have step : ∀ x : Int32, x = nI (nothN ((sLog s).take (j + 1))) → K x (nI j + 1) := by
      intro x hx
      rw [nI_1]
      refine hK _ _ ⟨j + 1, rfl, by omega, hx⟩ ?_
      rw [nI_clamp (by omega), nI_clamp (by omega)]; omega
    have := gu.1
    refine ⟨fun q x4 hx4 => step _ ?_, fun q x5 hx5 => step _ ?_⟩
    · rw [hx4, ht, li 0, nI_add]
      unfold nothN
      have : ¬ cK (sLog s)[j] = 0 := fun z => q (by rw [z]; rfl)
      rw [List.filter_append]; simp [this]
    · rw [hx5, ht, nI_1]
      unfold nothN
      have : cK (sLog s)[j] = 0 := (nI_eq (b := 0) (by omega) (by omega)).mp q
      rw [List.filter_append]; simp [this]
theorem f_settled {t : zT} {s : aS} {k : Nat} (h : RS t s) (iv : invS s) (hk : k < 3) : f_X2_isSettled (tEd t k) (tLog t) = if decSettled s k = true then 1 else 0 := by
  rw [f_isSettled (h.1 k hk) h.2.1 (wait_le iv hk) (iv.1 k hk).1]
  by_cases q : decSettled s k = true
  · have z : (aWait (sEd s k)).length = 0 ∧ aHeard (sEd s k) = (sLog s).length := decSettled_iff.mp q
    rw [if_pos q, if_pos z]
  · have z : ¬ ((aWait (sEd s k)).length = 0 ∧ aHeard (sEd s k) = (sLog s).length) := fun z => q (decSettled_iff.mpr z)
    rw [if_neg q, if_neg z]
theorem ixE_nI {j : Nat} (h : j < 3) : ixE (nI j) = j := by
  have : j = 0 ∨ j = 1 ∨ j = 2 := by omega
  rcases this with rfl | rfl | rfl <;> decide
def setN (s : aS) : Nat → Nat
  | 0 => 0
  | i + 1 => setN s i + (if decSettled s i = true then 1 else 0)
theorem s_settledEds {t : zT} {s : aS} (h : RS t s) (iv : invS s) {Q : Int32 → Prop} (hQ : Q (nI (setN s 3))) : wp_X5_settledEditors t Q := by
  unfold wp_X5_settledEditors
  refine zLoop2_i (fun v1 v2 => ∃ j : Nat, v2 = nI j ∧ j ≤ 3 ∧ v1 = nI (setN s j)) (fun _ v2 => 3 - v2.toNatClampNeg) ?_ _ _ ⟨0, rfl, by omega, rfl⟩
  rintro K v1 v2 ⟨j, rfl, hj, rfl⟩ hK
  unfold lb_X5_settledEditors_4
  refine pk_le 3 j (fun hle => ?_) (fun hgt => ?_)
  · have e : j = 3 := by omega
    subst e; exact hQ
  · rw [ixE_nI hgt, f_settled h iv hgt]
    have step : ∀ x : Int32, x = nI (setN s (j + 1)) → K x (nI j + 1) := by
      intro x hx
      rw [nI_1]
      refine hK _ _ ⟨j + 1, rfl, by omega, hx⟩ ?_
      rw [nI_clamp (by omega), nI_clamp (by omega)]; omega
    by_cases q : decSettled s j = true
    · rw [if_pos q]
      refine ⟨fun z => absurd z (by decide), fun _ x hx => step _ ?_⟩
      rw [hx, nI_1, setN, if_pos q]
    · rw [if_neg q]
      refine ⟨fun _ x hx => step _ ?_, fun z => absurd rfl z⟩
      rw [hx, li 0, nI_add, setN, if_neg q]
def sameE (s : aS) (k : Nat) : Prop := (aCopy (sEd s k)).map nI = (txt (sLog s)).map fL
theorem s_sameT {t : zT} {s : aS} {k : Nat} (h : RS t s) (hk : k < 3) {Q : Int32 → Prop} (hy : sameE s k → Q 1) (hn : ¬ sameE s k → Q 0) : wp_X4_isSameAs (eCopy (tEd t k)) (tText t) Q := by
  refine s_same (h.1 k hk).2.1 h.2.2.1 ?_
  unfold sameE at hy hn
  by_cases q : (aCopy (sEd s k)).map nI = (txt (sLog s)).map fL
  · rw [if_pos q]; exact hy q
  · rw [if_neg q]; exact hn q
theorem s_oneText {t : zT} {s : aS} (h : RS t s) {Q : Int32 → Prop} (hy : (∀ k, k < 3 → sameE s k) → Q 1) (hn : ¬ (∀ k, k < 3 → sameE s k) → Q 0) : wp_X5_isOneText t Q := by
  unfold wp_X5_isOneText
  refine s_sameT h (by omega) (fun q0 => ?_) (fun q0 => ?_)
  · refine br_f (by decide) ?_
    refine s_sameT h (by omega) (fun q1 => ?_) (fun q1 => ?_)
    · refine br_f (by decide) ?_
      refine s_sameT h (by omega) (fun q2 => ?_) (fun q2 => ?_)
      · exact br_f (by decide) (hy (k3 q0 q1 q2))
      · exact br_t rfl (hn (fun z => q2 (z 2 (by omega))))
    · exact br_t rfl (hn (fun z => q1 (z 1 (by omega))))
  · exact br_t rfl (hn (fun z => q0 (z 0 (by omega))))
theorem s_copyState {t o : zT} {s : aS} (h0 : RS0 t) (h : RS o s) {Q : zT → Prop} (hQ : ∀ t1, RS t1 s → Q t1) : wp_X5_copyState t o Q := by
  unfold wp_X5_copyState
  refine s_copyEd (h0.1 0 (by omega)) (h.1 0 (by omega)) (fun u1 r1 => ?_)
  refine s_copyEd (h0.1 1 (by omega)) (h.1 1 (by omega)) (fun u2 r2 => ?_)
  refine s_copyEd (h0.1 2 (by omega)) (h.1 2 (by omega)) (fun u3 r3 => ?_)
  refine s_copy h0.2.1 h.2.1 (fun n1 h1 => ?_)
  refine s_copy h0.2.2.1 h.2.2.1 (fun n2 h2 => ?_)
  refine s_copy h0.2.2.2 h.2.2.2 (fun n3 h3 => ?_)
  exact hQ _ ⟨k3 r1 r2 r3, h1, h2, h3⟩
theorem drain_step {s : aS} {k n : Nat} (h : ¬ decSettled s k = true) : drain s k (n + 1) = drain (turnS s k) k n := by rw [drain, if_neg h]
theorem s_copyEnd {t o : zT} {s : aS} (h0 : RS0 t) (h : RS o s) (iv : invS s) {b : Int32} (hb : b = 0 ∨ b = 1) {Q : zT → Prop} (hQ : ∀ t1, RS t1 (endS s (decide (b = 1))) → Q t1) : wp_X5_copyEndOf t o b Q := by
  unfold wp_X5_copyEndOf
  refine s_copyState h0 h (fun u1 r1 => ?_)
  refine zLoop2_i (fun v3 w => ∃ i : Nat, v3 = nI i ∧ i ≤ 3 ∧ RS w (endD s (decide (b = 1)) i)) (fun v3 _ => 3 - v3.toNatClampNeg) ?_ _ _ ⟨0, rfl, by omega, r1⟩
  rintro K v3 w ⟨i, rfl, hi, hw⟩ hK
  unfold lb_X5_copyEndOf_7
  have ivi := endD_ok (b := decide (b = 1)) iv i hi
  refine pk_le 3 i (fun hle => ?_) (fun hgt => ?_)
  · have e : i = 3 := by omega
    subst e
    refine zLoop2_i (fun v3 w => ∃ i : Nat, v3 = nI i ∧ i ≤ 3 ∧ RS w (endH (endD s (decide (b = 1)) 3) i)) (fun v3 _ => 3 - v3.toNatClampNeg) ?_ _ _ ⟨0, rfl, by omega, hw⟩
    rintro K v3 w ⟨i, rfl, hi, hw⟩ hK
    unfold lb_X5_copyEndOf_89
    obtain ⟨iv2, -⟩ := endH_ok ivi i hi
    refine pk_le 3 i (fun hle => ?_) (fun hgt => ?_)
    · have e : i = 3 := by omega
      subst e; exact hQ w hw
    · rw [ixE_nI hgt]
      refine s_hearRest (hw.1 i hgt) hw.2.1 (iv2.1 i hgt) (fun e1 q1 => ?_)
      rw [nI_1]
      refine hK _ _ ⟨i + 1, rfl, by omega, hw.up q1⟩ ?_
      rw [nI_clamp (by omega), nI_clamp (by omega)]; omega
  · have hord : ordE (decide (b = 1)) i < 3 := by unfold ordE; split <;> omega
    have inner : ∀ (x : Int32), ixE x = ordE (decide (b = 1)) i → jn_X5_copyEndOf_24 t o b (nI i) w x Q K := by
      intro x hx
      unfold jn_X5_copyEndOf_24
      generalize hkk : ordE (decide (b = 1)) i = kk at hx hord
      have hnext : endD s (decide (b = 1)) (i + 1) = drain (endD s (decide (b = 1)) i) kk 7 := by rw [endD, hkk]
      generalize endD s (decide (b = 1)) i = si at hw ivi hnext
      refine zLoop2_i (fun v5 w => ∃ (j : Nat) (sj : aS), v5 = nI j ∧ j ≤ 7 ∧ invS sj ∧ RS w sj ∧ drain sj kk (7 - j) = drain si kk 7 ∧ (j = 0 ∨ aHeard (sEd sj kk) = (sLog sj).length) ∧ (aWait (sEd sj kk)).length ≤ 6 - j) (fun v5 _ => 7 - v5.toNatClampNeg) ?_ _ _ ⟨0, si, rfl, by omega, ivi, hw, rfl, Or.inl rfl, wait_le ivi hord⟩
      rintro K2 v5 w ⟨j, sj, rfl, hj, ij, rj, dj, oj, wj⟩ hK2
      have done : decSettled sj kk = true → K (nI i + 1) w := by
        intro q
        rw [nI_1]
        refine hK _ _ ⟨i + 1, rfl, by omega, ?_⟩ ?_
        · rw [hnext, ← dj, drain_settled _ (decSettled_iff.mp q)]; exact rj
        · rw [nI_clamp (by omega), nI_clamp (by omega)]; omega
      unfold lb_X5_copyEndOf_32
      rw [hx]
      refine pk_lt 6 j (fun h7 => done ?_) (fun h7 => ?_)
      · refine decSettled_iff.mpr ⟨by omega, ?_⟩
        rcases oj with oj | oj
        · omega
        · exact oj
      · rw [f_settled rj ij hord, f_canS rj ij hord]
        by_cases q : decSettled sj kk = true
        · rw [if_pos q]
          exact ⟨fun _ => done q, fun z => absurd z (by decide)⟩
        · rw [if_neg q]
          refine ⟨fun z => absurd rfl z, fun _ => ?_⟩
          obtain ⟨t1, t2, t3⟩ := turn_ok ij hord
          have next : ∀ w1, RS w1 (turnS sj kk) → K2 (nI j + 1) w1 := by
            intro w1 r
            rw [nI_1]
            refine hK2 _ _ ⟨j + 1, turnS sj kk, rfl, by omega, t1, r, ?_, Or.inr t2, by omega⟩ ?_
            · rw [← dj, show 7 - j = (7 - (j + 1)) + 1 by omega, drain_step q]
            · rw [nI_clamp (by omega), nI_clamp (by omega)]; omega
          unfold turnS at next
          by_cases z : canS sj kk = true
          · rw [if_pos z] at next ⊢
            obtain ⟨cw, cy⟩ := canS_iff.mp z
            refine ⟨fun y => absurd y (by decide), fun _ => ?_⟩
            refine s_append rj ij hord cw cy (fun w1 q1 => ?_)
            have is := inv_send ij hord cw cy
            exact s_hearRest (q1.1 kk hord) q1.2.1 (is.1 kk hord) (fun e1 q2 => next _ (q1.up q2))
          · rw [if_neg z] at next ⊢
            refine ⟨fun _ => ?_, fun y => absurd rfl y⟩
            exact s_hearRest (rj.1 kk hord) rj.2.1 (ij.1 kk hord) (fun e1 q2 => next _ (rj.up q2))
    rcases hb with hb | hb
    · refine ⟨fun _ => inner _ ?_, fun z => absurd hb z⟩
      rw [ixE_nI hgt]
      unfold ordE
      rw [if_neg (by rw [hb]; decide)]
    · refine ⟨fun z => absurd z (by rw [hb]; decide), fun _ => inner _ ?_⟩
      have e2 : (2 : Int32) - nI i = nI (2 - i) := by rw [li 2, pk_sub (by omega)]
      rw [e2, ixE_nI (by omega)]
      unfold ordE
      rw [if_pos (by rw [hb]; decide)]
