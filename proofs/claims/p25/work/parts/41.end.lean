/-! isEndSo answers 1 -/
abbrev yT (y : aY) (b : Bool) : List (Nat × Nat) := txt (sLog (endS (yCur y) b))
theorem map_eq_iff (A B : List (Nat × Nat)) : A.map fL = B.map fL ↔ (A.length = B.length ∧ ∀ t, t < A.length → fL (A.getD t (0, 0)) = fL (B.getD t (0, 0))) := by
  constructor
  · intro h
    have hl := congrArg List.length h
    rw [List.length_map, List.length_map] at hl
    refine ⟨hl, fun t ht => ?_⟩
    have h2 : (A.map fL)[t]? = (B.map fL)[t]? := by rw [h]
    rw [List.getElem?_map, List.getElem?_map, List.getElem?_eq_getElem ht, List.getElem?_eq_getElem (by omega)] at h2
    rw [List.getD_eq_getElem?_getD, List.getD_eq_getElem?_getD, List.getElem?_eq_getElem ht, List.getElem?_eq_getElem (by omega)]
    exact Option.some.inj h2
  · rintro ⟨hl, h⟩
    refine List.ext_getElem (by rw [List.length_map, List.length_map]; exact hl) (fun t h1 h2 => ?_)
    rw [List.length_map] at h1 h2
    have h3 := h t h1
    rw [List.getD_eq_getElem?_getD, List.getD_eq_getElem?_getD, List.getElem?_eq_getElem h1, List.getElem?_eq_getElem h2] at h3
    rw [List.getElem_map, List.getElem_map]
    exact h3
section SE
variable {x : zX} {y : aY}
theorem yT_le (ok : okZ y) (b : Bool) : (yT y b).length ≤ 78 := by
  have iv := endS_inv (b := b) ok.1.1.1
  have hc := (iv.1 0 (by omega)).2.2.2.2.2.2.2.2.2.2.1
  have h1 := txt_le hc
  have h2 := iv.2
  show (txt (sLog (endS (yCur y) b))).length ≤ 78
  omega
theorem yT_mem (ok : okZ y) (b : Bool) : ∀ q ∈ yT y b, q.1 < 26 ∧ q.2 < 3 := txt_mem ((endS_inv (b := b) ok.1.1.1).1 0 (by omega)).2.2.2.2.2.2.2.2.2.2.1
theorem s_b0 (h : RX x y) (ok : okZ y) {Q : Int32 → zX → Prop} (hQ : ∀ x1, RX x1 y → Q (nI (yT y false).length) x1) : wp_X6_both x 0 Q := by
  refine sx_both h ok.1 0 (fun x1 h1 => ?_)
  unfold rBoth
  rw [if_neg (by decide), if_pos rfl]; exact hQ x1 h1
theorem s_b1 (h : RX x y) (ok : okZ y) {Q : Int32 → zX → Prop} (hQ : ∀ x1, RX x1 y → Q (nI (yT y true).length) x1) : wp_X6_both x 1 Q := by
  refine sx_both h ok.1 1 (fun x1 h1 => ?_)
  unfold rBoth
  rw [if_neg (by decide), if_neg (by decide), if_pos rfl]; exact hQ x1 h1
theorem s_b2 (h : RX x y) (ok : okZ y) {Q : Int32 → zX → Prop} (hQ : ∀ x1, RX x1 y → Q (bP ((yT y false).map fL = (yT y true).map fL)) x1) : wp_X6_both x 2 Q := by
  refine sx_both h ok.1 2 (fun x1 h1 => ?_)
  unfold rBoth
  rw [if_neg (by decide), if_neg (by decide), if_neg (by decide), if_pos rfl]; exact hQ x1 h1
theorem s_b3 (h : RX x y) (ok : okZ y) {Q : Int32 → zX → Prop} (hQ : ∀ x1, RX x1 y → Q 1 x1) : wp_X6_both x 3 Q := by
  refine sx_both h ok.1 3 (fun x1 h1 => ?_)
  unfold rBoth
  rw [if_neg (by decide), if_neg (by decide), if_neg (by decide), if_neg (by decide), bP_t ⟨end_same ok.1.1.1 ok.2.1, end_same ok.1.1.1 ok.2.1⟩]; exact hQ x1 h1
theorem s_in0 (h : RX x y) (ok : okZ y) {p : Nat} (hp : p < 2 ^ 31) {Q : Int32 → zX → Prop} (hQ : ∀ x1, RX x1 y → Q (if (yT y false).length ≤ p then -4 else fL ((yT y false).getD p (0, 0))) x1) : wp_X6_inTheEnd x 0 (nI p) Q := by
  have hl := yT_le ok false
  refine sx_inTheEnd h ok.1 0 (nI p) (fun x1 h1 => ?_)
  unfold rInEnd
  have e0 : decide ((0 : Int32) = 1) = false := by decide
  rw [if_neg (by decide), if_neg (nI_pos hp), e0, rGet_nI _ _ _ (Nat.lt_of_le_of_lt hl (by decide)) hp]; exact hQ x1 h1
theorem s_in1 (h : RX x y) (ok : okZ y) {p : Nat} (hp : p < 2 ^ 31) {Q : Int32 → zX → Prop} (hQ : ∀ x1, RX x1 y → Q (if (yT y true).length ≤ p then -4 else fL ((yT y true).getD p (0, 0))) x1) : wp_X6_inTheEnd x 1 (nI p) Q := by
  have hl := yT_le ok true
  refine sx_inTheEnd h ok.1 1 (nI p) (fun x1 h1 => ?_)
  unfold rInEnd
  have e0 : decide ((1 : Int32) = 1) = true := by decide
  rw [if_neg (by decide), if_neg (nI_pos hp), e0, rGet_nI _ _ _ (Nat.lt_of_le_of_lt hl (by decide)) hp]; exact hQ x1 h1
def preT (y : aY) (j : Nat) : Prop := (yT y false).length = (yT y true).length ∧ ∀ t, t < j → fL ((yT y false).getD t (0, 0)) = fL ((yT y true).getD t (0, 0))
theorem preT_all : preT y (yT y false).length ↔ (yT y false).map fL = (yT y true).map fL := (map_eq_iff _ _).symm
theorem bP_iff {P R : Prop} (h : P ↔ R) : bP P = bP R := by
  by_cases q : P
  · rw [bP_t q, bP_t (h.mp q)]
  · rw [bP_f q, bP_f (fun z => q (h.mpr z))]
theorem yT_log (ok : okZ y) (b : Bool) (hw : waitN (yCur y) 3 = 0) : yT y b = txt (sLog (yCur y)) := by
  have h3 : ∀ j, j < 3 → (aWait (sEd (yCur y) j)).length = 0 := by
    simp only [waitN] at hw
    exact k3 (by omega) (by omega) (by omega)
  show txt (sLog (endS (yCur y) b)) = _
  rw [endS_log ok.1.1.1 h3]
theorem waitN_le (ok : okZ y) : waitN (yCur y) 3 ≤ 18 := by
  have h0 := (edf ok (e := 0) (by omega)).2.1
  have h1 := (edf ok (e := 1) (by omega)).2.1
  have h2 := (edf ok (e := 2) (by omega)).2.1
  simp only [waitN]
  omega
theorem end_164 (h : RX x y) (ok : okZ y) (w : zX) {v : Int32} (hv : v = bP ((yT y false).map fL = (yT y true).map fL)) {s : Int32} (hs : s = v) {Q : Int32 → zX → Prop} (hQ : ∀ x1 y1, RX x1 y1 → okZ y1 → Q 1 x1) : jn_X8_isEndSo_164 w v x s v Q := by
  have hwl := waitN_le ok
  unfold jn_X8_isEndSo_164
  refine ⟨fun q => absurd hs.symm q, fun _ => ?_⟩
  refine s_c3 h ok ?_
  refine pk_lt 0 (waitN (yCur y) 3) (fun _ => hQ _ _ h ok) (fun hw => ?_)
  have e : (yT y false).map fL = (yT y true).map fL := by rw [yT_log ok false (by omega), yT_log ok true (by omega)]
  rw [hv, bP_t e]
  exact ⟨fun q => absurd q (by decide), fun _ => hQ _ _ h ok⟩
theorem end_114 (h : RX x y) (ok : okZ y) (w : zX) (v1 : Int32) {j : Nat} (hj : j < (yT y false).length) {Q : Int32 → zX → Prop} {K : Int32 → Int32 → Int32 → zX → Prop} (hK : ∀ x1, RX x1 y → K (bP (preT y (j + 1))) 1 (nI (j + 1)) x1) : jn_X8_isEndSo_114 w v1 (bP (preT y j)) (nI j) (fL ((yT y false).getD j (0, 0))) x 1 Q K := by
  have hl := yT_le ok false
  unfold jn_X8_isEndSo_114
  rw [nI_1]
  by_cases hp : preT y j
  · rw [bP_t hp]
    refine ⟨fun q => absurd q (by decide), fun _ => ?_⟩
    refine s_in1 h ok (by omega) (fun x1 h1 => ?_)
    rw [if_neg (by rw [← hp.1]; omega)]
    refine ⟨fun q => ?_, fun q => ?_⟩
    · have n : ¬ preT y (j + 1) := fun z => q (z.2 j (by omega))
      have := hK x1 h1
      rw [bP_f n] at this; exact this
    · have n : preT y (j + 1) := ⟨hp.1, fun t ht => by
        by_cases e : t = j
        · subst e; exact q
        · exact hp.2 t (by omega)⟩
      have := hK x1 h1
      rw [bP_t n] at this; exact this
  · rw [bP_f hp]
    refine ⟨fun _ => ?_, fun q => absurd rfl q⟩
    have n : ¬ preT y (j + 1) := fun z => hp ⟨z.1, fun t ht => z.2 t (by omega)⟩
    have := hK x h
    rw [bP_f n] at this; exact this
theorem end_loop (ok : okZ y) (w : zX) {Q : Int32 → zX → Prop} (hQ : ∀ x1 y1, RX x1 y1 → okZ y1 → Q 1 x1) : ∀ (v3 v4 v5 : Int32) (w0 : zX), (∃ j : Nat, v5 = nI j ∧ j ≤ (yT y false).length ∧ v4 = 1 ∧ v3 = bP (preT y j) ∧ RX w0 y) → zLoop4 (lb_X8_isEndSo_64 w (nI (yT y false).length) Q) v3 v4 v5 w0 := by
  have hl := yT_le ok false
  have hwl := waitN_le ok
  refine zLoop4_i (fun v3 v4 v5 w0 => ∃ j : Nat, v5 = nI j ∧ j ≤ (yT y false).length ∧ v4 = 1 ∧ v3 = bP (preT y j) ∧ RX w0 y) (fun _ _ v5 _ => (yT y false).length - v5.toNatClampNeg) ?_
  rintro K v3 v4 v5 w0 ⟨j, rfl, hj, rfl, rfl, h⟩ hK
  unfold lb_X8_isEndSo_64
  refine pk_le (yT y false).length j (fun hle => ?_) (fun hgt => ?_)
  · have e : j = (yT y false).length := by omega
    subst e
    refine br_f (by decide) ?_
    refine s_b2 h ok (fun x1 h1 => ?_)
    have e2 := bP_iff (preT_all (y := y))
    refine ⟨fun q => ?_, fun q => ?_⟩
    · refine end_164 h1 ok w e2 ?_ hQ
      rw [e2]
      by_cases z : (yT y false).map fL = (yT y true).map fL
      · exact absurd (bP_t z) q
      · exact (bP_f z).symm
    · refine end_164 h1 ok w e2 ?_ hQ
      rw [e2, q]
  · refine s_in0 h ok (by omega) (fun x1 h1 => ?_)
    rw [if_neg (by omega)]
    have hm := yT_mem ok false _ (getD_mem (p := j) (0, 0) hgt)
    have h109 : ∀ x2, RX x2 y → jn_X8_isEndSo_109 w (nI (yT y false).length) (bP (preT y j)) (nI j) (fL ((yT y false).getD j (0, 0))) x2 Q K := by
      intro x2 h2
      unfold jn_X8_isEndSo_109
      refine end_114 h2 ok w _ hgt (fun x3 h3 => hK _ _ _ _ ⟨j + 1, rfl, by omega, rfl, rfl, h3⟩ ?_)
      rw [nI_clamp (by omega), nI_clamp (by omega)]; omega
    refine br_f (by decide) ?_
    refine br_f (nI_pos (by omega)) ?_
    refine s_c3 h1 ok ?_
    refine pk_lt 0 (waitN (yCur y) 3) (fun _ => h109 _ h1) (fun hw => ?_)
    refine s_let3 h1 ok (by omega) ?_
    have e := yT_log ok false (by omega)
    rw [← e, if_neg (by omega)]
    exact ⟨fun q => absurd rfl q, fun _ => h109 _ h1⟩
theorem s_endso (h : RX x y) (ok : okZ y) {Q : Int32 → zX → Prop} (hQ : ∀ x1 y1, RX x1 y1 → okZ y1 → Q 1 x1) : wp_X8_isEndSo x Q := by
  have hl := yT_le ok false
  have hl1 := yT_le ok true
  unfold wp_X8_isEndSo
  refine s_b0 h ok (fun x1 h1 => ?_)
  refine s_b1 h1 ok (fun x2 h2 => ?_)
  have jn : ∀ s : Int32, s = bP (preT y 0) → jn_X8_isEndSo_22 x (nI (yT y false).length) (nI (yT y true).length) x2 s Q := by
    intro s hs
    unfold jn_X8_isEndSo_22
    refine s_b3 h2 ok (fun x3 h3 => ⟨fun q => absurd rfl q, fun _ => ?_⟩)
    refine s_in0 h3 ok (by omega) (fun x4 h4 => ?_)
    rw [if_pos (Nat.le_refl _)]
    refine ⟨fun q => absurd rfl q, fun _ => ?_⟩
    refine s_in1 h4 ok (by omega) (fun x5 h5 => ?_)
    rw [if_pos (Nat.le_refl _)]
    refine ⟨fun q => absurd rfl q, fun _ => ?_⟩
    exact end_loop ok x hQ _ _ _ _ ⟨0, rfl, Nat.zero_le _, rfl, hs, h5⟩
  refine ⟨?_, ?_⟩
  · intro q
    refine jn 0 (bP_f (fun z => q ?_)).symm
    rw [z.1]
  · intro q
    refine jn 1 (bP_t ⟨?_, fun t ht => by omega⟩).symm
    exact (nI_eq (by omega) (by omega)).mp q
end SE
