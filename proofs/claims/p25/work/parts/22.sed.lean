/-! the class's editor -/
def bI (b : Bool) : Int32 := if b = true then 1 else 0
def RE (k : Nat) (e : zE) (d : aE) : Prop := eNum e = nI k ∧ rN 78 nI (eCopy e) (aCopy d) ∧ rN 6 ccode (eWait e) (aWait d) ∧ rN 6 ccode (eBacks e) (aBacks d) ∧ eUw e = bI (aWay d) ∧ eHeard e = nI (aHeard d) ∧ eSpot e = nI (aMark d) ∧ eWr e = aWr d
theorem map_upto_get {α : Type} {g : α → α} {B : List α} {j : Nat} (h : j < B.length) : ((B.take j).map g ++ B.drop j)[j]? = some B[j] := by
  have e : ((B.take j).map g).length = j := by rw [List.length_map, List.length_take]; omega
  rw [List.getElem?_append_right (by omega), e, Nat.sub_self, List.getElem?_drop]
  simp [h]
theorem map_upto_set {α : Type} {g : α → α} {B : List α} {j : Nat} (h : j < B.length) : ((B.take j).map g ++ B.drop j).set j (g B[j]) = (B.take (j + 1)).map g ++ B.drop (j + 1) := by
  have e : ((B.take j).map g).length = j := by rw [List.length_map, List.length_take]; omega
  rw [List.set_append_right _ _ (by omega), e, Nat.sub_self, List.drop_eq_getElem_cons h, List.set_cons_zero, ← List.take_append_getElem h, List.map_append, List.append_assoc]
  rfl
theorem map_upto_len {α : Type} {g : α → α} {B : List α} {j : Nat} (h : j ≤ B.length) : ((B.take j).map g ++ B.drop j).length = B.length := by
  rw [List.length_append, List.length_map, List.length_take, List.length_drop]; omega
/-- the backs are reshaped by a change -/
theorem s_backs {ed : zE} {c : Ch} {B : List Ch} {b0 : zN} {w0Spot : Int32} {w0Copy : zN} (gc : good c) (gB : ∀ a ∈ B, good a) (h : rN 6 ccode b0 B) {Q : zE → Prop} (hQ : ∀ b1, rN 6 ccode b1 (B.map (fun a => resh a c)) → Q (eSetBacks (eSetCopy (eSetSpot ed w0Spot) w0Copy) b1)) : zLoop2 (lb_X2_apply_90 ed (ccode c) w0Spot w0Copy Q) 0 b0 := by
  have hB6 := h.2.2.1
  refine zLoop2_i (fun v4 b => ∃ j : Nat, v4 = nI j ∧ j ≤ B.length ∧ rN 6 ccode b ((B.take j).map (fun a => resh a c) ++ B.drop j)) (fun v4 _ => B.length - v4.toNatClampNeg) ?_ _ _ ⟨0, rfl, Nat.zero_le _, by simpa using h⟩
  rintro K v4 b ⟨j, rfl, hj, hb⟩ hK
  have hlen := map_upto_len (g := fun a => resh a c) hj
  unfold lb_X2_apply_90
  rw [hb.size, hlen]
  refine pk_le B.length j (fun hle => ?_) (fun hgt => ?_)
  · have e : j = B.length := by omega
    subst e
    refine hQ _ ?_
    simpa using hb
  · have gb : good B[j] := gB _ (List.getElem_mem hgt)
    refine s_at hb (map_upto_get hgt) rfl ?_
    refine s_put hb (by omega) (resh B[j] c) rfl (f_resh_c gb gc) (fun b1 h1 => ?_)
    rw [map_upto_set (g := fun a => resh a c) hgt] at h1
    rw [nI_1]
    refine hK _ _ ⟨j + 1, rfl, by omega, h1⟩ ?_
    rw [nI_clamp (by omega), nI_clamp (by omega)]; omega
/-- a change is done in the copy -/
theorem s_apply {k : Nat} {e : zE} {d : aE} {c : Ch} (h : RE k e d) (gc : good c) (fc : fitsC (aCopy d).length c) (gB : ∀ a ∈ aBacks d, good a) (hl : aft (aCopy d).length c ≤ 78) (hm : aMark d ≤ 80) {Q : zE → Prop} (hQ : ∀ e1, RE k e1 (sApply d c) → Q e1) : wp_X2_apply e (ccode c) Q := by
  obtain ⟨h1, h2, h3, h4, h5, h6, h7, h8⟩ := h
  obtain ⟨g1, g2, g3, g4, g5⟩ := id gc
  obtain ⟨f1, f2⟩ := fc
  unfold wp_X2_apply
  rw [f_place_c gc, f_kind_c gc, f_sign_c gc, h7]
  intro x1 hx1 x2 hx2
  subst hx1; subst hx2
  rw [li 1, li 2, li 0]
  unfold aft at hl
  by_cases k1 : cK c = 1
  · rw [if_pos k1] at hl
    refine ⟨fun h => absurd (by rw [k1]) h, fun _ => ?_⟩
    have fin : ∀ (n : zN) (sp : Int32), rN 78 nI n ((aCopy d).insertIdx (cP c) (cL c)) → sp = nI (markC (aMark d) c) → zLoop2 (lb_X2_apply_90 e (ccode c) sp n Q) 0 (eBacks e) := by
      intro n sp hn hsp
      refine s_backs gc gB h4 (fun b1 hb1 => hQ _ ⟨h1, ?_, h3, hb1, h5, h6, hsp, h8⟩)
      show rN 78 nI n (applC (cL c) (aCopy d) c)
      unfold applC
      rw [if_pos k1]; exact hn
    refine s_addAt h2 (f1 k1) (by omega) (cL c) rfl rfl (fun n1 hn1 => ?_)
    refine pk_lt (aMark d) (cP c) (fun h => ?_) (fun h => ?_)
    · refine fin _ _ hn1 ?_
      unfold markC
      rw [if_pos k1, if_neg (by omega), nI_add]; rfl
    · refine fin _ _ hn1 ?_
      unfold markC
      rw [if_pos k1, if_pos h, nI_add]
  · refine ⟨fun _ => ?_, fun h => absurd h (nI_neq k1 (by omega) (by omega))⟩
    by_cases k2 : cK c = 2
    · refine ⟨fun h => absurd (by rw [k2]) h, fun _ => ?_⟩
      have fin : ∀ (n : zN) (sp : Int32), rN 78 nI n ((aCopy d).eraseIdx (cP c)) → sp = nI (markC (aMark d) c) → zLoop2 (lb_X2_apply_90 e (ccode c) sp n Q) 0 (eBacks e) := by
        intro n sp hn hsp
        refine s_backs gc gB h4 (fun b1 hb1 => hQ _ ⟨h1, ?_, h3, hb1, h5, h6, hsp, h8⟩)
        show rN 78 nI n (applC (cL c) (aCopy d) c)
        unfold applC
        rw [if_neg k1, if_pos k2]; exact hn
      refine s_removeAt h2 (f2 k2) rfl (fun n1 hn1 => ?_)
      refine pk_le (aMark d) (cP c) (fun h => ?_) (fun h => ?_)
      · refine fin _ _ hn1 ?_
        unfold markC
        rw [if_neg k1, if_pos k2, if_neg (by omega), pk_sub (by omega)]; rfl
      · refine fin _ _ hn1 ?_
        unfold markC
        rw [if_neg k1, if_pos k2, if_pos h, pk_sub (by omega)]
    · refine ⟨fun _ => ?_, fun h => absurd h (nI_neq k2 (by omega) (by omega))⟩
      refine s_backs gc gB h4 (fun b1 hb1 => hQ _ ⟨h1, ?_, h3, hb1, h5, h6, ?_, h8⟩)
      · show rN 78 nI (eCopy e) (applC (cL c) (aCopy d) c)
        unfold applC
        rw [if_neg k1, if_neg k2]; exact h2
      · show nI (aMark d) = nI (markC (aMark d) c)
        unfold markC
        rw [if_neg k1, if_neg k2]
theorem s_write {k : Nat} {e : zE} {d : aE} {c : Ch} (h : RE k e d) (gc : good c) (fc : fitsC (aCopy d).length c) (gB : ∀ a ∈ aBacks d, good a) (hl : aft (aCopy d).length c ≤ 78) (hm : aMark d ≤ 80) (hw : (aWait d).length < 6) {Q : zE → Prop} (hQ : ∀ e1, RE k e1 (sWrite d c) → Q e1) : wp_X2_write e (ccode c) Q := by
  unfold wp_X2_write
  refine s_apply h gc fc gB hl hm (fun e1 h1 => ?_)
  obtain ⟨a1, a2, a3, a4, a5, a6, a7, a8⟩ := h1
  refine s_add a3 hw c rfl (fun n1 hn1 => hQ _ ⟨a1, a2, hn1, a4, a5, a6, a7, ?_⟩)
  show eWr e1 + 1 = aWr d + 1
  rw [a8]; rfl
theorem s_keep {k : Nat} {e : zE} {d : aE} {c : Ch} (h : RE k e d) {Q : zE → Prop} (hQ : ∀ e1, RE k e1 (sKeep d c) → Q e1) : wp_X2_keepBack e (ccode c) Q := by
  obtain ⟨h1, h2, h3, h4, h5, h6, h7, h8⟩ := h
  have hb := h4.2.2.1
  unfold wp_X2_keepBack
  rw [h4.size]
  refine pk_lt (aBacks d).length 6 (fun hlt => ?_) (fun hge => ?_)
  · refine s_add h4 hlt c rfl (fun n1 hn1 => hQ _ ⟨h1, h2, h3, ?_, h5, h6, h7, h8⟩)
    show rN 6 ccode n1 (keepL (aBacks d) c)
    unfold keepL
    rw [if_neg (by omega)]; exact hn1
  · refine s_removeAt h4 (i := 0) (by omega) rfl (fun n1 hn1 => ?_)
    refine s_add hn1 (by rw [List.length_eraseIdx_of_lt (by omega)]; omega) c rfl (fun n2 hn2 => hQ _ ⟨h1, h2, h3, ?_, h5, h6, h7, h8⟩)
    show rN 6 ccode n2 (keepL (aBacks d) c)
    unfold keepL
    rw [if_pos hge]; exact hn2
