/-! does, and the law's body: it answers true -/
def doesP (y : aY) (v : Int32) (k : Nat) (r : Int32) (y1 : aY) : Prop :=
  ¬ r < -3 ∧
  (k ≤ 3 → ¬ r < 0 → lowN (v >>> (6 &&& 31)) ((aCopy (sEd (yCur y) (lowN (v >>> (4 &&& 31)) 3))).length + 1) < (aCopy (sEd (yCur y1) (lowN (v >>> (4 &&& 31)) 3))).length ∧ (aCopy (sEd (yCur y1) (lowN (v >>> (4 &&& 31)) 3))).getD (lowN (v >>> (6 &&& 31)) ((aCopy (sEd (yCur y) (lowN (v >>> (4 &&& 31)) 3))).length + 1)) 0 = lowN (v >>> (9 &&& 31)) 26) ∧
  (3 < k → k < 7 → ¬ r < 0 → (aCopy (sEd (yCur y) (lowN (v >>> (4 &&& 31)) 3))).length ≠ 0 ∧ r = nI ((aCopy (sEd (yCur y) (lowN (v >>> (4 &&& 31)) 3))).getD (lowN (v >>> (6 &&& 31)) (aCopy (sEd (yCur y) (lowN (v >>> (4 &&& 31)) 3))).length) 0))
theorem m1_n3 : ¬ (-1 : Int32) < -3 := by decide
theorem m2_n3 : ¬ (-2 : Int32) < -3 := by decide
theorem m3_n3 : ¬ (-3 : Int32) < -3 := by decide
section LB
variable {x : zX} {y : aY}
theorem doesP_hi {v : Int32} {k : Nat} {r : Int32} {y1 : aY} (hk : 7 ≤ k) (hr : ¬ r < -3) : doesP y v k r y1 := ⟨hr, fun q => by omega, fun _ q => by omega⟩
theorem doesP_err {v : Int32} {k : Nat} {r : Int32} {y1 : aY} (hr : ¬ r < -3) (hn : r < 0) : doesP y v k r y1 := ⟨hr, fun _ q => absurd hn q, fun _ _ q => absurd hn q⟩
theorem does_ins (h : RX x y) (ok : okZ y) (v : Int32) {k : Nat} (hk : k ≤ 3) {Q : Int32 → zX → Prop} (hQ : ∀ r x1 y1, RX x1 y1 → okZ y1 → doesP y v k r y1 → Q r x1) : wp_X8_low (v >>> (6 &&& 31)) (nI (aCopy (sEd (yCur y) (lowN (v >>> (4 &&& 31)) 3))).length + 1) (fun r4 => wp_X8_low (v >>> (9 &&& 31)) 26 (fun r5 => wp_X6_insert x (nI (lowN (v >>> (4 &&& 31)) 3)) r4 r5 (fun r6 u7 => Q r6 u7))) := by
  have he := lowN_lt (v >>> (4 &&& 31)) (N := 3) (by omega)
  have hf := edf ok he
  have hp := lowN_lt (v >>> (6 &&& 31)) (N := (aCopy (sEd (yCur y) (lowN (v >>> (4 &&& 31)) 3))).length + 1) (by omega)
  have hl := lowN_lt (v >>> (9 &&& 31)) (N := 26) (by omega)
  refine s_low _ (nI_1 _) (by omega) (by omega) ?_
  refine s_low 26 rfl (by omega) (by omega) ?_
  refine s_ins h ok he (by omega) hl (fun _ x1 h1 => hQ _ x1 y h1 ok (doesP_err (by decide) (by decide))) (fun _ x1 h1 k1 => hQ _ x1 _ h1 k1 ?_)
  refine ⟨nI_n3 (by omega), fun _ _ => ?_, fun q => by omega⟩
  have e1 : ∀ d : aE, sEd (yCur (yPut y (lowN (v >>> (4 &&& 31)) 3) d)) (lowN (v >>> (4 &&& 31)) 3) = d := fun d => upE_same _ _ _
  rw [e1]
  generalize lowN (v >>> (4 &&& 31)) 3 = e at *
  generalize lowN (v >>> (6 &&& 31)) ((aCopy (sEd (yCur y) e)).length + 1) = pl at *
  have c1 : ∀ l, aCopy (sIns e (sEd (yCur y) e) pl l) = (aCopy (sEd (yCur y) e)).insertIdx pl l := fun _ => rfl
  rw [c1]
  refine ⟨by rw [List.length_insertIdx_of_le_length (by omega)]; omega, ?_⟩
  rw [List.getD_eq_getElem?_getD, List.getElem?_insertIdx_self, if_pos (by omega)]; rfl
theorem does_del (h : RX x y) (ok : okZ y) (v : Int32) {k : Nat} (hk : 3 < k) {Q : Int32 → zX → Prop} (hQ : ∀ r x1 y1, RX x1 y1 → okZ y1 → doesP y v k r y1 → Q r x1) : ((¬ nI (aCopy (sEd (yCur y) (lowN (v >>> (4 &&& 31)) 3))).length = 0 → wp_X8_low (v >>> (6 &&& 31)) (nI (aCopy (sEd (yCur y) (lowN (v >>> (4 &&& 31)) 3))).length) (fun r25 => wp_X6_delete x (nI (lowN (v >>> (4 &&& 31)) 3)) r25 (fun r26 u27 => Q r26 u27))) ∧ (nI (aCopy (sEd (yCur y) (lowN (v >>> (4 &&& 31)) 3))).length = 0 → Q (-2) x)) := by
  have he := lowN_lt (v >>> (4 &&& 31)) (N := 3) (by omega)
  have hf := edf ok he
  refine ⟨fun q => ?_, fun _ => hQ _ x y h ok (doesP_err (by decide) (by decide))⟩
  have hne : (aCopy (sEd (yCur y) (lowN (v >>> (4 &&& 31)) 3))).length ≠ 0 := fun z => q (by rw [z]; rfl)
  have hp := lowN_lt (v >>> (6 &&& 31)) (N := (aCopy (sEd (yCur y) (lowN (v >>> (4 &&& 31)) 3))).length) (by omega)
  refine s_low _ rfl (by omega) (by omega) ?_
  refine s_del h ok he hp (fun _ x1 h1 => hQ _ x1 y h1 ok (doesP_err (by decide) (by decide))) (fun _ x1 h1 k1 => hQ _ x1 _ h1 k1 ?_)
  have h26 := hf.2.2.2.2.2.2 _ (getD_mem 0 hp)
  exact ⟨nI_n3 (by omega), fun q => by omega, fun _ _ _ => ⟨hne, rfl⟩⟩
theorem does_tb (h : RX x y) (ok : okZ y) {e : Nat} (he : e < 3) {Q : Int32 → zX → Prop} (hQ : ∀ r x1 y1, RX x1 y1 → okZ y1 → ¬ r < -3 → Q r x1) : wp_X6_takeBack x (nI e) Q := by
  unfold wp_X6_takeBack
  refine s_any h ok 98 (nI e) 0 0 ?_ hQ
  rw [op_98 _ he]
  show ¬ (opBack (sEd (yCur y) e)).1 < -3
  unfold opBack
  split
  · exact m2_n3
  split
  · exact m3_n3
  · next c1 c2 =>
    have hI := ok.1.1.1.1 e he
    have := (hI.2.2.2.1 _ (lastB_mem c1)).1.1
    exact nI_n3 (by omega)
theorem does_mark (h : RX x y) (ok : okZ y) {e : Nat} (he : e < 3) (p : Int32) {Q : Int32 → zX → Prop} (hQ : ∀ r x1 y1, RX x1 y1 → okZ y1 → ¬ r < -3 → Q r x1) : wp_X6_mark x (nI e) p Q := by
  have hf := edf ok he
  unfold wp_X6_mark
  refine s_any h ok 77 (nI e) p 0 ?_ hQ
  rw [op_77 _ he]
  show ¬ (opMark (sEd (yCur y) e) p).1 < -3
  unfold opMark
  split
  · exact m1_n3
  · exact nI_n3 (by omega)
theorem does_send (h : RX x y) (ok : okZ y) {e : Nat} (he : e < 3) {Q : Int32 → zX → Prop} (hQ : ∀ r x1 y1, RX x1 y1 → okZ y1 → ¬ r < -3 → Q r x1) : wp_X6_send x (nI e) Q := by
  have hf := edf ok he
  unfold wp_X6_send
  refine s_any h ok 115 (nI e) 0 0 ?_ hQ
  rw [op_115 _ he]
  unfold opSend
  split
  · split
    · exact m3_n3
    · exact nI_n3 (by omega)
  · exact m2_n3
theorem does_hear (h : RX x y) (ok : okZ y) {e : Nat} (he : e < 3) {Q : Int32 → zX → Prop} (hQ : ∀ r x1 y1, RX x1 y1 → okZ y1 → ¬ r < -3 → Q r x1) : wp_X6_hear x (nI e) Q := by
  unfold wp_X6_hear
  refine s_any h ok 104 (nI e) 0 0 ?_ hQ
  rw [op_104 _ he]
  show ¬ (opHear e (sLog (yCur y)) (sEd (yCur y) e)).1 < -3
  unfold opHear
  split
  · exact m2_n3
  · next c =>
    have hI := ok.1.1.1.1 e he
    have hf := edf ok he
    have hb := hI.bound
    have : rHear e (sLog (yCur y)) (sEd (yCur y) e) ≤ 2 := by
      unfold rHear
      split
      · omega
      · have hu2 : (sLog (yCur y))[aHeard (sEd (yCur y) e)]? = some (nextU (sLog (yCur y)) (sEd (yCur y) e)) := by
          unfold nextU
          rw [List.getD_eq_getElem?_getD, List.getElem?_eq_getElem (by omega)]; rfl
        obtain ⟨gu, fu⟩ := chain_at hI.2.2.2.2.2.2.2.2.2.2.1 hu2
        exact (passT_ok _ _ _ hI.2.1 gu fu (by omega)).2.1.1
    exact nI_n3 (by omega)
theorem does_hearAll (h : RX x y) (ok : okZ y) {e : Nat} (he : e < 3) {Q : Int32 → zX → Prop} (hQ : ∀ r x1 y1, RX x1 y1 → okZ y1 → ¬ r < -3 → Q r x1) : wp_X6_hearAll x (nI e) Q := by
  have hf := edf ok he
  unfold wp_X6_hearAll
  refine s_any h ok 65 (nI e) 0 0 ?_ hQ
  rw [op_65 _ he]
  show ¬ (opHearAll e (sLog (yCur y)) (sEd (yCur y) e)).1 < -3
  unfold opHearAll
  split
  · exact m2_n3
  · exact nI_n3 (by omega)
theorem s_does (h : RX x y) (ok : okZ y) (v : Int32) {k : Nat} (hk : v &&& 15 = nI k) (hk16 : k < 16) {Q : Int32 → zX → Prop} (hQ : ∀ r x1 y1, RX x1 y1 → okZ y1 → doesP y v k r y1 → Q r x1) : wp_X8_does x v Q := by
  have he := lowN_lt (v >>> (4 &&& 31)) (N := 3) (by omega)
  have hf := edf ok he
  unfold wp_X8_does
  refine s_low 3 rfl (by omega) (by omega) ?_
  refine s_e0 h ok he ?_
  rw [hk]
  have hi : 7 ≤ k → ∀ r x1 y1, RX x1 y1 → okZ y1 → ¬ r < -3 → Q r x1 := fun h7 r x1 y1 a b c => hQ r x1 y1 a b (doesP_hi h7 c)
  refine pk_eq k 0 (fun z => does_ins h ok v (by omega) hQ) (fun n0 => ?_)
  refine pk_eq k 1 (fun z => does_ins h ok v (by omega) hQ) (fun n1 => ?_)
  refine pk_eq k 2 (fun z => does_ins h ok v (by omega) hQ) (fun n2 => ?_)
  refine pk_eq k 3 (fun z => does_ins h ok v (by omega) hQ) (fun n3 => ?_)
  refine pk_eq k 4 (fun z => does_del h ok v (by omega) hQ) (fun n4 => ?_)
  refine pk_eq k 5 (fun z => does_del h ok v (by omega) hQ) (fun n5 => ?_)
  refine pk_eq k 6 (fun z => does_del h ok v (by omega) hQ) (fun n6 => ?_)
  have h7 : 7 ≤ k := by omega
  refine pk_eq k 7 (fun z => does_tb h ok he (hi h7)) (fun n7 => ?_)
  refine pk_eq k 8 (fun z => ?_) (fun n8 => ?_)
  · refine s_low _ (nI_1 _) (by omega) (by omega) ?_
    exact does_mark h ok he _ (hi h7)
  refine pk_eq k 9 (fun z => does_send h ok he (hi h7)) (fun n9 => ?_)
  refine pk_eq k 10 (fun z => does_send h ok he (hi h7)) (fun n10 => ?_)
  refine pk_eq k 11 (fun z => does_send h ok he (hi h7)) (fun n11 => ?_)
  refine pk_eq k 12 (fun z => does_hear h ok he (hi h7)) (fun n12 => ?_)
  exact pk_eq k 13 (fun z => does_hear h ok he (hi h7)) (fun n13 => does_hearAll h ok he (hi h7))
variable {w : zX} {v2 v3 : Int32} {Q : Int32 → zX → Prop} {K : Int32 → zX → Prop}
theorem law_211 (h : RX x y) (ok : okZ y) (hK : ∀ x1 y1, RX x1 y1 → okZ y1 → K (v2 + 1) x1) : jn_X8_law_211 w v2 x Q K := by
  unfold jn_X8_law_211
  refine ⟨fun _ => hK _ _ h ok, fun _ => ?_⟩
  refine s_endso h ok (fun x1 y1 h1 k1 => ?_)
  exact ⟨fun _ => hK _ _ h1 k1, fun q => absurd q (by decide)⟩
theorem law_186 (h : RX x y) (ok : okZ y) (hK : ∀ x1 y1, RX x1 y1 → okZ y1 → K (v2 + 1) x1) : jn_X8_law_186 w v2 v3 x Q K := by
  unfold jn_X8_law_186
  refine ⟨fun _ => law_211 h ok hK, fun _ => ?_⟩
  refine s_low 3 rfl (by omega) (by omega) ?_
  refine s_backso h ok (lowN_lt _ (by omega)) _ (fun x1 y1 h1 k1 => ?_)
  exact br_f (by decide) (law_211 h1 k1 hK)
theorem law_157 (h : RX x y) (ok : okZ y) (hK : ∀ x1 y1, RX x1 y1 → okZ y1 → K (v2 + 1) x1) : jn_X8_law_157 w v2 v3 x Q K := by
  unfold jn_X8_law_157
  refine s_so h ok ?_
  refine br_f (by decide) ?_
  refine ⟨fun _ => law_186 h ok hK, fun _ => ?_⟩
  refine s_low 3 rfl (by omega) (by omega) ?_
  refine s_sendso h ok (lowN_lt _ (by omega)) (fun x1 y1 h1 k1 => ?_)
  exact br_f (by decide) (law_186 h1 k1 hK)
theorem law_115 {x0 : zX} {y1 : aY} (h0 : RX x0 y) (ok0 : okZ y) (h : RX x y1) (ok : okZ y1) {k : Nat} (hk16 : k < 16) {r : Int32} (hd : doesP y v3 k r y1) (hK : ∀ x1 y1, RX x1 y1 → okZ y1 → K (v2 + 1) x1) : jn_X8_law_115 w v2 v3 (nI (lowN (v3 >>> (4 &&& 31)) 3)) (nI (aCopy (sEd (yCur y) (lowN (v3 >>> (4 &&& 31)) 3))).length) r (nI k) x Q K := by
  have he := lowN_lt (v3 >>> (4 &&& 31)) (N := 3) (by omega)
  have hf := edf ok0 he
  have hf1 := edf ok he
  unfold jn_X8_law_115
  refine pk_le 4 k (fun _ => law_157 h ok hK) (fun hk => ?_)
  refine ⟨fun _ => law_157 h ok hK, fun hr => ?_⟩
  obtain ⟨d1, d2⟩ := hd.2.1 (by omega) hr
  refine s_low _ (nI_1 _) (by omega) (by omega) ?_
  refine s_let h ok he (by omega) ?_
  rw [if_neg (by omega), d2]
  refine s_low 26 rfl (by omega) (by omega) ?_
  exact ⟨fun _ => law_157 h ok hK, fun q => absurd rfl q⟩
theorem law_58 (h : RX x y) (ok : okZ y) {pl : Nat} (hpl : pl = (if (aCopy (sEd (yCur y) (lowN (v3 >>> (4 &&& 31)) 3))).length = 0 then 0 else lowN (v3 >>> (6 &&& 31)) (aCopy (sEd (yCur y) (lowN (v3 >>> (4 &&& 31)) 3))).length)) (hK : ∀ x1 y1, RX x1 y1 → okZ y1 → K (v2 + 1) x1) : jn_X8_law_58 w v2 v3 (nI (lowN (v3 >>> (4 &&& 31)) 3)) (nI (aCopy (sEd (yCur y) (lowN (v3 >>> (4 &&& 31)) 3))).length) x (nI pl) Q K := by
  have he := lowN_lt (v3 >>> (4 &&& 31)) (N := 3) (by omega)
  have hf := edf ok he
  have hplb : pl < 2 ^ 31 := by
    rw [hpl]
    split
    · omega
    · have := lowN_lt (v3 >>> (6 &&& 31)) (N := (aCopy (sEd (yCur y) (lowN (v3 >>> (4 &&& 31)) 3))).length) (by omega)
      omega
  unfold jn_X8_law_58
  refine s_let h ok he hplb ?_
  obtain ⟨k, hk16, hk⟩ := pk_andE v3 (m := 15) 4 (by decide)
  refine s_does h ok v3 hk (by omega) (fun r x1 y1 h1 k1 hd => ?_)
  intro x10 hx10
  rw [hk] at hx10
  subst hx10
  have fin : jn_X8_law_115 w v2 v3 (nI (lowN (v3 >>> (4 &&& 31)) 3)) (nI (aCopy (sEd (yCur y) (lowN (v3 >>> (4 &&& 31)) 3))).length) r (nI k) x1 Q K := law_115 h ok h1 k1 (by omega) hd hK
  refine br_f hd.1 ?_
  refine pk_le k 3 (fun _ => fin) (fun h3 => ?_)
  refine pk_le 7 k (fun _ => fin) (fun h7 => ?_)
  refine ⟨fun _ => fin, fun hr => ?_⟩
  obtain ⟨d1, d2⟩ := hd.2.2 h3 h7 hr
  refine ⟨fun q => q ?_, fun _ => fin⟩
  have hlt := lowN_lt (v3 >>> (6 &&& 31)) (N := (aCopy (sEd (yCur y) (lowN (v3 >>> (4 &&& 31)) 3))).length) (by omega)
  rw [if_neg d1] at hpl
  rw [d2, ← hpl, if_neg (by rw [hpl]; omega)]
theorem law_all (gh : Nat → Nat → Nat) : wp_X8_law (x0 gh) (fun _ _ => True) := by
  unfold wp_X8_law
  refine zLoop2_i (fun v2 w0 => ∃ j : Nat, v2 = nI j ∧ j ≤ 56 ∧ ∃ y : aY, RX w0 y ∧ okZ y) (fun v2 _ => 56 - v2.toNatClampNeg) ?_ _ _ ⟨0, rfl, by omega, y0, sx_start gh, okZ0⟩
  rintro K v2 w0 ⟨j, rfl, hj, y, h, ok⟩ hK
  unfold lb_X8_law_10
  refine pk_le 56 j (fun _ => trivial) (fun hlt => ?_)
  refine ⟨nI_pos (by omega), fun r2 => ?_⟩
  have he := lowN_lt (r2 >>> (4 &&& 31)) (N := 3) (by omega)
  have hf := edf ok he
  have hK2 : ∀ x1 y1, RX x1 y1 → okZ y1 → K (nI j + 1) x1 := by
    intro x1 y1 h1 k1
    rw [nI_1]
    refine hK _ _ ⟨j + 1, rfl, by omega, y1, h1, k1⟩ ?_
    rw [nI_clamp (by omega), nI_clamp (by omega)]; omega
  refine s_low 3 rfl (by omega) (by omega) ?_
  refine s_e0 h ok he ?_
  refine ⟨fun q => ?_, fun q => ?_⟩
  · have hne : (aCopy (sEd (yCur y) (lowN (r2 >>> (4 &&& 31)) 3))).length ≠ 0 := fun z => q (by rw [z]; rfl)
    refine s_low _ rfl (by omega) (by omega) ?_
    exact law_58 h ok (by rw [if_neg hne]) hK2
  · have h0 : (aCopy (sEd (yCur y) (lowN (r2 >>> (4 &&& 31)) 3))).length = 0 := (nI_eq (b := 0) (by omega) (by omega)).mp q
    exact law_58 h ok (pl := 0) (by rw [if_pos h0]) hK2
end LB
