/-! the class's editor: what it hears; begun anew; copied -/
theorem passT_app : ∀ (ws : List Ch) (x w : Ch), passT (ws ++ [w]) x = ((passT ws x).1 ++ [resh w (passT ws x).2], resh (passT ws x).2 w)
  | [], x, w => rfl
  | a :: ws, x, w => by
    rw [List.cons_append, passT, passT_app ws, passT]; rfl
theorem s_pass {n : zN} {ws : List Ch} {x : Ch} {m : Nat} (h : rN 6 ccode n ws) (hc : chain m ws) (gx : good x) (fx : fitsC m x) (hm : m + ws.length ≤ 78) {Q : Int32 → zN → Prop} (hQ : ∀ n1, rN 6 ccode n1 (passT ws x).1 → Q (ccode (passT ws x).2) n1) : wp_X0_passThrough n (ccode x) Q := by
  have h6 := h.2.2.1
  have hpre : ∀ j, chain m (ws.take j) := by
    intro j
    have e : ws = ws.take j ++ ws.drop j := (List.take_append_drop _ _).symm
    have h2 := hc
    rw [e, chain_app] at h2
    exact h2.1
  unfold wp_X0_passThrough
  refine zLoop3_i (fun v2 v3 b => ∃ j : Nat, v3 = nI j ∧ j ≤ ws.length ∧ v2 = ccode (passT (ws.take j) x).2 ∧ rN 6 ccode b ((passT (ws.take j) x).1 ++ ws.drop j)) (fun _ v3 _ => ws.length - v3.toNatClampNeg) ?_ _ _ _ ⟨0, rfl, Nat.zero_le _, rfl, h⟩
  rintro K v2 v3 b ⟨j, rfl, hj, rfl, hb⟩ hK
  have e1 : (passT (ws.take j) x).1.length = j := by rw [passT_len, List.length_take]; omega
  have hlen : ((passT (ws.take j) x).1 ++ ws.drop j).length = ws.length := by
    rw [List.length_append, e1, List.length_drop]; omega
  obtain ⟨-, gxj, -, -⟩ := passT_ok (ws.take j) x m (hpre j) gx fx (by rw [List.length_take]; omega)
  unfold lb_X0_passThrough_4
  rw [hb.size, hlen]
  refine pk_le ws.length j (fun hle => ?_) (fun hgt => ?_)
  · have e : j = ws.length := by omega
    subst e
    rw [List.take_length] at hb ⊢
    rw [List.drop_length, List.append_nil] at hb
    exact hQ _ hb
  · have gw : good ws[j] := chain_good ws m hc _ (List.getElem_mem hgt)
    have hget : ((passT (ws.take j) x).1 ++ ws.drop j)[j]? = some ws[j] := by
      rw [List.getElem?_append_right (by omega), e1, Nat.sub_self, List.getElem?_drop]
      simp [hgt]
    have ht : ws.take (j + 1) = ws.take j ++ [ws[j]] := (List.take_append_getElem hgt).symm
    refine s_at hb hget rfl ?_
    refine s_put hb (by omega) (resh ws[j] (passT (ws.take j) x).2) rfl (f_resh_c gw gxj) (fun b1 h1 => ?_)
    intro x4 hx4
    rw [f_resh_c gxj gw] at hx4
    subst hx4
    rw [nI_1]
    refine hK _ _ _ ⟨j + 1, rfl, by omega, ?_, ?_⟩ ?_
    · rw [ht, passT_app]
    · rw [ht, passT_app]
      rw [List.set_append_right _ _ (by omega), e1, Nat.sub_self, List.drop_eq_getElem_cons hgt, List.set_cons_zero] at h1
      rw [List.append_assoc]
      exact h1
    · rw [nI_clamp (by omega), nI_clamp (by omega)]; omega
theorem s_hearNext {k : Nat} {e : zE} {d : aE} {o : zN} {log : List Ch} (h : RE k e d) (ho : rN 78 ccode o log) (iv : invE k log d) {Q : Int32 → zE → Prop} (hQ : ∀ e1, RE k e1 (opHear k log d).2 → Q (opHear k log d).1 e1) : wp_X2_hearNext e o Q := by
  obtain ⟨h1, h2, h3, h4, h5, h6, h7, h8⟩ := id h
  have hl := ho.2.2.1
  have hbd := iv.bound
  obtain ⟨i1, i2, i3, i4, i5, i6, i7, i8, i9, i10, i11, i12, i13⟩ := id iv
  unfold wp_X2_hearNext
  unfold opHear at hQ
  rw [ho.size, h6, h5]
  refine pk_lt (aHeard d) log.length (fun hlt => ?_) (fun hge => ?_)
  · rw [if_neg (by omega)] at hQ
    have hu2 : log[aHeard d]? = some (nextU log d) := by
      unfold nextU
      rw [List.getD_eq_getElem?_getD, List.getElem?_eq_getElem hlt]; rfl
    obtain ⟨gu, fu⟩ := chain_at i11 hu2
    have hdrop := outC_drop (w := nextU log d) hu2
    have a1 := hbd.2.2
    have hp0 : lenC 0 (log.take (aHeard d)) + (aWait d).length ≤ 78 := by omega
    obtain ⟨p1, p2, p3, p4⟩ := passT_ok (aWait d) (nextU log d) _ i2 gu fu hp0
    have jn : cE (nextU log d) ≠ k → jn_X2_hearNext_66 e o (ccode (nextU log d)) (nI (aHeard d + 1)) Q := by
      intro hne
      unfold jn_X2_hearNext_66
      refine s_pass h3 i2 gu fu hp0 (fun b1 hb1 => ?_)
      have r1 : RE k (eSetWait (eSetHeard e (nI (aHeard d + 1))) b1) (mkE (aCopy d) (passT (aWait d) (nextU log d)).1 (aBacks d) (aWay d) (aHeard d + 1) (aMark d) (aWr d)) := ⟨h1, h2, hb1, h4, h5, rfl, h7, h8⟩
      have f3 : fitsC (aCopy d).length (passT (aWait d) (nextU log d)).2 := by rw [i3]; exact p3
      have a2 : aft (aCopy d).length (passT (aWait d) (nextU log d)).2 ≤ 78 := by
        rw [i3, ← p4]
        have b1 := lenC_le (passT (aWait d) (nextU log d)).1 (aft (lenC 0 (log.take (aHeard d))) (nextU log d))
        rw [passT_len] at b1
        have b2 := aft_le (lenC 0 (log.take (aHeard d))) (nextU log d)
        have b3 : aHeard d + 1 + (aWait d).length ≤ log.length + pend d := by
          unfold pend
          rcases i10 with ⟨hw, w, ws, pre, post, e1, e2, e3, e4⟩ | ⟨hw, -⟩
          · rw [if_pos hw]
            cases pre with
            | nil =>
              rw [hdrop] at e2
              injection e2 with e5 e6
              have e7 : nextU log d = w := e5
              exact absurd (by rw [e7]; exact i6 w (by rw [e1]; exact List.mem_cons_self)) hne
            | cons a pre =>
              have h1 := congrArg List.length e2
              simp only [List.length_drop, List.length_append, List.length_cons] at h1
              have h2 := congrArg List.length e1
              rw [List.length_cons] at h2
              omega
          · rw [if_neg (by rw [hw]; decide)]; omega
        omega
      refine s_apply r1 p2 f3 (fun a ha => (i4 a ha).1) a2 (by show aMark d ≤ 80; omega) (fun e1 r2 => ?_)
      rw [f_kind_c p2]
      have hh : rHear k log d = cK (passT (aWait d) (nextU log d)).2 := by unfold rHear; rw [if_neg hne]
      have hs : sHear k log d = sApply (mkE (aCopy d) (passT (aWait d) (nextU log d)).1 (aBacks d) (aWay d) (aHeard d + 1) (aMark d) (aWr d)) (passT (aWait d) (nextU log d)).2 := by unfold sHear; rw [if_neg hne]
      rw [← hh]
      exact hQ e1 (by rw [hs]; exact r2)
    refine s_at ho hu2 rfl ?_
    rw [nI_1]
    have hE3 := gu.2.2.1
    rcases i10 with ⟨hw, w, ws, pre, post, e1, e2, e3, e4⟩ | ⟨hw, hno⟩
    · refine br_f (by rw [hw]; decide) ?_
      rw [f_writer_c gu, h1]
      refine ⟨fun hne => jn (fun he => hne (by rw [he])), fun he => ?_⟩
      have he2 : cE (nextU log d) = k := (nI_eq (by omega) (by omega)).mp he
      have hh : rHear k log d = 0 := by unfold rHear; rw [if_pos he2]
      have hs : sHear k log d = mkE (aCopy d) ((aWait d).eraseIdx 0) (aBacks d) false (aHeard d + 1) (aMark d) (aWr d) := by unfold sHear; rw [if_pos he2]
      refine s_removeAt h3 (i := 0) (by rw [e1]; simp) rfl (fun b1 hb1 => ?_)
      have hQ2 := hQ (eSetWait (eSetHeard (eSetUw e 0) (nI (aHeard d + 1))) b1) (by rw [hs]; exact ⟨h1, h2, hb1, h4, rfl, rfl, h7, h8⟩)
      rw [hh] at hQ2
      exact hQ2
    · refine br_t (by rw [hw]; rfl) (jn (hno _ ?_))
      rw [hdrop]; exact List.mem_cons_self
  · rw [if_pos hge] at hQ
    exact hQ e h
theorem s_hearRest {k : Nat} {e : zE} {d : aE} {o : zN} {log : List Ch} (h : RE k e d) (ho : rN 78 ccode o log) (iv : invE k log d) {Q : Int32 → zE → Prop} (hQ : ∀ e1, RE k e1 (opHearAll k log d).2 → Q (opHearAll k log d).1 e1) : wp_X2_hearRest e o Q := by
  have hl := ho.2.2.1
  have i1 := iv.1
  unfold wp_X2_hearRest
  unfold opHearAll at hQ
  rw [ho.size, h.2.2.2.2.2.1]
  intro x1 hx1
  rw [pk_sub i1] at hx1
  subst hx1
  by_cases h0 : log.length ≤ aHeard d
  · rw [if_pos h0] at hQ
    refine br_f ?_ (hQ e h)
    rw [show log.length - aHeard d = 0 by omega]
    decide
  · rw [if_neg h0] at hQ
    refine br_t (nI_lt (a := 0) (by omega) (by omega)) ?_
    refine zLoop2_i (fun v3 e1 => ∃ j : Nat, v3 = nI j ∧ j ≤ log.length - aHeard d ∧ RE k e1 (sHearN k log d j)) (fun v3 _ => (log.length - aHeard d) - v3.toNatClampNeg) ?_ _ _ ⟨0, rfl, Nat.zero_le _, h⟩
    rintro K v3 e1 ⟨j, rfl, hj, r1⟩ hK
    unfold lb_X2_hearRest_19
    refine pk_le (log.length - aHeard d) j (fun hle => ?_) (fun hgt => ?_)
    · have e2 : j = log.length - aHeard d := by omega
      subst e2
      exact hQ e1 r1
    · obtain ⟨j1, j2, j3⟩ := inv_hearN j d iv (by omega)
      refine s_hearNext r1 ho j1 (fun e2 r2 => ?_)
      rw [nI_1]
      have hop : opHear k log (sHearN k log d j) = (nI (rHear k log (sHearN k log d j)), sHear k log (sHearN k log d j)) := by unfold opHear; rw [if_neg (by omega)]
      rw [hop] at r2
      have hsn : ∀ (n : Nat) (d : aE), sHearN k log d (n + 1) = sHear k log (sHearN k log d n) := by
        intro n
        induction n with
        | zero => intro d; rfl
        | succ n ih => intro d; rw [sHearN, ih]; rfl
      refine hK _ _ ⟨j + 1, rfl, by omega, by rw [hsn]; exact r2⟩ ?_
      rw [nI_clamp (by omega), nI_clamp (by omega)]; omega
def RE0 (k : Nat) (e : zE) : Prop := eNum e = nI k ∧ nCap (eCopy e) = 78 ∧ nCap (eWait e) = 6 ∧ nCap (eBacks e) = 6
theorem RE.re0 {k : Nat} {e : zE} {d : aE} (h : RE k e d) : RE0 k e := ⟨h.1, h.2.1.1, h.2.2.1.1, h.2.2.2.1.1⟩
theorem zB_bI (b : Bool) : zB (bI b) := by cases b <;> exact ⟨by decide, by decide⟩
theorem s_copyEd {k : Nat} {e o : zE} {d : aE} (h0 : RE0 k e) (h : RE k o d) {Q : zE → Prop} (hQ : ∀ e1, RE k e1 d → Q e1) : wp_X2_copyEditor e o Q := by
  obtain ⟨h1, h2, h3, h4, h5, h6, h7, h8⟩ := h
  unfold wp_X2_copyEditor
  refine s_copy h0.2.1 h2 (fun n1 r1 => s_copy h0.2.2.1 h3 (fun n2 r2 => s_copy h0.2.2.2 h4 (fun n3 r3 => ⟨by rw [h5]; exact zB_bI _, hQ _ ⟨h0.1, r1, r2, r3, h5, h6, h7, h8⟩⟩)))
