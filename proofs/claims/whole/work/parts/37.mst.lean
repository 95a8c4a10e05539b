/-! the reference's state, its memory, and the calls that change it -/
def RMs (g : Nat → Int32) (s : aS) : Prop := LogAt g (sLog s) ∧ ∀ k, k < 3 → RMe g k (sEd s k)
theorem RMe.ext {g g1 : Nat → Int32} {k : Nat} {log : List Ch} {d : aE} (h : RMe g k d) (iv : invE k log d) (hl : log.length + pend d ≤ 78) (e : ∀ t, 97 + 116 * k ≤ t → t < 213 + 116 * k → g1 t = g t) : RMe g1 k d := by
  have hbd := iv.bound
  obtain ⟨i1, i2, i3, i4, i5, i6, i7, i8, i9, i10, i11, i12, i13⟩ := iv
  obtain ⟨h1, h2, h3, h4, h5, h6, h7, h8, h9, h10⟩ := h
  refine ⟨?_, h2.ext (fun i hi => e _ (by omega) (by omega)), ?_, h4.ext (fun i hi => e _ (by omega) (by omega)), ?_, h6.ext (fun i hi => e _ (by omega) (by omega)), ?_, ?_, ?_, ?_⟩
  · rw [e _ (by omega) (by omega)]; exact h1
  · rw [e _ (by omega) (by omega)]; exact h3
  · rw [e _ (by omega) (by omega)]; exact h5
  · rw [e _ (by omega) (by omega)]; exact h7
  · rw [e _ (by omega) (by omega)]; exact h8
  · rw [e _ (by omega) (by omega)]; exact h9
  · rw [e _ (by omega) (by omega)]; exact h10
theorem RMs.ext {g g1 : Nat → Int32} {s : aS} (h : RMs g s) (iv : invS s) (e : ∀ t, t < 445 → g1 t = g t) : RMs g1 s := by
  have hl := h.1.2.2
  refine ⟨⟨by rw [e _ (by omega)]; exact h.1.1, h.1.2.1.ext (fun i hi => e _ (by omega)), hl⟩, fun k hk => ?_⟩
  have hI := iv.1 k hk
  exact (h.2 k hk).ext hI hI.2.2.2.2.2.2.2.2.2.2.2.1 (fun t h1 h2 => e t (by omega))
theorem RMs.up {g g1 : Nat → Int32} {s : aS} {k : Nat} {d : aE} (h : RMs g s) (iv : invS s) (hk : k < 3) (r : RMe g1 k d) (o : outE k g g1) : RMs g1 (upE s k d) := by
  refine ⟨h.1.out o, fun j hj => ?_⟩
  by_cases q : j = k
  · subst q; rw [upE_same]; exact r
  · rw [upE_ne _ _ q]
    have hI := iv.1 j hj
    exact (h.2 j hj).ext hI hI.2.2.2.2.2.2.2.2.2.2.2.1 (fun t h1 h2 => o t (by omega))
/-- the memory: oldest first -/
def Hs (b : Nat → Int32) (L : List aS) : Prop := ∀ (i : Nat) (s : aS), L[i]? = some s → RMs (fun t => b (445 * i + t)) s
def RM (v : zM) (y : aY) : Prop := RMs (mS v) (yCur y) ∧ mKnown v = nI (yHist y).length ∧ Hs (mBefore v) (yHist y).reverse ∧ mLength v = nI (yCmds y).length ∧ rowAt (mText v) 0 nI (yCmds y)
theorem m_know51 {v : zM} {s : aS} {L : List aS} {b0 : Nat → Int32} {n : Nat} (hn : n < 4) (hL : L.length = n) (h0 : Hs b0 L) (ok : ∀ z ∈ L, invS z) (hc : RMs (mS v) s) (iv : invS s) {Q : zM → Prop} (hQ : ∀ b, Hs b (L ++ [s]) → Q (mSetKnown (mSetBefore v b) (nI (n + 1)))) : zLoop2 (lb_X7_know_51 v (nI n) Q) 0 b0 := by
  refine zLoop2_i (fun v1 w => ∃ j : Nat, v1 = nI j ∧ j ≤ 445 ∧ ∀ t, w t = if 445 * n ≤ t ∧ t < 445 * n + j then mS v (t - 445 * n) else b0 t) (fun v1 _ => 445 - v1.toNatClampNeg) ?_ _ _ ⟨0, rfl, by omega, fun t => by rw [if_neg (by omega)]⟩
  rintro K v1 w ⟨j, rfl, hj, hinv⟩ hK
  unfold lb_X7_know_51
  refine pk_le 445 j (fun hle => ?_) (fun hgt => ?_)
  · have e : j = 445 := by omega
    subst e
    rw [nI_1]
    refine hQ w (fun i z hz => ?_)
    by_cases q : i < n
    · rw [List.getElem?_append_left (by omega)] at hz
      refine (h0 i z hz).ext (ok z (List.mem_of_getElem? hz)) (fun t ht => ?_)
      show w (445 * i + t) = b0 (445 * i + t)
      rw [hinv, if_neg (by omega)]
    · rw [List.getElem?_append_right (by omega)] at hz
      have hz0 : i - L.length = 0 := by
        have := (List.getElem?_eq_some_iff.mp hz).1
        simp at this
        omega
      rw [hz0] at hz
      cases hz
      refine hc.ext iv (fun t ht => ?_)
      show w (445 * i + t) = mS v t
      rw [hinv, if_pos (by omega)]
      refine congrArg _ ?_
      have : i = n := by omega
      subst this
      omega
  · have e1 : (445 : Int32) * nI n + nI j = nI (445 * n + j) := by rw [li 445, pk_mul, nI_add]
    rw [e1, nI_1, nI_clamp (by omega), nI_clamp (by omega)]
    refine ⟨vp_in_nI (by omega) (by omega), vp_in_nI (by omega) (by omega), hK _ _ ⟨j + 1, rfl, by omega, fun t => ?_⟩ ?_⟩
    · rw [upd_at]
      by_cases e : t = 445 * n + j
      · rw [if_pos e, if_pos (by omega)]
        refine congrArg _ ?_
        omega
      · rw [if_neg e, hinv]
        by_cases e2 : 445 * n ≤ t ∧ t < 445 * n + j
        · rw [if_pos e2, if_pos (by omega)]
        · rw [if_neg e2, if_neg (by omega)]
    · rw [nI_clamp (by omega), nI_clamp (by omega)]; omega
theorem m_know {v : zM} {y : aY} (h : RM v y) (ok : okY y) {Q : zM → Prop} (hQ : ∀ b, Hs b ((yCur y :: yHist y).take 4).reverse → Q (mSetKnown (mSetBefore v b) (nI ((yCur y :: yHist y).take 4).length))) : wp_X7_know v Q := by
  obtain ⟨h1, h2, h3, h4, h5⟩ := h
  obtain ⟨k1, k2, k3, k4⟩ := ok
  unfold wp_X7_know
  rw [h2]
  refine ⟨fun q => ?_, fun q => ?_⟩
  · have hn : (yHist y).length < 4 := by
      rcases Nat.lt_or_ge (yHist y).length 4 with z | z
      · exact z
      · exact absurd (by rw [show (yHist y).length = 4 by omega]; rfl) q
    have e : (yCur y :: yHist y).take 4 = yCur y :: yHist y := List.take_of_length_le (by rw [List.length_cons]; omega)
    rw [e] at hQ
    refine m_know51 hn (by rw [List.length_reverse]) h3 (fun z hz => (k2 z (List.mem_reverse.mp hz)).1) h1 k1.1 (fun b hb => ?_)
    rw [List.reverse_cons, List.length_cons] at hQ
    exact hQ b hb
  · have hn : (yHist y).length = 4 := (nI_eq (b := 4) (by omega) (by omega)).mp q
    have e : ((yCur y :: yHist y).take 4).reverse = (yHist y).reverse.drop 1 ++ [yCur y] := by
      rw [List.take_succ_cons, List.reverse_cons]
      refine congrArg (· ++ [yCur y]) ?_
      rw [List.reverse_take, hn]
    have el : ((yCur y :: yHist y).take 4).length = 4 := by rw [List.length_take, List.length_cons]; omega
    rw [e, el] at hQ
    refine zLoop2_i (fun v1 w => ∃ j : Nat, v1 = nI j ∧ j ≤ 1335 ∧ ∀ t, w t = if t < j then mBefore v (445 + t) else mBefore v t) (fun v1 _ => 1335 - v1.toNatClampNeg) ?_ _ _ ⟨0, rfl, by omega, fun t => by rw [if_neg (by omega)]⟩
    rintro K v1 w ⟨j, rfl, hj, hinv⟩ hK
    unfold lb_X7_know_10
    refine pk_le 1335 j (fun hle => ?_) (fun hgt => ?_)
    · have e : j = 1335 := by omega
      subst e
      rw [h2, hn, li 1, pk_sub (by omega)]
      refine m_know51 (L := (yHist y).reverse.drop 1) (n := 4 - 1) (by omega) (by rw [List.length_drop, List.length_reverse, hn]) (fun i z hz => ?_) (fun z hz => (k2 z (List.mem_reverse.mp (List.mem_of_mem_drop hz))).1) h1 k1.1 (fun b hb => hQ b hb)
      have hi := (List.getElem?_eq_some_iff.mp hz).1
      rw [List.length_drop, List.length_reverse, hn] at hi
      rw [List.getElem?_drop] at hz
      have hm := k2 z (List.mem_reverse.mp (List.mem_of_getElem? hz))
      refine (h3 _ z hz).ext hm.1 (fun t ht => ?_)
      show w (445 * i + t) = mBefore v (445 * (1 + i) + t)
      rw [hinv, if_pos (by omega)]
      refine congrArg _ ?_
      omega
    · rw [li 445, nI_add, nI_1, nI_clamp (by omega), nI_clamp (by omega)]
      refine ⟨vp_in_nI (by omega) (by omega), vp_in_nI (by omega) (by omega), hK _ _ ⟨j + 1, rfl, by omega, fun t => ?_⟩ ?_⟩
      · rw [upd_at]
        by_cases e : t = j
        · rw [if_pos e, if_pos (by omega), hinv, if_neg (by omega), e]
        · rw [if_neg e, hinv]
          by_cases e2 : t < j
          · rw [if_pos e2, if_pos (by omega)]
          · rw [if_neg e2, if_neg (by omega)]
      · rw [nI_clamp (by omega), nI_clamp (by omega)]; omega
theorem RM.push {v : zM} {y : aY} {s : aS} {b g : Nat → Int32} (h : RM v y) (hb : Hs b ((yCur y :: yHist y).take 4).reverse) (hg : RMs g s) : RM (mSetS (mSetKnown (mSetBefore v b) (nI ((yCur y :: yHist y).take 4).length)) g) (pushY y s) := by
  obtain ⟨h1, h2, h3, h4, h5⟩ := h
  exact ⟨hg, rfl, hb, h4, h5⟩
theorem neK {k : Nat} (hk : k < 3) : ¬ (nI k < 0 ∨ ¬ nI k < 3) := by
  rintro (q | q)
  · exact nI_pos (by omega) q
  · exact q (nI_lt (b := 3) hk (by omega))
theorem op_105 {k : Nat} (hk : k < 3) (s : aS) (b c : Int32) : opAns s 105 (nI k) b c = liftE s k (opIns k (sEd s k) b c) := by
  unfold opAns
  rw [if_neg (neK hk), ixE_nI hk, if_neg (by decide), if_neg (by decide), if_neg (by decide), if_neg (by decide), if_pos rfl]
theorem op_100 {k : Nat} (hk : k < 3) (s : aS) (b c : Int32) : opAns s 100 (nI k) b c = liftE s k (opDel k (sEd s k) b) := by
  unfold opAns
  rw [if_neg (neK hk), ixE_nI hk, if_neg (by decide), if_neg (by decide), if_pos rfl]
theorem op_98 {k : Nat} (hk : k < 3) (s : aS) (b c : Int32) : opAns s 98 (nI k) b c = liftE s k (opBack (sEd s k)) := by
  unfold opAns
  rw [if_neg (neK hk), ixE_nI hk, if_neg (by decide), if_pos rfl]
theorem op_77 {k : Nat} (hk : k < 3) (s : aS) (b c : Int32) : opAns s 77 (nI k) b c = liftE s k (opMark (sEd s k) b) := by
  unfold opAns
  rw [if_neg (neK hk), ixE_nI hk, if_pos rfl]
theorem op_104 {k : Nat} (hk : k < 3) (s : aS) (b c : Int32) : opAns s 104 (nI k) b c = liftE s k (opHear k (sLog s) (sEd s k)) := by
  unfold opAns
  rw [if_neg (neK hk), ixE_nI hk, if_neg (by decide), if_neg (by decide), if_neg (by decide), if_pos rfl]
theorem op_115 {k : Nat} (hk : k < 3) (s : aS) (b c : Int32) : opAns s 115 (nI k) b c = opSend s k := by
  unfold opAns
  rw [if_neg (neK hk), ixE_nI hk, if_neg (by decide), if_neg (by decide), if_neg (by decide), if_neg (by decide), if_neg (by decide), if_pos rfl]
theorem op_65 {k : Nat} (hk : k < 3) (s : aS) (b c : Int32) : opAns s 65 (nI k) b c = liftE s k (opHearAll k (sLog s) (sEd s k)) := by
  unfold opAns
  rw [if_neg (neK hk), ixE_nI hk, if_neg (by decide), if_neg (by decide), if_neg (by decide), if_neg (by decide), if_neg (by decide), if_neg (by decide)]
theorem op_no {a : Int32} (h : a < 0 ∨ ¬ a < 3) (s : aS) (call b c : Int32) : opAns s call a b c = (-1, s) := by
  unfold opAns
  rw [if_pos h]
theorem rec_bad {v : zM} {y : aY} {call a b c : Int32} {Q : Int32 → zM → Prop} (h : RM v y) (hQ : ∀ v1, RM v1 (recY y call a b c).2 → Q (recY y call a b c).1 v1) {r : Int32} (hr : r < 0) (e : (opAns (yCur y) call a b c).1 = r) : Q r v := by
  have e2 : recY y call a b c = (r, y) := by
    unfold recY
    rw [e, if_pos hr]
  rw [e2] at hQ
  exact hQ v h
theorem rec_ok {v1 : zM} {y : aY} {call a b c : Int32} {Q : Int32 → zM → Prop} (hQ : ∀ v1, RM v1 (recY y call a b c).2 → Q (recY y call a b c).1 v1) {r : Int32} {s : aS} (hr : ¬ r < 0) (e : opAns (yCur y) call a b c = (r, s)) (h : RM v1 (pushY y s)) : Q r v1 := by
  have e2 : recY y call a b c = (r, pushY y s) := by
    unfold recY
    rw [e, if_neg hr]
  rw [e2] at hQ
  exact hQ v1 h
