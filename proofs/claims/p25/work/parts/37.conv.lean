/-! reshaping: two changes by different editors, in either order, make the same text; a change that goes through a row -/
def ap (L : List Nat) (c : Ch) : List Nat := applC (cL c) L c
def apl (L : List Nat) (cs : List Ch) : List Nat := cs.foldl ap L
theorem apl_cons (L : List Nat) (c : Ch) (cs : List Ch) : apl L (c :: cs) = apl (ap L c) cs := rfl
theorem apl_app (L : List Nat) (a b : List Ch) : apl L (a ++ b) = apl (apl L a) b := List.foldl_append
theorem ap_len {L : List Nat} {c : Ch} (h : fitsC L.length c) : (ap L c).length = aft L.length c := applC_len h
theorem apl_len : ∀ (cs : List Ch) (L : List Nat), chain L.length cs → (apl L cs).length = lenC L.length cs
  | [], L, _ => rfl
  | c :: cs, L, h => by
    have h1 := ap_len h.2.1
    rw [apl_cons, lenC_cons, ← h1]
    exact apl_len cs _ (by rw [h1]; exact h.2.2)
theorem ap_0 {L : List Nat} {k p l e : Nat} (h : k = 0) : ap L (mkC k p l e) = L := by subst h; rfl
theorem ap_1 (L : List Nat) (p l e : Nat) : ap L (mkC 1 p l e) = L.insertIdx p l := rfl
theorem ap_2 (L : List Nat) (p l e : Nat) : ap L (mkC 2 p l e) = L.eraseIdx p := rfl
theorem del_del {L : List Nat} {p q : Nat} (h : q < p) : (L.eraseIdx q).eraseIdx (p - 1) = (L.eraseIdx p).eraseIdx q := by
  apply List.ext_getElem?
  intro i
  simp only [List.getElem?_eraseIdx]
  by_cases h1 : i < q
  · have a1 : i < p - 1 := by omega
    have a2 : i < p := by omega
    simp [h1, a1, a2]
  · by_cases h2 : i < p - 1
    · have a1 : i + 1 < p := by omega
      simp [h1, h2, a1]
    · have a1 : ¬ i + 1 < q := by omega
      have a2 : ¬ i + 1 < p := by omega
      simp [h1, h2, a1, a2]
theorem tp_II {L : List Nat} {p q x y : Nat} {e f : Nat} (hp : p ≤ L.length) (hq : q ≤ L.length) (h : q < p ∨ (q = p ∧ f < e)) : ap (ap L (mkC 1 q y f)) (resh (mkC 1 p x e) (mkC 1 q y f)) = ap (ap L (mkC 1 p x e)) (resh (mkC 1 q y f) (mkC 1 p x e)) := by
  have r1 : resh (mkC 1 p x e) (mkC 1 q y f) = mkC 1 (p + 1) x e := by
    unfold resh
    simp only [cK_mk, cP_mk, cL_mk, cE_mk]
    rcases h with h | ⟨h1, h2⟩
    · simp [h]
    · subst h1; simp [h2]
  have r2 : resh (mkC 1 q y f) (mkC 1 p x e) = mkC 1 q y f := by
    unfold resh
    simp only [cK_mk, cP_mk, cL_mk, cE_mk]
    rcases h with h | ⟨h1, h2⟩
    · have a1 : ¬ p < q := by omega
      have a2 : ¬ p = q := by omega
      simp [a1, a2]
    · subst h1
      have a1 : ¬ e < f := by omega
      simp [a1]
  rw [r1, r2, ap_1, ap_1, ap_1, ap_1]
  exact List.insertIdx_comm _ _ (by omega) hp
theorem tp_ID {L : List Nat} {p q x y : Nat} {e f : Nat} (hp : p ≤ L.length) (hq : q < L.length) : ap (ap L (mkC 2 q y f)) (resh (mkC 1 p x e) (mkC 2 q y f)) = ap (ap L (mkC 1 p x e)) (resh (mkC 2 q y f) (mkC 1 p x e)) := by
  by_cases h : q < p
  · have r1 : resh (mkC 1 p x e) (mkC 2 q y f) = mkC 1 (p - 1) x e := by
      unfold resh
      simp only [cK_mk, cP_mk, cL_mk, cE_mk]
      simp [h]
    have r2 : resh (mkC 2 q y f) (mkC 1 p x e) = mkC 2 q y f := by
      unfold resh
      simp only [cK_mk, cP_mk, cL_mk, cE_mk]
      have a1 : ¬ p < q := by omega
      have a2 : ¬ p = q := by omega
      simp [a1, a2]
    rw [r1, r2, ap_2, ap_1, ap_1, ap_2]
    have := List.insertIdx_eraseIdx_of_ge (a := x) (i := q) (j := p - 1) (as := L) hq (by omega)
    rw [this, show p - 1 + 1 = p by omega]
  · have r1 : resh (mkC 1 p x e) (mkC 2 q y f) = mkC 1 p x e := by
      unfold resh
      simp only [cK_mk, cP_mk, cL_mk, cE_mk]
      simp [h]
    have r2 : resh (mkC 2 q y f) (mkC 1 p x e) = mkC 2 (q + 1) y f := by
      unfold resh
      simp only [cK_mk, cP_mk, cL_mk, cE_mk]
      by_cases h2 : p < q
      · simp [h2]
      · have a2 : p = q := by omega
        simp [a2]
    rw [r1, r2, ap_2, ap_1, ap_1, ap_2]
    exact List.insertIdx_eraseIdx_of_le hq (by omega)
theorem tp_DD {L : List Nat} {p q x y : Nat} {e f : Nat} : ap (ap L (mkC 2 q y f)) (resh (mkC 2 p x e) (mkC 2 q y f)) = ap (ap L (mkC 2 p x e)) (resh (mkC 2 q y f) (mkC 2 p x e)) := by
  have low : ∀ (p q x y e f : Nat), q < p → resh (mkC 2 p x e) (mkC 2 q y f) = mkC 2 (p - 1) x e ∧ resh (mkC 2 q y f) (mkC 2 p x e) = mkC 2 q y f := by
    intro p q x y e f h
    constructor
    · unfold resh
      simp only [cK_mk, cP_mk, cL_mk, cE_mk]
      simp [h]
    · unfold resh
      simp only [cK_mk, cP_mk, cL_mk, cE_mk]
      have a1 : ¬ p < q := by omega
      have a2 : ¬ p = q := by omega
      simp [a1, a2]
  rcases Nat.lt_trichotomy q p with h | h | h
  · obtain ⟨r1, r2⟩ := low p q x y e f h
    rw [r1, r2, ap_2, ap_2, ap_2, ap_2, del_del h]
  · subst h
    have r1 : ∀ x y e f : Nat, resh (mkC 2 q x e) (mkC 2 q y f) = mkC 0 q x e := by
      intro x y e f
      unfold resh
      simp only [cK_mk, cP_mk, cL_mk, cE_mk]
      simp
    rw [r1, r1, ap_0 rfl, ap_0 rfl, ap_2, ap_2]
  · obtain ⟨r1, r2⟩ := low q p y x f e h
    rw [r1, r2, ap_2, ap_2, ap_2, ap_2, del_del h]
theorem tp1 {L : List Nat} {a b : Ch} (ha : cK a ≤ 2) (hb : cK b ≤ 2) (fa : fitsC L.length a) (fb : fitsC L.length b) (he : cE a ≠ cE b) : ap (ap L b) (resh a b) = ap (ap L a) (resh b a) := by
  obtain ⟨k, p, x, e⟩ := a
  obtain ⟨j, q, y, f⟩ := b
  change k ≤ 2 at ha
  change j ≤ 2 at hb
  change e ≠ f at he
  obtain ⟨fa1, fa2⟩ := fa
  obtain ⟨fb1, fb2⟩ := fb
  change k = 1 → p ≤ L.length at fa1
  change k = 2 → p < L.length at fa2
  change j = 1 → q ≤ L.length at fb1
  change j = 2 → q < L.length at fb2
  have n1 : ∀ (c : Ch) (q y f : Nat), resh c (mkC 0 q y f) = c := by
    intro c q y f
    unfold resh
    simp only [cK_mk]
    simp
  have n2 : ∀ (c : Ch) (q y f : Nat), resh (mkC 0 q y f) c = mkC 0 q y f := by
    intro c q y f
    unfold resh
    simp only [cK_mk]
    simp
  show ap (ap L (mkC j q y f)) (resh (mkC k p x e) (mkC j q y f)) = ap (ap L (mkC k p x e)) (resh (mkC j q y f) (mkC k p x e))
  have hk : k = 0 ∨ k = 1 ∨ k = 2 := by omega
  have hj : j = 0 ∨ j = 1 ∨ j = 2 := by omega
  rcases hk with rfl | rfl | rfl
  · rw [n1, n2, ap_0 rfl, ap_0 rfl]
  · rcases hj with rfl | rfl | rfl
    · rw [n1, n2, ap_0 rfl, ap_0 rfl]
    · rcases Nat.lt_trichotomy q p with h | h | h
      · exact tp_II (fa1 rfl) (fb1 rfl) (Or.inl h)
      · by_cases h2 : f < e
        · exact tp_II (fa1 rfl) (fb1 rfl) (Or.inr ⟨h, h2⟩)
        · exact (tp_II (fb1 rfl) (fa1 rfl) (Or.inr ⟨h.symm, by omega⟩)).symm
      · exact (tp_II (fb1 rfl) (fa1 rfl) (Or.inl h)).symm
    · exact tp_ID (fa1 rfl) (fb2 rfl)
  · rcases hj with rfl | rfl | rfl
    · rw [n1, n2, ap_0 rfl, ap_0 rfl]
    · exact (tp_ID (fb1 rfl) (fa2 rfl)).symm
    · exact tp_DD
theorem passT_conv {k : Nat} : ∀ (ws : List Ch) (x : Ch) (L : List Nat), chain L.length ws → good x → fitsC L.length x → L.length + ws.length ≤ 78 → (∀ c ∈ ws, cE c = k) → cE x ≠ k → apl (ap L x) (passT ws x).1 = ap (apl L ws) (passT ws x).2
  | [], x, L, _, _, _, _, _, _ => rfl
  | w :: ws, x, L, hc, gx, fx, hn, hw, hx => by
    obtain ⟨gw, fw, hc2⟩ := hc
    rw [List.length_cons] at hn
    have e1 := hw w List.mem_cons_self
    have h2 := resh_ok gx gw fx fw (by omega)
    have h4 := aft_le L.length w
    have hl := ap_len fw
    have t := tp1 (L := L) gw.1 gx.1 fw fx (by rw [e1]; exact fun q => hx q.symm)
    have ih := passT_conv (k := k) ws (resh x w) (ap L w) (by rw [hl]; exact hc2) h2.1 (by rw [hl]; exact h2.2) (by omega) (fun c h => hw c (List.mem_cons_of_mem _ h)) (by rw [resh_E]; exact hx)
    rw [passT]
    show apl (ap (ap L x) (resh w x)) (passT ws (resh x w)).1 = ap (apl (ap L w) ws) (passT ws (resh x w)).2
    rw [t]; exact ih
/-- the copy is the text of what was heard, and behind it what waits -/
def conv (log : List Ch) (d : aE) : Prop := aCopy d = apl (apl [] (log.take (aHeard d))) (aWait d)
theorem conv_write {log : List Ch} {d : aE} (c : Ch) (h : conv log d) : conv log (sWrite d c) := by
  show ap (aCopy d) c = apl (apl [] (log.take (aHeard d))) (aWait d ++ [c])
  rw [apl_app, ← h]; rfl
theorem conv_keep {log : List Ch} {d : aE} (c : Ch) (h : conv log d) : conv log (sKeep d c) := h
theorem conv_ins {log : List Ch} {k : Nat} {d : aE} (p l : Nat) (h : conv log d) : conv log (sIns k d p l) := conv_keep _ (conv_write _ h)
theorem conv_del {log : List Ch} {k : Nat} {d : aE} (p : Nat) (h : conv log d) : conv log (sDel k d p) := conv_keep _ (conv_write _ h)
theorem conv_pop {log : List Ch} {d : aE} (h : conv log d) : conv log (popB d) := h
theorem conv_back {log : List Ch} {d : aE} (h : conv log d) : conv log (sBack d) := by
  unfold sBack
  split
  · exact conv_pop h
  · exact conv_write _ (conv_pop h)
theorem apl_take {log : List Ch} {h : Nat} {u : Ch} (hu : log[h]? = some u) : apl [] (log.take (h + 1)) = ap (apl [] (log.take h)) u := by
  obtain ⟨h1, rfl⟩ := List.getElem?_eq_some_iff.mp hu
  rw [← List.take_append_getElem h1, apl_app]; rfl
theorem apl_len0 {log : List Ch} (h : chain 0 log) (n : Nat) : (apl [] (log.take n)).length = lenC 0 (log.take n) := by
  refine apl_len _ [] ?_
  have e : log = log.take n ++ log.drop n := (List.take_append_drop n log).symm
  rw [e, chain_app] at h
  exact h.1
theorem conv_hear {k : Nat} {log : List Ch} {d : aE} (h : invE k log d) (hu : aHeard d < log.length) (hc : conv log d) : conv log (sHear k log d) := by
  have hbd := h.bound
  obtain ⟨h1, h2, h3, h4, h5, h6, h7, h8, h9, h10, h11, h12, h13⟩ := h
  have hu2 : log[aHeard d]? = some (nextU log d) := by
    unfold nextU
    rw [List.getD_eq_getElem?_getD, List.getElem?_eq_getElem hu]; rfl
  obtain ⟨gu, fu⟩ := chain_at h11 hu2
  have hdrop := outC_drop (w := nextU log d) hu2
  have htk := apl_take hu2
  have hl0 := apl_len0 h11 (aHeard d)
  generalize hue : nextU log d = u at *
  unfold sHear
  rw [hue]
  by_cases he : cE u = k
  · rw [if_pos he]
    rcases h10 with ⟨hw, w, ws, pre, post, e1, e2, e3, e4⟩ | ⟨hw, e⟩
    · cases pre with
      | cons a pre =>
        rw [hdrop] at e2
        injection e2 with e5 e6
        exact absurd (by rw [← e5]; exact he) (e3 a List.mem_cons_self)
      | nil =>
        rw [hdrop] at e2
        injection e2 with e5 e6
        have e7 : u = w := e5
        subst e7
        show aCopy d = apl (apl [] (log.take (aHeard d + 1))) ((aWait d).eraseIdx 0)
        rw [htk, hc, e1]; rfl
    · exact absurd he (e u (by rw [hdrop]; exact List.mem_cons_self))
  · rw [if_neg he]
    show ap (aCopy d) (passT (aWait d) u).2 = apl (apl [] (log.take (aHeard d + 1))) (passT (aWait d) u).1
    rw [htk, hc]
    refine (passT_conv (k := k) (aWait d) u _ ?_ gu ?_ ?_ h6 he).symm
    · rw [hl0]; exact h2
    · rw [hl0]; exact fu
    · rw [hl0]; omega
theorem conv_hearN {k : Nat} {log : List Ch} : ∀ (n : Nat) (d : aE), invE k log d → aHeard d + n ≤ log.length → conv log d → conv log (sHearN k log d n)
  | 0, d, _, _, hc => hc
  | n + 1, d, h, hn, hc => by
    obtain ⟨i1, i2, i3⟩ := inv_hear h (by omega)
    exact conv_hearN n _ i1 (by omega) (conv_hear h (by omega) hc)
theorem conv_hearAll {k : Nat} {log : List Ch} {d : aE} (h : invE k log d) (hc : conv log d) : conv log (sHearAll k log d) := conv_hearN _ d h (by have := h.1; omega) hc
/-! states -/
def convS (s : aS) : Prop := ∀ k, k < 3 → conv (sLog s) (sEd s k)
theorem convS0 : convS s0 := fun k _ => rfl
theorem convS_up {s : aS} {k : Nat} {d : aE} (h : convS s) (hd : conv (sLog s) d) : convS (upE s k d) := by
  intro j hj
  rw [upE_log]
  by_cases e : j = k
  · subst e; rw [upE_same]; exact hd
  · rw [upE_ne _ _ e]; exact h j hj
theorem convS_send {s : aS} {k : Nat} (iv : invS s) (h : convS s) : convS (sSend s k) := by
  have htk : ∀ n, n ≤ (sLog s).length → (sLog (sSend s k)).take n = (sLog s).take n := fun n hn => List.take_append_of_le_length hn
  intro j hj
  have h1 := (iv.1 j hj).1
  by_cases e : j = k
  · subst e
    rw [sSend_same]
    show aCopy (sEd s j) = apl (apl [] ((sLog (sSend s j)).take (aHeard (sEd s j)))) (aWait (sEd s j))
    rw [htk _ h1]; exact h j hj
  · rw [sSend_ne _ e]
    show aCopy (sEd s j) = apl (apl [] ((sLog (sSend s k)).take (aHeard (sEd s j)))) (aWait (sEd s j))
    rw [htk _ h1]; exact h j hj
theorem conv_opHearAll {k : Nat} {log : List Ch} {d : aE} (h : invE k log d) (hc : conv log d) : conv log (opHearAll k log d).2 := by
  unfold opHearAll
  split
  · exact hc
  · exact conv_hearAll h hc
theorem convS_hAll {s : aS} {k : Nat} (iv : invS s) (hk : k < 3) (h : convS s) : convS (hAll s k) := convS_up h (conv_opHearAll (iv.1 k hk) (h k hk))
theorem convS_turn {s : aS} {k : Nat} (iv : invS s) (hk : k < 3) (h : convS s) : convS (turnS s k) := by
  unfold turnS
  split
  next hc =>
    obtain ⟨hw, hy⟩ := canS_iff.mp hc
    exact convS_hAll (inv_send iv hk hw hy) hk (convS_send iv h)
  · exact convS_hAll iv hk h
theorem convS_drain {k : Nat} (hk : k < 3) : ∀ (n : Nat) (s : aS), invS s → convS s → convS (drain s k n)
  | 0, s, _, h => h
  | n + 1, s, iv, h => by
    rw [drain]
    split
    · exact h
    · exact convS_drain hk n _ (turn_ok iv hk).1 (convS_turn iv hk h)
theorem ordE_lt {b : Bool} {i : Nat} (hi : i < 3) : ordE b i < 3 := by unfold ordE; split <;> omega
theorem convS_endD {s : aS} {b : Bool} (iv : invS s) (h : convS s) : ∀ i, i ≤ 3 → convS (endD s b i)
  | 0, _ => h
  | i + 1, hi => convS_drain (ordE_lt (by omega)) 7 _ (endD_ok iv i (by omega)) (convS_endD iv h i (by omega))
theorem convS_endH {s : aS} (iv : invS s) (h : convS s) : ∀ i, i ≤ 3 → convS (endH s i)
  | 0, _ => h
  | i + 1, hi => convS_hAll (endH_ok iv i (by omega)).1 (by omega) (convS_endH iv h i (by omega))
theorem convS_end {s : aS} {b : Bool} (iv : invS s) (h : convS s) : convS (endS s b) := convS_endH (endD_ok iv 3 (by omega)) (convS_endD iv h 3 (by omega)) 3 (by omega)
/-! in the end nothing waits and all is heard -/
theorem turn_ne {s : aS} {k j : Nat} (h : j ≠ k) : sEd (turnS s k) j = sEd s j := by
  unfold turnS
  split
  · show sEd (upE _ k _) j = _
    rw [upE_ne _ _ h, sSend_ne _ h]
  · show sEd (upE _ k _) j = _
    rw [upE_ne _ _ h]
theorem drain_ne {k j : Nat} (h : j ≠ k) : ∀ (n : Nat) (s : aS), sEd (drain s k n) j = sEd s j
  | 0, _ => rfl
  | n + 1, s => by
    rw [drain]
    split
    · rfl
    · rw [drain_ne h n, turn_ne h]
theorem endD_wait {s : aS} {b : Bool} (iv : invS s) : ∀ i, i ≤ 3 → ∀ j, j < i → (aWait (sEd (endD s b i) (ordE b j))).length = 0
  | 0, _, j, hj => absurd hj (Nat.not_lt_zero _)
  | i + 1, hi, j, hj => by
    have h1 := endD_ok (b := b) iv i (by omega)
    have hk : ordE b i < 3 := ordE_lt (by omega)
    have h2 := wait_le h1 hk
    rw [endD]
    by_cases e : j = i
    · subst e; exact (drain_ok hk 7 _ h1 (by omega)).2.1
    · have hne : ordE b j ≠ ordE b i := by unfold ordE; split <;> omega
      rw [drain_ne hne]
      exact endD_wait iv i (by omega) j (by omega)
theorem endD_wait3 {s : aS} {b : Bool} (iv : invS s) {k : Nat} (hk : k < 3) : (aWait (sEd (endD s b 3) k)).length = 0 := by
  cases b with
  | false => exact endD_wait (b := false) iv 3 (by omega) k hk
  | true =>
    have := endD_wait (b := true) iv 3 (by omega) (2 - k) (by omega)
    have e : ordE true (2 - k) = k := by unfold ordE; rw [if_pos rfl]; omega
    rw [e] at this; exact this
theorem hAll_ne {s : aS} {k j : Nat} (h : j ≠ k) : sEd (hAll s k) j = sEd s j := upE_ne _ _ h
theorem hAll_settled {s : aS} {k : Nat} (iv : invS s) (hk : k < 3) (hw : (aWait (sEd s k)).length = 0) : settled (hAll s k) k := by
  obtain ⟨j1, j2, j3, j4⟩ := hAll_ok iv hk
  have h2 : aHeard (sEd (hAll s k) k) = (sLog (hAll s k)).length := by rw [j4]; exact j2
  have h3 := (way_done (j1.1 k hk) h2).2
  refine ⟨?_, h2⟩
  rw [← h3, j3]
  unfold pend
  omega
theorem endH_settled {s : aS} (iv : invS s) (hw : ∀ k, k < 3 → (aWait (sEd s k)).length = 0) : ∀ i, i ≤ 3 → (∀ k, k < 3 → (aWait (sEd (endH s i) k)).length = 0) ∧ ∀ j, j < i → settled (endH s i) j
  | 0, _ => ⟨hw, fun j hj => absurd hj (Nat.not_lt_zero _)⟩
  | i + 1, hi => by
    obtain ⟨h1, h2⟩ := endH_settled iv hw i (by omega)
    have iv1 := (endH_ok iv i (by omega)).1
    have hs := hAll_settled iv1 (k := i) (by omega) (h1 i (by omega))
    have hl := (hAll_ok iv1 (k := i) (by omega)).2.2.2
    rw [endH]
    refine ⟨fun k hk => ?_, fun j hj => ?_⟩
    · by_cases e : k = i
      · subst e; exact hs.1
      · rw [hAll_ne e]; exact h1 k hk
    · by_cases e : j = i
      · subst e; exact hs
      · have hj2 := h2 j (by omega)
        unfold settled at hj2 ⊢
        rw [hAll_ne e, hl]; exact hj2
theorem endS_settled {s : aS} {b : Bool} (iv : invS s) {k : Nat} (hk : k < 3) : settled (endS s b) k := (endH_settled (endD_ok iv 3 (by omega)) (fun k hk => endD_wait3 iv hk) 3 (by omega)).2 k hk
theorem endS_inv {s : aS} {b : Bool} (iv : invS s) : invS (endS s b) := (endH_ok (endD_ok iv 3 (by omega)) 3 (by omega)).1
theorem map_insIdx {α β : Type} (f : α → β) (a : α) : ∀ (L : List α) (i : Nat), (L.insertIdx i a).map f = (L.map f).insertIdx i (f a)
  | [], 0 => rfl
  | [], i + 1 => rfl
  | x :: L, 0 => rfl
  | x :: L, i + 1 => by
    rw [List.insertIdx_succ_cons, List.map_cons, List.map_cons, List.insertIdx_succ_cons, map_insIdx f a L i]
theorem map_eraIdx {α β : Type} (f : α → β) : ∀ (L : List α) (i : Nat), (L.eraseIdx i).map f = (L.map f).eraseIdx i
  | [], i => rfl
  | x :: L, 0 => rfl
  | x :: L, i + 1 => by
    show f x :: (L.eraseIdx i).map f = f x :: (L.map f).eraseIdx i
    rw [map_eraIdx f L i]
theorem map_tstep (T : List (Nat × Nat)) (c : Ch) : (tstep T c).map Prod.fst = ap (T.map Prod.fst) c := by
  unfold tstep ap applC
  split
  · exact map_insIdx _ _ _ _
  · split
    · exact map_eraIdx _ _ _
    · rfl
theorem map_tfold : ∀ (cs : List Ch) (T : List (Nat × Nat)), (cs.foldl tstep T).map Prod.fst = apl (T.map Prod.fst) cs
  | [], T => rfl
  | c :: cs, T => by
    show (cs.foldl tstep (tstep T c)).map Prod.fst = apl (ap (T.map Prod.fst) c) cs
    rw [map_tfold cs, map_tstep]
theorem txt_fst (log : List Ch) : (txt log).map Prod.fst = apl [] log := map_tfold log []
theorem txt_fL (log : List Ch) : (txt log).map fL = (apl [] log).map nI := by
  rw [← txt_fst, List.map_map]; rfl
theorem same_of {s : aS} {k : Nat} (h : convS s) (hk : k < 3) (hs : settled s k) : aCopy (sEd s k) = apl [] (sLog s) := by
  have h1 := h k hk
  unfold conv at h1
  rw [h1, hs.2, List.take_length, List.eq_nil_of_length_eq_zero hs.1]; rfl
theorem sameE_of {s : aS} {k : Nat} (h : convS s) (hk : k < 3) (hs : settled s k) : sameE s k := by
  unfold sameE
  rw [same_of h hk hs, txt_fL]
theorem end_same {s : aS} {b : Bool} (iv : invS s) (h : convS s) : allSame (endS s b) := fun _ hk => sameE_of (convS_end iv h) hk (endS_settled iv hk)
/-! nothing waits: the log stays in the end -/
theorem drain_log {k : Nat} (hk : k < 3) : ∀ (n : Nat) (s : aS), invS s → (∀ j, j < 3 → (aWait (sEd s j)).length = 0) → sLog (drain s k n) = sLog s ∧ ∀ j, j < 3 → (aWait (sEd (drain s k n) j)).length = 0
  | 0, s, _, hw => ⟨rfl, hw⟩
  | n + 1, s, iv, hw => by
    rw [drain]
    split
    · exact ⟨rfl, hw⟩
    · have hc : ¬ canS s k = true := fun q => (canS_iff.mp q).1 (hw k hk)
      have e : turnS s k = hAll s k := by unfold turnS; rw [if_neg hc]
      rw [e]
      obtain ⟨j1, j2, j3, j4⟩ := hAll_ok iv hk
      have hs := hAll_settled iv hk (hw k hk)
      obtain ⟨r1, r2⟩ := drain_log hk n (hAll s k) j1 (fun j hj => by
        by_cases q : j = k
        · subst q; exact hs.1
        · rw [hAll_ne q]; exact hw j hj)
      exact ⟨by rw [r1, j4], r2⟩
theorem endD_log {s : aS} {b : Bool} (iv : invS s) (hw : ∀ j, j < 3 → (aWait (sEd s j)).length = 0) : ∀ i, i ≤ 3 → sLog (endD s b i) = sLog s ∧ ∀ j, j < 3 → (aWait (sEd (endD s b i) j)).length = 0
  | 0, _ => ⟨rfl, hw⟩
  | i + 1, hi => by
    obtain ⟨h1, h2⟩ := endD_log (b := b) iv hw i (by omega)
    obtain ⟨r1, r2⟩ := drain_log (ordE_lt (b := b) (i := i) (by omega)) 7 _ (endD_ok (b := b) iv i (by omega)) h2
    rw [endD]
    exact ⟨by rw [r1, h1], r2⟩
theorem endS_log {s : aS} {b : Bool} (iv : invS s) (hw : ∀ j, j < 3 → (aWait (sEd s j)).length = 0) : sLog (endS s b) = sLog s := by
  have h1 := (endD_log (b := b) iv hw 3 (by omega)).1
  have h2 := (endH_ok (endD_ok (b := b) iv 3 (by omega)) 3 (by omega)).2
  unfold endS
  rw [h2, h1]
/-! calls keep it -/
theorem convS_op {s : aS} (ok : okS s) (h : convS s) (call number place sign : Int32) : convS (opAns s call number place sign).2 := by
  have hk := ixE_lt number
  have hI := ok.1.1 _ hk
  have hc := h _ hk
  unfold opAns
  generalize ixE number = k at *
  split
  · exact h
  split
  · refine convS_up h ?_
    unfold opMark
    split
    · exact hc
    · exact hc
  split
  · refine convS_up h ?_
    unfold opBack
    split
    · exact hc
    split
    · exact hc
    · exact conv_back hc
  split
  · refine convS_up h ?_
    unfold opDel
    split
    · exact hc
    split
    · exact hc
    · exact conv_del _ hc
  split
  · refine convS_up h ?_
    unfold opHear
    split
    · exact hc
    · exact conv_hear hI (by omega) hc
  split
  · refine convS_up h ?_
    unfold opIns
    split
    · exact hc
    split
    · exact hc
    · exact conv_ins _ _ hc
  split
  · unfold opSend
    split
    · split
      · exact h
      · exact convS_send ok.1 h
    · exact h
  · exact convS_up h (conv_opHearAll hI hc)
def okZ (y : aY) : Prop := okY y ∧ convS (yCur y) ∧ ∀ s ∈ yHist y, convS s
theorem okZ0 : okZ y0 := ⟨okY0, convS0, fun s h => (by cases h)⟩
theorem okZ_push {y : aY} {s : aS} (h : okZ y) (hs : okS s) (hc : convS s) : okZ (pushY y s) := by
  refine ⟨okY_push h.1 hs, hc, fun z hz => ?_⟩
  rcases List.mem_cons.mp (List.mem_of_mem_take hz) with rfl | q
  · exact h.2.1
  · exact h.2.2 z q
theorem okZ_rec {y : aY} (h : okZ y) (call a b c : Int32) : okZ (recY y call a b c).2 := by
  unfold recY
  split
  · exact h
  · exact okZ_push h (opAns_ok h.1.1 _ _ _ _) (convS_op h.1.1 h.2.1 _ _ _ _)
theorem okZ_undo {y : aY} (h : okZ y) : okZ (undoY y).2 := by
  refine ⟨undoY_ok h.1, ?_⟩
  have h3 := h.2.2
  unfold undoY
  cases hh : yHist y with
  | nil => exact h.2
  | cons s l =>
    rw [hh] at h3
    exact ⟨h3 s List.mem_cons_self, fun z hz => h3 z (List.mem_cons_of_mem _ hz)⟩
