/-! a state: the log and three editors -/
abbrev aS : Type := List Ch × (Nat → aE)
def sLog (s : aS) : List Ch := s.1
def sEd (s : aS) (k : Nat) : aE := s.2 k
def upE (s : aS) (k : Nat) (d : aE) : aS := (s.1, va_up s.2 k d)
theorem upE_log (s : aS) (k : Nat) (d : aE) : sLog (upE s k d) = sLog s := rfl
theorem upE_same (s : aS) (k : Nat) (d : aE) : sEd (upE s k d) k = d := by show va_up s.2 k d k = d; simp [va_up]
theorem upE_ne (s : aS) {k j : Nat} (d : aE) (h : j ≠ k) : sEd (upE s k d) j = sEd s j := by show va_up s.2 k d j = s.2 j; simp [va_up, h]
/-- the text that a log makes: letters, and who put them in -/
def tstep (T : List (Nat × Nat)) (c : Ch) : List (Nat × Nat) := applC (cL c, cE c) T c
def txt (log : List Ch) : List (Nat × Nat) := log.foldl tstep []
theorem txt_snoc (log : List Ch) (c : Ch) : txt (log ++ [c]) = tstep (txt log) c := by
  unfold txt; rw [List.foldl_append]; rfl
theorem txt_len_aux : ∀ (cs : List Ch) (T : List (Nat × Nat)), chain T.length cs → (cs.foldl tstep T).length = lenC T.length cs
  | [], T, _ => rfl
  | c :: cs, T, h => by
    have h1 : (tstep T c).length = aft T.length c := applC_len h.2.1
    show (cs.foldl tstep (tstep T c)).length = lenC (aft T.length c) cs
    rw [← h1]
    exact txt_len_aux cs _ (by rw [h1]; exact h.2.2)
theorem txt_len {log : List Ch} (h : chain 0 log) : (txt log).length = lenC 0 log := txt_len_aux log [] h
def invS (s : aS) : Prop := (∀ k, k < 3 → invE k (sLog s) (sEd s k)) ∧ (sLog s).length + (pend (sEd s 0) + pend (sEd s 1) + pend (sEd s 2)) ≤ 78
def s0 : aS := ([], fun _ => d0)
theorem invS0 : invS s0 := ⟨fun k hk => invE0 k hk, by decide⟩
theorem k3 {P : Nat → Prop} (h0 : P 0) (h1 : P 1) (h2 : P 2) : ∀ k, k < 3 → P k := fun k hk => co_3 h0 h1 h2 hk
theorem pend_le {k : Nat} {log : List Ch} {d : aE} (h : invE k log d) : pend d ≤ 6 := by
  have := h.2.2.2.2.2.2.1
  unfold pend; omega
/-- an editor changes, the log stays -/
theorem invS_up {s : aS} {k : Nat} {d : aE} (h : invS s) (hk : k < 3) (hd : invE k (sLog s) d) (ht : (sLog s).length ≤ 60 ∨ pend d = pend (sEd s k)) : invS (upE s k d) := by
  have hj : ∀ j, j < 3 → invE j (sLog (upE s k d)) (sEd (upE s k d) j) := by
    intro j hj
    rw [upE_log]
    by_cases e : j = k
    · subst e; rw [upE_same]; exact hd
    · rw [upE_ne _ _ e]; exact h.1 j hj
  refine ⟨hj, ?_⟩
  have p0 := pend_le (hj 0 (by omega))
  have p1 := pend_le (hj 1 (by omega))
  have p2 := pend_le (hj 2 (by omega))
  rw [upE_log]
  rcases ht with ht | ht
  · omega
  · have e0 : ∀ j, pend (sEd (upE s k d) j) = pend (sEd s j) := by
      intro j
      by_cases e : j = k
      · subst e; rw [upE_same]; exact ht
      · rw [upE_ne _ _ e]
    rw [e0, e0, e0]; exact h.2
def outS (s : aS) (k : Nat) : Ch := outC (firstW (sEd s k)) ((sLog s).drop (aHeard (sEd s k)))
def sSend (s : aS) (k : Nat) : aS := (sLog s ++ [outS s k], va_up s.2 k (sSent (sEd s k)))
theorem sSend_same (s : aS) (k : Nat) : sEd (sSend s k) k = sSent (sEd s k) := by show va_up s.2 k _ k = _; simp [va_up]
theorem sSend_ne (s : aS) {k j : Nat} (h : j ≠ k) : sEd (sSend s k) j = sEd s j := by show va_up s.2 k _ j = s.2 j; simp [va_up, h]
theorem outS_ok {s : aS} {k : Nat} (h : invE k (sLog s) (sEd s k)) (hw : (aWait (sEd s k)).length ≠ 0) (hl : (sLog s).length ≤ 78) : good (outS s k) ∧ fitsC (lenC 0 (sLog s)) (outS s k) ∧ cE (outS s k) = k := by
  have hbd := h.bound
  obtain ⟨i1, i2, i3, i4, i5, i6, i7, i8, i9, i10, i11, i12, i13⟩ := h
  obtain ⟨w, ws, hws⟩ : ∃ w ws, aWait (sEd s k) = w :: ws := by
    cases hh : aWait (sEd s k) with
    | nil => rw [hh] at hw; exact absurd rfl hw
    | cons a b => exact ⟨a, b, rfl⟩
  have hfw : firstW (sEd s k) = w := by unfold firstW; rw [hws]; rfl
  rw [hws] at i2
  have e : (sLog s) = (sLog s).take (aHeard (sEd s k)) ++ (sLog s).drop (aHeard (sEd s k)) := (List.take_append_drop _ _).symm
  have hch := i11
  rw [e, chain_app] at hch
  have h1 := outC_ok _ w _ hch.2 i2.1 i2.2.1 (by rw [List.length_drop]; omega)
  rw [← lenC_app, ← e] at h1
  unfold outS
  rw [hfw]
  exact ⟨h1.1, h1.2, by rw [outC_E]; exact i6 w (by rw [hws]; exact List.mem_cons_self)⟩
theorem pend_sent {s : aS} {k : Nat} (hw : (aWait (sEd s k)).length ≠ 0) (hy : aWay (sEd s k) = false) : pend (sEd (sSend s k) k) + 1 = pend (sEd s k) := by
  rw [sSend_same]
  show (aWait (sEd s k)).length - 1 + 1 = (aWait (sEd s k)).length - (if aWay (sEd s k) = true then 1 else 0)
  rw [hy]
  show _ = (aWait (sEd s k)).length - 0
  omega
theorem inv_send {s : aS} {k : Nat} (h : invS s) (hk : k < 3) (hw : (aWait (sEd s k)).length ≠ 0) (hy : aWay (sEd s k) = false) : invS (sSend s k) := by
  have hlog : (sLog s).length ≤ 78 := by have := h.2; omega
  have hk1 := h.1 k hk
  obtain ⟨go, fo, eo⟩ := outS_ok hk1 hw hlog
  have hps := pend_sent hw hy
  have hpn : ∀ j, j ≠ k → pend (sEd (sSend s k) j) = pend (sEd s j) := fun j hj => by rw [sSend_ne _ hj]
  have hlen : (sLog (sSend s k)).length = (sLog s).length + 1 := by show (sLog s ++ [_]).length = _; rw [List.length_append]; rfl
  have htot : (sLog (sSend s k)).length + (pend (sEd (sSend s k) 0) + pend (sEd (sSend s k) 1) + pend (sEd (sSend s k) 2)) ≤ 78 := by
    rw [hlen]
    have h2 := h.2
    have hc : k = 0 ∨ k = 1 ∨ k = 2 := by omega
    rcases hc with rfl | rfl | rfl
    · have := hpn 1 (by omega); have := hpn 2 (by omega); omega
    · have := hpn 0 (by omega); have := hpn 2 (by omega); omega
    · have := hpn 0 (by omega); have := hpn 1 (by omega); omega
  refine ⟨fun j hj => ?_, htot⟩
  have hpj : (sLog (sSend s k)).length + pend (sEd (sSend s k) j) ≤ 78 := by
    have hc : j = 0 ∨ j = 1 ∨ j = 2 := by omega
    rcases hc with rfl | rfl | rfl <;> omega
  have hch : chain 0 (sLog s ++ [outS s k]) := by
    rw [chain_app]
    exact ⟨hk1.2.2.2.2.2.2.2.2.2.2.1, go, fo, trivial⟩
  have htk : ∀ n, n ≤ (sLog s).length → (sLog s ++ [outS s k]).take n = (sLog s).take n := fun n hn => List.take_append_of_le_length hn
  have hdr : ∀ n, n ≤ (sLog s).length → (sLog s ++ [outS s k]).drop n = (sLog s).drop n ++ [outS s k] := fun n hn => List.drop_append_of_le_length hn
  by_cases e : j = k
  · subst e
    rw [sSend_same] at hpj ⊢
    obtain ⟨i1, i2, i3, i4, i5, i6, i7, i8, i9, i10, i11, i12, i13⟩ := hk1
    refine ⟨?_, ?_, ?_, i4, i5, i6, i7, i8, i9, ?_, hch, hpj, i13⟩
    · show aHeard (sEd s j) ≤ (sLog (sSend s j)).length
      rw [hlen]; omega
    · show chain (lenC 0 ((sLog s ++ [outS s j]).take (aHeard (sEd s j)))) (aWait (sEd s j))
      rw [htk _ i1]; exact i2
    · show _ = lenC (lenC 0 ((sLog s ++ [outS s j]).take (aHeard (sEd s j)))) (aWait (sEd s j))
      rw [htk _ i1]; exact i3
    · show wayOK j ((sLog s ++ [outS s j]).drop (aHeard (sEd s j))) _
      rw [hdr _ i1]
      obtain ⟨w, ws, hws⟩ : ∃ w ws, aWait (sEd s j) = w :: ws := by
        cases hh : aWait (sEd s j) with
        | nil => rw [hh] at hw; exact absurd rfl hw
        | cons a b => exact ⟨a, b, rfl⟩
      rcases i10 with ⟨hy2, -⟩ | ⟨-, hno⟩
      · rw [hy] at hy2; exact absurd hy2 (by decide)
      · refine Or.inl ⟨rfl, w, ws, (sLog s).drop (aHeard (sEd s j)), [], hws, ?_, hno, fun c hc => (by cases hc)⟩
        show _ ++ [outS s j] = _ ++ [outC w _]
        unfold outS firstW
        rw [hws]; rfl
  · rw [sSend_ne _ e] at hpj ⊢
    obtain ⟨i1, i2, i3, i4, i5, i6, i7, i8, i9, i10, i11, i12, i13⟩ := h.1 j hj
    refine ⟨?_, ?_, ?_, i4, i5, i6, i7, i8, i9, ?_, hch, hpj, i13⟩
    · rw [hlen]; omega
    · show chain (lenC 0 ((sLog s ++ [outS s k]).take (aHeard (sEd s j)))) (aWait (sEd s j))
      rw [htk _ i1]; exact i2
    · show _ = lenC (lenC 0 ((sLog s ++ [outS s k]).take (aHeard (sEd s j)))) (aWait (sEd s j))
      rw [htk _ i1]; exact i3
    · show wayOK j ((sLog s ++ [outS s k]).drop (aHeard (sEd s j))) _
      rw [hdr _ i1]
      rcases i10 with ⟨hy2, w, ws, pre, post, e1, e2, e3, e4⟩ | ⟨hy2, hno⟩
      · refine Or.inl ⟨hy2, w, ws, pre, post ++ [outS s k], e1, ?_, e3, ?_⟩
        · rw [e2, List.append_assoc]; rfl
        · intro c hc
          rcases List.mem_append.mp hc with h | h
          · exact e4 c h
          · rw [List.mem_singleton.mp h, eo]; omega
      · refine Or.inr ⟨hy2, fun c hc => ?_⟩
        rcases List.mem_append.mp hc with h | h
        · exact hno c h
        · rw [List.mem_singleton.mp h, eo]; omega
/-- all is heard: nothing is under way -/
theorem way_done {k : Nat} {log : List Ch} {d : aE} (h : invE k log d) (hh : aHeard d = log.length) : aWay d = false ∧ pend d = (aWait d).length := by
  have h10 := h.2.2.2.2.2.2.2.2.2.1
  rw [hh, List.drop_length] at h10
  rcases h10 with ⟨hy, w, ws, pre, post, e1, e2, -, -⟩ | ⟨hy, -⟩
  · have := congrArg List.length e2
    rw [List.length_append, List.length_cons] at this
    simp at this
  · refine ⟨hy, ?_⟩
    unfold pend
    rw [hy]; rfl
def hAll (s : aS) (k : Nat) : aS := upE s k (opHearAll k (sLog s) (sEd s k)).2
theorem hAll_ok {s : aS} {k : Nat} (h : invS s) (hk : k < 3) : invS (hAll s k) ∧ aHeard (sEd (hAll s k) k) = (sLog s).length ∧ pend (sEd (hAll s k) k) = pend (sEd s k) ∧ sLog (hAll s k) = sLog s := by
  have h1 := h.1 k hk
  have h0 := h1.1
  have e : sEd (hAll s k) k = (opHearAll k (sLog s) (sEd s k)).2 := upE_same _ _ _
  by_cases hc : (sLog s).length ≤ aHeard (sEd s k)
  · have e2 : (opHearAll k (sLog s) (sEd s k)).2 = sEd s k := by unfold opHearAll; rw [if_pos hc]
    rw [e, e2]
    refine ⟨?_, by omega, rfl, rfl⟩
    unfold hAll
    rw [e2]
    exact invS_up h hk h1 (Or.inr rfl)
  · have e2 : (opHearAll k (sLog s) (sEd s k)).2 = sHearAll k (sLog s) (sEd s k) := by unfold opHearAll; rw [if_neg hc]
    obtain ⟨j1, j2, j3⟩ := inv_hearAll h1
    rw [e, e2]
    refine ⟨?_, j3, j2, rfl⟩
    unfold hAll
    rw [e2]
    exact invS_up h hk j1 (Or.inr j2)
def settled (s : aS) (k : Nat) : Prop := (aWait (sEd s k)).length = 0 ∧ aHeard (sEd s k) = (sLog s).length
def canS (s : aS) (k : Nat) : Bool := decide ((aWait (sEd s k)).length ≠ 0) && !(aWay (sEd s k))
theorem canS_iff {s : aS} {k : Nat} : canS s k = true ↔ (aWait (sEd s k)).length ≠ 0 ∧ aWay (sEd s k) = false := by
  unfold canS; simp
def turnS (s : aS) (k : Nat) : aS := if canS s k = true then hAll (sSend s k) k else hAll s k
theorem turn_ok {s : aS} {k : Nat} (h : invS s) (hk : k < 3) : invS (turnS s k) ∧ aHeard (sEd (turnS s k) k) = (sLog (turnS s k)).length ∧ (aWait (sEd (turnS s k) k)).length = (aWait (sEd s k)).length - 1 := by
  unfold turnS
  by_cases hc : canS s k = true
  · rw [if_pos hc]
    obtain ⟨hw, hy⟩ := canS_iff.mp hc
    obtain ⟨j1, j2, j3, j4⟩ := hAll_ok (inv_send h hk hw hy) hk
    refine ⟨j1, by rw [j4]; exact j2, ?_⟩
    have := (way_done (j1.1 k hk) (by rw [j4]; exact j2)).2
    have h3 := pend_sent hw hy
    have h4 : pend (sEd s k) = (aWait (sEd s k)).length := by unfold pend; rw [hy]; rfl
    omega
  · rw [if_neg hc]
    obtain ⟨j1, j2, j3, j4⟩ := hAll_ok h hk
    refine ⟨j1, by rw [j4]; exact j2, ?_⟩
    have := (way_done (j1.1 k hk) (by rw [j4]; exact j2)).2
    have h5 : ¬ ((aWait (sEd s k)).length ≠ 0 ∧ aWay (sEd s k) = false) := fun q => hc (canS_iff.mpr q)
    have h4 : pend (sEd s k) = (aWait (sEd s k)).length - 1 := by
      unfold pend
      cases hy : aWay (sEd s k) with
      | true => rfl
      | false =>
        have : (aWait (sEd s k)).length = 0 := by
          by_cases q : (aWait (sEd s k)).length = 0
          · exact q
          · exact absurd ⟨q, hy⟩ h5
        rw [this]; rfl
    omega
def decSettled (s : aS) (k : Nat) : Bool := decide ((aWait (sEd s k)).length = 0) && decide (aHeard (sEd s k) = (sLog s).length)
theorem decSettled_iff {s : aS} {k : Nat} : decSettled s k = true ↔ settled s k := by
  unfold decSettled settled; simp
/-- turn by turn until nothing waits and all is heard -/
def drain (s : aS) (k : Nat) : Nat → aS
  | 0 => s
  | n + 1 => if decSettled s k = true then s else drain (turnS s k) k n
theorem drain_settled {k : Nat} (n : Nat) {s : aS} (h : settled s k) : drain s k n = s := by
  cases n with
  | zero => rfl
  | succ n => rw [drain, if_pos (decSettled_iff.mpr h)]
theorem drain_ok {k : Nat} (hk : k < 3) : ∀ (n : Nat) (s : aS), invS s → (aWait (sEd s k)).length < n → invS (drain s k n) ∧ settled (drain s k n) k
  | 0, s, _, hn => absurd hn (Nat.not_lt_zero _)
  | n + 1, s, h, hn => by
    rw [drain]
    by_cases hs : decSettled s k = true
    · rw [if_pos hs]; exact ⟨h, decSettled_iff.mp hs⟩
    · rw [if_neg hs]
      obtain ⟨j1, j2, j3⟩ := turn_ok h hk
      by_cases hw : (aWait (sEd s k)).length = 0
      · have hst : settled (turnS s k) k := ⟨by rw [j3, hw], j2⟩
        rw [drain_settled n hst]
        exact ⟨j1, hst⟩
      · exact drain_ok hk n _ j1 (by rw [j3]; omega)
theorem wait_le {s : aS} {k : Nat} (h : invS s) (hk : k < 3) : (aWait (sEd s k)).length ≤ 6 := (h.1 k hk).2.2.2.2.2.2.1
def ordE (b : Bool) (i : Nat) : Nat := if b = true then 2 - i else i
def endD (s : aS) (b : Bool) : Nat → aS
  | 0 => s
  | i + 1 => drain (endD s b i) (ordE b i) 7
def endH (s : aS) : Nat → aS
  | 0 => s
  | i + 1 => hAll (endH s i) i
def endS (s : aS) (b : Bool) : aS := endH (endD s b 3) 3
theorem endD_ok {s : aS} {b : Bool} (h : invS s) : ∀ i, i ≤ 3 → invS (endD s b i)
  | 0, _ => h
  | i + 1, hi => by
    have h1 := endD_ok (b := b) h i (by omega)
    have hk : ordE b i < 3 := by unfold ordE; split <;> omega
    have h2 := wait_le h1 hk
    exact (drain_ok hk 7 _ h1 (by omega)).1
theorem endH_ok {s : aS} (h : invS s) : ∀ i, i ≤ 3 → invS (endH s i) ∧ sLog (endH s i) = sLog s
  | 0, _ => ⟨h, rfl⟩
  | i + 1, hi => by
    obtain ⟨h1, h2⟩ := endH_ok h i (by omega)
    obtain ⟨j1, j2, j3, j4⟩ := hAll_ok h1 (k := i) (by omega)
    exact ⟨j1, by rw [endH, j4, h2]⟩
