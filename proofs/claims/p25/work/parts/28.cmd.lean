/-! texts of commands -/
def chA (cmds : List Nat) (i : Nat) : Nat := cmds.getD i 0
def isD (c : Nat) : Bool := decide (48 ≤ c) && decide (c ≤ 57)
theorem isD_iff {c : Nat} : isD c = true ↔ 48 ≤ c ∧ c ≤ 57 := by unfold isD; simp
def sepC (w : Nat) : Nat := if w = 0 then 59 else 44
def consN (x : Nat) (r : Option (List Nat × Nat)) : Option (List Nat × Nat) := r.map (fun q => (x :: q.1, q.2))
def rdN (cmds : List Nat) : Nat → Nat → Option (List Nat × Nat)
  | 0, next => some ([], next)
  | w + 1, next =>
    if isD (chA cmds next) = true then
      (if isD (chA cmds (next + 1)) = true then (if chA cmds (next + 2) = sepC w then consN ((chA cmds next - 48) * 10 + (chA cmds (next + 1) - 48)) (rdN cmds w (next + 3)) else none)
       else (if chA cmds (next + 1) = sepC w then consN (chA cmds next - 48) (rdN cmds w (next + 2)) else none))
    else none
def wantedOf (c : Nat) : Nat := if c = 98 then 1 else if c = 100 then 2 else if c = 104 then 1 else if c = 105 then 3 else if c = 115 then 1 else 0
def parseC (cmds : List Nat) (pos : Nat) : Option (List Nat × Nat) := if wantedOf (chA cmds pos) = 0 then none else rdN cmds (wantedOf (chA cmds pos)) (pos + 1)
def charOK (cmds : List Nat) : Prop := cmds.length ≤ 60 ∧ ∀ c ∈ cmds, c ≤ 126
theorem chA_le {cmds : List Nat} (h : charOK cmds) (i : Nat) : chA cmds i ≤ 126 := by
  unfold chA
  rw [List.getD_eq_getElem?_getD]
  cases hq : cmds[i]? with
  | none => exact Nat.zero_le _
  | some c => exact h.2 c (List.mem_of_getElem? hq)
theorem chA_lt {cmds : List Nat} {i : Nat} (h : chA cmds i ≠ 0) : i < cmds.length := by
  unfold chA at h
  rw [List.getD_eq_getElem?_getD] at h
  cases hq : cmds[i]? with
  | none => rw [hq] at h; exact absurd rfl h
  | some c => exact (List.getElem?_eq_some_iff.mp hq).1
theorem rdN_pos {cmds : List Nat} : ∀ (w next : Nat) (L : List Nat) (nx : Nat), rdN cmds w next = some (L, nx) → L.length = w ∧ next + w ≤ nx ∧ (0 < w → nx ≤ cmds.length) ∧ ∀ x ∈ L, x ≤ 99
  | 0, next, L, nx, h => by
    rw [rdN] at h
    cases h
    exact ⟨rfl, by omega, fun q => by omega, fun x hx => by cases hx⟩
  | w + 1, next, L, nx, h => by
    rw [rdN] at h
    have fin : ∀ (x j : Nat), next + 2 ≤ j → x ≤ 99 → chA cmds (j - 1) = sepC w → consN x (rdN cmds w j) = some (L, nx) → L.length = w + 1 ∧ next + (w + 1) ≤ nx ∧ (0 < w + 1 → nx ≤ cmds.length) ∧ ∀ x ∈ L, x ≤ 99 := by
      intro x j hj hx hs hc
      unfold consN at hc
      cases hr : rdN cmds w j with
      | none => rw [hr] at hc; cases hc
      | some q =>
        obtain ⟨L2, n2⟩ := q
        rw [hr] at hc
        simp only [Option.map_some, Option.some.injEq, Prod.mk.injEq] at hc
        obtain ⟨rfl, rfl⟩ := hc
        obtain ⟨r1, r2, r3, r4⟩ := rdN_pos w j L2 n2 hr
        refine ⟨by rw [List.length_cons, r1], by omega, fun _ => ?_, ?_⟩
        · by_cases hw : w = 0
          · subst hw
            rw [rdN] at hr
            cases hr
            have : j - 1 < cmds.length := chA_lt (by rw [hs]; decide)
            omega
          · exact r3 (by omega)
        · intro y hy
          rcases List.mem_cons.mp hy with rfl | h2
          · exact hx
          · exact r4 y h2
    split at h
    next d1 =>
      have e1 := isD_iff.mp d1
      split at h
      next d2 =>
        have e2 := isD_iff.mp d2
        split at h
        next s1 => exact fin _ (next + 3) (by omega) (by omega) s1 h
        next => cases h
      next =>
        split at h
        next s1 => exact fin _ (next + 2) (by omega) (by omega) s1 h
        next => cases h
    next => cases h
theorem wantedOf_le (c : Nat) : wantedOf c ≤ 3 := by unfold wantedOf; (repeat' split) <;> omega
theorem parse_pos {cmds : List Nat} {pos : Nat} {L : List Nat} {nx : Nat} (h : parseC cmds pos = some (L, nx)) : pos + 2 ≤ nx ∧ nx ≤ cmds.length ∧ L.length ≤ 3 ∧ (∀ x ∈ L, x ≤ 99) ∧ wantedOf (chA cmds pos) = L.length := by
  unfold parseC at h
  split at h
  · cases h
  · obtain ⟨r1, r2, r3, r4⟩ := rdN_pos _ _ _ _ h
    have := wantedOf_le (chA cmds pos)
    exact ⟨by omega, r3 (by omega), by omega, r4, r1.symm⟩
def opC (cmds : List Nat) (s : aS) (pos : Nat) (L : List Nat) : Int32 × aS := opAns s (nI (chA cmds pos)) (nI (L.getD 0 0)) (nI (L.getD 1 0)) (nI (L.getD 2 0))
abbrev RunR : Type := Nat × Nat × Int32 × Nat × aS
/-- the commands done, one behind the other -/
def runC (cmds : List Nat) : Nat → aS → Nat → Nat → RunR
  | 0, s, pos, dn => (0, pos, 0, dn, s)
  | n + 1, s, pos, dn => if cmds.length ≤ pos then (0, pos, 0, dn, s) else match parseC cmds pos with
    | none => (1, pos, 0, dn, s)
    | some q => if 0 ≤ (opC cmds s pos q.1).1 then runC cmds n (opC cmds s pos q.1).2 q.2 (dn + 1) else (2, pos, (opC cmds s pos q.1).1, dn, (opC cmds s pos q.1).2)
theorem runC_end {cmds : List Nat} {n : Nat} {s : aS} {pos dn : Nat} (h : cmds.length ≤ pos) : runC cmds n s pos dn = (0, pos, 0, dn, s) := by
  cases n with
  | zero => rfl
  | succ n => rw [runC, if_pos h]
theorem runC_none {cmds : List Nat} {n : Nat} {s : aS} {pos dn : Nat} (h : ¬ cmds.length ≤ pos) (hp : parseC cmds pos = none) : runC cmds (n + 1) s pos dn = (1, pos, 0, dn, s) := by
  rw [runC, if_neg h, hp]
theorem runC_some {cmds : List Nat} {n : Nat} {s : aS} {pos dn : Nat} {L : List Nat} {nx : Nat} (h : ¬ cmds.length ≤ pos) (hp : parseC cmds pos = some (L, nx)) (hr : 0 ≤ (opC cmds s pos L).1) : runC cmds (n + 1) s pos dn = runC cmds n (opC cmds s pos L).2 nx (dn + 1) := by
  rw [runC, if_neg h, hp]
  exact if_pos hr
theorem runC_err {cmds : List Nat} {n : Nat} {s : aS} {pos dn : Nat} {L : List Nat} {nx : Nat} (h : ¬ cmds.length ≤ pos) (hp : parseC cmds pos = some (L, nx)) (hr : ¬ 0 ≤ (opC cmds s pos L).1) : runC cmds (n + 1) s pos dn = (2, pos, (opC cmds s pos L).1, dn, (opC cmds s pos L).2) := by
  rw [runC, if_neg h, hp]
  exact if_neg hr
def runT (cmds : List Nat) (s : aS) : Nat × Nat × Int32 × Nat × aS := runC cmds 61 s 0 0
/-- a call keeps what holds -/
def okS (s : aS) : Prop := invS s ∧ (sLog s).length ≤ 60
theorem okS_up {s : aS} {k : Nat} {d : aE} (h : okS s) (hk : k < 3) (hd : invE k (sLog s) d) : okS (upE s k d) := ⟨invS_up h.1 hk hd (Or.inl h.2), h.2⟩
theorem okS_same {s : aS} {k : Nat} (h : okS s) (hk : k < 3) : okS (upE s k (sEd s k)) := okS_up h hk (h.1.1 k hk)
theorem opAns_ok {s : aS} (h : okS s) (call number place sign : Int32) : okS (opAns s call number place sign).2 := by
  have hk := ixE_lt number
  have hI := h.1.1 _ hk
  have hp := pend_le hI
  have hl := h.2
  have hbd := hI.bound
  unfold opAns
  generalize ixE number = k at *
  split
  · exact h
  split
  · show okS (upE s k (opMark (sEd s k) place).2)
    unfold opMark
    split
    · exact okS_same h hk
    · next hc =>
      obtain ⟨j, hj, rfl, hj2⟩ := Int32_of (fun q => hc (Or.inl q))
      rw [hj2]
      refine okS_up h hk (inv_mark hI ?_)
      have : ¬ nI (aCopy (sEd s k)).length < nI j := fun q => hc (Or.inr q)
      rw [nI_ltI (by omega) (by omega)] at this
      omega
  split
  · show okS (upE s k (opBack (sEd s k)).2)
    unfold opBack
    split
    · exact okS_same h hk
    split
    · exact okS_same h hk
    · next h1 h2 => exact okS_up h hk (inv_back hI h1 (by omega) (by omega)).1
  split
  · show okS (upE s k (opDel k (sEd s k) place).2)
    unfold opDel
    split
    · exact okS_same h hk
    split
    · exact okS_same h hk
    · next hc h2 =>
      obtain ⟨j, hj, rfl, hj2⟩ := Int32_of (fun q => hc (Or.inl q))
      show okS (upE s k (sDel k (sEd s k) (nI j).toNatClampNeg))
      rw [hj2]
      refine okS_up h hk (inv_del hI ?_ (by omega) (by omega)).1
      have : nI j < nI (aCopy (sEd s k)).length := Decidable.byContradiction (fun q => hc (Or.inr q))
      rw [nI_ltI (by omega) (by omega)] at this
      exact this
  split
  · show okS (upE s k (opHear k (sLog s) (sEd s k)).2)
    unfold opHear
    split
    · exact okS_same h hk
    · next hc => exact okS_up h hk (inv_hear hI (by omega)).1
  split
  · show okS (upE s k (opIns k (sEd s k) place sign).2)
    unfold opIns
    split
    · exact okS_same h hk
    split
    · exact okS_same h hk
    · next hc h2 =>
      obtain ⟨j, hj, rfl, hj2⟩ := Int32_of (fun q => hc (Or.inl q))
      obtain ⟨i, hi, rfl, hi2⟩ := Int32_of (fun q => hc (Or.inr (Or.inr (Or.inl q))))
      show okS (upE s k (sIns k (sEd s k) (nI j).toNatClampNeg (nI i).toNatClampNeg))
      rw [hj2, hi2]
      have h1 : ¬ nI (aCopy (sEd s k)).length < nI j := fun q => hc (Or.inr (Or.inl q))
      rw [nI_ltI (by omega) (by omega)] at h1
      have h3 : nI i < 26 := Decidable.byContradiction (fun q => hc (Or.inr (Or.inr (Or.inr q))))
      rw [li 26, nI_ltI (by omega) (by omega)] at h3
      exact okS_up h hk (inv_ins hI (by omega) h3 (by omega) (by omega) (by omega)).1
  split
  · unfold opSend
    split
    · split
      · exact h
      · next hc h2 =>
        obtain ⟨cw, cy⟩ := canS_iff.mp hc
        refine ⟨inv_send h.1 hk cw cy, ?_⟩
        show (sLog s ++ [_]).length ≤ 60
        rw [List.length_append]
        show _ + 1 ≤ 60
        omega
    · exact h
  · obtain ⟨j1, j2, j3, j4⟩ := hAll_ok h.1 hk
    exact ⟨j1, h.2⟩
theorem opC_ok {cmds : List Nat} {s : aS} {pos : Nat} {L : List Nat} (h : okS s) : okS (opC cmds s pos L).2 := opAns_ok h _ _ _ _
theorem runC_ok {cmds : List Nat} : ∀ (n : Nat) (s : aS) (pos dn : Nat), okS s → okS (runC cmds n s pos dn).2.2.2.2
  | 0, s, pos, dn, h => h
  | n + 1, s, pos, dn, h => by
    by_cases hl : cmds.length ≤ pos
    · rw [runC_end hl]; exact h
    · cases hp : parseC cmds pos with
      | none => rw [runC_none hl hp]; exact h
      | some q =>
        obtain ⟨L, nx⟩ := q
        by_cases hr : 0 ≤ (opC cmds s pos L).1
        · rw [runC_some hl hp hr]; exact runC_ok n _ nx (dn + 1) (opC_ok h)
        · rw [runC_err hl hp hr]; exact opC_ok h
theorem runC_le {cmds : List Nat} (hc : charOK cmds) : ∀ (n : Nat) (s : aS) (pos dn : Nat), pos ≤ cmds.length → dn ≤ pos → (runC cmds n s pos dn).2.1 ≤ 60 ∧ (runC cmds n s pos dn).2.2.2.1 ≤ 60 ∧ (runC cmds n s pos dn).1 ≤ 2
  | 0, s, pos, dn, h, h2 => by have := hc.1; exact ⟨by show pos ≤ 60; omega, by show dn ≤ 60; omega, by show 0 ≤ 2; omega⟩
  | n + 1, s, pos, dn, h, h2 => by
    have h3 := hc.1
    by_cases hl : cmds.length ≤ pos
    · rw [runC_end hl]; exact ⟨by show pos ≤ 60; omega, by show dn ≤ 60; omega, by show 0 ≤ 2; omega⟩
    · cases hp : parseC cmds pos with
      | none => rw [runC_none hl hp]; exact ⟨by show pos ≤ 60; omega, by show dn ≤ 60; omega, by show 1 ≤ 2; omega⟩
      | some q =>
        obtain ⟨L, nx⟩ := q
        obtain ⟨p1, p2, -⟩ := parse_pos hp
        by_cases hr : 0 ≤ (opC cmds s pos L).1
        · rw [runC_some hl hp hr]; exact runC_le hc n _ nx (dn + 1) p2 (by omega)
        · rw [runC_err hl hp hr]; exact ⟨by show pos ≤ 60; omega, by show dn ≤ 60; omega, by show 2 ≤ 2; omega⟩
