/-! what a state is: changes, editors, the log; and what keeps places in range -/
abbrev Ch : Type := Nat × Nat × Nat × Nat
def cK (c : Ch) : Nat := c.1
def cP (c : Ch) : Nat := c.2.1
def cL (c : Ch) : Nat := c.2.2.1
def cE (c : Ch) : Nat := c.2.2.2
def mkC (k p l e : Nat) : Ch := (k, p, l, e)
theorem cK_mk (k p l e : Nat) : cK (mkC k p l e) = k := rfl
theorem cP_mk (k p l e : Nat) : cP (mkC k p l e) = p := rfl
theorem cL_mk (k p l e : Nat) : cL (mkC k p l e) = l := rfl
theorem cE_mk (k p l e : Nat) : cE (mkC k p l e) = e := rfl
def resh (a b : Ch) : Ch :=
  if cK a = 0 then a else if cK b = 0 then a
  else if cK b = 1 then (if cP b < cP a then mkC (cK a) (cP a + 1) (cL a) (cE a) else if cP b = cP a then (if cK a = 2 then mkC (cK a) (cP a + 1) (cL a) (cE a) else if cE b < cE a then mkC (cK a) (cP a + 1) (cL a) (cE a) else a) else a)
  else if cP b < cP a then mkC (cK a) (cP a - 1) (cL a) (cE a)
  else if cP b = cP a then (if cK a = 2 then mkC 0 (cP a) (cL a) (cE a) else a) else a
def good (c : Ch) : Prop := cK c ≤ 2 ∧ cL c < 26 ∧ cE c < 3 ∧ cP c ≤ 80 ∧ (cK c = 2 → cL c = 0)
def fitsC (n : Nat) (c : Ch) : Prop := (cK c = 1 → cP c ≤ n) ∧ (cK c = 2 → cP c < n)
def aft (n : Nat) (c : Ch) : Nat := if cK c = 1 then n + 1 else if cK c = 2 then n - 1 else n
theorem resh_E (a b : Ch) : cE (resh a b) = cE a := by
  unfold resh
  repeat' split
  all_goals rfl
theorem resh_ok {n : Nat} {a b : Ch} (ga : good a) (gb : good b) (fa : fitsC n a) (fb : fitsC n b) (hn : n ≤ 78) : good (resh a b) ∧ fitsC (aft n b) (resh a b) := by
  obtain ⟨a1, a2, a3, a4, a5⟩ := ga
  obtain ⟨b1, b2, b3, b4, b5⟩ := gb
  obtain ⟨a6, a7⟩ := fa
  obtain ⟨b6, b7⟩ := fb
  unfold resh aft
  repeat' split
  all_goals (unfold good fitsC; (try simp only [cK_mk, cP_mk, cL_mk, cE_mk]); refine ⟨⟨?_, ?_, ?_, ?_, ?_⟩, ?_, ?_⟩ <;> omega)
theorem resh_K {a b : Ch} (ha : cK a ≤ 2) (hb : cK b ≤ 2) : cK (resh a b) = if cK a = 2 ∧ cK b = 2 ∧ cP b = cP a then 0 else cK a := by
  unfold resh
  by_cases h : cK a = 2 ∧ cK b = 2 ∧ cP b = cP a
  · rw [if_pos h, if_neg (by omega), if_neg (by omega), if_neg (by omega), if_neg (by omega), if_pos h.2.2, if_pos h.1]; rfl
  · rw [if_neg h]
    repeat' split
    all_goals (try simp only [cK_mk]) <;> omega
theorem resh_len {n : Nat} {a b : Ch} (ga : cK a ≤ 2) (gb : cK b ≤ 2) (fa : fitsC n a) (fb : fitsC n b) : aft (aft n b) (resh a b) = aft (aft n a) (resh b a) := by
  obtain ⟨a6, a7⟩ := fa
  obtain ⟨b6, b7⟩ := fb
  have h1 := resh_K ga gb
  have h2 := resh_K gb ga
  generalize resh a b = x at h1 ⊢
  generalize resh b a = y at h2 ⊢
  have ka : cK a = 0 ∨ cK a = 1 ∨ cK a = 2 := by omega
  have kb : cK b = 0 ∨ cK b = 1 ∨ cK b = 2 := by omega
  unfold aft
  split at h1 <;> split at h2 <;> (rw [h1, h2]) <;> (repeat' split) <;> omega
def lenC (n : Nat) (cs : List Ch) : Nat := cs.foldl aft n
def chain : Nat → List Ch → Prop
  | _, [] => True
  | n, c :: cs => good c ∧ fitsC n c ∧ chain (aft n c) cs
theorem aft_le (n : Nat) (c : Ch) : aft n c ≤ n + 1 := by
  unfold aft; (repeat' split) <;> omega
theorem lenC_nil (n : Nat) : lenC n [] = n := rfl
theorem lenC_cons (n : Nat) (c : Ch) (cs : List Ch) : lenC n (c :: cs) = lenC (aft n c) cs := rfl
theorem lenC_app (n : Nat) (a b : List Ch) : lenC n (a ++ b) = lenC (lenC n a) b := List.foldl_append
theorem lenC_le : ∀ (cs : List Ch) (n : Nat), lenC n cs ≤ n + cs.length
  | [], n => Nat.le_refl _
  | c :: cs, n => by
    have h := lenC_le cs (aft n c)
    have h2 := aft_le n c
    rw [lenC_cons, List.length_cons]; omega
theorem chain_app : ∀ (a b : List Ch) (n : Nat), chain n (a ++ b) ↔ chain n a ∧ chain (lenC n a) b
  | [], b, n => by simp [chain, lenC]
  | c :: a, b, n => by
    rw [List.cons_append, chain, chain, chain_app a b, lenC_cons]
    constructor
    · rintro ⟨h1, h2, h3, h4⟩; exact ⟨⟨h1, h2, h3⟩, h4⟩
    · rintro ⟨⟨h1, h2, h3⟩, h4⟩; exact ⟨h1, h2, h3, h4⟩
theorem chain_good : ∀ (cs : List Ch) (n : Nat), chain n cs → ∀ c ∈ cs, good c
  | [], _, _, c, h => by cases h
  | d :: cs, n, h, c, hc => by
    rcases List.mem_cons.mp hc with rfl | h2
    · exact h.1
    · exact chain_good cs _ h.2.2 c h2
/-- a change that is heard goes through the row of those that wait -/
def passT : List Ch → Ch → List Ch × Ch
  | [], x => ([], x)
  | w :: ws, x => (resh w x :: (passT ws (resh x w)).1, (passT ws (resh x w)).2)
theorem passT_len : ∀ (ws : List Ch) (x : Ch), (passT ws x).1.length = ws.length
  | [], _ => rfl
  | w :: ws, x => by rw [passT, List.length_cons, passT_len ws, List.length_cons]
theorem passT_E : ∀ (ws : List Ch) (x : Ch), cE (passT ws x).2 = cE x
  | [], _ => rfl
  | w :: ws, x => by rw [passT]; show cE (passT ws (resh x w)).2 = _; rw [passT_E ws, resh_E]
theorem passT_mE {k : Nat} : ∀ (ws : List Ch) (x : Ch), (∀ c ∈ ws, cE c = k) → ∀ c ∈ (passT ws x).1, cE c = k
  | [], _, _, c, h => by cases h
  | w :: ws, x, hw, c, hc => by
    rw [passT] at hc
    rcases List.mem_cons.mp hc with rfl | h2
    · rw [resh_E]; exact hw w List.mem_cons_self
    · exact passT_mE ws _ (fun c h => hw c (List.mem_cons_of_mem _ h)) c h2
theorem passT_ok : ∀ (ws : List Ch) (x : Ch) (n : Nat), chain n ws → good x → fitsC n x → n + ws.length ≤ 78 → chain (aft n x) (passT ws x).1 ∧ good (passT ws x).2 ∧ fitsC (lenC n ws) (passT ws x).2 ∧ lenC (aft n x) (passT ws x).1 = aft (lenC n ws) (passT ws x).2
  | [], x, n, _, gx, fx, _ => ⟨trivial, gx, fx, rfl⟩
  | w :: ws, x, n, hc, gx, fx, hn => by
    obtain ⟨gw, fw, hc2⟩ := hc
    rw [List.length_cons] at hn
    have h1 := resh_ok gw gx fw fx (by omega)
    have h2 := resh_ok gx gw fx fw (by omega)
    have h3 := resh_len gw.1 gx.1 fw fx
    have h4 := aft_le n w
    obtain ⟨i1, i2, i3, i4⟩ := passT_ok ws (resh x w) (aft n w) hc2 h2.1 h2.2 (by omega)
    rw [passT]
    refine ⟨⟨h1.1, h1.2, ?_⟩, i2, i3, ?_⟩
    · show chain (aft (aft n x) (resh w x)) _
      rw [h3]; exact i1
    · show lenC (aft n x) (resh w x :: (passT ws (resh x w)).1) = _
      rw [lenC_cons, h3]; exact i4
/-- a change behind others that its editor has not heard -/
def outC (w : Ch) (us : List Ch) : Ch := us.foldl resh w
theorem outC_E : ∀ (us : List Ch) (w : Ch), cE (outC w us) = cE w
  | [], _ => rfl
  | u :: us, w => by show cE (outC (resh w u) us) = _; rw [outC_E us, resh_E]
theorem outC_ok : ∀ (us : List Ch) (w : Ch) (n : Nat), chain n us → good w → fitsC n w → n + us.length ≤ 79 → good (outC w us) ∧ fitsC (lenC n us) (outC w us)
  | [], w, n, _, gw, fw, _ => ⟨gw, fw⟩
  | u :: us, w, n, hc, gw, fw, hn => by
    obtain ⟨gu, fu, hc2⟩ := hc
    rw [List.length_cons] at hn
    have h1 := resh_ok gw gu fw fu (by omega)
    have h4 := aft_le n u
    exact outC_ok us (resh w u) (aft n u) hc2 h1.1 h1.2 (by omega)
/-- a row of letters (of whatever) behind a change -/
def applC {α : Type} (x : α) (L : List α) (c : Ch) : List α := if cK c = 1 then L.insertIdx (cP c) x else if cK c = 2 then L.eraseIdx (cP c) else L
theorem applC_len {α : Type} {x : α} {L : List α} {c : Ch} (h : fitsC L.length c) : (applC x L c).length = aft L.length c := by
  obtain ⟨h1, h2⟩ := h
  unfold applC aft
  repeat' split
  · rw [List.length_insertIdx_of_le_length (by omega)]
  · rw [List.length_eraseIdx_of_lt (by omega)]
  · rfl
