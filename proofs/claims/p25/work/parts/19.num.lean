/-! rows of numbers, and changes as numbers -/
theorem li (n : Nat) : (OfNat.ofNat n : Int32) = nI n := rfl
theorem nI_and (a b : Nat) : nI a &&& nI b = nI (a &&& b) := by
  apply Int32.toBitVec_inj.mp
  show BitVec.ofNat 32 a &&& BitVec.ofNat 32 b = BitVec.ofNat 32 (a &&& b)
  rw [BitVec.ofNat_and]
theorem nI_or (a b : Nat) : nI a ||| nI b = nI (a ||| b) := by
  apply Int32.toBitVec_inj.mp
  show BitVec.ofNat 32 a ||| BitVec.ofNat 32 b = BitVec.ofNat 32 (a ||| b)
  rw [BitVec.ofNat_or]
theorem nI_neq {a b : Nat} (h : a ≠ b) (ha : a < 2 ^ 31) (hb : b < 2 ^ 31) : ¬ nI a = nI b := fun e => h ((nI_eq ha hb).mp e)
def ccode (c : Ch) : Int32 := nI (cK c + 4 * cE c + 16 * cL c + 512 * cP c)
def mcode (c : Ch) : Int32 := if cK c = 0 then nI (cE c) else nI (((cK c * 128 + cP c) * 32 + cL c) * 4 + cE c)
theorem cc_kind {c : Ch} (g : good c) : ccode c &&& 3 = nI (cK c) := by
  obtain ⟨a1, a2, a3, a4, a5⟩ := g
  unfold ccode
  rw [pk_andN (by omega) 2 (by decide)]
  refine congrArg nI ?_
  omega
theorem cc_place {c : Ch} (g : good c) : ccode c >>> (9 &&& 31) = nI (cP c) := by
  obtain ⟨a1, a2, a3, a4, a5⟩ := g
  unfold ccode
  rw [pk_shrN (by omega) _ 9 (by decide)]
  refine congrArg nI ?_
  omega
theorem cc_sign {c : Ch} (g : good c) : (ccode c >>> (4 &&& 31)) &&& 31 = nI (cL c) := by
  obtain ⟨a1, a2, a3, a4, a5⟩ := g
  unfold ccode
  rw [pk_shrN (by omega) _ 4 (by decide), pk_andN (by omega) 5 (by decide)]
  refine congrArg nI ?_
  omega
theorem and12 (n : Nat) : n &&& 12 = 4 * (n / 4 % 4) := by
  have h1 : (n &&& 12) % 2 ^ 4 = (n % 2 ^ 4) &&& (12 % 2 ^ 4) := Nat.and_mod_two_pow
  have h2 : n &&& 12 ≤ 12 := Nat.and_le_right
  have h3 : ∀ m, m < 16 → m &&& 12 = 4 * (m / 4 % 4) := by decide
  have h4 := h3 (n % 16) (Nat.mod_lt _ (by decide))
  rw [Nat.mod_eq_of_lt (by omega)] at h1
  rw [h1]
  show n % 16 &&& 12 = _
  rw [h4]
  omega
theorem cc_w12 {c : Ch} (g : good c) : ccode c &&& 12 = nI (4 * cE c) := by
  obtain ⟨a1, a2, a3, a4, a5⟩ := g
  unfold ccode
  rw [li 12, nI_and, and12]
  refine congrArg nI ?_
  omega
theorem cc_writer {c : Ch} (g : good c) : (ccode c &&& 12) >>> (2 &&& 31) = nI (cE c) := by
  rw [cc_w12 g]
  obtain ⟨a1, a2, a3, a4, a5⟩ := g
  rw [pk_shrN (by omega) _ 2 (by decide)]
  refine congrArg nI ?_
  omega
theorem or_sum {a b k : Nat} (h : a < 2 ^ k) : a ||| 2 ^ k * b = a + 2 ^ k * b := by
  rw [Nat.or_comm, ← Nat.two_pow_add_eq_or_of_lt h, Nat.add_comm]
theorem f_of_c {k p l e : Nat} (hk : k < 4) (hp : p ≤ 80) (hl : l < 32) (he : e < 4) : f_X0_of (nI k) (nI p) (nI l) (nI e) = ccode (mkC k p l e) := by
  unfold f_X0_of ccode
  rw [pk_shlN _ 2 (by decide) (by omega), pk_shlN _ 4 (by decide) (by omega), pk_shlN _ 9 (by decide) (by omega), nI_or, nI_or, nI_or]
  congr 1
  rw [Nat.mul_comm e, Nat.mul_comm l, Nat.mul_comm p, or_sum (a := k) (b := e) (k := 2) (by omega), or_sum (a := k + 2 ^ 2 * e) (b := l) (k := 4) (by omega), or_sum (a := k + 2 ^ 2 * e + 2 ^ 4 * l) (b := p) (k := 9) (by omega)]
  rfl
theorem f_kind_c {c : Ch} (g : good c) : f_X0_kind (ccode c) = nI (cK c) := cc_kind g
theorem f_place_c {c : Ch} (g : good c) : f_X0_place (ccode c) = nI (cP c) := cc_place g
theorem f_sign_c {c : Ch} (g : good c) : f_X0_sign (ccode c) = nI (cL c) := cc_sign g
theorem f_writer_c {c : Ch} (g : good c) : f_X0_writer (ccode c) = nI (cE c) := cc_writer g
theorem f_resh_c {a b : Ch} (ga : good a) (gb : good b) : f_X0_reshaped (ccode a) (ccode b) = ccode (resh a b) := by
  have h1 : ccode a + 512 = ccode (mkC (cK a) (cP a + 1) (cL a) (cE a)) := by
    unfold ccode
    rw [li 512, nI_add]
    refine congrArg nI ?_
    simp only [cK_mk, cP_mk, cL_mk, cE_mk]
    omega
  have h2 : cP b < cP a → ccode a - 512 = ccode (mkC (cK a) (cP a - 1) (cL a) (cE a)) := by
    intro h
    unfold ccode
    rw [li 512, pk_sub (by omega)]
    refine congrArg nI ?_
    simp only [cK_mk, cP_mk, cL_mk, cE_mk]
    omega
  have h3 : cK a = 2 → ccode a - nI (cK a) = ccode (mkC 0 (cP a) (cL a) (cE a)) := by
    intro h
    unfold ccode
    rw [pk_sub (by omega)]
    refine congrArg nI ?_
    simp only [cK_mk, cP_mk, cL_mk, cE_mk]
    omega
  unfold f_X0_reshaped
  rw [cc_kind ga, cc_kind gb, cc_place ga, cc_place gb, cc_w12 ga, cc_w12 gb, h1]
  obtain ⟨a1, a2, a3, a4, a5⟩ := ga
  obtain ⟨b1, b2, b3, b4, b5⟩ := gb
  rw [li 0, li 1, li 2]
  simp only [nI_eq (a := cK a) (b := 0) (by omega) (by omega), nI_eq (a := cK b) (b := 0) (by omega) (by omega), nI_eq (a := cK b) (b := 1) (by omega) (by omega), nI_eq (a := cK a) (b := 2) (by omega) (by omega), nI_eq (a := cP b) (b := cP a) (by omega) (by omega), nI_leI (a := 4 * cE a) (b := 4 * cE b) (by omega) (by omega), nI_ltI (a := cP b) (b := cP a) (by omega) (by omega), nI_leI (a := cP a) (b := cP b) (by omega) (by omega)]
  unfold resh
  by_cases k1 : cK a = 0
  · rw [if_pos k1, if_pos k1]
  rw [if_neg k1, if_neg k1]
  by_cases k2 : cK b = 0
  · rw [if_pos k2, if_pos k2]
  rw [if_neg k2, if_neg k2]
  by_cases k3 : cP b = cP a
  · rw [if_pos k3]
    have n1 : ¬ cP b < cP a := by omega
    have n2 : cP a ≤ cP b := by omega
    simp only [if_neg n1, if_pos n2, if_pos k3]
    by_cases k4 : cK b = 1
    · simp only [if_pos k4]
      by_cases k6 : cK a = 2
      · simp only [if_pos k6, ite_self]
      · simp only [if_neg k6]
        by_cases k5 : cE b < cE a
        · simp only [if_pos k5, if_neg (show ¬ 4 * cE a ≤ 4 * cE b by omega)]
        · simp only [if_neg k5, if_pos (show 4 * cE a ≤ 4 * cE b by omega)]
    · simp only [if_neg k4]
      by_cases k6 : cK a = 2
      · simp only [if_pos k6, h3 k6]
      · simp only [if_neg k6]
  · rw [if_neg k3]
    by_cases k4 : cK b = 1
    · rw [if_pos k4, if_pos k4, if_neg k3]
      by_cases n1 : cP b < cP a
      · rw [if_pos n1, if_pos n1, ite_self]
      · rw [if_neg n1, if_neg n1, ite_self]
    · rw [if_neg k4, if_neg k4]
      by_cases n1 : cP b < cP a
      · rw [if_neg (by omega), if_pos n1, h2 n1]
      · rw [if_pos (by omega), if_neg n1, if_neg k3]
/-- a row of numbers that holds the list A -/
def rN {α : Type} (cap : Nat) (f : α → Int32) (n : zN) (A : List α) : Prop := nCap n = cap ∧ nSize n = nI A.length ∧ A.length ≤ cap ∧ cap ≤ 1000 ∧ ∀ (i : Nat) (a : α), A[i]? = some a → nRow n i = f a
section NUM
variable {α : Type} {cap : Nat} {f : α → Int32} {n : zN} {A : List α}
theorem rN.size (h : rN cap f n A) : f_X4_size n = nI A.length := h.2.1
theorem rN.at (h : rN cap f n A) {i : Nat} {a : α} (hi : A[i]? = some a) : nRow n i = f a := h.2.2.2.2 i a hi
theorem s_at (h : rN cap f n A) {i : Nat} {a : α} (hi : A[i]? = some a) {x : Int32} (hx : x = nI i) {Q : Int32 → Prop} (hQ : Q (f a)) : wp_X4_at n x Q := by
  subst hx
  have hl : i < A.length := (List.getElem?_eq_some_iff.mp hi).1
  have h5 := h.at hi
  obtain ⟨h1, h2, h3, h6, -⟩ := h
  unfold wp_X4_at
  rw [h1, h2]
  refine br_f (nI_pos (by omega)) (br_f (nI_ge hl (by omega)) (br_f (nI_ge (by omega) (by omega)) ⟨vp_in_nI (by omega) (by omega), ?_⟩))
  rw [nI_clamp (by omega), h5]
  exact hQ
theorem s_at0 (h : rN cap f n A) {i : Nat} (hi : A.length ≤ i) (hi2 : i < 2 ^ 31) {x : Int32} (hx : x = nI i) {Q : Int32 → Prop} (hQ : Q 0) : wp_X4_at n x Q := by
  subst hx
  obtain ⟨h1, h2, h3, h6, -⟩ := h
  unfold wp_X4_at
  rw [h1, h2]
  exact br_f (nI_pos (by omega)) (br_t (nI_le hi (by omega)) hQ)
theorem upd_at {g : Nat → Int32} {k : Nat} {x : Int32} (j : Nat) : upd g k x j = if j = k then x else g j := rfl
theorem s_put (h : rN cap f n A) {i : Nat} (hi : i < A.length) (a : α) {x y : Int32} (hx : x = nI i) (hy : y = f a) {Q : zN → Prop} (hQ : ∀ n1, rN cap f n1 (A.set i a) → Q n1) : wp_X4_put n x y Q := by
  subst hx; subst hy
  obtain ⟨h1, h2, h3, h6, h5⟩ := h
  unfold wp_X4_put
  rw [h1, h2]
  refine br_f (nI_pos (by omega)) (br_f (nI_ge hi (by omega)) (br_f (nI_ge (by omega) (by omega)) ⟨vp_in_nI (by omega) (by omega), ?_⟩))
  refine hQ _ ⟨h1, by rw [List.length_set]; exact h2, by rw [List.length_set]; exact h3, h6, fun j b hj => ?_⟩
  show upd (nRow n) (nI i).toNatClampNeg (f a) j = f b
  rw [nI_clamp (by omega), upd_at]
  by_cases e : j = i
  · subst e
    rw [List.getElem?_set_self hi] at hj
    rw [if_pos rfl]
    cases hj; rfl
  · rw [List.getElem?_set_ne (by omega)] at hj
    rw [if_neg e]
    exact h5 j b hj
end NUM
