/-! the reference's changes -/
def mN (c : Ch) : Nat := if cK c = 0 then cE c else ((cK c * 128 + cP c) * 32 + cL c) * 4 + cE c
theorem mcode_N (c : Ch) : mcode c = nI (mN c) := by
  unfold mcode mN
  split <;> rfl
theorem mN_lt {c : Ch} (g : good c) : mN c < 65536 := by
  obtain ⟨a1, a2, a3, a4, a5⟩ := g
  unfold mN
  split <;> omega
theorem m_kind {c : Ch} (g : good c) : f_X7_kindOf (mcode c) = nI (cK c) := by
  have h := mN_lt g
  obtain ⟨a1, a2, a3, a4, a5⟩ := g
  unfold f_X7_kindOf
  rw [mcode_N, li 16384, pk_div (by omega) (by omega) (by omega)]
  refine congrArg nI ?_
  unfold mN
  split <;> omega
theorem m_place {c : Ch} (g : good c) (k : cK c ≠ 0) : f_X7_placeOf (mcode c) = nI (cP c) := by
  have h := mN_lt g
  obtain ⟨a1, a2, a3, a4, a5⟩ := g
  unfold f_X7_placeOf
  rw [mcode_N, li 128, pk_div (by omega) (by omega) (by omega), pk_div (by omega) (by omega) (by omega), pk_mul, pk_sub (by omega)]
  refine congrArg nI ?_
  unfold mN
  rw [if_neg k]
  omega
theorem m_place0 {c : Ch} (g : good c) (k : cK c = 0) : f_X7_placeOf (mcode c) = nI 0 := by
  have h := mN_lt g
  obtain ⟨a1, a2, a3, a4, a5⟩ := g
  unfold f_X7_placeOf
  rw [mcode_N, li 128, pk_div (by omega) (by omega) (by omega), pk_div (by omega) (by omega) (by omega), pk_mul, pk_sub (by omega)]
  refine congrArg nI ?_
  unfold mN
  rw [if_pos k]
  omega
theorem m_letter {c : Ch} (g : good c) (k : cK c ≠ 0) : f_X7_letterOf (mcode c) = nI (cL c) := by
  have h := mN_lt g
  obtain ⟨a1, a2, a3, a4, a5⟩ := g
  unfold f_X7_letterOf
  rw [mcode_N, li 4, li 32, pk_div (by omega) (by omega) (by omega), pk_div (by omega) (by omega) (by omega), pk_mul, pk_sub (by omega)]
  refine congrArg nI ?_
  unfold mN
  rw [if_neg k]
  omega
theorem m_by {c : Ch} (g : good c) : f_X7_editorBy (mcode c) = nI (cE c) := by
  have h := mN_lt g
  obtain ⟨a1, a2, a3, a4, a5⟩ := g
  unfold f_X7_editorBy
  rw [mcode_N, li 4, pk_div (by omega) (by omega) (by omega), pk_mul, pk_sub (by omega)]
  refine congrArg nI ?_
  unfold mN
  split <;> omega
theorem m_made {k p l e : Nat} : f_X7_made (nI k) (nI p) (nI l) (nI e) = nI (((k * 128 + p) * 32 + l) * 4 + e) := by
  unfold f_X7_made
  rw [li 128, li 32, li 4, pk_mul, nI_add, pk_mul, nI_add, pk_mul, nI_add]
theorem m_made_c {k p l e : Nat} (h : k ≠ 0) : f_X7_made (nI k) (nI p) (nI l) (nI e) = mcode (mkC k p l e) := by
  rw [m_made]
  unfold mcode
  rw [cK_mk, if_neg h]; rfl
theorem m_resh {a b : Ch} (ga : good a) (gb : good b) : f_X7_reshaped (mcode a) (mcode b) = mcode (resh a b) := by
  by_cases k1 : cK a = 0
  · unfold f_X7_reshaped
    rw [m_kind ga, k1, if_neg (by decide), if_pos (show nI 0 = 0 from rfl)]
    unfold resh
    rw [if_pos k1]
  have e0 : ¬ nI (cK a) = 0 := nI_neq (b := 0) k1 (by have := ga.1; omega) (by omega)
  by_cases k2 : cK b = 0
  · unfold f_X7_reshaped
    rw [m_kind ga, m_kind gb, k2]
    simp only [if_neg e0, if_pos (show nI 0 = 0 from rfl), ite_self]
    unfold resh
    rw [if_neg k1, if_pos k2]
  have h1 : f_X7_made (nI (cK a)) (nI (cP a) + 1) (nI (cL a)) (nI (cE a)) = mcode (mkC (cK a) (cP a + 1) (cL a) (cE a)) := by rw [nI_1, m_made_c k1]
  have h2 : cP b < cP a → f_X7_made (nI (cK a)) (nI (cP a) - 1) (nI (cL a)) (nI (cE a)) = mcode (mkC (cK a) (cP a - 1) (cL a) (cE a)) := by
    intro h
    rw [li 1, pk_sub (by omega), m_made_c k1]
  have h3 : f_X7_made 0 0 0 (nI (cE a)) = mcode (mkC 0 (cP a) (cL a) (cE a)) := by
    rw [li 0, m_made]
    unfold mcode
    rw [cK_mk, if_pos rfl, cE_mk]
    refine congrArg nI ?_
    omega
  unfold f_X7_reshaped
  rw [m_kind ga, m_kind gb, m_place ga k1, m_place gb k2, m_letter ga k1, m_by ga, m_by gb, h1, h3]
  obtain ⟨a1, a2, a3, a4, a5⟩ := ga
  obtain ⟨b1, b2, b3, b4, b5⟩ := gb
  rw [li 0, li 1]
  simp only [nI_eq (a := cK a) (b := 0) (by omega) (by omega), nI_eq (a := cK b) (b := 0) (by omega) (by omega), nI_eq (a := cK b) (b := 1) (by omega) (by omega), nI_eq (a := cK a) (b := 1) (by omega) (by omega), nI_eq (a := cP b) (b := cP a) (by omega) (by omega), nI_leI (a := cE a) (b := cE b) (by omega) (by omega), nI_ltI (a := cP b) (b := cP a) (by omega) (by omega), nI_leI (a := cP a) (b := cP b) (by omega) (by omega), if_neg k1, if_neg k2]
  rw [li 1] at h2
  unfold resh
  simp only [if_neg k1, if_neg k2]
  by_cases k3 : cP b = cP a
  · have n1 : ¬ cP b < cP a := by omega
    have n2 : cP a ≤ cP b := by omega
    simp only [if_neg n1, if_pos n2, if_pos k3, ite_self]
    by_cases k4 : cK b = 1
    · simp only [if_pos k4]
      by_cases k6 : cK a = 2
      · simp only [if_pos k6, if_neg (show ¬ cK a = 1 by omega)]
      · simp only [if_neg k6, if_pos (show cK a = 1 by omega)]
        by_cases k5 : cE b < cE a
        · simp only [if_pos k5, if_neg (show ¬ cE a ≤ cE b by omega)]
        · simp only [if_neg k5, if_pos (show cE a ≤ cE b by omega)]
    · simp only [if_neg k4]
      by_cases k6 : cK a = 2
      · simp only [if_pos k6, if_neg (show ¬ cK a = 1 by omega)]
      · simp only [if_neg k6, if_pos (show cK a = 1 by omega)]
  · simp only [if_neg k3]
    by_cases k4 : cK b = 1
    · simp only [if_pos k4, ite_self]
      by_cases n1 : cP b < cP a
      · rw [if_pos n1, if_pos n1]
      · rw [if_neg n1, if_neg n1]
    · simp only [if_neg k4]
      by_cases n1 : cP b < cP a
      · simp only [if_neg (show ¬ cP a ≤ cP b by omega), if_pos n1, h2 n1, ite_self]
      · simp only [if_pos (show cP a ≤ cP b by omega), if_neg n1, ite_self]
theorem m_told {c : Ch} (g : good c) (w : Int32) : f_X7_told (mcode c) w = rPart c w := by
  have h := g.1
  unfold f_X7_told rPart
  rw [m_kind g, m_by g]
  rw [li 0, li 1]
  simp only [nI_eq (a := cK c) (b := 0) (by omega) (by omega), nI_eq (a := cK c) (b := 1) (by omega) (by omega)]
  by_cases k : cK c = 0
  · rw [if_pos k, if_pos k, if_neg (show ¬ cK c = 1 by omega), if_neg (show ¬ cK c = 1 by omega)]
  · rw [m_place g k, m_letter g k]
theorem m_isEd (x : Int32) : f_X7_isEditor x = if x < 0 ∨ ¬ x < 3 then 0 else 1 := by
  unfold f_X7_isEditor f_X7_in
  have e : (2 < x) = ¬ x < 3 := by
    rw [Int32.lt_iff_toInt_lt, Int32.lt_iff_toInt_lt]
    have e0 : (2 : Int32).toInt = 2 := by decide
    have e1 : (3 : Int32).toInt = 3 := by decide
    rw [e0, e1]
    exact propext ⟨fun h => by omega, fun h => by omega⟩
  simp only [e]
  by_cases a : x < 0
  · rw [if_pos a, if_pos (Or.inl a)]
  · rw [if_neg a]
    by_cases b : ¬ x < 3
    · rw [if_pos b, if_pos (Or.inr b)]
    · rw [if_neg b, if_neg (by rintro (q | q); exact a q; exact b q)]
theorem isEd_of {x : Int32} (h : ¬ (x < 0 ∨ ¬ x < 3)) : x = nI (ixE x) := by
  obtain ⟨j, hj, rfl, hj2⟩ := Int32_of (fun q => h (Or.inl q))
  have h3 : nI j < 3 := Decidable.byContradiction (fun q => h (Or.inr q))
  rw [li 3, nI_ltI (by omega) (by omega)] at h3
  rw [ixE_nI h3]
