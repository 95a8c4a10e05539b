/-! printed by wip/whole/gen.py: what each method does, and that the machine does it -/
def rmX7_in : Room := { frames := 0, cells := 0, slots := 0, locals := 0 }
def f_X7_in  (p1 : Int32) (p2 : Int32) (p3 : Int32) : Int32 := (if p1 < p2 then 0 else (if p3 < p1 then 0 else 1))
set_option maxHeartbeats 4000000 in
set_option maxRecDepth 100000 in
theorem met_X7_in (l : Launch) (D : va_G) (cI : ClassId)   (p1 : Int32) (p2 : Int32) (p3 : Int32) : ZM l D cI yX7_in cX7_in 3 (some .boolean) rmX7_in [.int p1, .int p2, .int p3] [] (fun _ : Unit => some (.int (f_X7_in p1 p2 p3))) (fun _ : Unit => []) (fun _ : Unit => True) := by
  refine z_body [some (.int p1), some (.int p2), some (.int p3)] (by decide +kernel) rfl (Nat.le_of_ble_eq_true rfl) rfl ?_
  intro p e s m args below meth c A C hin
  refine z_iload_n C dX7_in_0 rfl ?_
  refine z_iload_n C dX7_in_1 rfl ?_
  refine z_icmp_lt C dX7_in_2 14 (by decide) (fun c1 => ?_) (fun c1 => ?_)
  · refine z_iconst C dX7_in_14 0 (by decide +kernel) ?_
    exact z_zret C rfl (by decide) () (by rw [f_X7_in, if_pos c1]) trivial rfl dX7_in_15
  · refine z_iload_n C dX7_in_5 rfl ?_
    refine z_iload_n C dX7_in_6 rfl ?_
    refine z_icmp_gt C dX7_in_7 14 (by decide) (fun c2 => ?_) (fun c2 => ?_)
    · refine z_iconst C dX7_in_14 0 (by decide +kernel) ?_
      exact z_zret C rfl (by decide) () (by rw [f_X7_in, if_neg c1, if_pos c2]) trivial rfl dX7_in_15
    · refine z_iconst C dX7_in_10 1 (by decide +kernel) ?_
      refine z_goto C dX7_in_11 15 (by decide) ?_
      exact z_zret C rfl (by decide) () (by rw [f_X7_in, if_neg c1, if_neg c2]) trivial rfl dX7_in_15
theorem b_X7_in  (p1 : Int32) (p2 : Int32) (p3 : Int32) : zB (f_X7_in p1 p2 p3) := by
  unfold f_X7_in
  (repeat' split) <;> exact ⟨by decide, by decide⟩
def rmX7_isEditor : Room := { frames := 1, cells := 0, slots := 0, locals := 22 }
def f_X7_isEditor  (p1 : Int32) : Int32 := (f_X7_in p1 0 2)
set_option maxHeartbeats 4000000 in
set_option maxRecDepth 100000 in
theorem met_X7_isEditor (l : Launch) (D : va_G) (cI : ClassId)   (p1 : Int32) : ZM l D cI yX7_isEditor cX7_isEditor 1 (some .boolean) rmX7_isEditor [.int p1] [] (fun _ : Unit => some (.int (f_X7_isEditor p1))) (fun _ : Unit => []) (fun _ : Unit => True) := by
  refine z_body [some (.int p1)] (by decide +kernel) rfl (Nat.le_of_ble_eq_true rfl) rfl ?_
  intro p e s m args below meth c A C hin
  refine z_iload_n C dX7_isEditor_0 rfl ?_
  refine z_iconst C dX7_isEditor_1 0 (by decide +kernel) ?_
  refine z_iconst C dX7_isEditor_2 2 (by decide +kernel) ?_
  refine z_callFS C [] [] (met_X7_in l D cI p1 0 2) y_X7_in mw_12_2 dX7_isEditor_3 rfl n_X7_in rfl (by decide) ⟨rfl, rfl, Nat.le_of_ble_eq_true rfl, Nat.le_of_ble_eq_true rfl⟩ (Nat.le_of_ble_eq_true rfl) (List.Perm.refl _) ?_
  exact z_zret C rfl (b_X7_in _ _ _).1 () (by rw [f_X7_isEditor]) trivial rfl dX7_isEditor_6
theorem b_X7_isEditor  (p1 : Int32) : zB (f_X7_isEditor p1) := by
  unfold f_X7_isEditor
  exact b_X7_in _ _ _
def rmX7_of : Room := { frames := 0, cells := 0, slots := 0, locals := 0 }
def f_X7_of  (p1 : Int32) (p2 : Int32) : Int32 := ((97 + (116 * p1)) + p2)
set_option maxHeartbeats 4000000 in
set_option maxRecDepth 100000 in
theorem met_X7_of (l : Launch) (D : va_G) (cI : ClassId)   (p1 : Int32) (p2 : Int32) : ZM l D cI yX7_of cX7_of 2 (some .int) rmX7_of [.int p1, .int p2] [] (fun _ : Unit => some (.int (f_X7_of p1 p2))) (fun _ : Unit => []) (fun _ : Unit => True) := by
  refine z_body [some (.int p1), some (.int p2)] (by decide +kernel) rfl (Nat.le_of_ble_eq_true rfl) rfl ?_
  intro p e s m args below meth c A C hin
  refine z_bipush C dX7_of_0 97 (by decide +kernel) ?_
  refine z_bipush C dX7_of_2 116 (by decide +kernel) ?_
  refine z_iload_n C dX7_of_4 rfl ?_
  refine z_imul C dX7_of_5 ?_
  refine z_iadd C dX7_of_6 ?_
  refine z_iload_n C dX7_of_7 rfl ?_
  refine z_iadd C dX7_of_8 ?_
  exact z_iret C rfl () (by rw [f_X7_of]) trivial rfl dX7_of_9
def rmX7_made : Room := { frames := 0, cells := 0, slots := 0, locals := 0 }
def f_X7_made  (p1 : Int32) (p2 : Int32) (p3 : Int32) (p4 : Int32) : Int32 := ((((((p1 * 128) + p2) * 32) + p3) * 4) + p4)
set_option maxHeartbeats 4000000 in
set_option maxRecDepth 100000 in
theorem met_X7_made (l : Launch) (D : va_G) (cI : ClassId)   (p1 : Int32) (p2 : Int32) (p3 : Int32) (p4 : Int32) : ZM l D cI yX7_made cX7_made 4 (some .int) rmX7_made [.int p1, .int p2, .int p3, .int p4] [] (fun _ : Unit => some (.int (f_X7_made p1 p2 p3 p4))) (fun _ : Unit => []) (fun _ : Unit => True) := by
  refine z_body [some (.int p1), some (.int p2), some (.int p3), some (.int p4)] (by decide +kernel) rfl (Nat.le_of_ble_eq_true rfl) rfl ?_
  intro p e s m args below meth c A C hin
  refine z_iload_n C dX7_made_0 rfl ?_
  refine z_sipush C dX7_made_1 128 (by decide +kernel) ?_
  refine z_imul C dX7_made_4 ?_
  refine z_iload_n C dX7_made_5 rfl ?_
  refine z_iadd C dX7_made_6 ?_
  refine z_bipush C dX7_made_7 32 (by decide +kernel) ?_
  refine z_imul C dX7_made_9 ?_
  refine z_iload_n C dX7_made_10 rfl ?_
  refine z_iadd C dX7_made_11 ?_
  refine z_iconst C dX7_made_12 4 (by decide +kernel) ?_
  refine z_imul C dX7_made_13 ?_
  refine z_iload_n C dX7_made_14 rfl ?_
  refine z_iadd C dX7_made_15 ?_
  exact z_iret C rfl () (by rw [f_X7_made]) trivial rfl dX7_made_16
def rmX7_kindOf : Room := { frames := 0, cells := 0, slots := 0, locals := 0 }
def f_X7_kindOf  (p1 : Int32) : Int32 := (p1 / 16384)
set_option maxHeartbeats 4000000 in
set_option maxRecDepth 100000 in
theorem met_X7_kindOf (l : Launch) (D : va_G) (cI : ClassId)   (p1 : Int32) : ZM l D cI yX7_kindOf cX7_kindOf 1 (some .int) rmX7_kindOf [.int p1] [] (fun _ : Unit => some (.int (f_X7_kindOf p1))) (fun _ : Unit => []) (fun _ : Unit => True) := by
  refine z_body [some (.int p1)] (by decide +kernel) rfl (Nat.le_of_ble_eq_true rfl) rfl ?_
  intro p e s m args below meth c A C hin
  refine z_iload_n C dX7_kindOf_0 rfl ?_
  refine z_sipush C dX7_kindOf_1 16384 (by decide +kernel) ?_
  refine z_idiv C dX7_kindOf_4 (by decide +kernel) ?_
  exact z_iret C rfl () (by rw [f_X7_kindOf]) trivial rfl dX7_kindOf_5
def rmX7_placeOf : Room := { frames := 0, cells := 0, slots := 0, locals := 0 }
def f_X7_placeOf  (p1 : Int32) : Int32 := ((p1 / 128) - (p1 / 128) / 128 * 128)
set_option maxHeartbeats 4000000 in
set_option maxRecDepth 100000 in
theorem met_X7_placeOf (l : Launch) (D : va_G) (cI : ClassId)   (p1 : Int32) : ZM l D cI yX7_placeOf cX7_placeOf 1 (some .int) rmX7_placeOf [.int p1] [] (fun _ : Unit => some (.int (f_X7_placeOf p1))) (fun _ : Unit => []) (fun _ : Unit => True) := by
  refine z_body [some (.int p1)] (by decide +kernel) rfl (Nat.le_of_ble_eq_true rfl) rfl ?_
  intro p e s m args below meth c A C hin
  refine z_iload_n C dX7_placeOf_0 rfl ?_
  refine z_sipush C dX7_placeOf_1 128 (by decide +kernel) ?_
  refine z_idiv C dX7_placeOf_4 (by decide +kernel) ?_
  refine z_sipush C dX7_placeOf_5 128 (by decide +kernel) ?_
  refine z_irem C dX7_placeOf_8 (by decide +kernel) ?_
  exact z_iret C rfl () (by rw [f_X7_placeOf]) trivial rfl dX7_placeOf_9
def rmX7_letterOf : Room := { frames := 0, cells := 0, slots := 0, locals := 0 }
def f_X7_letterOf  (p1 : Int32) : Int32 := ((p1 / 4) - (p1 / 4) / 32 * 32)
set_option maxHeartbeats 4000000 in
set_option maxRecDepth 100000 in
theorem met_X7_letterOf (l : Launch) (D : va_G) (cI : ClassId)   (p1 : Int32) : ZM l D cI yX7_letterOf cX7_letterOf 1 (some .int) rmX7_letterOf [.int p1] [] (fun _ : Unit => some (.int (f_X7_letterOf p1))) (fun _ : Unit => []) (fun _ : Unit => True) := by
  refine z_body [some (.int p1)] (by decide +kernel) rfl (Nat.le_of_ble_eq_true rfl) rfl ?_
  intro p e s m args below meth c A C hin
  refine z_iload_n C dX7_letterOf_0 rfl ?_
  refine z_iconst C dX7_letterOf_1 4 (by decide +kernel) ?_
  refine z_idiv C dX7_letterOf_2 (by decide +kernel) ?_
  refine z_bipush C dX7_letterOf_3 32 (by decide +kernel) ?_
  refine z_irem C dX7_letterOf_5 (by decide +kernel) ?_
  exact z_iret C rfl () (by rw [f_X7_letterOf]) trivial rfl dX7_letterOf_6
def rmX7_editorBy : Room := { frames := 0, cells := 0, slots := 0, locals := 0 }
def f_X7_editorBy  (p1 : Int32) : Int32 := (p1 - p1 / 4 * 4)
set_option maxHeartbeats 4000000 in
set_option maxRecDepth 100000 in
theorem met_X7_editorBy (l : Launch) (D : va_G) (cI : ClassId)   (p1 : Int32) : ZM l D cI yX7_editorBy cX7_editorBy 1 (some .int) rmX7_editorBy [.int p1] [] (fun _ : Unit => some (.int (f_X7_editorBy p1))) (fun _ : Unit => []) (fun _ : Unit => True) := by
  refine z_body [some (.int p1)] (by decide +kernel) rfl (Nat.le_of_ble_eq_true rfl) rfl ?_
  intro p e s m args below meth c A C hin
  refine z_iload_n C dX7_editorBy_0 rfl ?_
  refine z_iconst C dX7_editorBy_1 4 (by decide +kernel) ?_
  refine z_irem C dX7_editorBy_2 (by decide +kernel) ?_
  exact z_iret C rfl () (by rw [f_X7_editorBy]) trivial rfl dX7_editorBy_3
def rmX7_reshaped : Room := { frames := 1, cells := 0, slots := 0, locals := 23 }
def f_X7_reshaped  (p1 : Int32) (p2 : Int32) : Int32 := (if (f_X7_kindOf p1) = 1 then (if (f_X7_kindOf p1) = 0 then p1 else (if (f_X7_kindOf p2) = 0 then p1 else (if (f_X7_kindOf p2) = 1 then (if (f_X7_placeOf p2) < (f_X7_placeOf p1) then (f_X7_made (f_X7_kindOf p1) ((f_X7_placeOf p1) + 1) (f_X7_letterOf p1) (f_X7_editorBy p1)) else (if (f_X7_placeOf p2) = (f_X7_placeOf p1) then (if (f_X7_editorBy p1) ≤ (f_X7_editorBy p2) then p1 else (f_X7_made (f_X7_kindOf p1) ((f_X7_placeOf p1) + 1) (f_X7_letterOf p1) (f_X7_editorBy p1))) else p1)) else (if (f_X7_placeOf p1) ≤ (f_X7_placeOf p2) then (if (f_X7_placeOf p2) = (f_X7_placeOf p1) then p1 else p1) else (f_X7_made (f_X7_kindOf p1) ((f_X7_placeOf p1) - 1) (f_X7_letterOf p1) (f_X7_editorBy p1)))))) else (if (f_X7_kindOf p1) = 0 then p1 else (if (f_X7_kindOf p2) = 0 then p1 else (if (f_X7_kindOf p2) = 1 then (if (f_X7_placeOf p2) < (f_X7_placeOf p1) then (f_X7_made (f_X7_kindOf p1) ((f_X7_placeOf p1) + 1) (f_X7_letterOf p1) (f_X7_editorBy p1)) else (if (f_X7_placeOf p2) = (f_X7_placeOf p1) then (f_X7_made (f_X7_kindOf p1) ((f_X7_placeOf p1) + 1) (f_X7_letterOf p1) (f_X7_editorBy p1)) else p1)) else (if (f_X7_placeOf p1) ≤ (f_X7_placeOf p2) then (if (f_X7_placeOf p2) = (f_X7_placeOf p1) then (f_X7_made 0 0 0 (f_X7_editorBy p1)) else p1) else (f_X7_made (f_X7_kindOf p1) ((f_X7_placeOf p1) - 1) (f_X7_letterOf p1) (f_X7_editorBy p1)))))))
set_option maxHeartbeats 4000000 in
set_option maxRecDepth 100000 in
theorem met_X7_reshaped (l : Launch) (D : va_G) (cI : ClassId)   (p1 : Int32) (p2 : Int32) : ZM l D cI yX7_reshaped cX7_reshaped 6 (some .int) rmX7_reshaped [.int p1, .int p2] [] (fun _ : Unit => some (.int (f_X7_reshaped p1 p2))) (fun _ : Unit => []) (fun _ : Unit => True) := by
  refine z_body [some (.int p1), some (.int p2), none, none, none, none] (by decide +kernel) rfl (Nat.le_of_ble_eq_true rfl) rfl ?_
  intro p e s m args below meth c A C hin
  refine z_iload_n C dX7_reshaped_0 rfl ?_
  refine z_callFS C [] [] (met_X7_placeOf l D cI p1) y_X7_placeOf mw_13_4 dX7_reshaped_1 rfl n_X7_placeOf rfl (by decide) ⟨rfl, rfl, Nat.le_of_ble_eq_true rfl, Nat.le_of_ble_eq_true rfl⟩ (Nat.le_of_ble_eq_true rfl) (List.Perm.refl _) ?_
  refine z_istore_n C dX7_reshaped_4 [some (.int p1), some (.int p2), some (.int (f_X7_placeOf p1)), none, none, none] (by decide) rfl ?_
  refine z_iload_n C dX7_reshaped_5 rfl ?_
  refine z_callFS C [] [] (met_X7_placeOf l D cI p2) y_X7_placeOf mw_13_4 dX7_reshaped_6 rfl n_X7_placeOf rfl (by decide) ⟨rfl, rfl, Nat.le_of_ble_eq_true rfl, Nat.le_of_ble_eq_true rfl⟩ (Nat.le_of_ble_eq_true rfl) (List.Perm.refl _) ?_
  refine z_istore_n C dX7_reshaped_9 [some (.int p1), some (.int p2), some (.int (f_X7_placeOf p1)), some (.int (f_X7_placeOf p2)), none, none] (by decide) rfl ?_
  refine z_iload_n C dX7_reshaped_10 rfl ?_
  refine z_callFS C [] [] (met_X7_kindOf l D cI p1) y_X7_kindOf mw_13_7 dX7_reshaped_11 rfl n_X7_kindOf rfl (by decide) ⟨rfl, rfl, Nat.le_of_ble_eq_true rfl, Nat.le_of_ble_eq_true rfl⟩ (Nat.le_of_ble_eq_true rfl) (List.Perm.refl _) ?_
  refine z_iconst C dX7_reshaped_14 1 (by decide +kernel) ?_
  refine z_icmp_ne C dX7_reshaped_15 22 (by decide) (fun c1 => ?_) (fun c1 => ?_)
  · refine z_iconst C dX7_reshaped_22 0 (by decide +kernel) ?_
    refine z_istore C dX7_reshaped_23 [some (.int p1), some (.int p2), some (.int (f_X7_placeOf p1)), some (.int (f_X7_placeOf p2)), some (.int 0), none] (by decide) rfl ?_
    refine z_iload_n C dX7_reshaped_25 rfl ?_
    refine z_callFS C [] [] (met_X7_kindOf l D cI p1) y_X7_kindOf mw_13_7 dX7_reshaped_26 rfl n_X7_kindOf rfl (by decide) ⟨rfl, rfl, Nat.le_of_ble_eq_true rfl, Nat.le_of_ble_eq_true rfl⟩ (Nat.le_of_ble_eq_true rfl) (List.Perm.refl _) ?_
    refine z_if_eq C dX7_reshaped_29 39 (by decide) (fun c2 => ?_) (fun c2 => ?_)
    · refine z_iload_n C dX7_reshaped_39 rfl ?_
      exact z_iret C rfl () (by rw [f_X7_reshaped, if_neg c1, if_pos c2]) trivial rfl dX7_reshaped_40
    · refine z_iload_n C dX7_reshaped_32 rfl ?_
      refine z_callFS C [] [] (met_X7_kindOf l D cI p2) y_X7_kindOf mw_13_7 dX7_reshaped_33 rfl n_X7_kindOf rfl (by decide) ⟨rfl, rfl, Nat.le_of_ble_eq_true rfl, Nat.le_of_ble_eq_true rfl⟩ (Nat.le_of_ble_eq_true rfl) (List.Perm.refl _) ?_
      refine z_if_ne C dX7_reshaped_36 41 (by decide) (fun c3 => ?_) (fun c3 => ?_)
      · refine z_iload_n C dX7_reshaped_41 rfl ?_
        refine z_callFS C [] [] (met_X7_kindOf l D cI p2) y_X7_kindOf mw_13_7 dX7_reshaped_42 rfl n_X7_kindOf rfl (by decide) ⟨rfl, rfl, Nat.le_of_ble_eq_true rfl, Nat.le_of_ble_eq_true rfl⟩ (Nat.le_of_ble_eq_true rfl) (List.Perm.refl _) ?_
        refine z_iconst C dX7_reshaped_45 1 (by decide +kernel) ?_
        refine z_icmp_ne C dX7_reshaped_46 110 (by decide) (fun c4 => ?_) (fun c4 => ?_)
        · refine z_iload_n C dX7_reshaped_110 rfl ?_
          refine z_iload_n C dX7_reshaped_111 rfl ?_
          refine z_icmp_ge C dX7_reshaped_112 134 (by decide) (fun c5 => ?_) (fun c5 => ?_)
          · refine z_iload_n C dX7_reshaped_134 rfl ?_
            refine z_iload_n C dX7_reshaped_135 rfl ?_
            refine z_icmp_ne C dX7_reshaped_136 157 (by decide) (fun c6 => ?_) (fun c6 => ?_)
            · refine z_iload_n C dX7_reshaped_157 rfl ?_
              exact z_iret C rfl () (by rw [f_X7_reshaped, if_neg c1, if_neg c2, if_neg c3, if_neg c4, if_pos c5, if_neg c6]) trivial rfl dX7_reshaped_158
            · refine z_iload C dX7_reshaped_139 rfl ?_
              refine z_if_ne C dX7_reshaped_141 157 (by decide) (fun c7 => absurd c7 (by decide +kernel)) (fun c7 => ?_)
              refine z_iconst C dX7_reshaped_144 0 (by decide +kernel) ?_
              refine z_iconst C dX7_reshaped_145 0 (by decide +kernel) ?_
              refine z_iconst C dX7_reshaped_146 0 (by decide +kernel) ?_
              refine z_iload_n C dX7_reshaped_147 rfl ?_
              refine z_callFS C [] [] (met_X7_editorBy l D cI p1) y_X7_editorBy mw_13_16 dX7_reshaped_148 rfl n_X7_editorBy rfl (by decide) ⟨rfl, rfl, Nat.le_of_ble_eq_true rfl, Nat.le_of_ble_eq_true rfl⟩ (Nat.le_of_ble_eq_true rfl) (List.Perm.refl _) ?_
              refine z_callFS C [] [] (met_X7_made l D cI 0 0 0 (f_X7_editorBy p1)) y_X7_made mw_12_17 dX7_reshaped_151 rfl n_X7_made rfl (by decide) ⟨rfl, rfl, Nat.le_of_ble_eq_true rfl, Nat.le_of_ble_eq_true rfl⟩ (Nat.le_of_ble_eq_true rfl) (List.Perm.refl _) ?_
              refine z_goto C dX7_reshaped_154 158 (by decide) ?_
              exact z_iret C rfl () (by rw [f_X7_reshaped, if_neg c1, if_neg c2, if_neg c3, if_neg c4, if_pos c5, if_pos c6]) trivial rfl dX7_reshaped_158
          · refine z_iload_n C dX7_reshaped_115 rfl ?_
            refine z_callFS C [] [] (met_X7_kindOf l D cI p1) y_X7_kindOf mw_13_7 dX7_reshaped_116 rfl n_X7_kindOf rfl (by decide) ⟨rfl, rfl, Nat.le_of_ble_eq_true rfl, Nat.le_of_ble_eq_true rfl⟩ (Nat.le_of_ble_eq_true rfl) (List.Perm.refl _) ?_
            refine z_iload_n C dX7_reshaped_119 rfl ?_
            refine z_iconst C dX7_reshaped_120 1 (by decide +kernel) ?_
            refine z_isub C dX7_reshaped_121 ?_
            refine z_iload_n C dX7_reshaped_122 rfl ?_
            refine z_callFS C [] [] (met_X7_letterOf l D cI p1) y_X7_letterOf mw_13_10 dX7_reshaped_123 rfl n_X7_letterOf rfl (by decide) ⟨rfl, rfl, Nat.le_of_ble_eq_true rfl, Nat.le_of_ble_eq_true rfl⟩ (Nat.le_of_ble_eq_true rfl) (List.Perm.refl _) ?_
            refine z_iload_n C dX7_reshaped_126 rfl ?_
            refine z_callFS C [] [] (met_X7_editorBy l D cI p1) y_X7_editorBy mw_13_16 dX7_reshaped_127 rfl n_X7_editorBy rfl (by decide) ⟨rfl, rfl, Nat.le_of_ble_eq_true rfl, Nat.le_of_ble_eq_true rfl⟩ (Nat.le_of_ble_eq_true rfl) (List.Perm.refl _) ?_
            refine z_callFS C [] [] (met_X7_made l D cI (f_X7_kindOf p1) ((f_X7_placeOf p1) - 1) (f_X7_letterOf p1) (f_X7_editorBy p1)) y_X7_made mw_12_17 dX7_reshaped_130 rfl n_X7_made rfl (by decide) ⟨rfl, rfl, Nat.le_of_ble_eq_true rfl, Nat.le_of_ble_eq_true rfl⟩ (Nat.le_of_ble_eq_true rfl) (List.Perm.refl _) ?_
            exact z_iret C rfl () (by rw [f_X7_reshaped, if_neg c1, if_neg c2, if_neg c3, if_neg c4, if_neg c5]) trivial rfl dX7_reshaped_133
        · refine z_iload_n C dX7_reshaped_49 rfl ?_
          refine z_iload_n C dX7_reshaped_50 rfl ?_
          refine z_icmp_lt C dX7_reshaped_51 75 (by decide) (fun c8 => ?_) (fun c8 => ?_)
          · refine z_iconst C dX7_reshaped_75 1 (by decide +kernel) ?_
            refine z_goto C dX7_reshaped_76 80 (by decide) ?_
            refine z_istore C dX7_reshaped_80 [some (.int p1), some (.int p2), some (.int (f_X7_placeOf p1)), some (.int (f_X7_placeOf p2)), some (.int 0), some (.int 1)] (by decide) rfl ?_
            refine z_iload C dX7_reshaped_82 rfl ?_
            refine z_if_eq C dX7_reshaped_84 108 (by decide) (fun c9 => absurd c9 (by decide +kernel)) (fun c9 => ?_)
            refine z_iload_n C dX7_reshaped_87 rfl ?_
            refine z_callFS C [] [] (met_X7_kindOf l D cI p1) y_X7_kindOf mw_13_7 dX7_reshaped_88 rfl n_X7_kindOf rfl (by decide) ⟨rfl, rfl, Nat.le_of_ble_eq_true rfl, Nat.le_of_ble_eq_true rfl⟩ (Nat.le_of_ble_eq_true rfl) (List.Perm.refl _) ?_
            refine z_iload_n C dX7_reshaped_91 rfl ?_
            refine z_iconst C dX7_reshaped_92 1 (by decide +kernel) ?_
            refine z_iadd C dX7_reshaped_93 ?_
            refine z_iload_n C dX7_reshaped_94 rfl ?_
            refine z_callFS C [] [] (met_X7_letterOf l D cI p1) y_X7_letterOf mw_13_10 dX7_reshaped_95 rfl n_X7_letterOf rfl (by decide) ⟨rfl, rfl, Nat.le_of_ble_eq_true rfl, Nat.le_of_ble_eq_true rfl⟩ (Nat.le_of_ble_eq_true rfl) (List.Perm.refl _) ?_
            refine z_iload_n C dX7_reshaped_98 rfl ?_
            refine z_callFS C [] [] (met_X7_editorBy l D cI p1) y_X7_editorBy mw_13_16 dX7_reshaped_99 rfl n_X7_editorBy rfl (by decide) ⟨rfl, rfl, Nat.le_of_ble_eq_true rfl, Nat.le_of_ble_eq_true rfl⟩ (Nat.le_of_ble_eq_true rfl) (List.Perm.refl _) ?_
            refine z_callFS C [] [] (met_X7_made l D cI (f_X7_kindOf p1) ((f_X7_placeOf p1) + 1) (f_X7_letterOf p1) (f_X7_editorBy p1)) y_X7_made mw_12_17 dX7_reshaped_102 rfl n_X7_made rfl (by decide) ⟨rfl, rfl, Nat.le_of_ble_eq_true rfl, Nat.le_of_ble_eq_true rfl⟩ (Nat.le_of_ble_eq_true rfl) (List.Perm.refl _) ?_
            refine z_goto C dX7_reshaped_105 109 (by decide) ?_
            exact z_iret C rfl () (by rw [f_X7_reshaped, if_neg c1, if_neg c2, if_neg c3, if_pos c4, if_pos c8]) trivial rfl dX7_reshaped_109
          · refine z_iload_n C dX7_reshaped_54 rfl ?_
            refine z_iload_n C dX7_reshaped_55 rfl ?_
            refine z_icmp_ne C dX7_reshaped_56 79 (by decide) (fun c10 => ?_) (fun c10 => ?_)
            · refine z_iconst C dX7_reshaped_79 0 (by decide +kernel) ?_
              refine z_istore C dX7_reshaped_80 [some (.int p1), some (.int p2), some (.int (f_X7_placeOf p1)), some (.int (f_X7_placeOf p2)), some (.int 0), some (.int 0)] (by decide) rfl ?_
              refine z_iload C dX7_reshaped_82 rfl ?_
              refine z_if_eq C dX7_reshaped_84 108 (by decide) (fun c11 => ?_) (fun c11 => absurd c11 (by decide +kernel))
              refine z_iload_n C dX7_reshaped_108 rfl ?_
              exact z_iret C rfl () (by rw [f_X7_reshaped, if_neg c1, if_neg c2, if_neg c3, if_pos c4, if_neg c8, if_neg c10]) trivial rfl dX7_reshaped_109
            · refine z_iload C dX7_reshaped_59 rfl ?_
              refine z_if_eq C dX7_reshaped_61 75 (by decide) (fun c12 => ?_) (fun c12 => absurd c12 (by decide +kernel))
              refine z_iconst C dX7_reshaped_75 1 (by decide +kernel) ?_
              refine z_goto C dX7_reshaped_76 80 (by decide) ?_
              refine z_istore C dX7_reshaped_80 [some (.int p1), some (.int p2), some (.int (f_X7_placeOf p1)), some (.int (f_X7_placeOf p2)), some (.int 0), some (.int 1)] (by decide) rfl ?_
              refine z_iload C dX7_reshaped_82 rfl ?_
              refine z_if_eq C dX7_reshaped_84 108 (by decide) (fun c13 => absurd c13 (by decide +kernel)) (fun c13 => ?_)
              refine z_iload_n C dX7_reshaped_87 rfl ?_
              refine z_callFS C [] [] (met_X7_kindOf l D cI p1) y_X7_kindOf mw_13_7 dX7_reshaped_88 rfl n_X7_kindOf rfl (by decide) ⟨rfl, rfl, Nat.le_of_ble_eq_true rfl, Nat.le_of_ble_eq_true rfl⟩ (Nat.le_of_ble_eq_true rfl) (List.Perm.refl _) ?_
              refine z_iload_n C dX7_reshaped_91 rfl ?_
              refine z_iconst C dX7_reshaped_92 1 (by decide +kernel) ?_
              refine z_iadd C dX7_reshaped_93 ?_
              refine z_iload_n C dX7_reshaped_94 rfl ?_
              refine z_callFS C [] [] (met_X7_letterOf l D cI p1) y_X7_letterOf mw_13_10 dX7_reshaped_95 rfl n_X7_letterOf rfl (by decide) ⟨rfl, rfl, Nat.le_of_ble_eq_true rfl, Nat.le_of_ble_eq_true rfl⟩ (Nat.le_of_ble_eq_true rfl) (List.Perm.refl _) ?_
              refine z_iload_n C dX7_reshaped_98 rfl ?_
              refine z_callFS C [] [] (met_X7_editorBy l D cI p1) y_X7_editorBy mw_13_16 dX7_reshaped_99 rfl n_X7_editorBy rfl (by decide) ⟨rfl, rfl, Nat.le_of_ble_eq_true rfl, Nat.le_of_ble_eq_true rfl⟩ (Nat.le_of_ble_eq_true rfl) (List.Perm.refl _) ?_
              refine z_callFS C [] [] (met_X7_made l D cI (f_X7_kindOf p1) ((f_X7_placeOf p1) + 1) (f_X7_letterOf p1) (f_X7_editorBy p1)) y_X7_made mw_12_17 dX7_reshaped_102 rfl n_X7_made rfl (by decide) ⟨rfl, rfl, Nat.le_of_ble_eq_true rfl, Nat.le_of_ble_eq_true rfl⟩ (Nat.le_of_ble_eq_true rfl) (List.Perm.refl _) ?_
              refine z_goto C dX7_reshaped_105 109 (by decide) ?_
              exact z_iret C rfl () (by rw [f_X7_reshaped, if_neg c1, if_neg c2, if_neg c3, if_pos c4, if_neg c8, if_pos c10]) trivial rfl dX7_reshaped_109
      · refine z_iload_n C dX7_reshaped_39 rfl ?_
        exact z_iret C rfl () (by rw [f_X7_reshaped, if_neg c1, if_neg c2, if_pos c3]) trivial rfl dX7_reshaped_40
  · refine z_iconst C dX7_reshaped_18 1 (by decide +kernel) ?_
    refine z_goto C dX7_reshaped_19 23 (by decide) ?_
    refine z_istore C dX7_reshaped_23 [some (.int p1), some (.int p2), some (.int (f_X7_placeOf p1)), some (.int (f_X7_placeOf p2)), some (.int 1), none] (by decide) rfl ?_
    refine z_iload_n C dX7_reshaped_25 rfl ?_
    refine z_callFS C [] [] (met_X7_kindOf l D cI p1) y_X7_kindOf mw_13_7 dX7_reshaped_26 rfl n_X7_kindOf rfl (by decide) ⟨rfl, rfl, Nat.le_of_ble_eq_true rfl, Nat.le_of_ble_eq_true rfl⟩ (Nat.le_of_ble_eq_true rfl) (List.Perm.refl _) ?_
    refine z_if_eq C dX7_reshaped_29 39 (by decide) (fun c14 => ?_) (fun c14 => ?_)
    · refine z_iload_n C dX7_reshaped_39 rfl ?_
      exact z_iret C rfl () (by rw [f_X7_reshaped, if_pos c1, if_pos c14]) trivial rfl dX7_reshaped_40
    · refine z_iload_n C dX7_reshaped_32 rfl ?_
      refine z_callFS C [] [] (met_X7_kindOf l D cI p2) y_X7_kindOf mw_13_7 dX7_reshaped_33 rfl n_X7_kindOf rfl (by decide) ⟨rfl, rfl, Nat.le_of_ble_eq_true rfl, Nat.le_of_ble_eq_true rfl⟩ (Nat.le_of_ble_eq_true rfl) (List.Perm.refl _) ?_
      refine z_if_ne C dX7_reshaped_36 41 (by decide) (fun c15 => ?_) (fun c15 => ?_)
      · refine z_iload_n C dX7_reshaped_41 rfl ?_
        refine z_callFS C [] [] (met_X7_kindOf l D cI p2) y_X7_kindOf mw_13_7 dX7_reshaped_42 rfl n_X7_kindOf rfl (by decide) ⟨rfl, rfl, Nat.le_of_ble_eq_true rfl, Nat.le_of_ble_eq_true rfl⟩ (Nat.le_of_ble_eq_true rfl) (List.Perm.refl _) ?_
        refine z_iconst C dX7_reshaped_45 1 (by decide +kernel) ?_
        refine z_icmp_ne C dX7_reshaped_46 110 (by decide) (fun c16 => ?_) (fun c16 => ?_)
        · refine z_iload_n C dX7_reshaped_110 rfl ?_
          refine z_iload_n C dX7_reshaped_111 rfl ?_
          refine z_icmp_ge C dX7_reshaped_112 134 (by decide) (fun c17 => ?_) (fun c17 => ?_)
          · refine z_iload_n C dX7_reshaped_134 rfl ?_
            refine z_iload_n C dX7_reshaped_135 rfl ?_
            refine z_icmp_ne C dX7_reshaped_136 157 (by decide) (fun c18 => ?_) (fun c18 => ?_)
            · refine z_iload_n C dX7_reshaped_157 rfl ?_
              exact z_iret C rfl () (by rw [f_X7_reshaped, if_pos c1, if_neg c14, if_neg c15, if_neg c16, if_pos c17, if_neg c18]) trivial rfl dX7_reshaped_158
            · refine z_iload C dX7_reshaped_139 rfl ?_
              refine z_if_ne C dX7_reshaped_141 157 (by decide) (fun c19 => ?_) (fun c19 => absurd c19 (by decide +kernel))
              refine z_iload_n C dX7_reshaped_157 rfl ?_
              exact z_iret C rfl () (by rw [f_X7_reshaped, if_pos c1, if_neg c14, if_neg c15, if_neg c16, if_pos c17, if_pos c18]) trivial rfl dX7_reshaped_158
          · refine z_iload_n C dX7_reshaped_115 rfl ?_
            refine z_callFS C [] [] (met_X7_kindOf l D cI p1) y_X7_kindOf mw_13_7 dX7_reshaped_116 rfl n_X7_kindOf rfl (by decide) ⟨rfl, rfl, Nat.le_of_ble_eq_true rfl, Nat.le_of_ble_eq_true rfl⟩ (Nat.le_of_ble_eq_true rfl) (List.Perm.refl _) ?_
            refine z_iload_n C dX7_reshaped_119 rfl ?_
            refine z_iconst C dX7_reshaped_120 1 (by decide +kernel) ?_
            refine z_isub C dX7_reshaped_121 ?_
            refine z_iload_n C dX7_reshaped_122 rfl ?_
            refine z_callFS C [] [] (met_X7_letterOf l D cI p1) y_X7_letterOf mw_13_10 dX7_reshaped_123 rfl n_X7_letterOf rfl (by decide) ⟨rfl, rfl, Nat.le_of_ble_eq_true rfl, Nat.le_of_ble_eq_true rfl⟩ (Nat.le_of_ble_eq_true rfl) (List.Perm.refl _) ?_
            refine z_iload_n C dX7_reshaped_126 rfl ?_
            refine z_callFS C [] [] (met_X7_editorBy l D cI p1) y_X7_editorBy mw_13_16 dX7_reshaped_127 rfl n_X7_editorBy rfl (by decide) ⟨rfl, rfl, Nat.le_of_ble_eq_true rfl, Nat.le_of_ble_eq_true rfl⟩ (Nat.le_of_ble_eq_true rfl) (List.Perm.refl _) ?_
            refine z_callFS C [] [] (met_X7_made l D cI (f_X7_kindOf p1) ((f_X7_placeOf p1) - 1) (f_X7_letterOf p1) (f_X7_editorBy p1)) y_X7_made mw_12_17 dX7_reshaped_130 rfl n_X7_made rfl (by decide) ⟨rfl, rfl, Nat.le_of_ble_eq_true rfl, Nat.le_of_ble_eq_true rfl⟩ (Nat.le_of_ble_eq_true rfl) (List.Perm.refl _) ?_
            exact z_iret C rfl () (by rw [f_X7_reshaped, if_pos c1, if_neg c14, if_neg c15, if_neg c16, if_neg c17]) trivial rfl dX7_reshaped_133
        · refine z_iload_n C dX7_reshaped_49 rfl ?_
          refine z_iload_n C dX7_reshaped_50 rfl ?_
          refine z_icmp_lt C dX7_reshaped_51 75 (by decide) (fun c20 => ?_) (fun c20 => ?_)
          · refine z_iconst C dX7_reshaped_75 1 (by decide +kernel) ?_
            refine z_goto C dX7_reshaped_76 80 (by decide) ?_
            refine z_istore C dX7_reshaped_80 [some (.int p1), some (.int p2), some (.int (f_X7_placeOf p1)), some (.int (f_X7_placeOf p2)), some (.int 1), some (.int 1)] (by decide) rfl ?_
            refine z_iload C dX7_reshaped_82 rfl ?_
            refine z_if_eq C dX7_reshaped_84 108 (by decide) (fun c21 => absurd c21 (by decide +kernel)) (fun c21 => ?_)
            refine z_iload_n C dX7_reshaped_87 rfl ?_
            refine z_callFS C [] [] (met_X7_kindOf l D cI p1) y_X7_kindOf mw_13_7 dX7_reshaped_88 rfl n_X7_kindOf rfl (by decide) ⟨rfl, rfl, Nat.le_of_ble_eq_true rfl, Nat.le_of_ble_eq_true rfl⟩ (Nat.le_of_ble_eq_true rfl) (List.Perm.refl _) ?_
            refine z_iload_n C dX7_reshaped_91 rfl ?_
            refine z_iconst C dX7_reshaped_92 1 (by decide +kernel) ?_
            refine z_iadd C dX7_reshaped_93 ?_
            refine z_iload_n C dX7_reshaped_94 rfl ?_
            refine z_callFS C [] [] (met_X7_letterOf l D cI p1) y_X7_letterOf mw_13_10 dX7_reshaped_95 rfl n_X7_letterOf rfl (by decide) ⟨rfl, rfl, Nat.le_of_ble_eq_true rfl, Nat.le_of_ble_eq_true rfl⟩ (Nat.le_of_ble_eq_true rfl) (List.Perm.refl _) ?_
            refine z_iload_n C dX7_reshaped_98 rfl ?_
            refine z_callFS C [] [] (met_X7_editorBy l D cI p1) y_X7_editorBy mw_13_16 dX7_reshaped_99 rfl n_X7_editorBy rfl (by decide) ⟨rfl, rfl, Nat.le_of_ble_eq_true rfl, Nat.le_of_ble_eq_true rfl⟩ (Nat.le_of_ble_eq_true rfl) (List.Perm.refl _) ?_
            refine z_callFS C [] [] (met_X7_made l D cI (f_X7_kindOf p1) ((f_X7_placeOf p1) + 1) (f_X7_letterOf p1) (f_X7_editorBy p1)) y_X7_made mw_12_17 dX7_reshaped_102 rfl n_X7_made rfl (by decide) ⟨rfl, rfl, Nat.le_of_ble_eq_true rfl, Nat.le_of_ble_eq_true rfl⟩ (Nat.le_of_ble_eq_true rfl) (List.Perm.refl _) ?_
            refine z_goto C dX7_reshaped_105 109 (by decide) ?_
            exact z_iret C rfl () (by rw [f_X7_reshaped, if_pos c1, if_neg c14, if_neg c15, if_pos c16, if_pos c20]) trivial rfl dX7_reshaped_109
          · refine z_iload_n C dX7_reshaped_54 rfl ?_
            refine z_iload_n C dX7_reshaped_55 rfl ?_
            refine z_icmp_ne C dX7_reshaped_56 79 (by decide) (fun c22 => ?_) (fun c22 => ?_)
            · refine z_iconst C dX7_reshaped_79 0 (by decide +kernel) ?_
              refine z_istore C dX7_reshaped_80 [some (.int p1), some (.int p2), some (.int (f_X7_placeOf p1)), some (.int (f_X7_placeOf p2)), some (.int 1), some (.int 0)] (by decide) rfl ?_
              refine z_iload C dX7_reshaped_82 rfl ?_
              refine z_if_eq C dX7_reshaped_84 108 (by decide) (fun c23 => ?_) (fun c23 => absurd c23 (by decide +kernel))
              refine z_iload_n C dX7_reshaped_108 rfl ?_
              exact z_iret C rfl () (by rw [f_X7_reshaped, if_pos c1, if_neg c14, if_neg c15, if_pos c16, if_neg c20, if_neg c22]) trivial rfl dX7_reshaped_109
            · refine z_iload C dX7_reshaped_59 rfl ?_
              refine z_if_eq C dX7_reshaped_61 75 (by decide) (fun c24 => absurd c24 (by decide +kernel)) (fun c24 => ?_)
              refine z_iload_n C dX7_reshaped_64 rfl ?_
              refine z_callFS C [] [] (met_X7_editorBy l D cI p2) y_X7_editorBy mw_13_16 dX7_reshaped_65 rfl n_X7_editorBy rfl (by decide) ⟨rfl, rfl, Nat.le_of_ble_eq_true rfl, Nat.le_of_ble_eq_true rfl⟩ (Nat.le_of_ble_eq_true rfl) (List.Perm.refl _) ?_
              refine z_iload_n C dX7_reshaped_68 rfl ?_
              refine z_callFS C [] [] (met_X7_editorBy l D cI p1) y_X7_editorBy mw_13_16 dX7_reshaped_69 rfl n_X7_editorBy rfl (by decide) ⟨rfl, rfl, Nat.le_of_ble_eq_true rfl, Nat.le_of_ble_eq_true rfl⟩ (Nat.le_of_ble_eq_true rfl) (List.Perm.refl _) ?_
              refine z_icmp_ge C dX7_reshaped_72 79 (by decide) (fun c25 => ?_) (fun c25 => ?_)
              · refine z_iconst C dX7_reshaped_79 0 (by decide +kernel) ?_
                refine z_istore C dX7_reshaped_80 [some (.int p1), some (.int p2), some (.int (f_X7_placeOf p1)), some (.int (f_X7_placeOf p2)), some (.int 1), some (.int 0)] (by decide) rfl ?_
                refine z_iload C dX7_reshaped_82 rfl ?_
                refine z_if_eq C dX7_reshaped_84 108 (by decide) (fun c26 => ?_) (fun c26 => absurd c26 (by decide +kernel))
                refine z_iload_n C dX7_reshaped_108 rfl ?_
                exact z_iret C rfl () (by rw [f_X7_reshaped, if_pos c1, if_neg c14, if_neg c15, if_pos c16, if_neg c20, if_pos c22, if_pos c25]) trivial rfl dX7_reshaped_109
              · refine z_iconst C dX7_reshaped_75 1 (by decide +kernel) ?_
                refine z_goto C dX7_reshaped_76 80 (by decide) ?_
                refine z_istore C dX7_reshaped_80 [some (.int p1), some (.int p2), some (.int (f_X7_placeOf p1)), some (.int (f_X7_placeOf p2)), some (.int 1), some (.int 1)] (by decide) rfl ?_
                refine z_iload C dX7_reshaped_82 rfl ?_
                refine z_if_eq C dX7_reshaped_84 108 (by decide) (fun c27 => absurd c27 (by decide +kernel)) (fun c27 => ?_)
                refine z_iload_n C dX7_reshaped_87 rfl ?_
                refine z_callFS C [] [] (met_X7_kindOf l D cI p1) y_X7_kindOf mw_13_7 dX7_reshaped_88 rfl n_X7_kindOf rfl (by decide) ⟨rfl, rfl, Nat.le_of_ble_eq_true rfl, Nat.le_of_ble_eq_true rfl⟩ (Nat.le_of_ble_eq_true rfl) (List.Perm.refl _) ?_
                refine z_iload_n C dX7_reshaped_91 rfl ?_
                refine z_iconst C dX7_reshaped_92 1 (by decide +kernel) ?_
                refine z_iadd C dX7_reshaped_93 ?_
                refine z_iload_n C dX7_reshaped_94 rfl ?_
                refine z_callFS C [] [] (met_X7_letterOf l D cI p1) y_X7_letterOf mw_13_10 dX7_reshaped_95 rfl n_X7_letterOf rfl (by decide) ⟨rfl, rfl, Nat.le_of_ble_eq_true rfl, Nat.le_of_ble_eq_true rfl⟩ (Nat.le_of_ble_eq_true rfl) (List.Perm.refl _) ?_
                refine z_iload_n C dX7_reshaped_98 rfl ?_
                refine z_callFS C [] [] (met_X7_editorBy l D cI p1) y_X7_editorBy mw_13_16 dX7_reshaped_99 rfl n_X7_editorBy rfl (by decide) ⟨rfl, rfl, Nat.le_of_ble_eq_true rfl, Nat.le_of_ble_eq_true rfl⟩ (Nat.le_of_ble_eq_true rfl) (List.Perm.refl _) ?_
                refine z_callFS C [] [] (met_X7_made l D cI (f_X7_kindOf p1) ((f_X7_placeOf p1) + 1) (f_X7_letterOf p1) (f_X7_editorBy p1)) y_X7_made mw_12_17 dX7_reshaped_102 rfl n_X7_made rfl (by decide) ⟨rfl, rfl, Nat.le_of_ble_eq_true rfl, Nat.le_of_ble_eq_true rfl⟩ (Nat.le_of_ble_eq_true rfl) (List.Perm.refl _) ?_
                refine z_goto C dX7_reshaped_105 109 (by decide) ?_
                exact z_iret C rfl () (by rw [f_X7_reshaped, if_pos c1, if_neg c14, if_neg c15, if_pos c16, if_neg c20, if_pos c22, if_neg c25]) trivial rfl dX7_reshaped_109
      · refine z_iload_n C dX7_reshaped_39 rfl ?_
        exact z_iret C rfl () (by rw [f_X7_reshaped, if_pos c1, if_neg c14, if_pos c15]) trivial rfl dX7_reshaped_40
def rmX7_told : Room := { frames := 1, cells := 0, slots := 0, locals := 20 }
def f_X7_told  (p1 : Int32) (p2 : Int32) : Int32 := (if p2 = 0 then (f_X7_kindOf p1) else (if p2 = 1 then (if (f_X7_kindOf p1) = 0 then (-4) else (f_X7_placeOf p1)) else (if p2 = 2 then (if (f_X7_kindOf p1) = 1 then (f_X7_letterOf p1) else (-4)) else (f_X7_editorBy p1))))
set_option maxHeartbeats 4000000 in
set_option maxRecDepth 100000 in
theorem met_X7_told (l : Launch) (D : va_G) (cI : ClassId)   (p1 : Int32) (p2 : Int32) : ZM l D cI yX7_told cX7_told 3 (some .int) rmX7_told [.int p1, .int p2] [] (fun _ : Unit => some (.int (f_X7_told p1 p2))) (fun _ : Unit => []) (fun _ : Unit => True) := by
  refine z_body [some (.int p1), some (.int p2), none] (by decide +kernel) rfl (Nat.le_of_ble_eq_true rfl) rfl ?_
  intro p e s m args below meth c A C hin
  refine z_iload_n C dX7_told_0 rfl ?_
  refine z_callFS C [] [] (met_X7_kindOf l D cI p1) y_X7_kindOf mw_13_7 dX7_told_1 rfl n_X7_kindOf rfl (by decide) ⟨rfl, rfl, Nat.le_of_ble_eq_true rfl, Nat.le_of_ble_eq_true rfl⟩ (Nat.le_of_ble_eq_true rfl) (List.Perm.refl _) ?_
  refine z_istore_n C dX7_told_4 [some (.int p1), some (.int p2), some (.int (f_X7_kindOf p1))] (by decide) rfl ?_
  refine z_iload_n C dX7_told_5 rfl ?_
  refine z_if_ne C dX7_told_6 13 (by decide) (fun c1 => ?_) (fun c1 => ?_)
  · refine z_iload_n C dX7_told_13 rfl ?_
    refine z_iconst C dX7_told_14 1 (by decide +kernel) ?_
    refine z_icmp_ne C dX7_told_15 34 (by decide) (fun c2 => ?_) (fun c2 => ?_)
    · refine z_iload_n C dX7_told_34 rfl ?_
      refine z_iconst C dX7_told_35 2 (by decide +kernel) ?_
      refine z_icmp_ne C dX7_told_36 56 (by decide) (fun c3 => ?_) (fun c3 => ?_)
      · refine z_iload_n C dX7_told_56 rfl ?_
        refine z_callFS C [] [] (met_X7_editorBy l D cI p1) y_X7_editorBy mw_13_16 dX7_told_57 rfl n_X7_editorBy rfl (by decide) ⟨rfl, rfl, Nat.le_of_ble_eq_true rfl, Nat.le_of_ble_eq_true rfl⟩ (Nat.le_of_ble_eq_true rfl) (List.Perm.refl _) ?_
        exact z_iret C rfl () (by rw [f_X7_told, if_neg c1, if_neg c2, if_neg c3]) trivial rfl dX7_told_60
      · refine z_iload_n C dX7_told_39 rfl ?_
        refine z_iconst C dX7_told_40 1 (by decide +kernel) ?_
        refine z_icmp_ne C dX7_told_41 51 (by decide) (fun c4 => ?_) (fun c4 => ?_)
        · refine z_bipush C dX7_told_51 (-4) (by decide +kernel) ?_
          refine z_goto C dX7_told_53 60 (by decide) ?_
          exact z_iret C rfl () (by rw [f_X7_told, if_neg c1, if_neg c2, if_pos c3, if_neg c4]) trivial rfl dX7_told_60
        · refine z_iload_n C dX7_told_44 rfl ?_
          refine z_callFS C [] [] (met_X7_letterOf l D cI p1) y_X7_letterOf mw_13_10 dX7_told_45 rfl n_X7_letterOf rfl (by decide) ⟨rfl, rfl, Nat.le_of_ble_eq_true rfl, Nat.le_of_ble_eq_true rfl⟩ (Nat.le_of_ble_eq_true rfl) (List.Perm.refl _) ?_
          refine z_goto C dX7_told_48 60 (by decide) ?_
          exact z_iret C rfl () (by rw [f_X7_told, if_neg c1, if_neg c2, if_pos c3, if_pos c4]) trivial rfl dX7_told_60
    · refine z_iload_n C dX7_told_18 rfl ?_
      refine z_if_ne C dX7_told_19 27 (by decide) (fun c5 => ?_) (fun c5 => ?_)
      · refine z_iload_n C dX7_told_27 rfl ?_
        refine z_callFS C [] [] (met_X7_placeOf l D cI p1) y_X7_placeOf mw_13_4 dX7_told_28 rfl n_X7_placeOf rfl (by decide) ⟨rfl, rfl, Nat.le_of_ble_eq_true rfl, Nat.le_of_ble_eq_true rfl⟩ (Nat.le_of_ble_eq_true rfl) (List.Perm.refl _) ?_
        refine z_goto C dX7_told_31 60 (by decide) ?_
        exact z_iret C rfl () (by rw [f_X7_told, if_neg c1, if_pos c2, if_neg c5]) trivial rfl dX7_told_60
      · refine z_bipush C dX7_told_22 (-4) (by decide +kernel) ?_
        refine z_goto C dX7_told_24 60 (by decide) ?_
        exact z_iret C rfl () (by rw [f_X7_told, if_neg c1, if_pos c2, if_pos c5]) trivial rfl dX7_told_60
  · refine z_iload_n C dX7_told_9 rfl ?_
    refine z_goto C dX7_told_10 60 (by decide) ?_
    exact z_iret C rfl () (by rw [f_X7_told, if_pos c1]) trivial rfl dX7_told_60
