/-! printed by wip/p25/gen.py: what each method does, and that the machine does it -/
def rmX0_of : Room := { frames := 0, cells := 0, slots := 0, locals := 0 }
def f_X0_of  (p1 : Int32) (p2 : Int32) (p3 : Int32) (p4 : Int32) : Int32 := (((p1 ||| (p4 <<< (2 &&& 31))) ||| (p3 <<< (4 &&& 31))) ||| (p2 <<< (9 &&& 31)))
set_option maxHeartbeats 4000000 in
set_option maxRecDepth 100000 in
theorem met_X0_of (l : Launch) (D : va_G) (cI : ClassId)   (p1 : Int32) (p2 : Int32) (p3 : Int32) (p4 : Int32) : ZM l D cI yX0_of cX0_of 4 (some .int) rmX0_of [.int p1, .int p2, .int p3, .int p4] [] (fun _ : Unit => some (.int (f_X0_of p1 p2 p3 p4))) (fun _ : Unit => []) (fun _ : Unit => True) := by
  refine z_body [some (.int p1), some (.int p2), some (.int p3), some (.int p4)] (by decide +kernel) rfl (Nat.le_of_ble_eq_true rfl) rfl ?_
  intro p e s m args below meth c A C hin
  refine z_iload_n C dX0_of_0 rfl ?_
  refine z_iload_n C dX0_of_1 rfl ?_
  refine z_iconst C dX0_of_2 2 (by decide +kernel) ?_
  refine z_ishl C dX0_of_3 ?_
  refine z_ior C dX0_of_4 ?_
  refine z_iload_n C dX0_of_5 rfl ?_
  refine z_iconst C dX0_of_6 4 (by decide +kernel) ?_
  refine z_ishl C dX0_of_7 ?_
  refine z_ior C dX0_of_8 ?_
  refine z_iload_n C dX0_of_9 rfl ?_
  refine z_bipush C dX0_of_10 9 (by decide +kernel) ?_
  refine z_ishl C dX0_of_12 ?_
  refine z_ior C dX0_of_13 ?_
  exact z_iret C rfl () (by rw [f_X0_of]) trivial rfl dX0_of_14
def rmX0_kind : Room := { frames := 0, cells := 0, slots := 0, locals := 0 }
def f_X0_kind  (p1 : Int32) : Int32 := (p1 &&& 3)
set_option maxHeartbeats 4000000 in
set_option maxRecDepth 100000 in
theorem met_X0_kind (l : Launch) (D : va_G) (cI : ClassId)   (p1 : Int32) : ZM l D cI yX0_kind cX0_kind 1 (some .int) rmX0_kind [.int p1] [] (fun _ : Unit => some (.int (f_X0_kind p1))) (fun _ : Unit => []) (fun _ : Unit => True) := by
  refine z_body [some (.int p1)] (by decide +kernel) rfl (Nat.le_of_ble_eq_true rfl) rfl ?_
  intro p e s m args below meth c A C hin
  refine z_iload_n C dX0_kind_0 rfl ?_
  refine z_iconst C dX0_kind_1 3 (by decide +kernel) ?_
  refine z_iand C dX0_kind_2 ?_
  exact z_iret C rfl () (by rw [f_X0_kind]) trivial rfl dX0_kind_3
def rmX0_place : Room := { frames := 0, cells := 0, slots := 0, locals := 0 }
def f_X0_place  (p1 : Int32) : Int32 := (p1 >>> (9 &&& 31))
set_option maxHeartbeats 4000000 in
set_option maxRecDepth 100000 in
theorem met_X0_place (l : Launch) (D : va_G) (cI : ClassId)   (p1 : Int32) : ZM l D cI yX0_place cX0_place 1 (some .int) rmX0_place [.int p1] [] (fun _ : Unit => some (.int (f_X0_place p1))) (fun _ : Unit => []) (fun _ : Unit => True) := by
  refine z_body [some (.int p1)] (by decide +kernel) rfl (Nat.le_of_ble_eq_true rfl) rfl ?_
  intro p e s m args below meth c A C hin
  refine z_iload_n C dX0_place_0 rfl ?_
  refine z_bipush C dX0_place_1 9 (by decide +kernel) ?_
  refine z_ishr C dX0_place_3 ?_
  exact z_iret C rfl () (by rw [f_X0_place]) trivial rfl dX0_place_4
def rmX0_sign : Room := { frames := 0, cells := 0, slots := 0, locals := 0 }
def f_X0_sign  (p1 : Int32) : Int32 := ((p1 >>> (4 &&& 31)) &&& 31)
set_option maxHeartbeats 4000000 in
set_option maxRecDepth 100000 in
theorem met_X0_sign (l : Launch) (D : va_G) (cI : ClassId)   (p1 : Int32) : ZM l D cI yX0_sign cX0_sign 1 (some .int) rmX0_sign [.int p1] [] (fun _ : Unit => some (.int (f_X0_sign p1))) (fun _ : Unit => []) (fun _ : Unit => True) := by
  refine z_body [some (.int p1)] (by decide +kernel) rfl (Nat.le_of_ble_eq_true rfl) rfl ?_
  intro p e s m args below meth c A C hin
  refine z_iload_n C dX0_sign_0 rfl ?_
  refine z_iconst C dX0_sign_1 4 (by decide +kernel) ?_
  refine z_ishr C dX0_sign_2 ?_
  refine z_bipush C dX0_sign_3 31 (by decide +kernel) ?_
  refine z_iand C dX0_sign_5 ?_
  exact z_iret C rfl () (by rw [f_X0_sign]) trivial rfl dX0_sign_6
def rmX0_writer : Room := { frames := 0, cells := 0, slots := 0, locals := 0 }
def f_X0_writer  (p1 : Int32) : Int32 := ((p1 &&& 12) >>> (2 &&& 31))
set_option maxHeartbeats 4000000 in
set_option maxRecDepth 100000 in
theorem met_X0_writer (l : Launch) (D : va_G) (cI : ClassId)   (p1 : Int32) : ZM l D cI yX0_writer cX0_writer 1 (some .int) rmX0_writer [.int p1] [] (fun _ : Unit => some (.int (f_X0_writer p1))) (fun _ : Unit => []) (fun _ : Unit => True) := by
  refine z_body [some (.int p1)] (by decide +kernel) rfl (Nat.le_of_ble_eq_true rfl) rfl ?_
  intro p e s m args below meth c A C hin
  refine z_iload_n C dX0_writer_0 rfl ?_
  refine z_bipush C dX0_writer_1 12 (by decide +kernel) ?_
  refine z_iand C dX0_writer_3 ?_
  refine z_iconst C dX0_writer_4 2 (by decide +kernel) ?_
  refine z_ishr C dX0_writer_5 ?_
  exact z_iret C rfl () (by rw [f_X0_writer]) trivial rfl dX0_writer_6
def rmX0_part : Room := { frames := 1, cells := 0, slots := 0, locals := 20 }
def f_X0_part  (p1 : Int32) (p2 : Int32) : Int32 := (if p2 = 0 then (f_X0_kind p1) else (if p2 = 1 then (if (f_X0_kind p1) = 0 then (-4) else (f_X0_place p1)) else (if p2 = 2 then (if (f_X0_kind p1) = 1 then (f_X0_sign p1) else (-4)) else (f_X0_writer p1))))
set_option maxHeartbeats 4000000 in
set_option maxRecDepth 100000 in
theorem met_X0_part (l : Launch) (D : va_G) (cI : ClassId)   (p1 : Int32) (p2 : Int32) : ZM l D cI yX0_part cX0_part 3 (some .int) rmX0_part [.int p1, .int p2] [] (fun _ : Unit => some (.int (f_X0_part p1 p2))) (fun _ : Unit => []) (fun _ : Unit => True) := by
  refine z_body [some (.int p1), some (.int p2), none] (by decide +kernel) rfl (Nat.le_of_ble_eq_true rfl) rfl ?_
  intro p e s m args below meth c A C hin
  refine z_iload_n C dX0_part_0 rfl ?_
  refine z_callFS C [] [] (met_X0_kind l D cI p1) y_X0_kind mw_14_14 dX0_part_1 rfl n_X0_kind rfl (by decide) ⟨rfl, rfl, Nat.le_of_ble_eq_true rfl, Nat.le_of_ble_eq_true rfl⟩ (Nat.le_of_ble_eq_true rfl) (List.Perm.refl _) ?_
  refine z_istore_n C dX0_part_4 [some (.int p1), some (.int p2), some (.int (f_X0_kind p1))] (by decide) rfl ?_
  refine z_iload_n C dX0_part_5 rfl ?_
  by_cases c1 : p2 = 0
  · refine z_tableAt C dX0_part_6 0 c1 (by decide) (by decide) 26 rfl 32 (by decide) ?_
    refine z_iload_n C dX0_part_32 rfl ?_
    exact z_iret C rfl () (by rw [f_X0_part, if_pos c1]) trivial rfl dX0_part_33
  by_cases c2 : p2 = 1
  · refine z_tableAt C dX0_part_6 1 c2 (by decide) (by decide) 28 rfl 34 (by decide) ?_
    refine z_iload_n C dX0_part_34 rfl ?_
    refine z_if_ne C dX0_part_35 43 (by decide) (fun c3 => ?_) (fun c3 => ?_)
    · refine z_iload_n C dX0_part_43 rfl ?_
      refine z_callFS C [] [] (met_X0_place l D cI p1) y_X0_place mw_14_15 dX0_part_44 rfl n_X0_place rfl (by decide) ⟨rfl, rfl, Nat.le_of_ble_eq_true rfl, Nat.le_of_ble_eq_true rfl⟩ (Nat.le_of_ble_eq_true rfl) (List.Perm.refl _) ?_
      exact z_iret C rfl () (by rw [f_X0_part, if_neg c1, if_pos c2, if_neg c3]) trivial rfl dX0_part_47
    · refine z_bipush C dX0_part_38 (-4) (by decide +kernel) ?_
      refine z_goto C dX0_part_40 47 (by decide) ?_
      exact z_iret C rfl () (by rw [f_X0_part, if_neg c1, if_pos c2, if_pos c3]) trivial rfl dX0_part_47
  by_cases c4 : p2 = 2
  · refine z_tableAt C dX0_part_6 2 c4 (by decide) (by decide) 42 rfl 48 (by decide) ?_
    refine z_iload_n C dX0_part_48 rfl ?_
    refine z_iconst C dX0_part_49 1 (by decide +kernel) ?_
    refine z_icmp_ne C dX0_part_50 60 (by decide) (fun c5 => ?_) (fun c5 => ?_)
    · refine z_bipush C dX0_part_60 (-4) (by decide +kernel) ?_
      exact z_iret C rfl () (by rw [f_X0_part, if_neg c1, if_neg c2, if_pos c4, if_neg c5]) trivial rfl dX0_part_62
    · refine z_iload_n C dX0_part_53 rfl ?_
      refine z_callFS C [] [] (met_X0_sign l D cI p1) y_X0_sign mw_14_16 dX0_part_54 rfl n_X0_sign rfl (by decide) ⟨rfl, rfl, Nat.le_of_ble_eq_true rfl, Nat.le_of_ble_eq_true rfl⟩ (Nat.le_of_ble_eq_true rfl) (List.Perm.refl _) ?_
      refine z_goto C dX0_part_57 62 (by decide) ?_
      exact z_iret C rfl () (by rw [f_X0_part, if_neg c1, if_neg c2, if_pos c4, if_pos c5]) trivial rfl dX0_part_62
  refine z_tableOut C dX0_part_6 (by
    have nc1 := lv_neT (a := 0) c1 rfl
    have nc2 := lv_neT (a := 1) c2 rfl
    have nc4 := lv_neT (a := 2) c4 rfl
    omega) 63 (by decide) ?_
  refine z_iload_n C dX0_part_63 rfl ?_
  refine z_callFS C [] [] (met_X0_writer l D cI p1) y_X0_writer mw_14_17 dX0_part_64 rfl n_X0_writer rfl (by decide) ⟨rfl, rfl, Nat.le_of_ble_eq_true rfl, Nat.le_of_ble_eq_true rfl⟩ (Nat.le_of_ble_eq_true rfl) (List.Perm.refl _) ?_
  exact z_iret C rfl () (by rw [f_X0_part, if_neg c1, if_neg c2, if_neg c4]) trivial rfl dX0_part_67
def rmX0_reshaped : Room := { frames := 0, cells := 0, slots := 0, locals := 0 }
def f_X0_reshaped  (p1 : Int32) (p2 : Int32) : Int32 := (if (p1 &&& 3) = 0 then p1 else (if (p2 &&& 3) = 0 then p1 else (if (p2 >>> (9 &&& 31)) = (p1 >>> (9 &&& 31)) then (if (p2 &&& 3) = 1 then (if (p1 &&& 12) ≤ (p2 &&& 12) then (if (p1 &&& 3) = 2 then (if (p2 >>> (9 &&& 31)) < (p1 >>> (9 &&& 31)) then (p1 + 512) else (p1 + 512)) else (if (p2 >>> (9 &&& 31)) < (p1 >>> (9 &&& 31)) then (p1 + 512) else p1)) else (if (p1 &&& 3) = 2 then (if (p2 >>> (9 &&& 31)) < (p1 >>> (9 &&& 31)) then (p1 + 512) else (p1 + 512)) else (if (p2 >>> (9 &&& 31)) < (p1 >>> (9 &&& 31)) then (p1 + 512) else (p1 + 512)))) else (if (p1 >>> (9 &&& 31)) ≤ (p2 >>> (9 &&& 31)) then (if (p1 &&& 3) = 2 then (p1 - (p1 &&& 3)) else p1) else (p1 - 512))) else (if (p2 &&& 3) = 1 then (if (p1 &&& 12) ≤ (p2 &&& 12) then (if (p2 >>> (9 &&& 31)) < (p1 >>> (9 &&& 31)) then (p1 + 512) else p1) else (if (p2 >>> (9 &&& 31)) < (p1 >>> (9 &&& 31)) then (p1 + 512) else p1)) else (if (p1 >>> (9 &&& 31)) ≤ (p2 >>> (9 &&& 31)) then p1 else (p1 - 512))))))
set_option maxHeartbeats 4000000 in
set_option maxRecDepth 100000 in
theorem met_X0_reshaped (l : Launch) (D : va_G) (cI : ClassId)   (p1 : Int32) (p2 : Int32) : ZM l D cI yX0_reshaped cX0_reshaped 9 (some .int) rmX0_reshaped [.int p1, .int p2] [] (fun _ : Unit => some (.int (f_X0_reshaped p1 p2))) (fun _ : Unit => []) (fun _ : Unit => True) := by
  refine z_body [some (.int p1), some (.int p2), none, none, none, none, none, none, none] (by decide +kernel) rfl (Nat.le_of_ble_eq_true rfl) rfl ?_
  intro p e s m args below meth c A C hin
  refine z_iload_n C dX0_reshaped_0 rfl ?_
  refine z_iconst C dX0_reshaped_1 3 (by decide +kernel) ?_
  refine z_iand C dX0_reshaped_2 ?_
  refine z_istore_n C dX0_reshaped_3 [some (.int p1), some (.int p2), some (.int (p1 &&& 3)), none, none, none, none, none, none] (by decide) rfl ?_
  refine z_iload_n C dX0_reshaped_4 rfl ?_
  refine z_iconst C dX0_reshaped_5 3 (by decide +kernel) ?_
  refine z_iand C dX0_reshaped_6 ?_
  refine z_istore_n C dX0_reshaped_7 [some (.int p1), some (.int p2), some (.int (p1 &&& 3)), some (.int (p2 &&& 3)), none, none, none, none, none] (by decide) rfl ?_
  refine z_iload_n C dX0_reshaped_8 rfl ?_
  refine z_if_eq C dX0_reshaped_9 16 (by decide) (fun c1 => ?_) (fun c1 => ?_)
  · refine z_iload_n C dX0_reshaped_16 rfl ?_
    exact z_iret C rfl () (by rw [f_X0_reshaped, if_pos c1]) trivial rfl dX0_reshaped_17
  · refine z_iload_n C dX0_reshaped_12 rfl ?_
    refine z_if_ne C dX0_reshaped_13 18 (by decide) (fun c2 => ?_) (fun c2 => ?_)
    · refine z_iload_n C dX0_reshaped_18 rfl ?_
      refine z_bipush C dX0_reshaped_19 9 (by decide +kernel) ?_
      refine z_ishr C dX0_reshaped_21 ?_
      refine z_istore C dX0_reshaped_22 [some (.int p1), some (.int p2), some (.int (p1 &&& 3)), some (.int (p2 &&& 3)), some (.int (p1 >>> (9 &&& 31))), none, none, none, none] (by decide) rfl ?_
      refine z_iload_n C dX0_reshaped_24 rfl ?_
      refine z_bipush C dX0_reshaped_25 9 (by decide +kernel) ?_
      refine z_ishr C dX0_reshaped_27 ?_
      refine z_istore C dX0_reshaped_28 [some (.int p1), some (.int p2), some (.int (p1 &&& 3)), some (.int (p2 &&& 3)), some (.int (p1 >>> (9 &&& 31))), some (.int (p2 >>> (9 &&& 31))), none, none, none] (by decide) rfl ?_
      refine z_iload C dX0_reshaped_30 rfl ?_
      refine z_iload C dX0_reshaped_32 rfl ?_
      refine z_icmp_ne C dX0_reshaped_34 41 (by decide) (fun c3 => ?_) (fun c3 => ?_)
      · refine z_iconst C dX0_reshaped_41 0 (by decide +kernel) ?_
        refine z_istore C dX0_reshaped_42 [some (.int p1), some (.int p2), some (.int (p1 &&& 3)), some (.int (p2 &&& 3)), some (.int (p1 >>> (9 &&& 31))), some (.int (p2 >>> (9 &&& 31))), some (.int 0), none, none] (by decide) rfl ?_
        refine z_iload_n C dX0_reshaped_44 rfl ?_
        refine z_iconst C dX0_reshaped_45 1 (by decide +kernel) ?_
        refine z_icmp_ne C dX0_reshaped_46 111 (by decide) (fun c4 => ?_) (fun c4 => ?_)
        · refine z_iload C dX0_reshaped_111 rfl ?_
          refine z_iload C dX0_reshaped_113 rfl ?_
          refine z_icmp_ge C dX0_reshaped_115 124 (by decide) (fun c5 => ?_) (fun c5 => ?_)
          · refine z_iload C dX0_reshaped_124 rfl ?_
            refine z_if_eq C dX0_reshaped_126 140 (by decide) (fun c6 => ?_) (fun c6 => absurd c6 (by decide +kernel))
            refine z_iload_n C dX0_reshaped_140 rfl ?_
            exact z_iret C rfl () (by rw [f_X0_reshaped, if_neg c1, if_neg c2, if_neg c3, if_neg c4, if_pos c5]) trivial rfl dX0_reshaped_141
          · refine z_iload_n C dX0_reshaped_118 rfl ?_
            refine z_sipush C dX0_reshaped_119 512 (by decide +kernel) ?_
            refine z_isub C dX0_reshaped_122 ?_
            exact z_iret C rfl () (by rw [f_X0_reshaped, if_neg c1, if_neg c2, if_neg c3, if_neg c4, if_neg c5]) trivial rfl dX0_reshaped_123
        · refine z_iload_n C dX0_reshaped_49 rfl ?_
          refine z_bipush C dX0_reshaped_50 12 (by decide +kernel) ?_
          refine z_iand C dX0_reshaped_52 ?_
          refine z_iload_n C dX0_reshaped_53 rfl ?_
          refine z_bipush C dX0_reshaped_54 12 (by decide +kernel) ?_
          refine z_iand C dX0_reshaped_56 ?_
          refine z_icmp_ge C dX0_reshaped_57 64 (by decide) (fun c7 => ?_) (fun c7 => ?_)
          · refine z_iconst C dX0_reshaped_64 0 (by decide +kernel) ?_
            refine z_istore C dX0_reshaped_65 [some (.int p1), some (.int p2), some (.int (p1 &&& 3)), some (.int (p2 &&& 3)), some (.int (p1 >>> (9 &&& 31))), some (.int (p2 >>> (9 &&& 31))), some (.int 0), some (.int 0), none] (by decide) rfl ?_
            refine z_iload C dX0_reshaped_67 rfl ?_
            refine z_if_eq C dX0_reshaped_69 86 (by decide) (fun c8 => ?_) (fun c8 => absurd c8 (by decide +kernel))
            refine z_iconst C dX0_reshaped_86 0 (by decide +kernel) ?_
            refine z_istore C dX0_reshaped_87 [some (.int p1), some (.int p2), some (.int (p1 &&& 3)), some (.int (p2 &&& 3)), some (.int (p1 >>> (9 &&& 31))), some (.int (p2 >>> (9 &&& 31))), some (.int 0), some (.int 0), some (.int 0)] (by decide) rfl ?_
            refine z_iload C dX0_reshaped_89 rfl ?_
            refine z_iload C dX0_reshaped_91 rfl ?_
            refine z_icmp_lt C dX0_reshaped_93 101 (by decide) (fun c9 => ?_) (fun c9 => ?_)
            · refine z_iload_n C dX0_reshaped_101 rfl ?_
              refine z_sipush C dX0_reshaped_102 512 (by decide +kernel) ?_
              refine z_iadd C dX0_reshaped_105 ?_
              refine z_goto C dX0_reshaped_106 110 (by decide) ?_
              exact z_iret C rfl () (by rw [f_X0_reshaped, if_neg c1, if_neg c2, if_neg c3, if_pos c4, if_pos c7, if_pos c9]) trivial rfl dX0_reshaped_110
            · refine z_iload C dX0_reshaped_96 rfl ?_
              refine z_if_eq C dX0_reshaped_98 109 (by decide) (fun c10 => ?_) (fun c10 => absurd c10 (by decide +kernel))
              refine z_iload_n C dX0_reshaped_109 rfl ?_
              exact z_iret C rfl () (by rw [f_X0_reshaped, if_neg c1, if_neg c2, if_neg c3, if_pos c4, if_pos c7, if_neg c9]) trivial rfl dX0_reshaped_110
          · refine z_iconst C dX0_reshaped_60 1 (by decide +kernel) ?_
            refine z_goto C dX0_reshaped_61 65 (by decide) ?_
            refine z_istore C dX0_reshaped_65 [some (.int p1), some (.int p2), some (.int (p1 &&& 3)), some (.int (p2 &&& 3)), some (.int (p1 >>> (9 &&& 31))), some (.int (p2 >>> (9 &&& 31))), some (.int 0), some (.int 1), none] (by decide) rfl ?_
            refine z_iload C dX0_reshaped_67 rfl ?_
            refine z_if_eq C dX0_reshaped_69 86 (by decide) (fun c11 => ?_) (fun c11 => absurd c11 (by decide +kernel))
            refine z_iconst C dX0_reshaped_86 0 (by decide +kernel) ?_
            refine z_istore C dX0_reshaped_87 [some (.int p1), some (.int p2), some (.int (p1 &&& 3)), some (.int (p2 &&& 3)), some (.int (p1 >>> (9 &&& 31))), some (.int (p2 >>> (9 &&& 31))), some (.int 0), some (.int 1), some (.int 0)] (by decide) rfl ?_
            refine z_iload C dX0_reshaped_89 rfl ?_
            refine z_iload C dX0_reshaped_91 rfl ?_
            refine z_icmp_lt C dX0_reshaped_93 101 (by decide) (fun c12 => ?_) (fun c12 => ?_)
            · refine z_iload_n C dX0_reshaped_101 rfl ?_
              refine z_sipush C dX0_reshaped_102 512 (by decide +kernel) ?_
              refine z_iadd C dX0_reshaped_105 ?_
              refine z_goto C dX0_reshaped_106 110 (by decide) ?_
              exact z_iret C rfl () (by rw [f_X0_reshaped, if_neg c1, if_neg c2, if_neg c3, if_pos c4, if_neg c7, if_pos c12]) trivial rfl dX0_reshaped_110
            · refine z_iload C dX0_reshaped_96 rfl ?_
              refine z_if_eq C dX0_reshaped_98 109 (by decide) (fun c13 => ?_) (fun c13 => absurd c13 (by decide +kernel))
              refine z_iload_n C dX0_reshaped_109 rfl ?_
              exact z_iret C rfl () (by rw [f_X0_reshaped, if_neg c1, if_neg c2, if_neg c3, if_pos c4, if_neg c7, if_neg c12]) trivial rfl dX0_reshaped_110
      · refine z_iconst C dX0_reshaped_37 1 (by decide +kernel) ?_
        refine z_goto C dX0_reshaped_38 42 (by decide) ?_
        refine z_istore C dX0_reshaped_42 [some (.int p1), some (.int p2), some (.int (p1 &&& 3)), some (.int (p2 &&& 3)), some (.int (p1 >>> (9 &&& 31))), some (.int (p2 >>> (9 &&& 31))), some (.int 1), none, none] (by decide) rfl ?_
        refine z_iload_n C dX0_reshaped_44 rfl ?_
        refine z_iconst C dX0_reshaped_45 1 (by decide +kernel) ?_
        refine z_icmp_ne C dX0_reshaped_46 111 (by decide) (fun c14 => ?_) (fun c14 => ?_)
        · refine z_iload C dX0_reshaped_111 rfl ?_
          refine z_iload C dX0_reshaped_113 rfl ?_
          refine z_icmp_ge C dX0_reshaped_115 124 (by decide) (fun c15 => ?_) (fun c15 => ?_)
          · refine z_iload C dX0_reshaped_124 rfl ?_
            refine z_if_eq C dX0_reshaped_126 140 (by decide) (fun c16 => absurd c16 (by decide +kernel)) (fun c16 => ?_)
            refine z_iload_n C dX0_reshaped_129 rfl ?_
            refine z_iconst C dX0_reshaped_130 2 (by decide +kernel) ?_
            refine z_icmp_ne C dX0_reshaped_131 140 (by decide) (fun c17 => ?_) (fun c17 => ?_)
            · refine z_iload_n C dX0_reshaped_140 rfl ?_
              exact z_iret C rfl () (by rw [f_X0_reshaped, if_neg c1, if_neg c2, if_pos c3, if_neg c14, if_pos c15, if_neg c17]) trivial rfl dX0_reshaped_141
            · refine z_iload_n C dX0_reshaped_134 rfl ?_
              refine z_iload_n C dX0_reshaped_135 rfl ?_
              refine z_isub C dX0_reshaped_136 ?_
              refine z_goto C dX0_reshaped_137 141 (by decide) ?_
              exact z_iret C rfl () (by rw [f_X0_reshaped, if_neg c1, if_neg c2, if_pos c3, if_neg c14, if_pos c15, if_pos c17]) trivial rfl dX0_reshaped_141
          · refine z_iload_n C dX0_reshaped_118 rfl ?_
            refine z_sipush C dX0_reshaped_119 512 (by decide +kernel) ?_
            refine z_isub C dX0_reshaped_122 ?_
            exact z_iret C rfl () (by rw [f_X0_reshaped, if_neg c1, if_neg c2, if_pos c3, if_neg c14, if_neg c15]) trivial rfl dX0_reshaped_123
        · refine z_iload_n C dX0_reshaped_49 rfl ?_
          refine z_bipush C dX0_reshaped_50 12 (by decide +kernel) ?_
          refine z_iand C dX0_reshaped_52 ?_
          refine z_iload_n C dX0_reshaped_53 rfl ?_
          refine z_bipush C dX0_reshaped_54 12 (by decide +kernel) ?_
          refine z_iand C dX0_reshaped_56 ?_
          refine z_icmp_ge C dX0_reshaped_57 64 (by decide) (fun c18 => ?_) (fun c18 => ?_)
          · refine z_iconst C dX0_reshaped_64 0 (by decide +kernel) ?_
            refine z_istore C dX0_reshaped_65 [some (.int p1), some (.int p2), some (.int (p1 &&& 3)), some (.int (p2 &&& 3)), some (.int (p1 >>> (9 &&& 31))), some (.int (p2 >>> (9 &&& 31))), some (.int 1), some (.int 0), none] (by decide) rfl ?_
            refine z_iload C dX0_reshaped_67 rfl ?_
            refine z_if_eq C dX0_reshaped_69 86 (by decide) (fun c19 => absurd c19 (by decide +kernel)) (fun c19 => ?_)
            refine z_iload_n C dX0_reshaped_72 rfl ?_
            refine z_iconst C dX0_reshaped_73 2 (by decide +kernel) ?_
            refine z_icmp_eq C dX0_reshaped_74 82 (by decide) (fun c20 => ?_) (fun c20 => ?_)
            · refine z_iconst C dX0_reshaped_82 1 (by decide +kernel) ?_
              refine z_goto C dX0_reshaped_83 87 (by decide) ?_
              refine z_istore C dX0_reshaped_87 [some (.int p1), some (.int p2), some (.int (p1 &&& 3)), some (.int (p2 &&& 3)), some (.int (p1 >>> (9 &&& 31))), some (.int (p2 >>> (9 &&& 31))), some (.int 1), some (.int 0), some (.int 1)] (by decide) rfl ?_
              refine z_iload C dX0_reshaped_89 rfl ?_
              refine z_iload C dX0_reshaped_91 rfl ?_
              refine z_icmp_lt C dX0_reshaped_93 101 (by decide) (fun c21 => ?_) (fun c21 => ?_)
              · refine z_iload_n C dX0_reshaped_101 rfl ?_
                refine z_sipush C dX0_reshaped_102 512 (by decide +kernel) ?_
                refine z_iadd C dX0_reshaped_105 ?_
                refine z_goto C dX0_reshaped_106 110 (by decide) ?_
                exact z_iret C rfl () (by rw [f_X0_reshaped, if_neg c1, if_neg c2, if_pos c3, if_pos c14, if_pos c18, if_pos c20, if_pos c21]) trivial rfl dX0_reshaped_110
              · refine z_iload C dX0_reshaped_96 rfl ?_
                refine z_if_eq C dX0_reshaped_98 109 (by decide) (fun c22 => absurd c22 (by decide +kernel)) (fun c22 => ?_)
                refine z_iload_n C dX0_reshaped_101 rfl ?_
                refine z_sipush C dX0_reshaped_102 512 (by decide +kernel) ?_
                refine z_iadd C dX0_reshaped_105 ?_
                refine z_goto C dX0_reshaped_106 110 (by decide) ?_
                exact z_iret C rfl () (by rw [f_X0_reshaped, if_neg c1, if_neg c2, if_pos c3, if_pos c14, if_pos c18, if_pos c20, if_neg c21]) trivial rfl dX0_reshaped_110
            · refine z_iload C dX0_reshaped_77 rfl ?_
              refine z_if_eq C dX0_reshaped_79 86 (by decide) (fun c23 => ?_) (fun c23 => absurd c23 (by decide +kernel))
              refine z_iconst C dX0_reshaped_86 0 (by decide +kernel) ?_
              refine z_istore C dX0_reshaped_87 [some (.int p1), some (.int p2), some (.int (p1 &&& 3)), some (.int (p2 &&& 3)), some (.int (p1 >>> (9 &&& 31))), some (.int (p2 >>> (9 &&& 31))), some (.int 1), some (.int 0), some (.int 0)] (by decide) rfl ?_
              refine z_iload C dX0_reshaped_89 rfl ?_
              refine z_iload C dX0_reshaped_91 rfl ?_
              refine z_icmp_lt C dX0_reshaped_93 101 (by decide) (fun c24 => ?_) (fun c24 => ?_)
              · refine z_iload_n C dX0_reshaped_101 rfl ?_
                refine z_sipush C dX0_reshaped_102 512 (by decide +kernel) ?_
                refine z_iadd C dX0_reshaped_105 ?_
                refine z_goto C dX0_reshaped_106 110 (by decide) ?_
                exact z_iret C rfl () (by rw [f_X0_reshaped, if_neg c1, if_neg c2, if_pos c3, if_pos c14, if_pos c18, if_neg c20, if_pos c24]) trivial rfl dX0_reshaped_110
              · refine z_iload C dX0_reshaped_96 rfl ?_
                refine z_if_eq C dX0_reshaped_98 109 (by decide) (fun c25 => ?_) (fun c25 => absurd c25 (by decide +kernel))
                refine z_iload_n C dX0_reshaped_109 rfl ?_
                exact z_iret C rfl () (by rw [f_X0_reshaped, if_neg c1, if_neg c2, if_pos c3, if_pos c14, if_pos c18, if_neg c20, if_neg c24]) trivial rfl dX0_reshaped_110
          · refine z_iconst C dX0_reshaped_60 1 (by decide +kernel) ?_
            refine z_goto C dX0_reshaped_61 65 (by decide) ?_
            refine z_istore C dX0_reshaped_65 [some (.int p1), some (.int p2), some (.int (p1 &&& 3)), some (.int (p2 &&& 3)), some (.int (p1 >>> (9 &&& 31))), some (.int (p2 >>> (9 &&& 31))), some (.int 1), some (.int 1), none] (by decide) rfl ?_
            refine z_iload C dX0_reshaped_67 rfl ?_
            refine z_if_eq C dX0_reshaped_69 86 (by decide) (fun c26 => absurd c26 (by decide +kernel)) (fun c26 => ?_)
            refine z_iload_n C dX0_reshaped_72 rfl ?_
            refine z_iconst C dX0_reshaped_73 2 (by decide +kernel) ?_
            refine z_icmp_eq C dX0_reshaped_74 82 (by decide) (fun c27 => ?_) (fun c27 => ?_)
            · refine z_iconst C dX0_reshaped_82 1 (by decide +kernel) ?_
              refine z_goto C dX0_reshaped_83 87 (by decide) ?_
              refine z_istore C dX0_reshaped_87 [some (.int p1), some (.int p2), some (.int (p1 &&& 3)), some (.int (p2 &&& 3)), some (.int (p1 >>> (9 &&& 31))), some (.int (p2 >>> (9 &&& 31))), some (.int 1), some (.int 1), some (.int 1)] (by decide) rfl ?_
              refine z_iload C dX0_reshaped_89 rfl ?_
              refine z_iload C dX0_reshaped_91 rfl ?_
              refine z_icmp_lt C dX0_reshaped_93 101 (by decide) (fun c28 => ?_) (fun c28 => ?_)
              · refine z_iload_n C dX0_reshaped_101 rfl ?_
                refine z_sipush C dX0_reshaped_102 512 (by decide +kernel) ?_
                refine z_iadd C dX0_reshaped_105 ?_
                refine z_goto C dX0_reshaped_106 110 (by decide) ?_
                exact z_iret C rfl () (by rw [f_X0_reshaped, if_neg c1, if_neg c2, if_pos c3, if_pos c14, if_neg c18, if_pos c27, if_pos c28]) trivial rfl dX0_reshaped_110
              · refine z_iload C dX0_reshaped_96 rfl ?_
                refine z_if_eq C dX0_reshaped_98 109 (by decide) (fun c29 => absurd c29 (by decide +kernel)) (fun c29 => ?_)
                refine z_iload_n C dX0_reshaped_101 rfl ?_
                refine z_sipush C dX0_reshaped_102 512 (by decide +kernel) ?_
                refine z_iadd C dX0_reshaped_105 ?_
                refine z_goto C dX0_reshaped_106 110 (by decide) ?_
                exact z_iret C rfl () (by rw [f_X0_reshaped, if_neg c1, if_neg c2, if_pos c3, if_pos c14, if_neg c18, if_pos c27, if_neg c28]) trivial rfl dX0_reshaped_110
            · refine z_iload C dX0_reshaped_77 rfl ?_
              refine z_if_eq C dX0_reshaped_79 86 (by decide) (fun c30 => absurd c30 (by decide +kernel)) (fun c30 => ?_)
              refine z_iconst C dX0_reshaped_82 1 (by decide +kernel) ?_
              refine z_goto C dX0_reshaped_83 87 (by decide) ?_
              refine z_istore C dX0_reshaped_87 [some (.int p1), some (.int p2), some (.int (p1 &&& 3)), some (.int (p2 &&& 3)), some (.int (p1 >>> (9 &&& 31))), some (.int (p2 >>> (9 &&& 31))), some (.int 1), some (.int 1), some (.int 1)] (by decide) rfl ?_
              refine z_iload C dX0_reshaped_89 rfl ?_
              refine z_iload C dX0_reshaped_91 rfl ?_
              refine z_icmp_lt C dX0_reshaped_93 101 (by decide) (fun c31 => ?_) (fun c31 => ?_)
              · refine z_iload_n C dX0_reshaped_101 rfl ?_
                refine z_sipush C dX0_reshaped_102 512 (by decide +kernel) ?_
                refine z_iadd C dX0_reshaped_105 ?_
                refine z_goto C dX0_reshaped_106 110 (by decide) ?_
                exact z_iret C rfl () (by rw [f_X0_reshaped, if_neg c1, if_neg c2, if_pos c3, if_pos c14, if_neg c18, if_neg c27, if_pos c31]) trivial rfl dX0_reshaped_110
              · refine z_iload C dX0_reshaped_96 rfl ?_
                refine z_if_eq C dX0_reshaped_98 109 (by decide) (fun c32 => absurd c32 (by decide +kernel)) (fun c32 => ?_)
                refine z_iload_n C dX0_reshaped_101 rfl ?_
                refine z_sipush C dX0_reshaped_102 512 (by decide +kernel) ?_
                refine z_iadd C dX0_reshaped_105 ?_
                refine z_goto C dX0_reshaped_106 110 (by decide) ?_
                exact z_iret C rfl () (by rw [f_X0_reshaped, if_neg c1, if_neg c2, if_pos c3, if_pos c14, if_neg c18, if_neg c27, if_neg c31]) trivial rfl dX0_reshaped_110
    · refine z_iload_n C dX0_reshaped_16 rfl ?_
      exact z_iret C rfl () (by rw [f_X0_reshaped, if_neg c1, if_pos c2]) trivial rfl dX0_reshaped_17
def rmX4_size : Room := { frames := 0, cells := 0, slots := 0, locals := 0 }
def f_X4_size (n : zN)  : Int32 := (nSize n)
set_option maxHeartbeats 4000000 in
set_option maxRecDepth 100000 in
theorem met_X4_size (l : Launch) (D : va_G) (cI : ClassId) (an : Nat) (cn : Nat) (n : zN)  : ZM l D cI yX4_size cX4_size 1 (some .int) rmX4_size [.ref an] [(wN cI an cn n)] (fun _ : Unit => some (.int (f_X4_size n))) (fun _ : Unit => [(wN cI an cn n)]) (fun _ : Unit => True) := by
  refine z_body [some (.ref an)] (by decide +kernel) rfl (Nat.le_of_ble_eq_true rfl) rfl ?_
  intro p e s m args below meth c A C hin
  refine z_aload_n C dX4_size_0 rfl ?_
  refine z_get C inlX4 rfl 1 (by decide) mw_3_11 dX4_size_1 0 0 rfl rfl rfl ?_
  exact z_iret C rfl () (by rw [f_X4_size]) trivial rfl dX4_size_4
def rmX4_at : Room := { frames := 0, cells := 0, slots := 0, locals := 0 }
def wp_X4_at (n : zN) (p1 : Int32) (Q : Int32 → Prop) : Prop := ((p1 < 0 → (Q 0)) ∧ (¬ p1 < 0 → (((nSize n) ≤ p1 → (Q 0)) ∧ (¬ (nSize n) ≤ p1 → (((nI (nCap n)) ≤ p1 → (Q 0)) ∧ (¬ (nI (nCap n)) ≤ p1 → (vp_in p1 (nCap n) ∧ (Q ((nRow n) p1.toNatClampNeg)))))))))
set_option maxHeartbeats 4000000 in
set_option maxRecDepth 100000 in
theorem met_X4_at (l : Launch) (D : va_G) (cI : ClassId) (an : Nat) (cn : Nat) (n : zN) (p1 : Int32) (Q : Int32 → Prop) (hw : wp_X4_at n p1 Q) : ZM l D cI yX4_at cX4_at 2 (some .int) rmX4_at [.ref an, .int p1] [(wN cI an cn n)] (fun u : Int32 => some (.int u)) (fun u : Int32 => [(wN cI an cn n)]) (fun u : Int32 => Q u) := by
  refine z_body [some (.ref an), some (.int p1)] (by decide +kernel) rfl (Nat.le_of_ble_eq_true rfl) rfl ?_
  intro p e s m args below meth c A C hin
  unfold wp_X4_at at hw
  refine z_iload_n C dX4_at_0 rfl ?_
  refine z_if_lt C dX4_at_1 30 (by decide) (fun c1 => ?_) (fun c1 => ?_)
  · replace hw := hw.1 c1
    refine z_iconst C dX4_at_30 0 (by decide +kernel) ?_
    exact z_iret C rfl (0 : Int32) rfl hw rfl dX4_at_31
  · replace hw := hw.2 c1
    refine z_iload_n C dX4_at_4 rfl ?_
    refine z_aload_n C dX4_at_5 rfl ?_
    refine z_get C inlX4 rfl 1 (by decide) mw_3_11 dX4_at_6 0 0 rfl rfl rfl ?_
    refine z_icmp_ge C dX4_at_9 30 (by decide) (fun c2 => ?_) (fun c2 => ?_)
    · replace hw := hw.1 c2
      refine z_iconst C dX4_at_30 0 (by decide +kernel) ?_
      exact z_iret C rfl (0 : Int32) rfl hw rfl dX4_at_31
    · replace hw := hw.2 c2
      refine z_iload_n C dX4_at_12 rfl ?_
      refine z_aload_n C dX4_at_13 rfl ?_
      refine z_get C inlX4 rfl 0 (by decide) mw_3_10 dX4_at_14 0 0 rfl rfl rfl ?_
      refine z_alen C dX4_at_17 0 1 rfl rfl (nI (nCap n)) rfl ?_
      refine z_icmp_ge C dX4_at_18 30 (by decide) (fun c3 => ?_) (fun c3 => ?_)
      · replace hw := hw.1 c3
        refine z_iconst C dX4_at_30 0 (by decide +kernel) ?_
        exact z_iret C rfl (0 : Int32) rfl hw rfl dX4_at_31
      · replace hw := hw.2 c3
        refine z_aload_n C dX4_at_21 rfl ?_
        refine z_get C inlX4 rfl 0 (by decide) mw_3_10 dX4_at_22 0 0 rfl rfl rfl ?_
        refine z_iload_n C dX4_at_25 rfl ?_
        refine z_iald C dX4_at_26 0 1 rfl rfl hw.1 ?_
        replace hw := hw.2
        refine z_goto C dX4_at_27 31 (by decide) ?_
        exact z_iret C rfl (((nRow n) p1.toNatClampNeg)) rfl hw rfl dX4_at_31
def rmX4_put : Room := { frames := 0, cells := 0, slots := 0, locals := 0 }
def wp_X4_put (n : zN) (p1 : Int32) (p2 : Int32) (Q : zN → Prop) : Prop := ((p1 < 0 → (Q n)) ∧ (¬ p1 < 0 → (((nSize n) ≤ p1 → (Q n)) ∧ (¬ (nSize n) ≤ p1 → (((nI (nCap n)) ≤ p1 → (Q n)) ∧ (¬ (nI (nCap n)) ≤ p1 → (vp_in p1 (nCap n) ∧ (Q (nSetRow n (upd (nRow n) p1.toNatClampNeg p2))))))))))
set_option maxHeartbeats 4000000 in
set_option maxRecDepth 100000 in
theorem met_X4_put (l : Launch) (D : va_G) (cI : ClassId) (an : Nat) (cn : Nat) (n : zN) (p1 : Int32) (p2 : Int32) (Q : zN → Prop) (hw : wp_X4_put n p1 p2 Q) : ZM l D cI yX4_put cX4_put 3 none rmX4_put [.ref an, .int p1, .int p2] [(wN cI an cn n)] (fun _ : zN => none) (fun u : zN => [(wN cI an cn u)]) (fun u : zN => Q u) := by
  refine z_body [some (.ref an), some (.int p1), some (.int p2)] (by decide +kernel) rfl (Nat.le_of_ble_eq_true rfl) rfl ?_
  intro p e s m args below meth c A C hin
  unfold wp_X4_put at hw
  refine z_iload_n C dX4_put_0 rfl ?_
  refine z_if_lt C dX4_put_1 28 (by decide) (fun c1 => ?_) (fun c1 => ?_)
  · replace hw := hw.1 c1
    exact z_vret C rfl (n) rfl hw rfl dX4_put_28
  · replace hw := hw.2 c1
    refine z_iload_n C dX4_put_4 rfl ?_
    refine z_aload_n C dX4_put_5 rfl ?_
    refine z_get C inlX4 rfl 1 (by decide) mw_3_11 dX4_put_6 0 0 rfl rfl rfl ?_
    refine z_icmp_ge C dX4_put_9 28 (by decide) (fun c2 => ?_) (fun c2 => ?_)
    · replace hw := hw.1 c2
      exact z_vret C rfl (n) rfl hw rfl dX4_put_28
    · replace hw := hw.2 c2
      refine z_iload_n C dX4_put_12 rfl ?_
      refine z_aload_n C dX4_put_13 rfl ?_
      refine z_get C inlX4 rfl 0 (by decide) mw_3_10 dX4_put_14 0 0 rfl rfl rfl ?_
      refine z_alen C dX4_put_17 0 1 rfl rfl (nI (nCap n)) rfl ?_
      refine z_icmp_ge C dX4_put_18 28 (by decide) (fun c3 => ?_) (fun c3 => ?_)
      · replace hw := hw.1 c3
        exact z_vret C rfl (n) rfl hw rfl dX4_put_28
      · replace hw := hw.2 c3
        refine z_aload_n C dX4_put_21 rfl ?_
        refine z_get C inlX4 rfl 0 (by decide) mw_3_10 dX4_put_22 0 0 rfl rfl rfl ?_
        refine z_iload_n C dX4_put_25 rfl ?_
        refine z_iload_n C dX4_put_26 rfl ?_
        refine z_iast C dX4_put_27 0 1 rfl rfl hw.1 [(wN cI an cn (nSetRow n (upd (nRow n) p1.toNatClampNeg p2)))] rfl ?_
        replace hw := hw.2
        exact z_vret C rfl ((nSetRow n (upd (nRow n) p1.toNatClampNeg p2))) rfl hw rfl dX4_put_28
def rmX4_addAt : Room := { frames := 0, cells := 0, slots := 0, locals := 0 }
def lb_X4_addAt_30 (n : zN) (p1 : Int32) (p2 : Int32)   (Q : zN → Prop)  (K30 : (Int32) → (Nat → Int32) → Prop) (v3 : Int32) (w0Row : Nat → Int32) : Prop := ((v3 ≤ p1 → (vp_in p1 (nCap n) ∧ (Q (nSetSize (nSetRow n (upd w0Row p1.toNatClampNeg p2)) ((nSize n) + 1))))) ∧ (¬ v3 ≤ p1 → (vp_in (v3 - 1) (nCap n) ∧ (vp_in v3 (nCap n) ∧ (K30 (v3 + (-1)) (upd w0Row v3.toNatClampNeg (w0Row (v3 - 1).toNatClampNeg)))))))
set_option maxHeartbeats 4000000 in
set_option maxRecDepth 100000 in
theorem wk_X4_addAt_30 {p : Program} {l : Launch} {e : Env} {s : State} {m : MethodId} {args : Array Value} {below : List Frame} {meth : Method} {c : Code} {D : va_G} {cI : ClassId} {A : Nat → Prop} (C : ZC p s m args meth c RX4 cX4_addAt 4 none D cI A) (an : Nat) (cn : Nat) (n : zN) (p1 : Int32) (p2 : Int32)   (v3 : Int32) (w0Row : Nat → Int32) (Q : zN → Prop)  (hw : zLoop2 (lb_X4_addAt_30 n p1 p2   Q ) v3 w0Row) : ZZ p l e rmX4_addAt s m args below meth c D A 4 0 0 (MQ below (ZQ D A (fun _ : zN => none) (fun u : zN => [(wN cI an cn u)]) (fun u : zN => Q u)) args s rmX4_addAt.cells rmX4_addAt.slots A) [(wN cI an cn (nSetRow n w0Row))] 30 [some (.ref an), some (.int p1), some (.int p2), some (.int v3)] [] := by
  refine zLoop2_w (fun (v3 : Int32) (w0Row : Nat → Int32) => ZZ p l e rmX4_addAt s m args below meth c D A 4 0 0 (MQ below (ZQ D A (fun _ : zN => none) (fun u : zN => [(wN cI an cn u)]) (fun u : zN => Q u)) args s rmX4_addAt.cells rmX4_addAt.slots A) [(wN cI an cn (nSetRow n w0Row))] 30 [some (.ref an), some (.int p1), some (.int p2), some (.int v3)] []) ?_ _ _ hw
  clear hw
  intro K30 hK30 v3 w0Row hw
  unfold lb_X4_addAt_30 at hw
  refine z_iload_n C dX4_addAt_30 rfl ?_
  refine z_iload_n C dX4_addAt_31 rfl ?_
  refine z_icmp_le C dX4_addAt_32 55 (by decide) (fun c5 => ?_) (fun c5 => ?_)
  · replace hw := hw.1 c5
    refine z_aload_n C dX4_addAt_55 rfl ?_
    refine z_get C inlX4 rfl 0 (by decide) mw_3_10 dX4_addAt_56 0 0 rfl rfl rfl ?_
    refine z_iload_n C dX4_addAt_59 rfl ?_
    refine z_iload_n C dX4_addAt_60 rfl ?_
    refine z_iast C dX4_addAt_61 0 1 rfl rfl hw.1 [(wN cI an cn (nSetRow n (upd w0Row p1.toNatClampNeg p2)))] rfl ?_
    replace hw := hw.2
    refine z_aload_n C dX4_addAt_62 rfl ?_
    refine z_dup C dX4_addAt_63 rfl ?_
    refine z_get C inlX4 rfl 1 (by decide) mw_3_11 dX4_addAt_64 0 0 rfl rfl rfl ?_
    refine z_iconst C dX4_addAt_67 1 (by decide +kernel) ?_
    refine z_iadd C dX4_addAt_68 ?_
    refine z_put C inlX4 rfl tyX4 tyX4_ok nmX4 1 (by decide) mw_3_11 rfl rfl rfl rfl dX4_addAt_69 0 0 rfl rfl (Nat.le_of_ble_eq_true rfl) [(wN cI an cn (nSetSize (nSetRow n (upd w0Row p1.toNatClampNeg p2)) ((nSize n) + 1)))] rfl ?_
    exact z_vret C rfl ((nSetSize (nSetRow n (upd w0Row p1.toNatClampNeg p2)) ((nSize n) + 1))) rfl hw rfl dX4_addAt_72
  · replace hw := hw.2 c5
    refine z_aload_n C dX4_addAt_35 rfl ?_
    refine z_get C inlX4 rfl 0 (by decide) mw_3_10 dX4_addAt_36 0 0 rfl rfl rfl ?_
    refine z_iload_n C dX4_addAt_39 rfl ?_
    refine z_aload_n C dX4_addAt_40 rfl ?_
    refine z_get C inlX4 rfl 0 (by decide) mw_3_10 dX4_addAt_41 0 0 rfl rfl rfl ?_
    refine z_iload_n C dX4_addAt_44 rfl ?_
    refine z_iconst C dX4_addAt_45 1 (by decide +kernel) ?_
    refine z_isub C dX4_addAt_46 ?_
    refine z_iald C dX4_addAt_47 0 1 rfl rfl hw.1 ?_
    replace hw := hw.2
    refine z_iast C dX4_addAt_48 0 1 rfl rfl hw.1 [(wN cI an cn (nSetRow n (upd w0Row v3.toNatClampNeg (w0Row (v3 - 1).toNatClampNeg))))] rfl ?_
    replace hw := hw.2
    refine z_iinc C dX4_addAt_49 rfl (v3 + (-1)) (by rfl) [some (.ref an), some (.int p1), some (.int p2), some (.int (v3 + (-1)))] (by decide) rfl ?_
    refine z_goto C dX4_addAt_52 30 (by decide) ?_
    exact hK30 _ _ hw
def wp_X4_addAt (n : zN) (p1 : Int32) (p2 : Int32) (Q : zN → Prop) : Prop := ((p1 < 0 → (Q n)) ∧ (¬ p1 < 0 → (((nSize n) < p1 → (Q n)) ∧ (¬ (nSize n) < p1 → (((nSize n) < (nI (nCap n)) → (∀ x4 : Int32, x4 = (nSize n) → (zLoop2 (lb_X4_addAt_30 n p1 p2   Q ) x4 (nRow n)))) ∧ (¬ (nSize n) < (nI (nCap n)) → (Q n)))))))
set_option maxHeartbeats 4000000 in
set_option maxRecDepth 100000 in
theorem met_X4_addAt (l : Launch) (D : va_G) (cI : ClassId) (an : Nat) (cn : Nat) (n : zN) (p1 : Int32) (p2 : Int32) (Q : zN → Prop) (hw : wp_X4_addAt n p1 p2 Q) : ZM l D cI yX4_addAt cX4_addAt 4 none rmX4_addAt [.ref an, .int p1, .int p2] [(wN cI an cn n)] (fun _ : zN => none) (fun u : zN => [(wN cI an cn u)]) (fun u : zN => Q u) := by
  refine z_body [some (.ref an), some (.int p1), some (.int p2), none] (by decide +kernel) rfl (Nat.le_of_ble_eq_true rfl) rfl ?_
  intro p e s m args below meth c A C hin
  unfold wp_X4_addAt at hw
  refine z_iload_n C dX4_addAt_0 rfl ?_
  refine z_if_lt C dX4_addAt_1 24 (by decide) (fun c1 => ?_) (fun c1 => ?_)
  · replace hw := hw.1 c1
    exact z_vret C rfl (n) rfl hw rfl dX4_addAt_24
  · replace hw := hw.2 c1
    refine z_iload_n C dX4_addAt_4 rfl ?_
    refine z_aload_n C dX4_addAt_5 rfl ?_
    refine z_get C inlX4 rfl 1 (by decide) mw_3_11 dX4_addAt_6 0 0 rfl rfl rfl ?_
    refine z_icmp_gt C dX4_addAt_9 24 (by decide) (fun c2 => ?_) (fun c2 => ?_)
    · replace hw := hw.1 c2
      exact z_vret C rfl (n) rfl hw rfl dX4_addAt_24
    · replace hw := hw.2 c2
      refine z_aload_n C dX4_addAt_12 rfl ?_
      refine z_get C inlX4 rfl 1 (by decide) mw_3_11 dX4_addAt_13 0 0 rfl rfl rfl ?_
      refine z_aload_n C dX4_addAt_16 rfl ?_
      refine z_get C inlX4 rfl 0 (by decide) mw_3_10 dX4_addAt_17 0 0 rfl rfl rfl ?_
      refine z_alen C dX4_addAt_20 0 1 rfl rfl (nI (nCap n)) rfl ?_
      refine z_icmp_lt C dX4_addAt_21 25 (by decide) (fun c3 => ?_) (fun c3 => ?_)
      · replace hw := hw.1 c3
        refine z_aload_n C dX4_addAt_25 rfl ?_
        refine z_get C inlX4 rfl 1 (by decide) mw_3_11 dX4_addAt_26 0 0 rfl rfl rfl ?_
        refine z_name C (fun x4 ex4 => ?_)
        replace hw := hw x4 ex4
        refine z_istore_n C dX4_addAt_29 [some (.ref an), some (.int p1), some (.int p2), some (.int x4)] (by decide) rfl ?_
        exact wk_X4_addAt_30 C an cn n p1 p2   x4 (nRow n) _  hw
      · replace hw := hw.2 c3
        exact z_vret C rfl (n) rfl hw rfl dX4_addAt_24
def rmX4_add : Room := { frames := 1, cells := 0, slots := 0, locals := 23 }
def wp_X4_add (n : zN) (p1 : Int32) (Q : zN → Prop) : Prop := (wp_X4_addAt n (nSize n) p1 (fun u1 => (Q u1)))
set_option maxHeartbeats 4000000 in
set_option maxRecDepth 100000 in
theorem met_X4_add (l : Launch) (D : va_G) (cI : ClassId) (an : Nat) (cn : Nat) (n : zN) (p1 : Int32) (Q : zN → Prop) (hw : wp_X4_add n p1 Q) : ZM l D cI yX4_add cX4_add 2 none rmX4_add [.ref an, .int p1] [(wN cI an cn n)] (fun _ : zN => none) (fun u : zN => [(wN cI an cn u)]) (fun u : zN => Q u) := by
  refine z_body [some (.ref an), some (.int p1)] (by decide +kernel) rfl (Nat.le_of_ble_eq_true rfl) rfl ?_
  intro p e s m args below meth c A C hin
  unfold wp_X4_add at hw
  refine z_aload_n C dX4_add_0 rfl ?_
  refine z_aload_n C dX4_add_1 rfl ?_
  refine z_get C inlX4 rfl 1 (by decide) mw_3_11 dX4_add_2 0 0 rfl rfl rfl ?_
  refine z_iload_n C dX4_add_5 rfl ?_
  refine z_callV0 C [(wN cI an cn n)] [] rfl rfl (met_X4_addAt l D cI an cn n (nSize n) p1 _ hw) y_X4_addAt mw_9_10 dX4_add_6 rfl n_X4_addAt rfl (by decide) ⟨rfl, rfl, Nat.le_of_ble_eq_true rfl, Nat.le_of_ble_eq_true rfl⟩ (Nat.le_of_ble_eq_true rfl) (z_pm [0] 1 rfl (by decide) rfl) ?_
  intro u1 hw
  try dsimp only at hw
  refine z_bs [(wN cI an cn u1)] [] rfl rfl ?_
  exact z_vret C rfl (u1) rfl hw rfl dX4_add_9
def rmX4_removeAt : Room := { frames := 0, cells := 0, slots := 0, locals := 0 }
def lb_X4_removeAt_37 (n : zN) (p1 : Int32) (w0Size : Int32)  (Q : zN → Prop)  (K37 : (Int32) → (Nat → Int32) → Prop) (v2 : Int32) (w0Row : Nat → Int32) : Prop := ((w0Size ≤ v2 → (Q (nSetSize (nSetRow n w0Row) w0Size))) ∧ (¬ w0Size ≤ v2 → (vp_in (v2 + 1) (nCap n) ∧ (vp_in v2 (nCap n) ∧ (K37 (v2 + 1) (upd w0Row v2.toNatClampNeg (w0Row (v2 + 1).toNatClampNeg)))))))
set_option maxHeartbeats 4000000 in
set_option maxRecDepth 100000 in
theorem wk_X4_removeAt_37 {p : Program} {l : Launch} {e : Env} {s : State} {m : MethodId} {args : Array Value} {below : List Frame} {meth : Method} {c : Code} {D : va_G} {cI : ClassId} {A : Nat → Prop} (C : ZC p s m args meth c RX4 cX4_removeAt 3 none D cI A) (an : Nat) (cn : Nat) (n : zN) (p1 : Int32) (w0Size : Int32)  (v2 : Int32) (w0Row : Nat → Int32) (Q : zN → Prop)  (hw : zLoop2 (lb_X4_removeAt_37 n p1 w0Size  Q ) v2 w0Row) : ZZ p l e rmX4_removeAt s m args below meth c D A 3 0 0 (MQ below (ZQ D A (fun _ : zN => none) (fun u : zN => [(wN cI an cn u)]) (fun u : zN => Q u)) args s rmX4_removeAt.cells rmX4_removeAt.slots A) [(wN cI an cn (nSetSize (nSetRow n w0Row) w0Size))] 37 [some (.ref an), none, some (.int v2)] [] := by
  refine zLoop2_w (fun (v2 : Int32) (w0Row : Nat → Int32) => ZZ p l e rmX4_removeAt s m args below meth c D A 3 0 0 (MQ below (ZQ D A (fun _ : zN => none) (fun u : zN => [(wN cI an cn u)]) (fun u : zN => Q u)) args s rmX4_removeAt.cells rmX4_removeAt.slots A) [(wN cI an cn (nSetSize (nSetRow n w0Row) w0Size))] 37 [some (.ref an), none, some (.int v2)] []) ?_ _ _ hw
  clear hw
  intro K37 hK37 v2 w0Row hw
  unfold lb_X4_removeAt_37 at hw
  refine z_iload_n C dX4_removeAt_37 rfl ?_
  refine z_aload_n C dX4_removeAt_38 rfl ?_
  refine z_get C inlX4 rfl 1 (by decide) mw_3_11 dX4_removeAt_39 0 0 rfl rfl rfl ?_
  refine z_icmp_ge C dX4_removeAt_42 65 (by decide) (fun c4 => ?_) (fun c4 => ?_)
  · replace hw := hw.1 c4
    exact z_vret C rfl ((nSetSize (nSetRow n w0Row) w0Size)) rfl hw rfl dX4_removeAt_65
  · replace hw := hw.2 c4
    refine z_aload_n C dX4_removeAt_45 rfl ?_
    refine z_get C inlX4 rfl 0 (by decide) mw_3_10 dX4_removeAt_46 0 0 rfl rfl rfl ?_
    refine z_iload_n C dX4_removeAt_49 rfl ?_
    refine z_aload_n C dX4_removeAt_50 rfl ?_
    refine z_get C inlX4 rfl 0 (by decide) mw_3_10 dX4_removeAt_51 0 0 rfl rfl rfl ?_
    refine z_iload_n C dX4_removeAt_54 rfl ?_
    refine z_iconst C dX4_removeAt_55 1 (by decide +kernel) ?_
    refine z_iadd C dX4_removeAt_56 ?_
    refine z_iald C dX4_removeAt_57 0 1 rfl rfl hw.1 ?_
    replace hw := hw.2
    refine z_iast C dX4_removeAt_58 0 1 rfl rfl hw.1 [(wN cI an cn (nSetSize (nSetRow n (upd w0Row v2.toNatClampNeg (w0Row (v2 + 1).toNatClampNeg))) w0Size))] rfl ?_
    replace hw := hw.2
    refine z_iinc C dX4_removeAt_59 rfl (v2 + 1) (by rfl) [some (.ref an), none, some (.int (v2 + 1))] (by decide) rfl ?_
    refine z_goto C dX4_removeAt_62 37 (by decide) ?_
    exact hK37 _ _ hw
def wp_X4_removeAt (n : zN) (p1 : Int32) (Q : zN → Prop) : Prop := ((p1 < 0 → (Q n)) ∧ (¬ p1 < 0 → (((nSize n) ≤ p1 → (Q n)) ∧ (¬ (nSize n) ≤ p1 → (((nSize n) ≤ (nI (nCap n)) → (zLoop2 (lb_X4_removeAt_37 n p1 ((nSize n) - 1)  Q ) p1 (nRow n))) ∧ (¬ (nSize n) ≤ (nI (nCap n)) → (Q n)))))))
set_option maxHeartbeats 4000000 in
set_option maxRecDepth 100000 in
theorem met_X4_removeAt (l : Launch) (D : va_G) (cI : ClassId) (an : Nat) (cn : Nat) (n : zN) (p1 : Int32) (Q : zN → Prop) (hw : wp_X4_removeAt n p1 Q) : ZM l D cI yX4_removeAt cX4_removeAt 3 none rmX4_removeAt [.ref an, .int p1] [(wN cI an cn n)] (fun _ : zN => none) (fun u : zN => [(wN cI an cn u)]) (fun u : zN => Q u) := by
  refine z_body [some (.ref an), some (.int p1), none] (by decide +kernel) rfl (Nat.le_of_ble_eq_true rfl) rfl ?_
  intro p e s m args below meth c A C hin
  unfold wp_X4_removeAt at hw
  refine z_iload_n C dX4_removeAt_0 rfl ?_
  refine z_if_lt C dX4_removeAt_1 24 (by decide) (fun c1 => ?_) (fun c1 => ?_)
  · replace hw := hw.1 c1
    exact z_vret C rfl (n) rfl hw rfl dX4_removeAt_24
  · replace hw := hw.2 c1
    refine z_iload_n C dX4_removeAt_4 rfl ?_
    refine z_aload_n C dX4_removeAt_5 rfl ?_
    refine z_get C inlX4 rfl 1 (by decide) mw_3_11 dX4_removeAt_6 0 0 rfl rfl rfl ?_
    refine z_icmp_ge C dX4_removeAt_9 24 (by decide) (fun c2 => ?_) (fun c2 => ?_)
    · replace hw := hw.1 c2
      exact z_vret C rfl (n) rfl hw rfl dX4_removeAt_24
    · replace hw := hw.2 c2
      refine z_aload_n C dX4_removeAt_12 rfl ?_
      refine z_get C inlX4 rfl 1 (by decide) mw_3_11 dX4_removeAt_13 0 0 rfl rfl rfl ?_
      refine z_aload_n C dX4_removeAt_16 rfl ?_
      refine z_get C inlX4 rfl 0 (by decide) mw_3_10 dX4_removeAt_17 0 0 rfl rfl rfl ?_
      refine z_alen C dX4_removeAt_20 0 1 rfl rfl (nI (nCap n)) rfl ?_
      refine z_icmp_le C dX4_removeAt_21 25 (by decide) (fun c3 => ?_) (fun c3 => ?_)
      · replace hw := hw.1 c3
        refine z_aload_n C dX4_removeAt_25 rfl ?_
        refine z_dup C dX4_removeAt_26 rfl ?_
        refine z_get C inlX4 rfl 1 (by decide) mw_3_11 dX4_removeAt_27 0 0 rfl rfl rfl ?_
        refine z_iconst C dX4_removeAt_30 1 (by decide +kernel) ?_
        refine z_isub C dX4_removeAt_31 ?_
        refine z_put C inlX4 rfl tyX4 tyX4_ok nmX4 1 (by decide) mw_3_11 rfl rfl rfl rfl dX4_removeAt_32 0 0 rfl rfl (Nat.le_of_ble_eq_true rfl) [(wN cI an cn (nSetSize n ((nSize n) - 1)))] rfl ?_
        refine z_iload_n C dX4_removeAt_35 rfl ?_
        refine z_istore_n C dX4_removeAt_36 [some (.ref an), some (.int p1), some (.int p1)] (by decide) rfl ?_
        refine z_ls C [true, false, true] [some (.ref an), none, some (.int p1)] rfl ?_
        exact wk_X4_removeAt_37 C an cn n p1 ((nSize n) - 1)  p1 (nRow n) _  hw
      · replace hw := hw.2 c3
        exact z_vret C rfl (n) rfl hw rfl dX4_removeAt_24
def rmX4_copyNumbers : Room := { frames := 1, cells := 0, slots := 0, locals := 24 }
def lb_X4_copyNumbers_23 (n : zN) (o : zN) (v2 : Int32)  (Q : zN → Prop)  (K23 : (Int32) → (Nat → Int32) → Prop) (v3 : Int32) (w0Row : Nat → Int32) : Prop := ((v2 ≤ v3 → (Q (nSetSize (nSetRow n w0Row) v2))) ∧ (¬ v2 ≤ v3 → (vp_in v3 (nCap o) ∧ (vp_in v3 (nCap n) ∧ (K23 (v3 + 1) (upd w0Row v3.toNatClampNeg ((nRow o) v3.toNatClampNeg)))))))
set_option maxHeartbeats 4000000 in
set_option maxRecDepth 100000 in
theorem wk_X4_copyNumbers_23 {p : Program} {l : Launch} {e : Env} {s : State} {m : MethodId} {args : Array Value} {below : List Frame} {meth : Method} {c : Code} {D : va_G} {cI : ClassId} {A : Nat → Prop} (C : ZC p s m args meth c RX4 cX4_copyNumbers 4 none D cI A) (an : Nat) (cn : Nat) (ao : Nat) (co : Nat) (n : zN) (o : zN) (v2 : Int32)  (v3 : Int32) (w0Row : Nat → Int32) (Q : zN → Prop)  (hw : zLoop2 (lb_X4_copyNumbers_23 n o v2  Q ) v3 w0Row) : ZZ p l e rmX4_copyNumbers s m args below meth c D A 4 0 0 (MQ below (ZQ D A (fun _ : zN => none) (fun u : zN => [(wN cI an cn u), (wN cI ao co o)]) (fun u : zN => Q u)) args s rmX4_copyNumbers.cells rmX4_copyNumbers.slots A) [(wN cI an cn (nSetRow n w0Row)), (wN cI ao co o)] 23 [some (.ref an), some (.ref ao), some (.int v2), some (.int v3)] [] := by
  refine zLoop2_w (fun (v3 : Int32) (w0Row : Nat → Int32) => ZZ p l e rmX4_copyNumbers s m args below meth c D A 4 0 0 (MQ below (ZQ D A (fun _ : zN => none) (fun u : zN => [(wN cI an cn u), (wN cI ao co o)]) (fun u : zN => Q u)) args s rmX4_copyNumbers.cells rmX4_copyNumbers.slots A) [(wN cI an cn (nSetRow n w0Row)), (wN cI ao co o)] 23 [some (.ref an), some (.ref ao), some (.int v2), some (.int v3)] []) ?_ _ _ hw
  clear hw
  intro K23 hK23 v3 w0Row hw
  unfold lb_X4_copyNumbers_23 at hw
  refine z_iload_n C dX4_copyNumbers_23 rfl ?_
  refine z_iload_n C dX4_copyNumbers_24 rfl ?_
  refine z_icmp_ge C dX4_copyNumbers_25 46 (by decide) (fun c2 => ?_) (fun c2 => ?_)
  · replace hw := hw.1 c2
    refine z_aload_n C dX4_copyNumbers_46 rfl ?_
    refine z_iload_n C dX4_copyNumbers_47 rfl ?_
    refine z_put C inlX4 rfl tyX4 tyX4_ok nmX4 1 (by decide) mw_3_11 rfl rfl rfl rfl dX4_copyNumbers_48 0 0 rfl rfl (Nat.le_of_ble_eq_true rfl) [(wN cI an cn (nSetSize (nSetRow n w0Row) v2)), (wN cI ao co o)] rfl ?_
    exact z_vret C rfl ((nSetSize (nSetRow n w0Row) v2)) rfl hw rfl dX4_copyNumbers_51
  · replace hw := hw.2 c2
    refine z_aload_n C dX4_copyNumbers_28 rfl ?_
    refine z_get C inlX4 rfl 0 (by decide) mw_3_10 dX4_copyNumbers_29 0 0 rfl rfl rfl ?_
    refine z_iload_n C dX4_copyNumbers_32 rfl ?_
    refine z_aload_n C dX4_copyNumbers_33 rfl ?_
    refine z_get C inlX4 rfl 0 (by decide) mw_3_10 dX4_copyNumbers_34 1 0 rfl rfl rfl ?_
    refine z_iload_n C dX4_copyNumbers_37 rfl ?_
    refine z_iald C dX4_copyNumbers_38 1 1 rfl rfl hw.1 ?_
    replace hw := hw.2
    refine z_iast C dX4_copyNumbers_39 0 1 rfl rfl hw.1 [(wN cI an cn (nSetRow n (upd w0Row v3.toNatClampNeg ((nRow o) v3.toNatClampNeg)))), (wN cI ao co o)] rfl ?_
    replace hw := hw.2
    refine z_iinc C dX4_copyNumbers_40 rfl (v3 + 1) (by rfl) [some (.ref an), some (.ref ao), some (.int v2), some (.int (v3 + 1))] (by decide) rfl ?_
    refine z_goto C dX4_copyNumbers_43 23 (by decide) ?_
    exact hK23 _ _ hw
def wp_X4_copyNumbers (n : zN) (o : zN)  (Q : zN → Prop) : Prop := (∀ x1 : Int32, x1 = (if (if (nI (nCap n)) < (nI (nCap o)) then (nI (nCap n)) else (nI (nCap o))) < (nSize o) then (if (nI (nCap n)) < (nI (nCap o)) then (nI (nCap n)) else (nI (nCap o))) else (nSize o)) → (zLoop2 (lb_X4_copyNumbers_23 n o x1  Q ) 0 (nRow n)))
set_option maxHeartbeats 4000000 in
set_option maxRecDepth 100000 in
theorem met_X4_copyNumbers (l : Launch) (D : va_G) (cI : ClassId) (an : Nat) (cn : Nat) (ao : Nat) (co : Nat) (n : zN) (o : zN)  (Q : zN → Prop) (hw : wp_X4_copyNumbers n o Q) : ZM l D cI yX4_copyNumbers cX4_copyNumbers 4 none rmX4_copyNumbers [.ref an, .ref ao] [(wN cI an cn n), (wN cI ao co o)] (fun _ : zN => none) (fun u : zN => [(wN cI an cn u), (wN cI ao co o)]) (fun u : zN => Q u) := by
  refine z_body [some (.ref an), some (.ref ao), none, none] (by decide +kernel) rfl (Nat.le_of_ble_eq_true rfl) rfl ?_
  intro p e s m args below meth c A C hin
  unfold wp_X4_copyNumbers at hw
  refine z_aload_n C dX4_copyNumbers_0 rfl ?_
  refine z_get C inlX4 rfl 1 (by decide) mw_3_11 dX4_copyNumbers_1 1 0 rfl rfl rfl ?_
  refine z_aload_n C dX4_copyNumbers_4 rfl ?_
  refine z_get C inlX4 rfl 0 (by decide) mw_3_10 dX4_copyNumbers_5 1 0 rfl rfl rfl ?_
  refine z_alen C dX4_copyNumbers_8 1 1 rfl rfl (nI (nCap o)) rfl ?_
  refine z_aload_n C dX4_copyNumbers_9 rfl ?_
  refine z_get C inlX4 rfl 0 (by decide) mw_3_10 dX4_copyNumbers_10 0 0 rfl rfl rfl ?_
  refine z_alen C dX4_copyNumbers_13 0 1 rfl rfl (nI (nCap n)) rfl ?_
  refine z_mmin C mw_7_3 mw_7_4 mw_3_7 mw_7_5 (Nat.le_of_ble_eq_true rfl) (Nat.le_of_ble_eq_true rfl) ⟨Nat.le_of_ble_eq_true rfl, Nat.le_of_ble_eq_true rfl⟩ dX4_copyNumbers_14 ?_
  refine z_mmin C mw_7_3 mw_7_4 mw_3_7 mw_7_5 (Nat.le_of_ble_eq_true rfl) (Nat.le_of_ble_eq_true rfl) ⟨Nat.le_of_ble_eq_true rfl, Nat.le_of_ble_eq_true rfl⟩ dX4_copyNumbers_17 ?_
  refine z_name C (fun x1 ex1 => ?_)
  replace hw := hw x1 ex1
  refine z_istore_n C dX4_copyNumbers_20 [some (.ref an), some (.ref ao), some (.int x1), none] (by decide) rfl ?_
  refine z_iconst C dX4_copyNumbers_21 0 (by decide +kernel) ?_
  refine z_istore_n C dX4_copyNumbers_22 [some (.ref an), some (.ref ao), some (.int x1), some (.int 0)] (by decide) rfl ?_
  exact wk_X4_copyNumbers_23 C an cn ao co n o x1  0 (nRow n) _  hw
def rmX4_isSameAs : Room := { frames := 1, cells := 0, slots := 0, locals := 21 }
def lb_X4_isSameAs_15 (n : zN) (o : zN)   (Q : Int32 → Prop)  (K15 : (Int32) → Prop) (v2 : Int32) : Prop := (((nSize n) ≤ v2 → (Q 1)) ∧ (¬ (nSize n) ≤ v2 → (wp_X4_at n v2 (fun r3 => (wp_X4_at o v2 (fun r4 => ((r3 = r4 → (K15 (v2 + 1))) ∧ (¬ r3 = r4 → (Q 0)))))))))
set_option maxHeartbeats 4000000 in
set_option maxRecDepth 100000 in
theorem wk_X4_isSameAs_15 {p : Program} {l : Launch} {e : Env} {s : State} {m : MethodId} {args : Array Value} {below : List Frame} {meth : Method} {c : Code} {D : va_G} {cI : ClassId} {A : Nat → Prop} (C : ZC p s m args meth c RX4 cX4_isSameAs 3 (some .boolean) D cI A) (an : Nat) (cn : Nat) (ao : Nat) (co : Nat) (n : zN) (o : zN)   (v2 : Int32) (Q : Int32 → Prop)  (hw : zLoop1 (lb_X4_isSameAs_15 n o   Q ) v2) : ZZ p l e rmX4_isSameAs s m args below meth c D A 3 0 0 (MQ below (ZQ D A (fun u : Int32 => some (.int u)) (fun u : Int32 => [(wN cI an cn n), (wN cI ao co o)]) (fun u : Int32 => Q u)) args s rmX4_isSameAs.cells rmX4_isSameAs.slots A) [(wN cI an cn n), (wN cI ao co o)] 15 [some (.ref an), some (.ref ao), some (.int v2)] [] := by
  refine zLoop1_w (fun (v2 : Int32) => ZZ p l e rmX4_isSameAs s m args below meth c D A 3 0 0 (MQ below (ZQ D A (fun u : Int32 => some (.int u)) (fun u : Int32 => [(wN cI an cn n), (wN cI ao co o)]) (fun u : Int32 => Q u)) args s rmX4_isSameAs.cells rmX4_isSameAs.slots A) [(wN cI an cn n), (wN cI ao co o)] 15 [some (.ref an), some (.ref ao), some (.int v2)] []) ?_ _ hw
  clear hw
  intro K15 hK15 v2 hw
  unfold lb_X4_isSameAs_15 at hw
  refine z_iload_n C dX4_isSameAs_15 rfl ?_
  refine z_aload_n C dX4_isSameAs_16 rfl ?_
  refine z_get C inlX4 rfl 1 (by decide) mw_3_11 dX4_isSameAs_17 0 0 rfl rfl rfl ?_
  refine z_icmp_ge C dX4_isSameAs_20 44 (by decide) (fun c2 => ?_) (fun c2 => ?_)
  · replace hw := hw.1 c2
    refine z_iconst C dX4_isSameAs_44 1 (by decide +kernel) ?_
    exact z_zret C rfl (by decide) (1 : Int32) rfl hw rfl dX4_isSameAs_45
  · replace hw := hw.2 c2
    refine z_aload_n C dX4_isSameAs_23 rfl ?_
    refine z_iload_n C dX4_isSameAs_24 rfl ?_
    refine z_callV0 C [(wN cI an cn n)] [(wN cI ao co o)] rfl rfl (met_X4_at l D cI an cn n v2 _ hw) y_X4_at mw_5_11 dX4_isSameAs_25 rfl n_X4_at rfl (by decide) ⟨rfl, rfl, Nat.le_of_ble_eq_true rfl, Nat.le_of_ble_eq_true rfl⟩ (Nat.le_of_ble_eq_true rfl) (z_pm [0, 1] 2 rfl (by decide) rfl) ?_
    intro r3 hw
    try dsimp only at hw
    refine z_bs [(wN cI an cn n), (wN cI ao co o)] [.int r3] rfl rfl ?_
    refine z_aload_n C dX4_isSameAs_28 rfl ?_
    refine z_iload_n C dX4_isSameAs_29 rfl ?_
    refine z_callV0 C [(wN cI ao co o)] [(wN cI an cn n)] rfl rfl (met_X4_at l D cI ao co o v2 _ hw) y_X4_at mw_5_11 dX4_isSameAs_30 rfl n_X4_at rfl (by decide) ⟨rfl, rfl, Nat.le_of_ble_eq_true rfl, Nat.le_of_ble_eq_true rfl⟩ (Nat.le_of_ble_eq_true rfl) (z_pm [1, 0] 2 rfl (by decide) rfl) ?_
    intro r4 hw
    try dsimp only at hw
    refine z_bs [(wN cI ao co o), (wN cI an cn n)] [.int r4, .int r3] rfl rfl ?_
    refine z_perm C [(wN cI an cn n), (wN cI ao co o)] (z_pm [1, 0] 2 rfl (by decide) rfl) ?_
    refine z_icmp_eq C dX4_isSameAs_33 38 (by decide) (fun c5 => ?_) (fun c5 => ?_)
    · replace hw := hw.1 c5
      refine z_iinc C dX4_isSameAs_38 rfl (v2 + 1) (by rfl) [some (.ref an), some (.ref ao), some (.int (v2 + 1))] (by decide) rfl ?_
      refine z_goto C dX4_isSameAs_41 15 (by decide) ?_
      exact hK15 _ hw
    · replace hw := hw.2 c5
      refine z_iconst C dX4_isSameAs_36 0 (by decide +kernel) ?_
      exact z_zret C rfl (by decide) (0 : Int32) rfl hw rfl dX4_isSameAs_37
def wp_X4_isSameAs (n : zN) (o : zN)  (Q : Int32 → Prop) : Prop := (((nSize n) = (nSize o) → (zLoop1 (lb_X4_isSameAs_15 n o   Q ) 0)) ∧ (¬ (nSize n) = (nSize o) → (Q 0)))
set_option maxHeartbeats 4000000 in
set_option maxRecDepth 100000 in
theorem met_X4_isSameAs (l : Launch) (D : va_G) (cI : ClassId) (an : Nat) (cn : Nat) (ao : Nat) (co : Nat) (n : zN) (o : zN)  (Q : Int32 → Prop) (hw : wp_X4_isSameAs n o Q) : ZM l D cI yX4_isSameAs cX4_isSameAs 3 (some .boolean) rmX4_isSameAs [.ref an, .ref ao] [(wN cI an cn n), (wN cI ao co o)] (fun u : Int32 => some (.int u)) (fun u : Int32 => [(wN cI an cn n), (wN cI ao co o)]) (fun u : Int32 => Q u) := by
  refine z_body [some (.ref an), some (.ref ao), none] (by decide +kernel) rfl (Nat.le_of_ble_eq_true rfl) rfl ?_
  intro p e s m args below meth c A C hin
  unfold wp_X4_isSameAs at hw
  refine z_aload_n C dX4_isSameAs_0 rfl ?_
  refine z_get C inlX4 rfl 1 (by decide) mw_3_11 dX4_isSameAs_1 0 0 rfl rfl rfl ?_
  refine z_aload_n C dX4_isSameAs_4 rfl ?_
  refine z_get C inlX4 rfl 1 (by decide) mw_3_11 dX4_isSameAs_5 1 0 rfl rfl rfl ?_
  refine z_icmp_eq C dX4_isSameAs_8 13 (by decide) (fun c1 => ?_) (fun c1 => ?_)
  · replace hw := hw.1 c1
    refine z_iconst C dX4_isSameAs_13 0 (by decide +kernel) ?_
    refine z_istore_n C dX4_isSameAs_14 [some (.ref an), some (.ref ao), some (.int 0)] (by decide) rfl ?_
    exact wk_X4_isSameAs_15 C an cn ao co n o   0 _  hw
  · replace hw := hw.2 c1
    refine z_iconst C dX4_isSameAs_11 0 (by decide +kernel) ?_
    exact z_zret C rfl (by decide) (0 : Int32) rfl hw rfl dX4_isSameAs_12
def rmX0_passThrough : Room := { frames := 1, cells := 0, slots := 0, locals := 28 }
def lb_X0_passThrough_4 (n : zN) (p2 : Int32)   (Q : Int32 → zN → Prop)  (K4 : (Int32) → (Int32) → (zN) → Prop) (v2 : Int32) (v3 : Int32) (w0 : zN) : Prop := (((f_X4_size w0) ≤ v3 → (Q v2 w0)) ∧ (¬ (f_X4_size w0) ≤ v3 → (wp_X4_at w0 v3 (fun r2 => (wp_X4_put w0 v3 (f_X0_reshaped r2 v2) (fun u3 => (∀ x4 : Int32, x4 = (f_X0_reshaped v2 r2) → (K4 x4 (v3 + 1) u3))))))))
set_option maxHeartbeats 4000000 in
set_option maxRecDepth 100000 in
theorem wk_X0_passThrough_4 {p : Program} {l : Launch} {e : Env} {s : State} {m : MethodId} {args : Array Value} {below : List Frame} {meth : Method} {c : Code} {D : va_G} {cI : ClassId} {A : Nat → Prop} (C : ZC p s m args meth c RX0 cX0_passThrough 5 (some .int) D cI A) (an : Nat) (cn : Nat) (n : zN) (p2 : Int32)   (v2 : Int32) (v3 : Int32) (w0 : zN) (Q : Int32 → zN → Prop)  (hw : zLoop3 (lb_X0_passThrough_4 n p2   Q ) v2 v3 w0) : ZZ p l e rmX0_passThrough s m args below meth c D A 5 0 0 (MQ below (ZQ D A (fun u : Int32 × zN => some (.int u.1)) (fun u : Int32 × zN => [(wN cI an cn (u.2))]) (fun u : Int32 × zN => Q u.1 u.2)) args s rmX0_passThrough.cells rmX0_passThrough.slots A) [(wN cI an cn w0)] 4 [some (.ref an), none, some (.int v2), some (.int v3), none] [] := by
  refine zLoop3_w (fun (v2 : Int32) (v3 : Int32) (w0 : zN) => ZZ p l e rmX0_passThrough s m args below meth c D A 5 0 0 (MQ below (ZQ D A (fun u : Int32 × zN => some (.int u.1)) (fun u : Int32 × zN => [(wN cI an cn (u.2))]) (fun u : Int32 × zN => Q u.1 u.2)) args s rmX0_passThrough.cells rmX0_passThrough.slots A) [(wN cI an cn w0)] 4 [some (.ref an), none, some (.int v2), some (.int v3), none] []) ?_ _ _ _ hw
  clear hw
  intro K4 hK4 v2 v3 w0 hw
  unfold lb_X0_passThrough_4 at hw
  refine z_iload_n C dX0_passThrough_4 rfl ?_
  refine z_aload_n C dX0_passThrough_5 rfl ?_
  refine z_callFV C [(wN cI an cn w0)] [] rfl rfl (met_X4_size l D cI an cn w0) y_X4_size mw_11_13 dX0_passThrough_6 rfl n_X4_size rfl (by decide) ⟨rfl, rfl, Nat.le_of_ble_eq_true rfl, Nat.le_of_ble_eq_true rfl⟩ (Nat.le_of_ble_eq_true rfl) (z_pm [0] 1 rfl (by decide) rfl) ?_
  refine z_icmp_ge C dX0_passThrough_9 43 (by decide) (fun c1 => ?_) (fun c1 => ?_)
  · replace hw := hw.1 c1
    refine z_iload_n C dX0_passThrough_43 rfl ?_
    exact z_iret C rfl (v2, w0) rfl hw rfl dX0_passThrough_44
  · replace hw := hw.2 c1
    refine z_aload_n C dX0_passThrough_12 rfl ?_
    refine z_iload_n C dX0_passThrough_13 rfl ?_
    refine z_callV0 C [(wN cI an cn w0)] [] rfl rfl (met_X4_at l D cI an cn w0 v3 _ hw) y_X4_at mw_11_14 dX0_passThrough_14 rfl n_X4_at rfl (by decide) ⟨rfl, rfl, Nat.le_of_ble_eq_true rfl, Nat.le_of_ble_eq_true rfl⟩ (Nat.le_of_ble_eq_true rfl) (z_pm [0] 1 rfl (by decide) rfl) ?_
    intro r2 hw
    try dsimp only at hw
    refine z_bs [(wN cI an cn w0)] [.int r2] rfl rfl ?_
    refine z_istore C dX0_passThrough_17 [some (.ref an), none, some (.int v2), some (.int v3), some (.int r2)] (by decide) rfl ?_
    refine z_aload_n C dX0_passThrough_19 rfl ?_
    refine z_iload_n C dX0_passThrough_20 rfl ?_
    refine z_iload C dX0_passThrough_21 rfl ?_
    refine z_iload_n C dX0_passThrough_23 rfl ?_
    refine z_callFS C [] [(wN cI an cn w0)] (met_X0_reshaped l D cI r2 v2) y_X0_reshaped mw_11_15 dX0_passThrough_24 rfl n_X0_reshaped rfl (by decide) ⟨rfl, rfl, Nat.le_of_ble_eq_true rfl, Nat.le_of_ble_eq_true rfl⟩ (Nat.le_of_ble_eq_true rfl) (z_pm [0] 1 rfl (by decide) rfl) ?_
    refine z_callV0 C [(wN cI an cn w0)] [] rfl rfl (met_X4_put l D cI an cn w0 v3 (f_X0_reshaped r2 v2) _ hw) y_X4_put mw_11_16 dX0_passThrough_27 rfl n_X4_put rfl (by decide) ⟨rfl, rfl, Nat.le_of_ble_eq_true rfl, Nat.le_of_ble_eq_true rfl⟩ (Nat.le_of_ble_eq_true rfl) (z_pm [0] 1 rfl (by decide) rfl) ?_
    intro u3 hw
    try dsimp only at hw
    refine z_bs [(wN cI an cn u3)] [] rfl rfl ?_
    refine z_iload_n C dX0_passThrough_30 rfl ?_
    refine z_iload C dX0_passThrough_31 rfl ?_
    refine z_callFS C [] [(wN cI an cn u3)] (met_X0_reshaped l D cI v2 r2) y_X0_reshaped mw_11_15 dX0_passThrough_33 rfl n_X0_reshaped rfl (by decide) ⟨rfl, rfl, Nat.le_of_ble_eq_true rfl, Nat.le_of_ble_eq_true rfl⟩ (Nat.le_of_ble_eq_true rfl) (z_pm [0] 1 rfl (by decide) rfl) ?_
    refine z_name C (fun x4 ex4 => ?_)
    replace hw := hw x4 ex4
    refine z_istore_n C dX0_passThrough_36 [some (.ref an), none, some (.int x4), some (.int v3), some (.int r2)] (by decide) rfl ?_
    refine z_iinc C dX0_passThrough_37 rfl (v3 + 1) (by rfl) [some (.ref an), none, some (.int x4), some (.int (v3 + 1)), some (.int r2)] (by decide) rfl ?_
    refine z_goto C dX0_passThrough_40 4 (by decide) ?_
    refine z_ls C [true, false, true, true, false] [some (.ref an), none, some (.int x4), some (.int (v3 + 1)), none] rfl ?_
    exact hK4 _ _ _ hw
def wp_X0_passThrough (n : zN) (p2 : Int32) (Q : Int32 → zN → Prop) : Prop := (zLoop3 (lb_X0_passThrough_4 n p2   Q ) p2 0 n)
set_option maxHeartbeats 4000000 in
set_option maxRecDepth 100000 in
theorem met_X0_passThrough (l : Launch) (D : va_G) (cI : ClassId) (an : Nat) (cn : Nat) (n : zN) (p2 : Int32) (Q : Int32 → zN → Prop) (hw : wp_X0_passThrough n p2 Q) : ZM l D cI yX0_passThrough cX0_passThrough 5 (some .int) rmX0_passThrough [.ref an, .int p2] [(wN cI an cn n)] (fun u : Int32 × zN => some (.int u.1)) (fun u : Int32 × zN => [(wN cI an cn (u.2))]) (fun u : Int32 × zN => Q u.1 u.2) := by
  refine z_body [some (.ref an), some (.int p2), none, none, none] (by decide +kernel) rfl (Nat.le_of_ble_eq_true rfl) rfl ?_
  intro p e s m args below meth c A C hin
  unfold wp_X0_passThrough at hw
  refine z_iload_n C dX0_passThrough_0 rfl ?_
  refine z_istore_n C dX0_passThrough_1 [some (.ref an), some (.int p2), some (.int p2), none, none] (by decide) rfl ?_
  refine z_iconst C dX0_passThrough_2 0 (by decide +kernel) ?_
  refine z_istore_n C dX0_passThrough_3 [some (.ref an), some (.int p2), some (.int p2), some (.int 0), none] (by decide) rfl ?_
  refine z_ls C [true, false, true, true, false] [some (.ref an), none, some (.int p2), some (.int 0), none] rfl ?_
  exact wk_X0_passThrough_4 C an cn n p2   p2 0 n _  hw
