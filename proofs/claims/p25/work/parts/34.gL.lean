/-! printed by wip/p25/mkL.py: what the law's methods do, and that the machine does it -/
def rmX8_low : Room := { frames := 0, cells := 0, slots := 0, locals := 0 }
def wp_X8_low  (p1 : Int32) (p2 : Int32) (Q : Int32 → Prop) : Prop := (¬ p2 = 0 ∧ (Q ((p1 &&& 2147483647) - (p1 &&& 2147483647) / p2 * p2)))
set_option maxHeartbeats 4000000 in
set_option maxRecDepth 100000 in
theorem met_X8_low (l : Launch) (D : va_G) (cI : ClassId)   (p1 : Int32) (p2 : Int32) (Q : Int32 → Prop) (hw : wp_X8_low p1 p2 Q) : ZM l D cI yX8_low cX8_low 2 (some .int) rmX8_low [.int p1, .int p2] [] (fun u : Int32 => some (.int u)) (fun u : Int32 => []) (fun u : Int32 => Q u) := by
  refine z_body [some (.int p1), some (.int p2)] (by decide +kernel) rfl (Nat.le_of_ble_eq_true rfl) rfl ?_
  intro p e s m args below meth c A C hin
  unfold wp_X8_low at hw
  refine z_iload_n C dX8_low_0 rfl ?_
  refine z_ldc C 2147483647 mw_4_15 dX8_low_1 ?_
  refine z_iand C dX8_low_3 ?_
  refine z_iload_n C dX8_low_4 rfl ?_
  refine z_irem C dX8_low_5 hw.1 ?_
  replace hw := hw.2
  exact z_iret C rfl (((p1 &&& 2147483647) - (p1 &&& 2147483647) / p2 * p2)) rfl hw rfl dX8_low_6
def rmX8_does : Room := { frames := 7, cells := 0, slots := 0, locals := 171 }
def wp_X8_does (x : zX) (p2 : Int32) (Q : Int32 → zX → Prop) : Prop := (wp_X8_low (p2 >>> (4 &&& 31)) 3 (fun r1 => (wp_X6_editorOf x r1 0 (fun r2 => (((p2 &&& 15) = 0 → (wp_X8_low (p2 >>> (6 &&& 31)) (r2 + 1) (fun r4 => (wp_X8_low (p2 >>> (9 &&& 31)) 26 (fun r5 => (wp_X6_insert x r1 r4 r5 (fun r6 u7 => (Q r6 u7)))))))) ∧ (¬ (p2 &&& 15) = 0 → (((p2 &&& 15) = 1 → (wp_X8_low (p2 >>> (6 &&& 31)) (r2 + 1) (fun r9 => (wp_X8_low (p2 >>> (9 &&& 31)) 26 (fun r10 => (wp_X6_insert x r1 r9 r10 (fun r11 u12 => (Q r11 u12)))))))) ∧ (¬ (p2 &&& 15) = 1 → (((p2 &&& 15) = 2 → (wp_X8_low (p2 >>> (6 &&& 31)) (r2 + 1) (fun r14 => (wp_X8_low (p2 >>> (9 &&& 31)) 26 (fun r15 => (wp_X6_insert x r1 r14 r15 (fun r16 u17 => (Q r16 u17)))))))) ∧ (¬ (p2 &&& 15) = 2 → (((p2 &&& 15) = 3 → (wp_X8_low (p2 >>> (6 &&& 31)) (r2 + 1) (fun r19 => (wp_X8_low (p2 >>> (9 &&& 31)) 26 (fun r20 => (wp_X6_insert x r1 r19 r20 (fun r21 u22 => (Q r21 u22)))))))) ∧ (¬ (p2 &&& 15) = 3 → (((p2 &&& 15) = 4 → ((¬ r2 = 0 → (wp_X8_low (p2 >>> (6 &&& 31)) r2 (fun r25 => (wp_X6_delete x r1 r25 (fun r26 u27 => (Q r26 u27)))))) ∧ (r2 = 0 → (Q (-2) x)))) ∧ (¬ (p2 &&& 15) = 4 → (((p2 &&& 15) = 5 → ((¬ r2 = 0 → (wp_X8_low (p2 >>> (6 &&& 31)) r2 (fun r30 => (wp_X6_delete x r1 r30 (fun r31 u32 => (Q r31 u32)))))) ∧ (r2 = 0 → (Q (-2) x)))) ∧ (¬ (p2 &&& 15) = 5 → (((p2 &&& 15) = 6 → ((¬ r2 = 0 → (wp_X8_low (p2 >>> (6 &&& 31)) r2 (fun r35 => (wp_X6_delete x r1 r35 (fun r36 u37 => (Q r36 u37)))))) ∧ (r2 = 0 → (Q (-2) x)))) ∧ (¬ (p2 &&& 15) = 6 → (((p2 &&& 15) = 7 → (wp_X6_takeBack x r1 (fun r39 u40 => (Q r39 u40)))) ∧ (¬ (p2 &&& 15) = 7 → (((p2 &&& 15) = 8 → (wp_X8_low (p2 >>> (6 &&& 31)) (r2 + 1) (fun r42 => (wp_X6_mark x r1 r42 (fun r43 u44 => (Q r43 u44)))))) ∧ (¬ (p2 &&& 15) = 8 → (((p2 &&& 15) = 9 → (wp_X6_send x r1 (fun r46 u47 => (Q r46 u47)))) ∧ (¬ (p2 &&& 15) = 9 → (((p2 &&& 15) = 10 → (wp_X6_send x r1 (fun r49 u50 => (Q r49 u50)))) ∧ (¬ (p2 &&& 15) = 10 → (((p2 &&& 15) = 11 → (wp_X6_send x r1 (fun r52 u53 => (Q r52 u53)))) ∧ (¬ (p2 &&& 15) = 11 → (((p2 &&& 15) = 12 → (wp_X6_hear x r1 (fun r55 u56 => (Q r55 u56)))) ∧ (¬ (p2 &&& 15) = 12 → (((p2 &&& 15) = 13 → (wp_X6_hear x r1 (fun r58 u59 => (Q r58 u59)))) ∧ (¬ (p2 &&& 15) = 13 → (wp_X6_hearAll x r1 (fun r60 u61 => (Q r60 u61)))))))))))))))))))))))))))))))))))
set_option maxHeartbeats 4000000 in
set_option maxRecDepth 100000 in
theorem met_X8_does (l : Launch) (D : va_G) (cI : ClassId) (gx : Nat → Nat) (x : zX) (p2 : Int32) (Q : Int32 → zX → Prop) (hw : wp_X8_does x p2 Q) : ZM l D cI yX8_does cX8_does 4 (some .int) rmX8_does [.ref (gx 0), .int p2] [(wX cI gx x)] (fun u : Int32 × zX => some (.int u.1)) (fun u : Int32 × zX => [(wX cI gx (u.2))]) (fun u : Int32 × zX => Q u.1 u.2) := by
  refine z_body [some (.ref (gx 0)), some (.int p2), none, none] (by decide +kernel) rfl (Nat.le_of_ble_eq_true rfl) rfl ?_
  intro p e s m args below meth c A C hin
  unfold wp_X8_does at hw
  refine z_iload_n C dX8_does_0 rfl ?_
  refine z_iconst C dX8_does_1 4 (by decide +kernel) ?_
  refine z_ishr C dX8_does_2 ?_
  refine z_iconst C dX8_does_3 3 (by decide +kernel) ?_
  refine z_callS0 C [] [(wX cI gx x)] (met_X8_low l D cI (p2 >>> (4 &&& 31)) 3 _ hw) y_X8_low mw_4_12 dX8_does_4 rfl n_X8_low rfl (by decide) ⟨rfl, rfl, Nat.le_of_ble_eq_true rfl, Nat.le_of_ble_eq_true rfl⟩ (Nat.le_of_ble_eq_true rfl) (z_pm [0] 1 rfl (by decide) rfl) ?_
  intro r1 hw
  try dsimp only at hw
  refine z_bs [(wX cI gx x)] [.int r1] rfl rfl ?_
  refine z_istore_n C dX8_does_7 [some (.ref (gx 0)), some (.int p2), some (.int r1), none] (by decide) rfl ?_
  refine z_aload_n C dX8_does_8 rfl ?_
  refine z_iload_n C dX8_does_9 rfl ?_
  refine z_iconst C dX8_does_10 0 (by decide +kernel) ?_
  refine z_callV0 C [(wX cI gx x)] [] rfl rfl (met_X6_editorOf l D cI gx x r1 0 _ hw) y_X6_editorOf mw_4_16 dX8_does_11 rfl n_X6_editorOf rfl (by decide) ⟨rfl, rfl, Nat.le_of_ble_eq_true rfl, Nat.le_of_ble_eq_true rfl⟩ (Nat.le_of_ble_eq_true rfl) (z_pm [0] 1 rfl (by decide) rfl) ?_
  intro r2 hw
  try dsimp only at hw
  refine z_bs [(wX cI gx x)] [.int r2] rfl rfl ?_
  refine z_istore_n C dX8_does_14 [some (.ref (gx 0)), some (.int p2), some (.int r1), some (.int r2)] (by decide) rfl ?_
  refine z_iload_n C dX8_does_15 rfl ?_
  refine z_bipush C dX8_does_16 15 (by decide +kernel) ?_
  refine z_iand C dX8_does_18 ?_
  by_cases c3 : (p2 &&& 15) = 0
  · refine z_tableAt C dX8_does_19 0 c3 (by decide) (by decide) 69 rfl 88 (by decide) ?_
    replace hw := hw.1 c3
    refine z_aload_n C dX8_does_88 rfl ?_
    refine z_iload_n C dX8_does_89 rfl ?_
    refine z_iload_n C dX8_does_90 rfl ?_
    refine z_bipush C dX8_does_91 6 (by decide +kernel) ?_
    refine z_ishr C dX8_does_93 ?_
    refine z_iload_n C dX8_does_94 rfl ?_
    refine z_iconst C dX8_does_95 1 (by decide +kernel) ?_
    refine z_iadd C dX8_does_96 ?_
    refine z_callS0 C [] [(wX cI gx x)] (met_X8_low l D cI (p2 >>> (6 &&& 31)) (r2 + 1) _ hw) y_X8_low mw_4_12 dX8_does_97 rfl n_X8_low rfl (by decide) ⟨rfl, rfl, Nat.le_of_ble_eq_true rfl, Nat.le_of_ble_eq_true rfl⟩ (Nat.le_of_ble_eq_true rfl) (z_pm [0] 1 rfl (by decide) rfl) ?_
    intro r4 hw
    try dsimp only at hw
    refine z_bs [(wX cI gx x)] [.int r4, .int r1, .ref (gx 0)] rfl rfl ?_
    refine z_iload_n C dX8_does_100 rfl ?_
    refine z_bipush C dX8_does_101 9 (by decide +kernel) ?_
    refine z_ishr C dX8_does_103 ?_
    refine z_bipush C dX8_does_104 26 (by decide +kernel) ?_
    refine z_callS0 C [] [(wX cI gx x)] (met_X8_low l D cI (p2 >>> (9 &&& 31)) 26 _ hw) y_X8_low mw_4_12 dX8_does_106 rfl n_X8_low rfl (by decide) ⟨rfl, rfl, Nat.le_of_ble_eq_true rfl, Nat.le_of_ble_eq_true rfl⟩ (Nat.le_of_ble_eq_true rfl) (z_pm [0] 1 rfl (by decide) rfl) ?_
    intro r5 hw
    try dsimp only at hw
    refine z_bs [(wX cI gx x)] [.int r5, .int r4, .int r1, .ref (gx 0)] rfl rfl ?_
    refine z_callV0 C [(wX cI gx x)] [] rfl rfl (met_X6_insert l D cI gx x r1 r4 r5 _ hw) y_X6_insert mw_5_23 dX8_does_109 rfl n_X6_insert rfl (by decide) ⟨rfl, rfl, Nat.le_of_ble_eq_true rfl, Nat.le_of_ble_eq_true rfl⟩ (Nat.le_of_ble_eq_true rfl) (z_pm [0] 1 rfl (by decide) rfl) ?_
    intro ⟨r6, u7⟩ hw
    try dsimp only at hw
    refine z_bs [(wX cI gx u7)] [.int r6] rfl rfl ?_
    exact z_iret C rfl (r6, u7) rfl hw rfl dX8_does_112
  replace hw := hw.2 c3
  by_cases c8 : (p2 &&& 15) = 1
  · refine z_tableAt C dX8_does_19 1 c8 (by decide) (by decide) 69 rfl 88 (by decide) ?_
    replace hw := hw.1 c8
    refine z_aload_n C dX8_does_88 rfl ?_
    refine z_iload_n C dX8_does_89 rfl ?_
    refine z_iload_n C dX8_does_90 rfl ?_
    refine z_bipush C dX8_does_91 6 (by decide +kernel) ?_
    refine z_ishr C dX8_does_93 ?_
    refine z_iload_n C dX8_does_94 rfl ?_
    refine z_iconst C dX8_does_95 1 (by decide +kernel) ?_
    refine z_iadd C dX8_does_96 ?_
    refine z_callS0 C [] [(wX cI gx x)] (met_X8_low l D cI (p2 >>> (6 &&& 31)) (r2 + 1) _ hw) y_X8_low mw_4_12 dX8_does_97 rfl n_X8_low rfl (by decide) ⟨rfl, rfl, Nat.le_of_ble_eq_true rfl, Nat.le_of_ble_eq_true rfl⟩ (Nat.le_of_ble_eq_true rfl) (z_pm [0] 1 rfl (by decide) rfl) ?_
    intro r9 hw
    try dsimp only at hw
    refine z_bs [(wX cI gx x)] [.int r9, .int r1, .ref (gx 0)] rfl rfl ?_
    refine z_iload_n C dX8_does_100 rfl ?_
    refine z_bipush C dX8_does_101 9 (by decide +kernel) ?_
    refine z_ishr C dX8_does_103 ?_
    refine z_bipush C dX8_does_104 26 (by decide +kernel) ?_
    refine z_callS0 C [] [(wX cI gx x)] (met_X8_low l D cI (p2 >>> (9 &&& 31)) 26 _ hw) y_X8_low mw_4_12 dX8_does_106 rfl n_X8_low rfl (by decide) ⟨rfl, rfl, Nat.le_of_ble_eq_true rfl, Nat.le_of_ble_eq_true rfl⟩ (Nat.le_of_ble_eq_true rfl) (z_pm [0] 1 rfl (by decide) rfl) ?_
    intro r10 hw
    try dsimp only at hw
    refine z_bs [(wX cI gx x)] [.int r10, .int r9, .int r1, .ref (gx 0)] rfl rfl ?_
    refine z_callV0 C [(wX cI gx x)] [] rfl rfl (met_X6_insert l D cI gx x r1 r9 r10 _ hw) y_X6_insert mw_5_23 dX8_does_109 rfl n_X6_insert rfl (by decide) ⟨rfl, rfl, Nat.le_of_ble_eq_true rfl, Nat.le_of_ble_eq_true rfl⟩ (Nat.le_of_ble_eq_true rfl) (z_pm [0] 1 rfl (by decide) rfl) ?_
    intro ⟨r11, u12⟩ hw
    try dsimp only at hw
    refine z_bs [(wX cI gx u12)] [.int r11] rfl rfl ?_
    exact z_iret C rfl (r11, u12) rfl hw rfl dX8_does_112
  replace hw := hw.2 c8
  by_cases c13 : (p2 &&& 15) = 2
  · refine z_tableAt C dX8_does_19 2 c13 (by decide) (by decide) 69 rfl 88 (by decide) ?_
    replace hw := hw.1 c13
    refine z_aload_n C dX8_does_88 rfl ?_
    refine z_iload_n C dX8_does_89 rfl ?_
    refine z_iload_n C dX8_does_90 rfl ?_
    refine z_bipush C dX8_does_91 6 (by decide +kernel) ?_
    refine z_ishr C dX8_does_93 ?_
    refine z_iload_n C dX8_does_94 rfl ?_
    refine z_iconst C dX8_does_95 1 (by decide +kernel) ?_
    refine z_iadd C dX8_does_96 ?_
    refine z_callS0 C [] [(wX cI gx x)] (met_X8_low l D cI (p2 >>> (6 &&& 31)) (r2 + 1) _ hw) y_X8_low mw_4_12 dX8_does_97 rfl n_X8_low rfl (by decide) ⟨rfl, rfl, Nat.le_of_ble_eq_true rfl, Nat.le_of_ble_eq_true rfl⟩ (Nat.le_of_ble_eq_true rfl) (z_pm [0] 1 rfl (by decide) rfl) ?_
    intro r14 hw
    try dsimp only at hw
    refine z_bs [(wX cI gx x)] [.int r14, .int r1, .ref (gx 0)] rfl rfl ?_
    refine z_iload_n C dX8_does_100 rfl ?_
    refine z_bipush C dX8_does_101 9 (by decide +kernel) ?_
    refine z_ishr C dX8_does_103 ?_
    refine z_bipush C dX8_does_104 26 (by decide +kernel) ?_
    refine z_callS0 C [] [(wX cI gx x)] (met_X8_low l D cI (p2 >>> (9 &&& 31)) 26 _ hw) y_X8_low mw_4_12 dX8_does_106 rfl n_X8_low rfl (by decide) ⟨rfl, rfl, Nat.le_of_ble_eq_true rfl, Nat.le_of_ble_eq_true rfl⟩ (Nat.le_of_ble_eq_true rfl) (z_pm [0] 1 rfl (by decide) rfl) ?_
    intro r15 hw
    try dsimp only at hw
    refine z_bs [(wX cI gx x)] [.int r15, .int r14, .int r1, .ref (gx 0)] rfl rfl ?_
    refine z_callV0 C [(wX cI gx x)] [] rfl rfl (met_X6_insert l D cI gx x r1 r14 r15 _ hw) y_X6_insert mw_5_23 dX8_does_109 rfl n_X6_insert rfl (by decide) ⟨rfl, rfl, Nat.le_of_ble_eq_true rfl, Nat.le_of_ble_eq_true rfl⟩ (Nat.le_of_ble_eq_true rfl) (z_pm [0] 1 rfl (by decide) rfl) ?_
    intro ⟨r16, u17⟩ hw
    try dsimp only at hw
    refine z_bs [(wX cI gx u17)] [.int r16] rfl rfl ?_
    exact z_iret C rfl (r16, u17) rfl hw rfl dX8_does_112
  replace hw := hw.2 c13
  by_cases c18 : (p2 &&& 15) = 3
  · refine z_tableAt C dX8_does_19 3 c18 (by decide) (by decide) 69 rfl 88 (by decide) ?_
    replace hw := hw.1 c18
    refine z_aload_n C dX8_does_88 rfl ?_
    refine z_iload_n C dX8_does_89 rfl ?_
    refine z_iload_n C dX8_does_90 rfl ?_
    refine z_bipush C dX8_does_91 6 (by decide +kernel) ?_
    refine z_ishr C dX8_does_93 ?_
    refine z_iload_n C dX8_does_94 rfl ?_
    refine z_iconst C dX8_does_95 1 (by decide +kernel) ?_
    refine z_iadd C dX8_does_96 ?_
    refine z_callS0 C [] [(wX cI gx x)] (met_X8_low l D cI (p2 >>> (6 &&& 31)) (r2 + 1) _ hw) y_X8_low mw_4_12 dX8_does_97 rfl n_X8_low rfl (by decide) ⟨rfl, rfl, Nat.le_of_ble_eq_true rfl, Nat.le_of_ble_eq_true rfl⟩ (Nat.le_of_ble_eq_true rfl) (z_pm [0] 1 rfl (by decide) rfl) ?_
    intro r19 hw
    try dsimp only at hw
    refine z_bs [(wX cI gx x)] [.int r19, .int r1, .ref (gx 0)] rfl rfl ?_
    refine z_iload_n C dX8_does_100 rfl ?_
    refine z_bipush C dX8_does_101 9 (by decide +kernel) ?_
    refine z_ishr C dX8_does_103 ?_
    refine z_bipush C dX8_does_104 26 (by decide +kernel) ?_
    refine z_callS0 C [] [(wX cI gx x)] (met_X8_low l D cI (p2 >>> (9 &&& 31)) 26 _ hw) y_X8_low mw_4_12 dX8_does_106 rfl n_X8_low rfl (by decide) ⟨rfl, rfl, Nat.le_of_ble_eq_true rfl, Nat.le_of_ble_eq_true rfl⟩ (Nat.le_of_ble_eq_true rfl) (z_pm [0] 1 rfl (by decide) rfl) ?_
    intro r20 hw
    try dsimp only at hw
    refine z_bs [(wX cI gx x)] [.int r20, .int r19, .int r1, .ref (gx 0)] rfl rfl ?_
    refine z_callV0 C [(wX cI gx x)] [] rfl rfl (met_X6_insert l D cI gx x r1 r19 r20 _ hw) y_X6_insert mw_5_23 dX8_does_109 rfl n_X6_insert rfl (by decide) ⟨rfl, rfl, Nat.le_of_ble_eq_true rfl, Nat.le_of_ble_eq_true rfl⟩ (Nat.le_of_ble_eq_true rfl) (z_pm [0] 1 rfl (by decide) rfl) ?_
    intro ⟨r21, u22⟩ hw
    try dsimp only at hw
    refine z_bs [(wX cI gx u22)] [.int r21] rfl rfl ?_
    exact z_iret C rfl (r21, u22) rfl hw rfl dX8_does_112
  replace hw := hw.2 c18
  by_cases c23 : (p2 &&& 15) = 4
  · refine z_tableAt C dX8_does_19 4 c23 (by decide) (by decide) 94 rfl 113 (by decide) ?_
    replace hw := hw.1 c23
    refine z_iload_n C dX8_does_113 rfl ?_
    refine z_if_ne C dX8_does_114 122 (by decide) (fun c24 => ?_) (fun c24 => ?_)
    · replace hw := hw.1 c24
      refine z_aload_n C dX8_does_122 rfl ?_
      refine z_iload_n C dX8_does_123 rfl ?_
      refine z_iload_n C dX8_does_124 rfl ?_
      refine z_bipush C dX8_does_125 6 (by decide +kernel) ?_
      refine z_ishr C dX8_does_127 ?_
      refine z_iload_n C dX8_does_128 rfl ?_
      refine z_callS0 C [] [(wX cI gx x)] (met_X8_low l D cI (p2 >>> (6 &&& 31)) r2 _ hw) y_X8_low mw_4_12 dX8_does_129 rfl n_X8_low rfl (by decide) ⟨rfl, rfl, Nat.le_of_ble_eq_true rfl, Nat.le_of_ble_eq_true rfl⟩ (Nat.le_of_ble_eq_true rfl) (z_pm [0] 1 rfl (by decide) rfl) ?_
      intro r25 hw
      try dsimp only at hw
      refine z_bs [(wX cI gx x)] [.int r25, .int r1, .ref (gx 0)] rfl rfl ?_
      refine z_callV0 C [(wX cI gx x)] [] rfl rfl (met_X6_delete l D cI gx x r1 r25 _ hw) y_X6_delete mw_12_4 dX8_does_132 rfl n_X6_delete rfl (by decide) ⟨rfl, rfl, Nat.le_of_ble_eq_true rfl, Nat.le_of_ble_eq_true rfl⟩ (Nat.le_of_ble_eq_true rfl) (z_pm [0] 1 rfl (by decide) rfl) ?_
      intro ⟨r26, u27⟩ hw
      try dsimp only at hw
      refine z_bs [(wX cI gx u27)] [.int r26] rfl rfl ?_
      exact z_iret C rfl (r26, u27) rfl hw rfl dX8_does_135
    · replace hw := hw.2 c24
      refine z_bipush C dX8_does_117 (-2) (by decide +kernel) ?_
      refine z_goto C dX8_does_119 135 (by decide) ?_
      exact z_iret C rfl ((-2), x) rfl hw rfl dX8_does_135
  replace hw := hw.2 c23
  by_cases c28 : (p2 &&& 15) = 5
  · refine z_tableAt C dX8_does_19 5 c28 (by decide) (by decide) 94 rfl 113 (by decide) ?_
    replace hw := hw.1 c28
    refine z_iload_n C dX8_does_113 rfl ?_
    refine z_if_ne C dX8_does_114 122 (by decide) (fun c29 => ?_) (fun c29 => ?_)
    · replace hw := hw.1 c29
      refine z_aload_n C dX8_does_122 rfl ?_
      refine z_iload_n C dX8_does_123 rfl ?_
      refine z_iload_n C dX8_does_124 rfl ?_
      refine z_bipush C dX8_does_125 6 (by decide +kernel) ?_
      refine z_ishr C dX8_does_127 ?_
      refine z_iload_n C dX8_does_128 rfl ?_
      refine z_callS0 C [] [(wX cI gx x)] (met_X8_low l D cI (p2 >>> (6 &&& 31)) r2 _ hw) y_X8_low mw_4_12 dX8_does_129 rfl n_X8_low rfl (by decide) ⟨rfl, rfl, Nat.le_of_ble_eq_true rfl, Nat.le_of_ble_eq_true rfl⟩ (Nat.le_of_ble_eq_true rfl) (z_pm [0] 1 rfl (by decide) rfl) ?_
      intro r30 hw
      try dsimp only at hw
      refine z_bs [(wX cI gx x)] [.int r30, .int r1, .ref (gx 0)] rfl rfl ?_
      refine z_callV0 C [(wX cI gx x)] [] rfl rfl (met_X6_delete l D cI gx x r1 r30 _ hw) y_X6_delete mw_12_4 dX8_does_132 rfl n_X6_delete rfl (by decide) ⟨rfl, rfl, Nat.le_of_ble_eq_true rfl, Nat.le_of_ble_eq_true rfl⟩ (Nat.le_of_ble_eq_true rfl) (z_pm [0] 1 rfl (by decide) rfl) ?_
      intro ⟨r31, u32⟩ hw
      try dsimp only at hw
      refine z_bs [(wX cI gx u32)] [.int r31] rfl rfl ?_
      exact z_iret C rfl (r31, u32) rfl hw rfl dX8_does_135
    · replace hw := hw.2 c29
      refine z_bipush C dX8_does_117 (-2) (by decide +kernel) ?_
      refine z_goto C dX8_does_119 135 (by decide) ?_
      exact z_iret C rfl ((-2), x) rfl hw rfl dX8_does_135
  replace hw := hw.2 c28
  by_cases c33 : (p2 &&& 15) = 6
  · refine z_tableAt C dX8_does_19 6 c33 (by decide) (by decide) 94 rfl 113 (by decide) ?_
    replace hw := hw.1 c33
    refine z_iload_n C dX8_does_113 rfl ?_
    refine z_if_ne C dX8_does_114 122 (by decide) (fun c34 => ?_) (fun c34 => ?_)
    · replace hw := hw.1 c34
      refine z_aload_n C dX8_does_122 rfl ?_
      refine z_iload_n C dX8_does_123 rfl ?_
      refine z_iload_n C dX8_does_124 rfl ?_
      refine z_bipush C dX8_does_125 6 (by decide +kernel) ?_
      refine z_ishr C dX8_does_127 ?_
      refine z_iload_n C dX8_does_128 rfl ?_
      refine z_callS0 C [] [(wX cI gx x)] (met_X8_low l D cI (p2 >>> (6 &&& 31)) r2 _ hw) y_X8_low mw_4_12 dX8_does_129 rfl n_X8_low rfl (by decide) ⟨rfl, rfl, Nat.le_of_ble_eq_true rfl, Nat.le_of_ble_eq_true rfl⟩ (Nat.le_of_ble_eq_true rfl) (z_pm [0] 1 rfl (by decide) rfl) ?_
      intro r35 hw
      try dsimp only at hw
      refine z_bs [(wX cI gx x)] [.int r35, .int r1, .ref (gx 0)] rfl rfl ?_
      refine z_callV0 C [(wX cI gx x)] [] rfl rfl (met_X6_delete l D cI gx x r1 r35 _ hw) y_X6_delete mw_12_4 dX8_does_132 rfl n_X6_delete rfl (by decide) ⟨rfl, rfl, Nat.le_of_ble_eq_true rfl, Nat.le_of_ble_eq_true rfl⟩ (Nat.le_of_ble_eq_true rfl) (z_pm [0] 1 rfl (by decide) rfl) ?_
      intro ⟨r36, u37⟩ hw
      try dsimp only at hw
      refine z_bs [(wX cI gx u37)] [.int r36] rfl rfl ?_
      exact z_iret C rfl (r36, u37) rfl hw rfl dX8_does_135
    · replace hw := hw.2 c34
      refine z_bipush C dX8_does_117 (-2) (by decide +kernel) ?_
      refine z_goto C dX8_does_119 135 (by decide) ?_
      exact z_iret C rfl ((-2), x) rfl hw rfl dX8_does_135
  replace hw := hw.2 c33
  by_cases c38 : (p2 &&& 15) = 7
  · refine z_tableAt C dX8_does_19 7 c38 (by decide) (by decide) 117 rfl 136 (by decide) ?_
    replace hw := hw.1 c38
    refine z_aload_n C dX8_does_136 rfl ?_
    refine z_iload_n C dX8_does_137 rfl ?_
    refine z_callV0 C [(wX cI gx x)] [] rfl rfl (met_X6_takeBack l D cI gx x r1 _ hw) y_X6_takeBack mw_12_8 dX8_does_138 rfl n_X6_takeBack rfl (by decide) ⟨rfl, rfl, Nat.le_of_ble_eq_true rfl, Nat.le_of_ble_eq_true rfl⟩ (Nat.le_of_ble_eq_true rfl) (z_pm [0] 1 rfl (by decide) rfl) ?_
    intro ⟨r39, u40⟩ hw
    try dsimp only at hw
    refine z_bs [(wX cI gx u40)] [.int r39] rfl rfl ?_
    exact z_iret C rfl (r39, u40) rfl hw rfl dX8_does_141
  replace hw := hw.2 c38
  by_cases c41 : (p2 &&& 15) = 8
  · refine z_tableAt C dX8_does_19 8 c41 (by decide) (by decide) 123 rfl 142 (by decide) ?_
    replace hw := hw.1 c41
    refine z_aload_n C dX8_does_142 rfl ?_
    refine z_iload_n C dX8_does_143 rfl ?_
    refine z_iload_n C dX8_does_144 rfl ?_
    refine z_bipush C dX8_does_145 6 (by decide +kernel) ?_
    refine z_ishr C dX8_does_147 ?_
    refine z_iload_n C dX8_does_148 rfl ?_
    refine z_iconst C dX8_does_149 1 (by decide +kernel) ?_
    refine z_iadd C dX8_does_150 ?_
    refine z_callS0 C [] [(wX cI gx x)] (met_X8_low l D cI (p2 >>> (6 &&& 31)) (r2 + 1) _ hw) y_X8_low mw_4_12 dX8_does_151 rfl n_X8_low rfl (by decide) ⟨rfl, rfl, Nat.le_of_ble_eq_true rfl, Nat.le_of_ble_eq_true rfl⟩ (Nat.le_of_ble_eq_true rfl) (z_pm [0] 1 rfl (by decide) rfl) ?_
    intro r42 hw
    try dsimp only at hw
    refine z_bs [(wX cI gx x)] [.int r42, .int r1, .ref (gx 0)] rfl rfl ?_
    refine z_callV0 C [(wX cI gx x)] [] rfl rfl (met_X6_mark l D cI gx x r1 r42 _ hw) y_X6_mark mw_12_12 dX8_does_154 rfl n_X6_mark rfl (by decide) ⟨rfl, rfl, Nat.le_of_ble_eq_true rfl, Nat.le_of_ble_eq_true rfl⟩ (Nat.le_of_ble_eq_true rfl) (z_pm [0] 1 rfl (by decide) rfl) ?_
    intro ⟨r43, u44⟩ hw
    try dsimp only at hw
    refine z_bs [(wX cI gx u44)] [.int r43] rfl rfl ?_
    exact z_iret C rfl (r43, u44) rfl hw rfl dX8_does_157
  replace hw := hw.2 c41
  by_cases c45 : (p2 &&& 15) = 9
  · refine z_tableAt C dX8_does_19 9 c45 (by decide) (by decide) 139 rfl 158 (by decide) ?_
    replace hw := hw.1 c45
    refine z_aload_n C dX8_does_158 rfl ?_
    refine z_iload_n C dX8_does_159 rfl ?_
    refine z_callV0 C [(wX cI gx x)] [] rfl rfl (met_X6_send l D cI gx x r1 _ hw) y_X6_send mw_12_16 dX8_does_160 rfl n_X6_send rfl (by decide) ⟨rfl, rfl, Nat.le_of_ble_eq_true rfl, Nat.le_of_ble_eq_true rfl⟩ (Nat.le_of_ble_eq_true rfl) (z_pm [0] 1 rfl (by decide) rfl) ?_
    intro ⟨r46, u47⟩ hw
    try dsimp only at hw
    refine z_bs [(wX cI gx u47)] [.int r46] rfl rfl ?_
    exact z_iret C rfl (r46, u47) rfl hw rfl dX8_does_163
  replace hw := hw.2 c45
  by_cases c48 : (p2 &&& 15) = 10
  · refine z_tableAt C dX8_does_19 10 c48 (by decide) (by decide) 139 rfl 158 (by decide) ?_
    replace hw := hw.1 c48
    refine z_aload_n C dX8_does_158 rfl ?_
    refine z_iload_n C dX8_does_159 rfl ?_
    refine z_callV0 C [(wX cI gx x)] [] rfl rfl (met_X6_send l D cI gx x r1 _ hw) y_X6_send mw_12_16 dX8_does_160 rfl n_X6_send rfl (by decide) ⟨rfl, rfl, Nat.le_of_ble_eq_true rfl, Nat.le_of_ble_eq_true rfl⟩ (Nat.le_of_ble_eq_true rfl) (z_pm [0] 1 rfl (by decide) rfl) ?_
    intro ⟨r49, u50⟩ hw
    try dsimp only at hw
    refine z_bs [(wX cI gx u50)] [.int r49] rfl rfl ?_
    exact z_iret C rfl (r49, u50) rfl hw rfl dX8_does_163
  replace hw := hw.2 c48
  by_cases c51 : (p2 &&& 15) = 11
  · refine z_tableAt C dX8_does_19 11 c51 (by decide) (by decide) 139 rfl 158 (by decide) ?_
    replace hw := hw.1 c51
    refine z_aload_n C dX8_does_158 rfl ?_
    refine z_iload_n C dX8_does_159 rfl ?_
    refine z_callV0 C [(wX cI gx x)] [] rfl rfl (met_X6_send l D cI gx x r1 _ hw) y_X6_send mw_12_16 dX8_does_160 rfl n_X6_send rfl (by decide) ⟨rfl, rfl, Nat.le_of_ble_eq_true rfl, Nat.le_of_ble_eq_true rfl⟩ (Nat.le_of_ble_eq_true rfl) (z_pm [0] 1 rfl (by decide) rfl) ?_
    intro ⟨r52, u53⟩ hw
    try dsimp only at hw
    refine z_bs [(wX cI gx u53)] [.int r52] rfl rfl ?_
    exact z_iret C rfl (r52, u53) rfl hw rfl dX8_does_163
  replace hw := hw.2 c51
  by_cases c54 : (p2 &&& 15) = 12
  · refine z_tableAt C dX8_does_19 12 c54 (by decide) (by decide) 145 rfl 164 (by decide) ?_
    replace hw := hw.1 c54
    refine z_aload_n C dX8_does_164 rfl ?_
    refine z_iload_n C dX8_does_165 rfl ?_
    refine z_callV0 C [(wX cI gx x)] [] rfl rfl (met_X6_hear l D cI gx x r1 _ hw) y_X6_hear mw_12_20 dX8_does_166 rfl n_X6_hear rfl (by decide) ⟨rfl, rfl, Nat.le_of_ble_eq_true rfl, Nat.le_of_ble_eq_true rfl⟩ (Nat.le_of_ble_eq_true rfl) (z_pm [0] 1 rfl (by decide) rfl) ?_
    intro ⟨r55, u56⟩ hw
    try dsimp only at hw
    refine z_bs [(wX cI gx u56)] [.int r55] rfl rfl ?_
    exact z_iret C rfl (r55, u56) rfl hw rfl dX8_does_169
  replace hw := hw.2 c54
  by_cases c57 : (p2 &&& 15) = 13
  · refine z_tableAt C dX8_does_19 13 c57 (by decide) (by decide) 145 rfl 164 (by decide) ?_
    replace hw := hw.1 c57
    refine z_aload_n C dX8_does_164 rfl ?_
    refine z_iload_n C dX8_does_165 rfl ?_
    refine z_callV0 C [(wX cI gx x)] [] rfl rfl (met_X6_hear l D cI gx x r1 _ hw) y_X6_hear mw_12_20 dX8_does_166 rfl n_X6_hear rfl (by decide) ⟨rfl, rfl, Nat.le_of_ble_eq_true rfl, Nat.le_of_ble_eq_true rfl⟩ (Nat.le_of_ble_eq_true rfl) (z_pm [0] 1 rfl (by decide) rfl) ?_
    intro ⟨r58, u59⟩ hw
    try dsimp only at hw
    refine z_bs [(wX cI gx u59)] [.int r58] rfl rfl ?_
    exact z_iret C rfl (r58, u59) rfl hw rfl dX8_does_169
  replace hw := hw.2 c57
  refine z_tableOut C dX8_does_19 (by
    have nc3 := lv_neT (a := 0) c3 rfl
    have nc8 := lv_neT (a := 1) c8 rfl
    have nc13 := lv_neT (a := 2) c13 rfl
    have nc18 := lv_neT (a := 3) c18 rfl
    have nc23 := lv_neT (a := 4) c23 rfl
    have nc28 := lv_neT (a := 5) c28 rfl
    have nc33 := lv_neT (a := 6) c33 rfl
    have nc38 := lv_neT (a := 7) c38 rfl
    have nc41 := lv_neT (a := 8) c41 rfl
    have nc45 := lv_neT (a := 9) c45 rfl
    have nc48 := lv_neT (a := 10) c48 rfl
    have nc51 := lv_neT (a := 11) c51 rfl
    have nc54 := lv_neT (a := 12) c54 rfl
    have nc57 := lv_neT (a := 13) c57 rfl
    omega) 170 (by decide) ?_
  refine z_aload_n C dX8_does_170 rfl ?_
  refine z_iload_n C dX8_does_171 rfl ?_
  refine z_callV0 C [(wX cI gx x)] [] rfl rfl (met_X6_hearAll l D cI gx x r1 _ hw) y_X6_hearAll mw_13_0 dX8_does_172 rfl n_X6_hearAll rfl (by decide) ⟨rfl, rfl, Nat.le_of_ble_eq_true rfl, Nat.le_of_ble_eq_true rfl⟩ (Nat.le_of_ble_eq_true rfl) (z_pm [0] 1 rfl (by decide) rfl) ?_
  intro ⟨r60, u61⟩ hw
  try dsimp only at hw
  refine z_bs [(wX cI gx u61)] [.int r60] rfl rfl ?_
  exact z_iret C rfl (r60, u61) rfl hw rfl dX8_does_175
def rmX8_areEditorsSo : Room := { frames := 4, cells := 0, slots := 0, locals := 87 }
def jn_X8_areEditorsSo_342 (x : zX) (v3 : Int32) (s342_0 : Int32) (Q : Int32 → Prop)  : Prop := ((s342_0 = 0 → (Q 0)) ∧ (¬ s342_0 = 0 → (wp_X6_by x v3 (fun r7 => ((¬ r7 = (-4) → (Q 0)) ∧ (r7 = (-4) → ((v3 = 0 → (Q 1)) ∧ (¬ v3 = 0 → (wp_X6_by x (v3 - 1) (fun r10 => ((r10 < 0 → (Q 0)) ∧ (¬ r10 < 0 → (wp_X6_letter x 3 (v3 - 1) (fun r12 => ((r12 < 0 → (Q 0)) ∧ (¬ r12 < 0 → (Q 1)))))))))))))))))
set_option maxHeartbeats 4000000 in
set_option maxRecDepth 100000 in
theorem wk_X8_areEditorsSo_342 {p : Program} {l : Launch} {e : Env} {s : State} {m : MethodId} {args : Array Value} {below : List Frame} {meth : Method} {c : Code} {D : va_G} {cI : ClassId} {A : Nat → Prop} (C : ZC p s m args meth c RX8 cX8_areEditorsSo 9 (some .boolean) D cI A) (gx : Nat → Nat) (x : zX) (v3 : Int32) (s342_0 : Int32) (Q : Int32 → Prop)  (hw : jn_X8_areEditorsSo_342 x v3 s342_0 Q ) : ZZ p l e rmX8_areEditorsSo s m args below meth c D A 9 0 0 (MQ below (ZQ D A (fun u : Int32 => some (.int u)) (fun u : Int32 => [(wX cI gx x)]) (fun u : Int32 => Q u)) args s rmX8_areEditorsSo.cells rmX8_areEditorsSo.slots A) [(wX cI gx x)] 342 [some (.ref (gx 0)), none, none, some (.int v3), none, none, none, none, none] [.int s342_0] := by
  unfold jn_X8_areEditorsSo_342 at hw
  refine z_istore C dX8_areEditorsSo_342 [some (.ref (gx 0)), none, none, some (.int v3), none, some (.int s342_0), none, none, none] (by decide) rfl ?_
  refine z_iload C dX8_areEditorsSo_344 rfl ?_
  refine z_if_eq C dX8_areEditorsSo_346 388 (by decide) (fun c6 => ?_) (fun c6 => ?_)
  · replace hw := hw.1 c6
    refine z_iconst C dX8_areEditorsSo_388 0 (by decide +kernel) ?_
    exact z_zret C rfl (by decide) (0 : Int32) rfl hw rfl dX8_areEditorsSo_389
  · replace hw := hw.2 c6
    refine z_aload_n C dX8_areEditorsSo_349 rfl ?_
    refine z_iload_n C dX8_areEditorsSo_350 rfl ?_
    refine z_callV0 C [(wX cI gx x)] [] rfl rfl (met_X6_by l D cI gx x v3 _ hw) y_X6_by mw_14_22 dX8_areEditorsSo_351 rfl n_X6_by rfl (by decide) ⟨rfl, rfl, Nat.le_of_ble_eq_true rfl, Nat.le_of_ble_eq_true rfl⟩ (Nat.le_of_ble_eq_true rfl) (z_pm [0] 1 rfl (by decide) rfl) ?_
    intro r7 hw
    try dsimp only at hw
    refine z_bs [(wX cI gx x)] [.int r7] rfl rfl ?_
    refine z_bipush C dX8_areEditorsSo_354 (-4) (by decide +kernel) ?_
    refine z_icmp_ne C dX8_areEditorsSo_356 388 (by decide) (fun c8 => ?_) (fun c8 => ?_)
    · replace hw := hw.1 c8
      refine z_iconst C dX8_areEditorsSo_388 0 (by decide +kernel) ?_
      exact z_zret C rfl (by decide) (0 : Int32) rfl hw rfl dX8_areEditorsSo_389
    · replace hw := hw.2 c8
      refine z_iload_n C dX8_areEditorsSo_359 rfl ?_
      refine z_if_eq C dX8_areEditorsSo_360 384 (by decide) (fun c9 => ?_) (fun c9 => ?_)
      · replace hw := hw.1 c9
        refine z_iconst C dX8_areEditorsSo_384 1 (by decide +kernel) ?_
        refine z_goto C dX8_areEditorsSo_385 389 (by decide) ?_
        exact z_zret C rfl (by decide) (1 : Int32) rfl hw rfl dX8_areEditorsSo_389
      · replace hw := hw.2 c9
        refine z_aload_n C dX8_areEditorsSo_363 rfl ?_
        refine z_iload_n C dX8_areEditorsSo_364 rfl ?_
        refine z_iconst C dX8_areEditorsSo_365 1 (by decide +kernel) ?_
        refine z_isub C dX8_areEditorsSo_366 ?_
        refine z_callV0 C [(wX cI gx x)] [] rfl rfl (met_X6_by l D cI gx x (v3 - 1) _ hw) y_X6_by mw_14_22 dX8_areEditorsSo_367 rfl n_X6_by rfl (by decide) ⟨rfl, rfl, Nat.le_of_ble_eq_true rfl, Nat.le_of_ble_eq_true rfl⟩ (Nat.le_of_ble_eq_true rfl) (z_pm [0] 1 rfl (by decide) rfl) ?_
        intro r10 hw
        try dsimp only at hw
        refine z_bs [(wX cI gx x)] [.int r10] rfl rfl ?_
        refine z_if_lt C dX8_areEditorsSo_370 388 (by decide) (fun c11 => ?_) (fun c11 => ?_)
        · replace hw := hw.1 c11
          refine z_iconst C dX8_areEditorsSo_388 0 (by decide +kernel) ?_
          exact z_zret C rfl (by decide) (0 : Int32) rfl hw rfl dX8_areEditorsSo_389
        · replace hw := hw.2 c11
          refine z_aload_n C dX8_areEditorsSo_373 rfl ?_
          refine z_iconst C dX8_areEditorsSo_374 3 (by decide +kernel) ?_
          refine z_iload_n C dX8_areEditorsSo_375 rfl ?_
          refine z_iconst C dX8_areEditorsSo_376 1 (by decide +kernel) ?_
          refine z_isub C dX8_areEditorsSo_377 ?_
          refine z_callV0 C [(wX cI gx x)] [] rfl rfl (met_X6_letter l D cI gx x 3 (v3 - 1) _ hw) y_X6_letter mw_5_15 dX8_areEditorsSo_378 rfl n_X6_letter rfl (by decide) ⟨rfl, rfl, Nat.le_of_ble_eq_true rfl, Nat.le_of_ble_eq_true rfl⟩ (Nat.le_of_ble_eq_true rfl) (z_pm [0] 1 rfl (by decide) rfl) ?_
          intro r12 hw
          try dsimp only at hw
          refine z_bs [(wX cI gx x)] [.int r12] rfl rfl ?_
          refine z_if_lt C dX8_areEditorsSo_381 388 (by decide) (fun c13 => ?_) (fun c13 => ?_)
          · replace hw := hw.1 c13
            refine z_iconst C dX8_areEditorsSo_388 0 (by decide +kernel) ?_
            exact z_zret C rfl (by decide) (0 : Int32) rfl hw rfl dX8_areEditorsSo_389
          · replace hw := hw.2 c13
            refine z_iconst C dX8_areEditorsSo_384 1 (by decide +kernel) ?_
            refine z_goto C dX8_areEditorsSo_385 389 (by decide) ?_
            exact z_zret C rfl (by decide) (1 : Int32) rfl hw rfl dX8_areEditorsSo_389
def jn_X8_areEditorsSo_341 (x : zX) (v3 : Int32)  (Q : Int32 → Prop)  : Prop := (jn_X8_areEditorsSo_342 x v3 0 Q )
set_option maxHeartbeats 4000000 in
set_option maxRecDepth 100000 in
theorem wk_X8_areEditorsSo_341 {p : Program} {l : Launch} {e : Env} {s : State} {m : MethodId} {args : Array Value} {below : List Frame} {meth : Method} {c : Code} {D : va_G} {cI : ClassId} {A : Nat → Prop} (C : ZC p s m args meth c RX8 cX8_areEditorsSo 9 (some .boolean) D cI A) (gx : Nat → Nat) (x : zX) (v3 : Int32)  (Q : Int32 → Prop)  (hw : jn_X8_areEditorsSo_341 x v3  Q ) : ZZ p l e rmX8_areEditorsSo s m args below meth c D A 9 0 0 (MQ below (ZQ D A (fun u : Int32 => some (.int u)) (fun u : Int32 => [(wX cI gx x)]) (fun u : Int32 => Q u)) args s rmX8_areEditorsSo.cells rmX8_areEditorsSo.slots A) [(wX cI gx x)] 341 [some (.ref (gx 0)), none, none, some (.int v3), none, none, none, none, none] [] := by
  unfold jn_X8_areEditorsSo_341 at hw
  refine z_iconst C dX8_areEditorsSo_341 0 (by decide +kernel) ?_
  exact wk_X8_areEditorsSo_342 C gx x v3 0 _  hw
def jn_X8_areEditorsSo_284 (x : zX) (v1 : Int32) (v2 : Int32) (v3 : Int32) (v4 : Int32) (v5 : Int32)  (Q : Int32 → Prop) (K79 : (Int32) → (Int32) → (Int32) → Prop) : Prop := (Q 0)
set_option maxHeartbeats 4000000 in
set_option maxRecDepth 100000 in
theorem wk_X8_areEditorsSo_284 {p : Program} {l : Launch} {e : Env} {s : State} {m : MethodId} {args : Array Value} {below : List Frame} {meth : Method} {c : Code} {D : va_G} {cI : ClassId} {A : Nat → Prop} (C : ZC p s m args meth c RX8 cX8_areEditorsSo 9 (some .boolean) D cI A) (gx : Nat → Nat) (x : zX) (v1 : Int32) (v2 : Int32) (v3 : Int32) (v4 : Int32) (v5 : Int32)  (Q : Int32 → Prop) (K79 : (Int32) → (Int32) → (Int32) → Prop) (hK79 : ∀ (v1 : Int32) (v2 : Int32) (v5 : Int32), K79 v1 v2 v5 → ZZ p l e rmX8_areEditorsSo s m args below meth c D A 9 0 0 (MQ below (ZQ D A (fun u : Int32 => some (.int u)) (fun u : Int32 => [(wX cI gx x)]) (fun u : Int32 => Q u)) args s rmX8_areEditorsSo.cells rmX8_areEditorsSo.slots A) [(wX cI gx x)] 79 [some (.ref (gx 0)), some (.int v1), some (.int v2), some (.int v3), some (.int v4), some (.int v5), none, none, none] []) (hw : jn_X8_areEditorsSo_284 x v1 v2 v3 v4 v5  Q K79) : ZZ p l e rmX8_areEditorsSo s m args below meth c D A 9 0 0 (MQ below (ZQ D A (fun u : Int32 => some (.int u)) (fun u : Int32 => [(wX cI gx x)]) (fun u : Int32 => Q u)) args s rmX8_areEditorsSo.cells rmX8_areEditorsSo.slots A) [(wX cI gx x)] 284 [some (.ref (gx 0)), some (.int v1), some (.int v2), some (.int v3), some (.int v4), some (.int v5), none, none, none] [] := by
  unfold jn_X8_areEditorsSo_284 at hw
  refine z_iconst C dX8_areEditorsSo_284 0 (by decide +kernel) ?_
  refine z_istore C dX8_areEditorsSo_285 [some (.ref (gx 0)), some (.int v1), some (.int v2), some (.int v3), some (.int v4), some (.int v5), none, none, some (.int 0)] (by decide) rfl ?_
  refine z_iload C dX8_areEditorsSo_287 rfl ?_
  refine z_if_ne C dX8_areEditorsSo_289 294 (by decide) (fun c30 => absurd c30 (by decide +kernel)) (fun c30 => ?_)
  refine z_iconst C dX8_areEditorsSo_292 0 (by decide +kernel) ?_
  exact z_zret C rfl (by decide) (0 : Int32) rfl hw rfl dX8_areEditorsSo_293
def jn_X8_areEditorsSo_235 (x : zX) (v1 : Int32) (v2 : Int32) (v3 : Int32) (v4 : Int32) (v5 : Int32) (v6 : Int32)  (Q : Int32 → Prop) (K79 : (Int32) → (Int32) → (Int32) → Prop) : Prop := (wp_X6_waitingOf x v5 v6 0 (fun r32 => ((¬ r32 = (-4) → (jn_X8_areEditorsSo_284 x v1 v2 v3 v4 v5  Q K79)) ∧ (r32 = (-4) → (wp_X6_editorOf x v5 6 (fun r34 => ((6 < r34 → (jn_X8_areEditorsSo_284 x v1 v2 v3 v4 v5  Q K79)) ∧ (¬ 6 < r34 → (wp_X6_editorOf x v5 0 (fun r36 => (wp_X6_letter x v5 r36 (fun r37 => ((¬ r37 = (-4) → (jn_X8_areEditorsSo_284 x v1 v2 v3 v4 v5  Q K79)) ∧ (r37 = (-4) → (K79 v1 v2 (v5 + 1))))))))))))))))
set_option maxHeartbeats 4000000 in
set_option maxRecDepth 100000 in
theorem wk_X8_areEditorsSo_235 {p : Program} {l : Launch} {e : Env} {s : State} {m : MethodId} {args : Array Value} {below : List Frame} {meth : Method} {c : Code} {D : va_G} {cI : ClassId} {A : Nat → Prop} (C : ZC p s m args meth c RX8 cX8_areEditorsSo 9 (some .boolean) D cI A) (gx : Nat → Nat) (x : zX) (v1 : Int32) (v2 : Int32) (v3 : Int32) (v4 : Int32) (v5 : Int32) (v6 : Int32)  (Q : Int32 → Prop) (K79 : (Int32) → (Int32) → (Int32) → Prop) (hK79 : ∀ (v1 : Int32) (v2 : Int32) (v5 : Int32), K79 v1 v2 v5 → ZZ p l e rmX8_areEditorsSo s m args below meth c D A 9 0 0 (MQ below (ZQ D A (fun u : Int32 => some (.int u)) (fun u : Int32 => [(wX cI gx x)]) (fun u : Int32 => Q u)) args s rmX8_areEditorsSo.cells rmX8_areEditorsSo.slots A) [(wX cI gx x)] 79 [some (.ref (gx 0)), some (.int v1), some (.int v2), some (.int v3), some (.int v4), some (.int v5), none, none, none] []) (hw : jn_X8_areEditorsSo_235 x v1 v2 v3 v4 v5 v6  Q K79) : ZZ p l e rmX8_areEditorsSo s m args below meth c D A 9 0 0 (MQ below (ZQ D A (fun u : Int32 => some (.int u)) (fun u : Int32 => [(wX cI gx x)]) (fun u : Int32 => Q u)) args s rmX8_areEditorsSo.cells rmX8_areEditorsSo.slots A) [(wX cI gx x)] 235 [some (.ref (gx 0)), some (.int v1), some (.int v2), some (.int v3), some (.int v4), some (.int v5), some (.int v6), none, none] [] := by
  unfold jn_X8_areEditorsSo_235 at hw
  refine z_aload_n C dX8_areEditorsSo_235 rfl ?_
  refine z_iload C dX8_areEditorsSo_236 rfl ?_
  refine z_iload C dX8_areEditorsSo_238 rfl ?_
  refine z_iconst C dX8_areEditorsSo_240 0 (by decide +kernel) ?_
  refine z_callV0 C [(wX cI gx x)] [] rfl rfl (met_X6_waitingOf l D cI gx x v5 v6 0 _ hw) y_X6_waitingOf mw_14_18 dX8_areEditorsSo_241 rfl n_X6_waitingOf rfl (by decide) ⟨rfl, rfl, Nat.le_of_ble_eq_true rfl, Nat.le_of_ble_eq_true rfl⟩ (Nat.le_of_ble_eq_true rfl) (z_pm [0] 1 rfl (by decide) rfl) ?_
  intro r32 hw
  try dsimp only at hw
  refine z_bs [(wX cI gx x)] [.int r32] rfl rfl ?_
  refine z_bipush C dX8_areEditorsSo_244 (-4) (by decide +kernel) ?_
  refine z_icmp_ne C dX8_areEditorsSo_246 284 (by decide) (fun c33 => ?_) (fun c33 => ?_)
  · replace hw := hw.1 c33
    refine z_ls C [true, true, true, true, true, true, false, false, false] [some (.ref (gx 0)), some (.int v1), some (.int v2), some (.int v3), some (.int v4), some (.int v5), none, none, none] rfl ?_
    exact wk_X8_areEditorsSo_284 C gx x v1 v2 v3 v4 v5  _ K79 hK79 hw
  · replace hw := hw.2 c33
    refine z_aload_n C dX8_areEditorsSo_249 rfl ?_
    refine z_iload C dX8_areEditorsSo_250 rfl ?_
    refine z_bipush C dX8_areEditorsSo_252 6 (by decide +kernel) ?_
    refine z_callV0 C [(wX cI gx x)] [] rfl rfl (met_X6_editorOf l D cI gx x v5 6 _ hw) y_X6_editorOf mw_4_16 dX8_areEditorsSo_254 rfl n_X6_editorOf rfl (by decide) ⟨rfl, rfl, Nat.le_of_ble_eq_true rfl, Nat.le_of_ble_eq_true rfl⟩ (Nat.le_of_ble_eq_true rfl) (z_pm [0] 1 rfl (by decide) rfl) ?_
    intro r34 hw
    try dsimp only at hw
    refine z_bs [(wX cI gx x)] [.int r34] rfl rfl ?_
    refine z_bipush C dX8_areEditorsSo_257 6 (by decide +kernel) ?_
    refine z_icmp_gt C dX8_areEditorsSo_259 284 (by decide) (fun c35 => ?_) (fun c35 => ?_)
    · replace hw := hw.1 c35
      refine z_ls C [true, true, true, true, true, true, false, false, false] [some (.ref (gx 0)), some (.int v1), some (.int v2), some (.int v3), some (.int v4), some (.int v5), none, none, none] rfl ?_
      exact wk_X8_areEditorsSo_284 C gx x v1 v2 v3 v4 v5  _ K79 hK79 hw
    · replace hw := hw.2 c35
      refine z_aload_n C dX8_areEditorsSo_262 rfl ?_
      refine z_iload C dX8_areEditorsSo_263 rfl ?_
      refine z_aload_n C dX8_areEditorsSo_265 rfl ?_
      refine z_iload C dX8_areEditorsSo_266 rfl ?_
      refine z_iconst C dX8_areEditorsSo_268 0 (by decide +kernel) ?_
      refine z_callV0 C [(wX cI gx x)] [] rfl rfl (met_X6_editorOf l D cI gx x v5 0 _ hw) y_X6_editorOf mw_4_16 dX8_areEditorsSo_269 rfl n_X6_editorOf rfl (by decide) ⟨rfl, rfl, Nat.le_of_ble_eq_true rfl, Nat.le_of_ble_eq_true rfl⟩ (Nat.le_of_ble_eq_true rfl) (z_pm [0] 1 rfl (by decide) rfl) ?_
      intro r36 hw
      try dsimp only at hw
      refine z_bs [(wX cI gx x)] [.int r36, .int v5, .ref (gx 0)] rfl rfl ?_
      refine z_callV0 C [(wX cI gx x)] [] rfl rfl (met_X6_letter l D cI gx x v5 r36 _ hw) y_X6_letter mw_5_15 dX8_areEditorsSo_272 rfl n_X6_letter rfl (by decide) ⟨rfl, rfl, Nat.le_of_ble_eq_true rfl, Nat.le_of_ble_eq_true rfl⟩ (Nat.le_of_ble_eq_true rfl) (z_pm [0] 1 rfl (by decide) rfl) ?_
      intro r37 hw
      try dsimp only at hw
      refine z_bs [(wX cI gx x)] [.int r37] rfl rfl ?_
      refine z_bipush C dX8_areEditorsSo_275 (-4) (by decide +kernel) ?_
      refine z_icmp_ne C dX8_areEditorsSo_277 284 (by decide) (fun c38 => ?_) (fun c38 => ?_)
      · replace hw := hw.1 c38
        refine z_ls C [true, true, true, true, true, true, false, false, false] [some (.ref (gx 0)), some (.int v1), some (.int v2), some (.int v3), some (.int v4), some (.int v5), none, none, none] rfl ?_
        exact wk_X8_areEditorsSo_284 C gx x v1 v2 v3 v4 v5  _ K79 hK79 hw
      · replace hw := hw.2 c38
        refine z_iconst C dX8_areEditorsSo_280 1 (by decide +kernel) ?_
        refine z_goto C dX8_areEditorsSo_281 285 (by decide) ?_
        refine z_istore C dX8_areEditorsSo_285 [some (.ref (gx 0)), some (.int v1), some (.int v2), some (.int v3), some (.int v4), some (.int v5), some (.int v6), none, some (.int 1)] (by decide) rfl ?_
        refine z_iload C dX8_areEditorsSo_287 rfl ?_
        refine z_if_ne C dX8_areEditorsSo_289 294 (by decide) (fun c39 => ?_) (fun c39 => absurd c39 (by decide +kernel))
        refine z_iinc C dX8_areEditorsSo_294 rfl (v5 + 1) (by rfl) [some (.ref (gx 0)), some (.int v1), some (.int v2), some (.int v3), some (.int v4), some (.int (v5 + 1)), some (.int v6), none, some (.int 1)] (by decide) rfl ?_
        refine z_goto C dX8_areEditorsSo_297 79 (by decide) ?_
        refine z_ls C [true, true, true, true, true, true, false, false, false] [some (.ref (gx 0)), some (.int v1), some (.int v2), some (.int v3), some (.int v4), some (.int (v5 + 1)), none, none, none] rfl ?_
        exact hK79 _ _ _ hw
def jn_X8_areEditorsSo_213 (x : zX) (v1 : Int32) (v2 : Int32) (v3 : Int32) (v4 : Int32) (v5 : Int32) (v6 : Int32) (s213_0 : Int32) (Q : Int32 → Prop) (K79 : (Int32) → (Int32) → (Int32) → Prop) : Prop := ((s213_0 = 0 → (jn_X8_areEditorsSo_284 x v1 v2 v3 v4 v5  Q K79)) ∧ (¬ s213_0 = 0 → ((0 < v6 → (jn_X8_areEditorsSo_235 x v1 v2 v3 v4 v5 v6  Q K79)) ∧ (¬ 0 < v6 → (wp_X6_editorOf x v5 2 (fun r40 => ((¬ r40 = 0 → (jn_X8_areEditorsSo_284 x v1 v2 v3 v4 v5  Q K79)) ∧ (r40 = 0 → (jn_X8_areEditorsSo_235 x v1 v2 v3 v4 v5 v6  Q K79)))))))))
set_option maxHeartbeats 4000000 in
set_option maxRecDepth 100000 in
theorem wk_X8_areEditorsSo_213 {p : Program} {l : Launch} {e : Env} {s : State} {m : MethodId} {args : Array Value} {below : List Frame} {meth : Method} {c : Code} {D : va_G} {cI : ClassId} {A : Nat → Prop} (C : ZC p s m args meth c RX8 cX8_areEditorsSo 9 (some .boolean) D cI A) (gx : Nat → Nat) (x : zX) (v1 : Int32) (v2 : Int32) (v3 : Int32) (v4 : Int32) (v5 : Int32) (v6 : Int32) (s213_0 : Int32) (Q : Int32 → Prop) (K79 : (Int32) → (Int32) → (Int32) → Prop) (hK79 : ∀ (v1 : Int32) (v2 : Int32) (v5 : Int32), K79 v1 v2 v5 → ZZ p l e rmX8_areEditorsSo s m args below meth c D A 9 0 0 (MQ below (ZQ D A (fun u : Int32 => some (.int u)) (fun u : Int32 => [(wX cI gx x)]) (fun u : Int32 => Q u)) args s rmX8_areEditorsSo.cells rmX8_areEditorsSo.slots A) [(wX cI gx x)] 79 [some (.ref (gx 0)), some (.int v1), some (.int v2), some (.int v3), some (.int v4), some (.int v5), none, none, none] []) (hw : jn_X8_areEditorsSo_213 x v1 v2 v3 v4 v5 v6 s213_0 Q K79) : ZZ p l e rmX8_areEditorsSo s m args below meth c D A 9 0 0 (MQ below (ZQ D A (fun u : Int32 => some (.int u)) (fun u : Int32 => [(wX cI gx x)]) (fun u : Int32 => Q u)) args s rmX8_areEditorsSo.cells rmX8_areEditorsSo.slots A) [(wX cI gx x)] 213 [some (.ref (gx 0)), some (.int v1), some (.int v2), some (.int v3), some (.int v4), some (.int v5), some (.int v6), none, none] [.int s213_0] := by
  unfold jn_X8_areEditorsSo_213 at hw
  refine z_istore C dX8_areEditorsSo_213 [some (.ref (gx 0)), some (.int v1), some (.int v2), some (.int v3), some (.int v4), some (.int v5), some (.int v6), none, some (.int s213_0)] (by decide) rfl ?_
  refine z_iload C dX8_areEditorsSo_215 rfl ?_
  refine z_if_eq C dX8_areEditorsSo_217 284 (by decide) (fun c29 => ?_) (fun c29 => ?_)
  · replace hw := hw.1 c29
    refine z_ls C [true, true, true, true, true, true, false, false, false] [some (.ref (gx 0)), some (.int v1), some (.int v2), some (.int v3), some (.int v4), some (.int v5), none, none, none] rfl ?_
    exact wk_X8_areEditorsSo_284 C gx x v1 v2 v3 v4 v5  _ K79 hK79 hw
  · replace hw := hw.2 c29
    refine z_iload C dX8_areEditorsSo_220 rfl ?_
    refine z_if_gt C dX8_areEditorsSo_222 235 (by decide) (fun c31 => ?_) (fun c31 => ?_)
    · replace hw := hw.1 c31
      refine z_ls C [true, true, true, true, true, true, true, false, false] [some (.ref (gx 0)), some (.int v1), some (.int v2), some (.int v3), some (.int v4), some (.int v5), some (.int v6), none, none] rfl ?_
      exact wk_X8_areEditorsSo_235 C gx x v1 v2 v3 v4 v5 v6  _ K79 hK79 hw
    · replace hw := hw.2 c31
      refine z_aload_n C dX8_areEditorsSo_225 rfl ?_
      refine z_iload C dX8_areEditorsSo_226 rfl ?_
      refine z_iconst C dX8_areEditorsSo_228 2 (by decide +kernel) ?_
      refine z_callV0 C [(wX cI gx x)] [] rfl rfl (met_X6_editorOf l D cI gx x v5 2 _ hw) y_X6_editorOf mw_4_16 dX8_areEditorsSo_229 rfl n_X6_editorOf rfl (by decide) ⟨rfl, rfl, Nat.le_of_ble_eq_true rfl, Nat.le_of_ble_eq_true rfl⟩ (Nat.le_of_ble_eq_true rfl) (z_pm [0] 1 rfl (by decide) rfl) ?_
      intro r40 hw
      try dsimp only at hw
      refine z_bs [(wX cI gx x)] [.int r40] rfl rfl ?_
      refine z_if_ne C dX8_areEditorsSo_232 284 (by decide) (fun c41 => ?_) (fun c41 => ?_)
      · replace hw := hw.1 c41
        refine z_ls C [true, true, true, true, true, true, false, false, false] [some (.ref (gx 0)), some (.int v1), some (.int v2), some (.int v3), some (.int v4), some (.int v5), none, none, none] rfl ?_
        exact wk_X8_areEditorsSo_284 C gx x v1 v2 v3 v4 v5  _ K79 hK79 hw
      · replace hw := hw.2 c41
        refine z_ls C [true, true, true, true, true, true, true, false, false] [some (.ref (gx 0)), some (.int v1), some (.int v2), some (.int v3), some (.int v4), some (.int v5), some (.int v6), none, none] rfl ?_
        exact wk_X8_areEditorsSo_235 C gx x v1 v2 v3 v4 v5 v6  _ K79 hK79 hw
def jn_X8_areEditorsSo_212 (x : zX) (v1 : Int32) (v2 : Int32) (v3 : Int32) (v4 : Int32) (v5 : Int32) (v6 : Int32)  (Q : Int32 → Prop) (K79 : (Int32) → (Int32) → (Int32) → Prop) : Prop := (jn_X8_areEditorsSo_213 x v1 v2 v3 v4 v5 v6 0 Q K79)
set_option maxHeartbeats 4000000 in
set_option maxRecDepth 100000 in
theorem wk_X8_areEditorsSo_212 {p : Program} {l : Launch} {e : Env} {s : State} {m : MethodId} {args : Array Value} {below : List Frame} {meth : Method} {c : Code} {D : va_G} {cI : ClassId} {A : Nat → Prop} (C : ZC p s m args meth c RX8 cX8_areEditorsSo 9 (some .boolean) D cI A) (gx : Nat → Nat) (x : zX) (v1 : Int32) (v2 : Int32) (v3 : Int32) (v4 : Int32) (v5 : Int32) (v6 : Int32)  (Q : Int32 → Prop) (K79 : (Int32) → (Int32) → (Int32) → Prop) (hK79 : ∀ (v1 : Int32) (v2 : Int32) (v5 : Int32), K79 v1 v2 v5 → ZZ p l e rmX8_areEditorsSo s m args below meth c D A 9 0 0 (MQ below (ZQ D A (fun u : Int32 => some (.int u)) (fun u : Int32 => [(wX cI gx x)]) (fun u : Int32 => Q u)) args s rmX8_areEditorsSo.cells rmX8_areEditorsSo.slots A) [(wX cI gx x)] 79 [some (.ref (gx 0)), some (.int v1), some (.int v2), some (.int v3), some (.int v4), some (.int v5), none, none, none] []) (hw : jn_X8_areEditorsSo_212 x v1 v2 v3 v4 v5 v6  Q K79) : ZZ p l e rmX8_areEditorsSo s m args below meth c D A 9 0 0 (MQ below (ZQ D A (fun u : Int32 => some (.int u)) (fun u : Int32 => [(wX cI gx x)]) (fun u : Int32 => Q u)) args s rmX8_areEditorsSo.cells rmX8_areEditorsSo.slots A) [(wX cI gx x)] 212 [some (.ref (gx 0)), some (.int v1), some (.int v2), some (.int v3), some (.int v4), some (.int v5), some (.int v6), none, none] [] := by
  unfold jn_X8_areEditorsSo_212 at hw
  refine z_iconst C dX8_areEditorsSo_212 0 (by decide +kernel) ?_
  exact wk_X8_areEditorsSo_213 C gx x v1 v2 v3 v4 v5 v6 0 _ K79 hK79 hw
def jn_X8_areEditorsSo_201 (x : zX) (v1 : Int32) (v2 : Int32) (v3 : Int32) (v4 : Int32) (v5 : Int32) (v6 : Int32)  (Q : Int32 → Prop) (K79 : (Int32) → (Int32) → (Int32) → Prop) : Prop := ((6 < v6 → (jn_X8_areEditorsSo_212 x v1 v2 v3 v4 v5 v6  Q K79)) ∧ (¬ 6 < v6 → (jn_X8_areEditorsSo_213 x v1 v2 v3 v4 v5 v6 1 Q K79)))
set_option maxHeartbeats 4000000 in
set_option maxRecDepth 100000 in
theorem wk_X8_areEditorsSo_201 {p : Program} {l : Launch} {e : Env} {s : State} {m : MethodId} {args : Array Value} {below : List Frame} {meth : Method} {c : Code} {D : va_G} {cI : ClassId} {A : Nat → Prop} (C : ZC p s m args meth c RX8 cX8_areEditorsSo 9 (some .boolean) D cI A) (gx : Nat → Nat) (x : zX) (v1 : Int32) (v2 : Int32) (v3 : Int32) (v4 : Int32) (v5 : Int32) (v6 : Int32)  (Q : Int32 → Prop) (K79 : (Int32) → (Int32) → (Int32) → Prop) (hK79 : ∀ (v1 : Int32) (v2 : Int32) (v5 : Int32), K79 v1 v2 v5 → ZZ p l e rmX8_areEditorsSo s m args below meth c D A 9 0 0 (MQ below (ZQ D A (fun u : Int32 => some (.int u)) (fun u : Int32 => [(wX cI gx x)]) (fun u : Int32 => Q u)) args s rmX8_areEditorsSo.cells rmX8_areEditorsSo.slots A) [(wX cI gx x)] 79 [some (.ref (gx 0)), some (.int v1), some (.int v2), some (.int v3), some (.int v4), some (.int v5), none, none, none] []) (hw : jn_X8_areEditorsSo_201 x v1 v2 v3 v4 v5 v6  Q K79) : ZZ p l e rmX8_areEditorsSo s m args below meth c D A 9 0 0 (MQ below (ZQ D A (fun u : Int32 => some (.int u)) (fun u : Int32 => [(wX cI gx x)]) (fun u : Int32 => Q u)) args s rmX8_areEditorsSo.cells rmX8_areEditorsSo.slots A) [(wX cI gx x)] 201 [some (.ref (gx 0)), some (.int v1), some (.int v2), some (.int v3), some (.int v4), some (.int v5), some (.int v6), none, none] [] := by
  unfold jn_X8_areEditorsSo_201 at hw
  refine z_iload C dX8_areEditorsSo_201 rfl ?_
  refine z_bipush C dX8_areEditorsSo_203 6 (by decide +kernel) ?_
  refine z_icmp_gt C dX8_areEditorsSo_205 212 (by decide) (fun c48 => ?_) (fun c48 => ?_)
  · replace hw := hw.1 c48
    exact wk_X8_areEditorsSo_212 C gx x v1 v2 v3 v4 v5 v6  _ K79 hK79 hw
  · replace hw := hw.2 c48
    refine z_iconst C dX8_areEditorsSo_208 1 (by decide +kernel) ?_
    refine z_goto C dX8_areEditorsSo_209 213 (by decide) ?_
    exact wk_X8_areEditorsSo_213 C gx x v1 v2 v3 v4 v5 v6 1 _ K79 hK79 hw
def jn_X8_areEditorsSo_132 (x : zX) (v1 : Int32) (v3 : Int32) (v4 : Int32) (v5 : Int32) (v6 : Int32) (v7 : Int32) (s132_0 : Int32) (s132_1 : Int32) (Q : Int32 → Prop) (K79 : (Int32) → (Int32) → (Int32) → Prop) : Prop := (∀ x24 : Int32, x24 = (s132_1 + s132_0) → (wp_X6_editorOf x v5 3 (fun r25 => (wp_X6_editorOf x v5 4 (fun r26 => (wp_X6_count x 0 (fun r27 => ((¬ (r25 + r26) = r27 → (jn_X8_areEditorsSo_212 x v1 x24 v3 v4 v5 v6  Q K79)) ∧ ((r25 + r26) = r27 → (wp_X6_editorOf x v5 5 (fun r42 => ((r42 < 0 → (jn_X8_areEditorsSo_212 x v1 x24 v3 v4 v5 v6  Q K79)) ∧ (¬ r42 < 0 → (wp_X6_editorOf x v5 5 (fun r44 => (wp_X6_editorOf x v5 0 (fun r45 => ((r45 < r44 → (jn_X8_areEditorsSo_212 x v1 x24 v3 v4 v5 v6  Q K79)) ∧ (¬ r45 < r44 → ((v7 = 0 → (jn_X8_areEditorsSo_201 x v1 x24 v3 v4 v5 v6  Q K79)) ∧ (¬ v7 = 0 → (wp_X6_editorOf x v5 7 (fun r49 => ((¬ r49 = 1 → (jn_X8_areEditorsSo_212 x v1 x24 v3 v4 v5 v6  Q K79)) ∧ (r49 = 1 → (jn_X8_areEditorsSo_201 x v1 x24 v3 v4 v5 v6  Q K79))))))))))))))))))))))))))
set_option maxHeartbeats 4000000 in
set_option maxRecDepth 100000 in
theorem wk_X8_areEditorsSo_132 {p : Program} {l : Launch} {e : Env} {s : State} {m : MethodId} {args : Array Value} {below : List Frame} {meth : Method} {c : Code} {D : va_G} {cI : ClassId} {A : Nat → Prop} (C : ZC p s m args meth c RX8 cX8_areEditorsSo 9 (some .boolean) D cI A) (gx : Nat → Nat) (x : zX) (v1 : Int32) (v3 : Int32) (v4 : Int32) (v5 : Int32) (v6 : Int32) (v7 : Int32) (s132_0 : Int32) (s132_1 : Int32) (Q : Int32 → Prop) (K79 : (Int32) → (Int32) → (Int32) → Prop) (hK79 : ∀ (v1 : Int32) (v2 : Int32) (v5 : Int32), K79 v1 v2 v5 → ZZ p l e rmX8_areEditorsSo s m args below meth c D A 9 0 0 (MQ below (ZQ D A (fun u : Int32 => some (.int u)) (fun u : Int32 => [(wX cI gx x)]) (fun u : Int32 => Q u)) args s rmX8_areEditorsSo.cells rmX8_areEditorsSo.slots A) [(wX cI gx x)] 79 [some (.ref (gx 0)), some (.int v1), some (.int v2), some (.int v3), some (.int v4), some (.int v5), none, none, none] []) (hw : jn_X8_areEditorsSo_132 x v1 v3 v4 v5 v6 v7 s132_0 s132_1 Q K79) : ZZ p l e rmX8_areEditorsSo s m args below meth c D A 9 0 0 (MQ below (ZQ D A (fun u : Int32 => some (.int u)) (fun u : Int32 => [(wX cI gx x)]) (fun u : Int32 => Q u)) args s rmX8_areEditorsSo.cells rmX8_areEditorsSo.slots A) [(wX cI gx x)] 132 [some (.ref (gx 0)), some (.int v1), none, some (.int v3), some (.int v4), some (.int v5), some (.int v6), some (.int v7), none] [.int s132_0, .int s132_1] := by
  unfold jn_X8_areEditorsSo_132 at hw
  refine z_iadd C dX8_areEditorsSo_132 ?_
  refine z_name C (fun x24 ex24 => ?_)
  replace hw := hw x24 ex24
  refine z_istore_n C dX8_areEditorsSo_133 [some (.ref (gx 0)), some (.int v1), some (.int x24), some (.int v3), some (.int v4), some (.int v5), some (.int v6), some (.int v7), none] (by decide) rfl ?_
  refine z_aload_n C dX8_areEditorsSo_134 rfl ?_
  refine z_iload C dX8_areEditorsSo_135 rfl ?_
  refine z_iconst C dX8_areEditorsSo_137 3 (by decide +kernel) ?_
  refine z_callV0 C [(wX cI gx x)] [] rfl rfl (met_X6_editorOf l D cI gx x v5 3 _ hw) y_X6_editorOf mw_4_16 dX8_areEditorsSo_138 rfl n_X6_editorOf rfl (by decide) ⟨rfl, rfl, Nat.le_of_ble_eq_true rfl, Nat.le_of_ble_eq_true rfl⟩ (Nat.le_of_ble_eq_true rfl) (z_pm [0] 1 rfl (by decide) rfl) ?_
  intro r25 hw
  try dsimp only at hw
  refine z_bs [(wX cI gx x)] [.int r25] rfl rfl ?_
  refine z_aload_n C dX8_areEditorsSo_141 rfl ?_
  refine z_iload C dX8_areEditorsSo_142 rfl ?_
  refine z_iconst C dX8_areEditorsSo_144 4 (by decide +kernel) ?_
  refine z_callV0 C [(wX cI gx x)] [] rfl rfl (met_X6_editorOf l D cI gx x v5 4 _ hw) y_X6_editorOf mw_4_16 dX8_areEditorsSo_145 rfl n_X6_editorOf rfl (by decide) ⟨rfl, rfl, Nat.le_of_ble_eq_true rfl, Nat.le_of_ble_eq_true rfl⟩ (Nat.le_of_ble_eq_true rfl) (z_pm [0] 1 rfl (by decide) rfl) ?_
  intro r26 hw
  try dsimp only at hw
  refine z_bs [(wX cI gx x)] [.int r26, .int r25] rfl rfl ?_
  refine z_iadd C dX8_areEditorsSo_148 ?_
  refine z_aload_n C dX8_areEditorsSo_149 rfl ?_
  refine z_iconst C dX8_areEditorsSo_150 0 (by decide +kernel) ?_
  refine z_callV0 C [(wX cI gx x)] [] rfl rfl (met_X6_count l D cI gx x 0 _ hw) y_X6_count mw_13_7 dX8_areEditorsSo_151 rfl n_X6_count rfl (by decide) ⟨rfl, rfl, Nat.le_of_ble_eq_true rfl, Nat.le_of_ble_eq_true rfl⟩ (Nat.le_of_ble_eq_true rfl) (z_pm [0] 1 rfl (by decide) rfl) ?_
  intro r27 hw
  try dsimp only at hw
  refine z_bs [(wX cI gx x)] [.int r27, .int (r25 + r26)] rfl rfl ?_
  refine z_icmp_ne C dX8_areEditorsSo_154 212 (by decide) (fun c28 => ?_) (fun c28 => ?_)
  · replace hw := hw.1 c28
    refine z_ls C [true, true, true, true, true, true, true, false, false] [some (.ref (gx 0)), some (.int v1), some (.int x24), some (.int v3), some (.int v4), some (.int v5), some (.int v6), none, none] rfl ?_
    exact wk_X8_areEditorsSo_212 C gx x v1 x24 v3 v4 v5 v6  _ K79 hK79 hw
  · replace hw := hw.2 c28
    refine z_aload_n C dX8_areEditorsSo_157 rfl ?_
    refine z_iload C dX8_areEditorsSo_158 rfl ?_
    refine z_iconst C dX8_areEditorsSo_160 5 (by decide +kernel) ?_
    refine z_callV0 C [(wX cI gx x)] [] rfl rfl (met_X6_editorOf l D cI gx x v5 5 _ hw) y_X6_editorOf mw_4_16 dX8_areEditorsSo_161 rfl n_X6_editorOf rfl (by decide) ⟨rfl, rfl, Nat.le_of_ble_eq_true rfl, Nat.le_of_ble_eq_true rfl⟩ (Nat.le_of_ble_eq_true rfl) (z_pm [0] 1 rfl (by decide) rfl) ?_
    intro r42 hw
    try dsimp only at hw
    refine z_bs [(wX cI gx x)] [.int r42] rfl rfl ?_
    refine z_if_lt C dX8_areEditorsSo_164 212 (by decide) (fun c43 => ?_) (fun c43 => ?_)
    · replace hw := hw.1 c43
      refine z_ls C [true, true, true, true, true, true, true, false, false] [some (.ref (gx 0)), some (.int v1), some (.int x24), some (.int v3), some (.int v4), some (.int v5), some (.int v6), none, none] rfl ?_
      exact wk_X8_areEditorsSo_212 C gx x v1 x24 v3 v4 v5 v6  _ K79 hK79 hw
    · replace hw := hw.2 c43
      refine z_aload_n C dX8_areEditorsSo_167 rfl ?_
      refine z_iload C dX8_areEditorsSo_168 rfl ?_
      refine z_iconst C dX8_areEditorsSo_170 5 (by decide +kernel) ?_
      refine z_callV0 C [(wX cI gx x)] [] rfl rfl (met_X6_editorOf l D cI gx x v5 5 _ hw) y_X6_editorOf mw_4_16 dX8_areEditorsSo_171 rfl n_X6_editorOf rfl (by decide) ⟨rfl, rfl, Nat.le_of_ble_eq_true rfl, Nat.le_of_ble_eq_true rfl⟩ (Nat.le_of_ble_eq_true rfl) (z_pm [0] 1 rfl (by decide) rfl) ?_
      intro r44 hw
      try dsimp only at hw
      refine z_bs [(wX cI gx x)] [.int r44] rfl rfl ?_
      refine z_aload_n C dX8_areEditorsSo_174 rfl ?_
      refine z_iload C dX8_areEditorsSo_175 rfl ?_
      refine z_iconst C dX8_areEditorsSo_177 0 (by decide +kernel) ?_
      refine z_callV0 C [(wX cI gx x)] [] rfl rfl (met_X6_editorOf l D cI gx x v5 0 _ hw) y_X6_editorOf mw_4_16 dX8_areEditorsSo_178 rfl n_X6_editorOf rfl (by decide) ⟨rfl, rfl, Nat.le_of_ble_eq_true rfl, Nat.le_of_ble_eq_true rfl⟩ (Nat.le_of_ble_eq_true rfl) (z_pm [0] 1 rfl (by decide) rfl) ?_
      intro r45 hw
      try dsimp only at hw
      refine z_bs [(wX cI gx x)] [.int r45, .int r44] rfl rfl ?_
      refine z_icmp_gt C dX8_areEditorsSo_181 212 (by decide) (fun c46 => ?_) (fun c46 => ?_)
      · replace hw := hw.1 c46
        refine z_ls C [true, true, true, true, true, true, true, false, false] [some (.ref (gx 0)), some (.int v1), some (.int x24), some (.int v3), some (.int v4), some (.int v5), some (.int v6), none, none] rfl ?_
        exact wk_X8_areEditorsSo_212 C gx x v1 x24 v3 v4 v5 v6  _ K79 hK79 hw
      · replace hw := hw.2 c46
        refine z_iload C dX8_areEditorsSo_184 rfl ?_
        refine z_if_eq C dX8_areEditorsSo_186 201 (by decide) (fun c47 => ?_) (fun c47 => ?_)
        · replace hw := hw.1 c47
          refine z_ls C [true, true, true, true, true, true, true, false, false] [some (.ref (gx 0)), some (.int v1), some (.int x24), some (.int v3), some (.int v4), some (.int v5), some (.int v6), none, none] rfl ?_
          exact wk_X8_areEditorsSo_201 C gx x v1 x24 v3 v4 v5 v6  _ K79 hK79 hw
        · replace hw := hw.2 c47
          refine z_aload_n C dX8_areEditorsSo_189 rfl ?_
          refine z_iload C dX8_areEditorsSo_190 rfl ?_
          refine z_bipush C dX8_areEditorsSo_192 7 (by decide +kernel) ?_
          refine z_callV0 C [(wX cI gx x)] [] rfl rfl (met_X6_editorOf l D cI gx x v5 7 _ hw) y_X6_editorOf mw_4_16 dX8_areEditorsSo_194 rfl n_X6_editorOf rfl (by decide) ⟨rfl, rfl, Nat.le_of_ble_eq_true rfl, Nat.le_of_ble_eq_true rfl⟩ (Nat.le_of_ble_eq_true rfl) (z_pm [0] 1 rfl (by decide) rfl) ?_
          intro r49 hw
          try dsimp only at hw
          refine z_bs [(wX cI gx x)] [.int r49] rfl rfl ?_
          refine z_iconst C dX8_areEditorsSo_197 1 (by decide +kernel) ?_
          refine z_icmp_ne C dX8_areEditorsSo_198 212 (by decide) (fun c50 => ?_) (fun c50 => ?_)
          · replace hw := hw.1 c50
            refine z_ls C [true, true, true, true, true, true, true, false, false] [some (.ref (gx 0)), some (.int v1), some (.int x24), some (.int v3), some (.int v4), some (.int v5), some (.int v6), none, none] rfl ?_
            exact wk_X8_areEditorsSo_212 C gx x v1 x24 v3 v4 v5 v6  _ K79 hK79 hw
          · replace hw := hw.2 c50
            refine z_ls C [true, true, true, true, true, true, true, false, false] [some (.ref (gx 0)), some (.int v1), some (.int x24), some (.int v3), some (.int v4), some (.int v5), some (.int v6), none, none] rfl ?_
            exact wk_X8_areEditorsSo_201 C gx x v1 x24 v3 v4 v5 v6  _ K79 hK79 hw
def jn_X8_areEditorsSo_114 (x : zX) (v1 : Int32) (v2 : Int32) (v3 : Int32) (v4 : Int32) (v5 : Int32) (v6 : Int32) (s114_0 : Int32) (Q : Int32 → Prop) (K79 : (Int32) → (Int32) → (Int32) → Prop) : Prop := (∀ x22 : Int32, x22 = (v1 + v6) → ((s114_0 = 0 → (jn_X8_areEditorsSo_132 x x22 v3 v4 v5 v6 s114_0 0 v2 Q K79)) ∧ (¬ s114_0 = 0 → (jn_X8_areEditorsSo_132 x x22 v3 v4 v5 v6 s114_0 1 v2 Q K79))))
set_option maxHeartbeats 4000000 in
set_option maxRecDepth 100000 in
theorem wk_X8_areEditorsSo_114 {p : Program} {l : Launch} {e : Env} {s : State} {m : MethodId} {args : Array Value} {below : List Frame} {meth : Method} {c : Code} {D : va_G} {cI : ClassId} {A : Nat → Prop} (C : ZC p s m args meth c RX8 cX8_areEditorsSo 9 (some .boolean) D cI A) (gx : Nat → Nat) (x : zX) (v1 : Int32) (v2 : Int32) (v3 : Int32) (v4 : Int32) (v5 : Int32) (v6 : Int32) (s114_0 : Int32) (Q : Int32 → Prop) (K79 : (Int32) → (Int32) → (Int32) → Prop) (hK79 : ∀ (v1 : Int32) (v2 : Int32) (v5 : Int32), K79 v1 v2 v5 → ZZ p l e rmX8_areEditorsSo s m args below meth c D A 9 0 0 (MQ below (ZQ D A (fun u : Int32 => some (.int u)) (fun u : Int32 => [(wX cI gx x)]) (fun u : Int32 => Q u)) args s rmX8_areEditorsSo.cells rmX8_areEditorsSo.slots A) [(wX cI gx x)] 79 [some (.ref (gx 0)), some (.int v1), some (.int v2), some (.int v3), some (.int v4), some (.int v5), none, none, none] []) (hw : jn_X8_areEditorsSo_114 x v1 v2 v3 v4 v5 v6 s114_0 Q K79) : ZZ p l e rmX8_areEditorsSo s m args below meth c D A 9 0 0 (MQ below (ZQ D A (fun u : Int32 => some (.int u)) (fun u : Int32 => [(wX cI gx x)]) (fun u : Int32 => Q u)) args s rmX8_areEditorsSo.cells rmX8_areEditorsSo.slots A) [(wX cI gx x)] 114 [some (.ref (gx 0)), some (.int v1), some (.int v2), some (.int v3), some (.int v4), some (.int v5), some (.int v6), none, none] [.int s114_0] := by
  unfold jn_X8_areEditorsSo_114 at hw
  refine z_istore C dX8_areEditorsSo_114 [some (.ref (gx 0)), some (.int v1), some (.int v2), some (.int v3), some (.int v4), some (.int v5), some (.int v6), some (.int s114_0), none] (by decide) rfl ?_
  refine z_iload_n C dX8_areEditorsSo_116 rfl ?_
  refine z_iload C dX8_areEditorsSo_117 rfl ?_
  refine z_iadd C dX8_areEditorsSo_119 ?_
  refine z_name C (fun x22 ex22 => ?_)
  replace hw := hw x22 ex22
  refine z_istore_n C dX8_areEditorsSo_120 [some (.ref (gx 0)), some (.int x22), some (.int v2), some (.int v3), some (.int v4), some (.int v5), some (.int v6), some (.int s114_0), none] (by decide) rfl ?_
  refine z_iload_n C dX8_areEditorsSo_121 rfl ?_
  refine z_iload C dX8_areEditorsSo_122 rfl ?_
  refine z_if_eq C dX8_areEditorsSo_124 131 (by decide) (fun c23 => ?_) (fun c23 => ?_)
  · replace hw := hw.1 c23
    refine z_iconst C dX8_areEditorsSo_131 0 (by decide +kernel) ?_
    refine z_ls C [true, true, false, true, true, true, true, true, false] [some (.ref (gx 0)), some (.int x22), none, some (.int v3), some (.int v4), some (.int v5), some (.int v6), some (.int s114_0), none] rfl ?_
    exact wk_X8_areEditorsSo_132 C gx x x22 v3 v4 v5 v6 s114_0 0 v2 _ K79 hK79 hw
  · replace hw := hw.2 c23
    refine z_iconst C dX8_areEditorsSo_127 1 (by decide +kernel) ?_
    refine z_goto C dX8_areEditorsSo_128 132 (by decide) ?_
    refine z_ls C [true, true, false, true, true, true, true, true, false] [some (.ref (gx 0)), some (.int x22), none, some (.int v3), some (.int v4), some (.int v5), some (.int v6), some (.int s114_0), none] rfl ?_
    exact wk_X8_areEditorsSo_132 C gx x x22 v3 v4 v5 v6 s114_0 1 v2 _ K79 hK79 hw
def jn_X8_areEditorsSo_113 (x : zX) (v1 : Int32) (v2 : Int32) (v3 : Int32) (v4 : Int32) (v5 : Int32) (v6 : Int32)  (Q : Int32 → Prop) (K79 : (Int32) → (Int32) → (Int32) → Prop) : Prop := (jn_X8_areEditorsSo_114 x v1 v2 v3 v4 v5 v6 0 Q K79)
set_option maxHeartbeats 4000000 in
set_option maxRecDepth 100000 in
theorem wk_X8_areEditorsSo_113 {p : Program} {l : Launch} {e : Env} {s : State} {m : MethodId} {args : Array Value} {below : List Frame} {meth : Method} {c : Code} {D : va_G} {cI : ClassId} {A : Nat → Prop} (C : ZC p s m args meth c RX8 cX8_areEditorsSo 9 (some .boolean) D cI A) (gx : Nat → Nat) (x : zX) (v1 : Int32) (v2 : Int32) (v3 : Int32) (v4 : Int32) (v5 : Int32) (v6 : Int32)  (Q : Int32 → Prop) (K79 : (Int32) → (Int32) → (Int32) → Prop) (hK79 : ∀ (v1 : Int32) (v2 : Int32) (v5 : Int32), K79 v1 v2 v5 → ZZ p l e rmX8_areEditorsSo s m args below meth c D A 9 0 0 (MQ below (ZQ D A (fun u : Int32 => some (.int u)) (fun u : Int32 => [(wX cI gx x)]) (fun u : Int32 => Q u)) args s rmX8_areEditorsSo.cells rmX8_areEditorsSo.slots A) [(wX cI gx x)] 79 [some (.ref (gx 0)), some (.int v1), some (.int v2), some (.int v3), some (.int v4), some (.int v5), none, none, none] []) (hw : jn_X8_areEditorsSo_113 x v1 v2 v3 v4 v5 v6  Q K79) : ZZ p l e rmX8_areEditorsSo s m args below meth c D A 9 0 0 (MQ below (ZQ D A (fun u : Int32 => some (.int u)) (fun u : Int32 => [(wX cI gx x)]) (fun u : Int32 => Q u)) args s rmX8_areEditorsSo.cells rmX8_areEditorsSo.slots A) [(wX cI gx x)] 113 [some (.ref (gx 0)), some (.int v1), some (.int v2), some (.int v3), some (.int v4), some (.int v5), some (.int v6), none, none] [] := by
  unfold jn_X8_areEditorsSo_113 at hw
  refine z_iconst C dX8_areEditorsSo_113 0 (by decide +kernel) ?_
  exact wk_X8_areEditorsSo_114 C gx x v1 v2 v3 v4 v5 v6 0 _ K79 hK79 hw
def lb_X8_areEditorsSo_79 (x : zX) (v3 : Int32) (v4 : Int32)  (Q : Int32 → Prop)  (K79 : (Int32) → (Int32) → (Int32) → Prop) (v1 : Int32) (v2 : Int32) (v5 : Int32) : Prop := ((3 ≤ v5 → (wp_X6_count x 3 (fun r4 => ((¬ v1 = r4 → (jn_X8_areEditorsSo_341 x v3  Q )) ∧ (v1 = r4 → (wp_X6_count x 4 (fun r14 => ((¬ v2 = r14 → (jn_X8_areEditorsSo_341 x v3  Q )) ∧ (v2 = r14 → (wp_X6_count x 1 (fun r16 => ((¬ v3 = r16 → (jn_X8_areEditorsSo_341 x v3  Q )) ∧ (v3 = r16 → (wp_X6_count x 2 (fun r18 => ((¬ v4 = r18 → (jn_X8_areEditorsSo_341 x v3  Q )) ∧ (v4 = r18 → (jn_X8_areEditorsSo_342 x v3 1 Q )))))))))))))))))) ∧ (¬ 3 ≤ v5 → (wp_X6_editorOf x v5 1 (fun r20 => ((¬ r20 = 0 → (jn_X8_areEditorsSo_113 x v1 v2 v3 v4 v5 r20  Q K79)) ∧ (r20 = 0 → (wp_X6_editorOf x v5 4 (fun r51 => ((¬ r51 = 0 → (jn_X8_areEditorsSo_113 x v1 v2 v3 v4 v5 r20  Q K79)) ∧ (r51 = 0 → (jn_X8_areEditorsSo_114 x v1 v2 v3 v4 v5 r20 1 Q K79)))))))))))
set_option maxHeartbeats 4000000 in
set_option maxRecDepth 100000 in
theorem wk_X8_areEditorsSo_79 {p : Program} {l : Launch} {e : Env} {s : State} {m : MethodId} {args : Array Value} {below : List Frame} {meth : Method} {c : Code} {D : va_G} {cI : ClassId} {A : Nat → Prop} (C : ZC p s m args meth c RX8 cX8_areEditorsSo 9 (some .boolean) D cI A) (gx : Nat → Nat) (x : zX) (v3 : Int32) (v4 : Int32)  (v1 : Int32) (v2 : Int32) (v5 : Int32) (Q : Int32 → Prop)  (hw : zLoop3 (lb_X8_areEditorsSo_79 x v3 v4  Q ) v1 v2 v5) : ZZ p l e rmX8_areEditorsSo s m args below meth c D A 9 0 0 (MQ below (ZQ D A (fun u : Int32 => some (.int u)) (fun u : Int32 => [(wX cI gx x)]) (fun u : Int32 => Q u)) args s rmX8_areEditorsSo.cells rmX8_areEditorsSo.slots A) [(wX cI gx x)] 79 [some (.ref (gx 0)), some (.int v1), some (.int v2), some (.int v3), some (.int v4), some (.int v5), none, none, none] [] := by
  refine zLoop3_w (fun (v1 : Int32) (v2 : Int32) (v5 : Int32) => ZZ p l e rmX8_areEditorsSo s m args below meth c D A 9 0 0 (MQ below (ZQ D A (fun u : Int32 => some (.int u)) (fun u : Int32 => [(wX cI gx x)]) (fun u : Int32 => Q u)) args s rmX8_areEditorsSo.cells rmX8_areEditorsSo.slots A) [(wX cI gx x)] 79 [some (.ref (gx 0)), some (.int v1), some (.int v2), some (.int v3), some (.int v4), some (.int v5), none, none, none] []) ?_ _ _ _ hw
  clear hw
  intro K79 hK79 v1 v2 v5 hw
  unfold lb_X8_areEditorsSo_79 at hw
  refine z_iload C dX8_areEditorsSo_79 rfl ?_
  refine z_iconst C dX8_areEditorsSo_81 3 (by decide +kernel) ?_
  refine z_icmp_ge C dX8_areEditorsSo_82 300 (by decide) (fun c3 => ?_) (fun c3 => ?_)
  · replace hw := hw.1 c3
    refine z_iload_n C dX8_areEditorsSo_300 rfl ?_
    refine z_aload_n C dX8_areEditorsSo_301 rfl ?_
    refine z_iconst C dX8_areEditorsSo_302 3 (by decide +kernel) ?_
    refine z_callV0 C [(wX cI gx x)] [] rfl rfl (met_X6_count l D cI gx x 3 _ hw) y_X6_count mw_13_7 dX8_areEditorsSo_303 rfl n_X6_count rfl (by decide) ⟨rfl, rfl, Nat.le_of_ble_eq_true rfl, Nat.le_of_ble_eq_true rfl⟩ (Nat.le_of_ble_eq_true rfl) (z_pm [0] 1 rfl (by decide) rfl) ?_
    intro r4 hw
    try dsimp only at hw
    refine z_bs [(wX cI gx x)] [.int r4, .int v1] rfl rfl ?_
    refine z_icmp_ne C dX8_areEditorsSo_306 341 (by decide) (fun c5 => ?_) (fun c5 => ?_)
    · replace hw := hw.1 c5
      refine z_ls C [true, false, false, true, false, false, false, false, false] [some (.ref (gx 0)), none, none, some (.int v3), none, none, none, none, none] rfl ?_
      exact wk_X8_areEditorsSo_341 C gx x v3  _  hw
    · replace hw := hw.2 c5
      refine z_iload_n C dX8_areEditorsSo_309 rfl ?_
      refine z_aload_n C dX8_areEditorsSo_310 rfl ?_
      refine z_iconst C dX8_areEditorsSo_311 4 (by decide +kernel) ?_
      refine z_callV0 C [(wX cI gx x)] [] rfl rfl (met_X6_count l D cI gx x 4 _ hw) y_X6_count mw_13_7 dX8_areEditorsSo_312 rfl n_X6_count rfl (by decide) ⟨rfl, rfl, Nat.le_of_ble_eq_true rfl, Nat.le_of_ble_eq_true rfl⟩ (Nat.le_of_ble_eq_true rfl) (z_pm [0] 1 rfl (by decide) rfl) ?_
      intro r14 hw
      try dsimp only at hw
      refine z_bs [(wX cI gx x)] [.int r14, .int v2] rfl rfl ?_
      refine z_icmp_ne C dX8_areEditorsSo_315 341 (by decide) (fun c15 => ?_) (fun c15 => ?_)
      · replace hw := hw.1 c15
        refine z_ls C [true, false, false, true, false, false, false, false, false] [some (.ref (gx 0)), none, none, some (.int v3), none, none, none, none, none] rfl ?_
        exact wk_X8_areEditorsSo_341 C gx x v3  _  hw
      · replace hw := hw.2 c15
        refine z_iload_n C dX8_areEditorsSo_318 rfl ?_
        refine z_aload_n C dX8_areEditorsSo_319 rfl ?_
        refine z_iconst C dX8_areEditorsSo_320 1 (by decide +kernel) ?_
        refine z_callV0 C [(wX cI gx x)] [] rfl rfl (met_X6_count l D cI gx x 1 _ hw) y_X6_count mw_13_7 dX8_areEditorsSo_321 rfl n_X6_count rfl (by decide) ⟨rfl, rfl, Nat.le_of_ble_eq_true rfl, Nat.le_of_ble_eq_true rfl⟩ (Nat.le_of_ble_eq_true rfl) (z_pm [0] 1 rfl (by decide) rfl) ?_
        intro r16 hw
        try dsimp only at hw
        refine z_bs [(wX cI gx x)] [.int r16, .int v3] rfl rfl ?_
        refine z_icmp_ne C dX8_areEditorsSo_324 341 (by decide) (fun c17 => ?_) (fun c17 => ?_)
        · replace hw := hw.1 c17
          refine z_ls C [true, false, false, true, false, false, false, false, false] [some (.ref (gx 0)), none, none, some (.int v3), none, none, none, none, none] rfl ?_
          exact wk_X8_areEditorsSo_341 C gx x v3  _  hw
        · replace hw := hw.2 c17
          refine z_iload C dX8_areEditorsSo_327 rfl ?_
          refine z_aload_n C dX8_areEditorsSo_329 rfl ?_
          refine z_iconst C dX8_areEditorsSo_330 2 (by decide +kernel) ?_
          refine z_callV0 C [(wX cI gx x)] [] rfl rfl (met_X6_count l D cI gx x 2 _ hw) y_X6_count mw_13_7 dX8_areEditorsSo_331 rfl n_X6_count rfl (by decide) ⟨rfl, rfl, Nat.le_of_ble_eq_true rfl, Nat.le_of_ble_eq_true rfl⟩ (Nat.le_of_ble_eq_true rfl) (z_pm [0] 1 rfl (by decide) rfl) ?_
          intro r18 hw
          try dsimp only at hw
          refine z_bs [(wX cI gx x)] [.int r18, .int v4] rfl rfl ?_
          refine z_icmp_ne C dX8_areEditorsSo_334 341 (by decide) (fun c19 => ?_) (fun c19 => ?_)
          · replace hw := hw.1 c19
            refine z_ls C [true, false, false, true, false, false, false, false, false] [some (.ref (gx 0)), none, none, some (.int v3), none, none, none, none, none] rfl ?_
            exact wk_X8_areEditorsSo_341 C gx x v3  _  hw
          · replace hw := hw.2 c19
            refine z_iconst C dX8_areEditorsSo_337 1 (by decide +kernel) ?_
            refine z_goto C dX8_areEditorsSo_338 342 (by decide) ?_
            refine z_ls C [true, false, false, true, false, false, false, false, false] [some (.ref (gx 0)), none, none, some (.int v3), none, none, none, none, none] rfl ?_
            exact wk_X8_areEditorsSo_342 C gx x v3 1 _  hw
  · replace hw := hw.2 c3
    refine z_aload_n C dX8_areEditorsSo_85 rfl ?_
    refine z_iload C dX8_areEditorsSo_86 rfl ?_
    refine z_iconst C dX8_areEditorsSo_88 1 (by decide +kernel) ?_
    refine z_callV0 C [(wX cI gx x)] [] rfl rfl (met_X6_editorOf l D cI gx x v5 1 _ hw) y_X6_editorOf mw_4_16 dX8_areEditorsSo_89 rfl n_X6_editorOf rfl (by decide) ⟨rfl, rfl, Nat.le_of_ble_eq_true rfl, Nat.le_of_ble_eq_true rfl⟩ (Nat.le_of_ble_eq_true rfl) (z_pm [0] 1 rfl (by decide) rfl) ?_
    intro r20 hw
    try dsimp only at hw
    refine z_bs [(wX cI gx x)] [.int r20] rfl rfl ?_
    refine z_istore C dX8_areEditorsSo_92 [some (.ref (gx 0)), some (.int v1), some (.int v2), some (.int v3), some (.int v4), some (.int v5), some (.int r20), none, none] (by decide) rfl ?_
    refine z_iload C dX8_areEditorsSo_94 rfl ?_
    refine z_if_ne C dX8_areEditorsSo_96 113 (by decide) (fun c21 => ?_) (fun c21 => ?_)
    · replace hw := hw.1 c21
      exact wk_X8_areEditorsSo_113 C gx x v1 v2 v3 v4 v5 r20  _ K79 hK79 hw
    · replace hw := hw.2 c21
      refine z_aload_n C dX8_areEditorsSo_99 rfl ?_
      refine z_iload C dX8_areEditorsSo_100 rfl ?_
      refine z_iconst C dX8_areEditorsSo_102 4 (by decide +kernel) ?_
      refine z_callV0 C [(wX cI gx x)] [] rfl rfl (met_X6_editorOf l D cI gx x v5 4 _ hw) y_X6_editorOf mw_4_16 dX8_areEditorsSo_103 rfl n_X6_editorOf rfl (by decide) ⟨rfl, rfl, Nat.le_of_ble_eq_true rfl, Nat.le_of_ble_eq_true rfl⟩ (Nat.le_of_ble_eq_true rfl) (z_pm [0] 1 rfl (by decide) rfl) ?_
      intro r51 hw
      try dsimp only at hw
      refine z_bs [(wX cI gx x)] [.int r51] rfl rfl ?_
      refine z_if_ne C dX8_areEditorsSo_106 113 (by decide) (fun c52 => ?_) (fun c52 => ?_)
      · replace hw := hw.1 c52
        exact wk_X8_areEditorsSo_113 C gx x v1 v2 v3 v4 v5 r20  _ K79 hK79 hw
      · replace hw := hw.2 c52
        refine z_iconst C dX8_areEditorsSo_109 1 (by decide +kernel) ?_
        refine z_goto C dX8_areEditorsSo_110 114 (by decide) ?_
        exact wk_X8_areEditorsSo_114 C gx x v1 v2 v3 v4 v5 r20 1 _ K79 hK79 hw
def jn_X8_areEditorsSo_53 (x : zX) (v1 : Int32) (v2 : Int32) (v4 : Int32) (v5 : Int32) (v6 : Int32) (s53_0 : Int32) (s53_1 : Int32) (Q : Int32 → Prop) (K12 : (Int32) → (Int32) → (Int32) → Prop) : Prop := (∀ x56 : Int32, x56 = (s53_1 + s53_0) → ((¬ v6 = 0 → (∀ x58 : Int32, x58 = (v4 + 0) → (K12 x56 x58 (v5 + 1)))) ∧ (v6 = 0 → (∀ x59 : Int32, x59 = (v4 + 1) → (K12 x56 x59 (v5 + 1))))))
set_option maxHeartbeats 4000000 in
set_option maxRecDepth 100000 in
theorem wk_X8_areEditorsSo_53 {p : Program} {l : Launch} {e : Env} {s : State} {m : MethodId} {args : Array Value} {below : List Frame} {meth : Method} {c : Code} {D : va_G} {cI : ClassId} {A : Nat → Prop} (C : ZC p s m args meth c RX8 cX8_areEditorsSo 9 (some .boolean) D cI A) (gx : Nat → Nat) (x : zX) (v1 : Int32) (v2 : Int32) (v4 : Int32) (v5 : Int32) (v6 : Int32) (s53_0 : Int32) (s53_1 : Int32) (Q : Int32 → Prop) (K12 : (Int32) → (Int32) → (Int32) → Prop) (hK12 : ∀ (v3 : Int32) (v4 : Int32) (v5 : Int32), K12 v3 v4 v5 → ZZ p l e rmX8_areEditorsSo s m args below meth c D A 9 0 0 (MQ below (ZQ D A (fun u : Int32 => some (.int u)) (fun u : Int32 => [(wX cI gx x)]) (fun u : Int32 => Q u)) args s rmX8_areEditorsSo.cells rmX8_areEditorsSo.slots A) [(wX cI gx x)] 12 [some (.ref (gx 0)), some (.int v1), some (.int v2), some (.int v3), some (.int v4), some (.int v5), none, none, none] []) (hw : jn_X8_areEditorsSo_53 x v1 v2 v4 v5 v6 s53_0 s53_1 Q K12) : ZZ p l e rmX8_areEditorsSo s m args below meth c D A 9 0 0 (MQ below (ZQ D A (fun u : Int32 => some (.int u)) (fun u : Int32 => [(wX cI gx x)]) (fun u : Int32 => Q u)) args s rmX8_areEditorsSo.cells rmX8_areEditorsSo.slots A) [(wX cI gx x)] 53 [some (.ref (gx 0)), some (.int v1), some (.int v2), none, some (.int v4), some (.int v5), some (.int v6), none, none] [.int s53_0, .int s53_1] := by
  unfold jn_X8_areEditorsSo_53 at hw
  refine z_iadd C dX8_areEditorsSo_53 ?_
  refine z_name C (fun x56 ex56 => ?_)
  replace hw := hw x56 ex56
  refine z_istore_n C dX8_areEditorsSo_54 [some (.ref (gx 0)), some (.int v1), some (.int v2), some (.int x56), some (.int v4), some (.int v5), some (.int v6), none, none] (by decide) rfl ?_
  refine z_iload C dX8_areEditorsSo_55 rfl ?_
  refine z_iload C dX8_areEditorsSo_57 rfl ?_
  refine z_if_ne C dX8_areEditorsSo_59 66 (by decide) (fun c57 => ?_) (fun c57 => ?_)
  · replace hw := hw.1 c57
    refine z_iconst C dX8_areEditorsSo_66 0 (by decide +kernel) ?_
    refine z_iadd C dX8_areEditorsSo_67 ?_
    refine z_name C (fun x58 ex58 => ?_)
    replace hw := hw x58 ex58
    refine z_istore C dX8_areEditorsSo_68 [some (.ref (gx 0)), some (.int v1), some (.int v2), some (.int x56), some (.int x58), some (.int v5), some (.int v6), none, none] (by decide) rfl ?_
    refine z_iinc C dX8_areEditorsSo_70 rfl (v5 + 1) (by rfl) [some (.ref (gx 0)), some (.int v1), some (.int v2), some (.int x56), some (.int x58), some (.int (v5 + 1)), some (.int v6), none, none] (by decide) rfl ?_
    refine z_goto C dX8_areEditorsSo_73 12 (by decide) ?_
    refine z_ls C [true, true, true, true, true, true, false, false, false] [some (.ref (gx 0)), some (.int v1), some (.int v2), some (.int x56), some (.int x58), some (.int (v5 + 1)), none, none, none] rfl ?_
    exact hK12 _ _ _ hw
  · replace hw := hw.2 c57
    refine z_iconst C dX8_areEditorsSo_62 1 (by decide +kernel) ?_
    refine z_goto C dX8_areEditorsSo_63 67 (by decide) ?_
    refine z_iadd C dX8_areEditorsSo_67 ?_
    refine z_name C (fun x59 ex59 => ?_)
    replace hw := hw x59 ex59
    refine z_istore C dX8_areEditorsSo_68 [some (.ref (gx 0)), some (.int v1), some (.int v2), some (.int x56), some (.int x59), some (.int v5), some (.int v6), none, none] (by decide) rfl ?_
    refine z_iinc C dX8_areEditorsSo_70 rfl (v5 + 1) (by rfl) [some (.ref (gx 0)), some (.int v1), some (.int v2), some (.int x56), some (.int x59), some (.int (v5 + 1)), some (.int v6), none, none] (by decide) rfl ?_
    refine z_goto C dX8_areEditorsSo_73 12 (by decide) ?_
    refine z_ls C [true, true, true, true, true, true, false, false, false] [some (.ref (gx 0)), some (.int v1), some (.int v2), some (.int x56), some (.int x59), some (.int (v5 + 1)), none, none, none] rfl ?_
    exact hK12 _ _ _ hw
def lb_X8_areEditorsSo_12 (x : zX) (v1 : Int32) (v2 : Int32)  (Q : Int32 → Prop)  (K12 : (Int32) → (Int32) → (Int32) → Prop) (v3 : Int32) (v4 : Int32) (v5 : Int32) : Prop := (wp_X6_count x 0 (fun r1 => ((r1 ≤ v5 → (zLoop3 (lb_X8_areEditorsSo_79 x v3 v4  Q ) v1 v2 0)) ∧ (¬ r1 ≤ v5 → (wp_X6_logOf x v5 0 (fun r53 => ((¬ r53 = 1 → ((¬ r53 = 2 → (jn_X8_areEditorsSo_53 x v1 v2 v4 v5 r53 0 v3 Q K12)) ∧ (r53 = 2 → (jn_X8_areEditorsSo_53 x v1 v2 v4 v5 r53 (-1) v3 Q K12)))) ∧ (r53 = 1 → (jn_X8_areEditorsSo_53 x v1 v2 v4 v5 r53 1 v3 Q K12)))))))))
set_option maxHeartbeats 4000000 in
set_option maxRecDepth 100000 in
theorem wk_X8_areEditorsSo_12 {p : Program} {l : Launch} {e : Env} {s : State} {m : MethodId} {args : Array Value} {below : List Frame} {meth : Method} {c : Code} {D : va_G} {cI : ClassId} {A : Nat → Prop} (C : ZC p s m args meth c RX8 cX8_areEditorsSo 9 (some .boolean) D cI A) (gx : Nat → Nat) (x : zX) (v1 : Int32) (v2 : Int32)  (v3 : Int32) (v4 : Int32) (v5 : Int32) (Q : Int32 → Prop)  (hw : zLoop3 (lb_X8_areEditorsSo_12 x v1 v2  Q ) v3 v4 v5) : ZZ p l e rmX8_areEditorsSo s m args below meth c D A 9 0 0 (MQ below (ZQ D A (fun u : Int32 => some (.int u)) (fun u : Int32 => [(wX cI gx x)]) (fun u : Int32 => Q u)) args s rmX8_areEditorsSo.cells rmX8_areEditorsSo.slots A) [(wX cI gx x)] 12 [some (.ref (gx 0)), some (.int v1), some (.int v2), some (.int v3), some (.int v4), some (.int v5), none, none, none] [] := by
  refine zLoop3_w (fun (v3 : Int32) (v4 : Int32) (v5 : Int32) => ZZ p l e rmX8_areEditorsSo s m args below meth c D A 9 0 0 (MQ below (ZQ D A (fun u : Int32 => some (.int u)) (fun u : Int32 => [(wX cI gx x)]) (fun u : Int32 => Q u)) args s rmX8_areEditorsSo.cells rmX8_areEditorsSo.slots A) [(wX cI gx x)] 12 [some (.ref (gx 0)), some (.int v1), some (.int v2), some (.int v3), some (.int v4), some (.int v5), none, none, none] []) ?_ _ _ _ hw
  clear hw
  intro K12 hK12 v3 v4 v5 hw
  unfold lb_X8_areEditorsSo_12 at hw
  refine z_iload C dX8_areEditorsSo_12 rfl ?_
  refine z_aload_n C dX8_areEditorsSo_14 rfl ?_
  refine z_iconst C dX8_areEditorsSo_15 0 (by decide +kernel) ?_
  refine z_callV0 C [(wX cI gx x)] [] rfl rfl (met_X6_count l D cI gx x 0 _ hw) y_X6_count mw_13_7 dX8_areEditorsSo_16 rfl n_X6_count rfl (by decide) ⟨rfl, rfl, Nat.le_of_ble_eq_true rfl, Nat.le_of_ble_eq_true rfl⟩ (Nat.le_of_ble_eq_true rfl) (z_pm [0] 1 rfl (by decide) rfl) ?_
  intro r1 hw
  try dsimp only at hw
  refine z_bs [(wX cI gx x)] [.int r1, .int v5] rfl rfl ?_
  refine z_icmp_ge C dX8_areEditorsSo_19 76 (by decide) (fun c2 => ?_) (fun c2 => ?_)
  · replace hw := hw.1 c2
    refine z_iconst C dX8_areEditorsSo_76 0 (by decide +kernel) ?_
    refine z_istore C dX8_areEditorsSo_77 [some (.ref (gx 0)), some (.int v1), some (.int v2), some (.int v3), some (.int v4), some (.int 0), none, none, none] (by decide) rfl ?_
    exact wk_X8_areEditorsSo_79 C gx x v3 v4  v1 v2 0 _  hw
  · replace hw := hw.2 c2
    refine z_aload_n C dX8_areEditorsSo_22 rfl ?_
    refine z_iload C dX8_areEditorsSo_23 rfl ?_
    refine z_iconst C dX8_areEditorsSo_25 0 (by decide +kernel) ?_
    refine z_callV0 C [(wX cI gx x)] [] rfl rfl (met_X6_logOf l D cI gx x v5 0 _ hw) y_X6_logOf mw_14_4 dX8_areEditorsSo_26 rfl n_X6_logOf rfl (by decide) ⟨rfl, rfl, Nat.le_of_ble_eq_true rfl, Nat.le_of_ble_eq_true rfl⟩ (Nat.le_of_ble_eq_true rfl) (z_pm [0] 1 rfl (by decide) rfl) ?_
    intro r53 hw
    try dsimp only at hw
    refine z_bs [(wX cI gx x)] [.int r53] rfl rfl ?_
    refine z_istore C dX8_areEditorsSo_29 [some (.ref (gx 0)), some (.int v1), some (.int v2), some (.int v3), some (.int v4), some (.int v5), some (.int r53), none, none] (by decide) rfl ?_
    refine z_iload_n C dX8_areEditorsSo_31 rfl ?_
    refine z_iload C dX8_areEditorsSo_32 rfl ?_
    refine z_iconst C dX8_areEditorsSo_34 1 (by decide +kernel) ?_
    refine z_icmp_ne C dX8_areEditorsSo_35 42 (by decide) (fun c54 => ?_) (fun c54 => ?_)
    · replace hw := hw.1 c54
      refine z_iload C dX8_areEditorsSo_42 rfl ?_
      refine z_iconst C dX8_areEditorsSo_44 2 (by decide +kernel) ?_
      refine z_icmp_ne C dX8_areEditorsSo_45 52 (by decide) (fun c55 => ?_) (fun c55 => ?_)
      · replace hw := hw.1 c55
        refine z_iconst C dX8_areEditorsSo_52 0 (by decide +kernel) ?_
        refine z_ls C [true, true, true, false, true, true, true, false, false] [some (.ref (gx 0)), some (.int v1), some (.int v2), none, some (.int v4), some (.int v5), some (.int r53), none, none] rfl ?_
        exact wk_X8_areEditorsSo_53 C gx x v1 v2 v4 v5 r53 0 v3 _ K12 hK12 hw
      · replace hw := hw.2 c55
        refine z_iconst C dX8_areEditorsSo_48 (-1) (by decide +kernel) ?_
        refine z_goto C dX8_areEditorsSo_49 53 (by decide) ?_
        refine z_ls C [true, true, true, false, true, true, true, false, false] [some (.ref (gx 0)), some (.int v1), some (.int v2), none, some (.int v4), some (.int v5), some (.int r53), none, none] rfl ?_
        exact wk_X8_areEditorsSo_53 C gx x v1 v2 v4 v5 r53 (-1) v3 _ K12 hK12 hw
    · replace hw := hw.2 c54
      refine z_iconst C dX8_areEditorsSo_38 1 (by decide +kernel) ?_
      refine z_goto C dX8_areEditorsSo_39 53 (by decide) ?_
      refine z_ls C [true, true, true, false, true, true, true, false, false] [some (.ref (gx 0)), some (.int v1), some (.int v2), none, some (.int v4), some (.int v5), some (.int r53), none, none] rfl ?_
      exact wk_X8_areEditorsSo_53 C gx x v1 v2 v4 v5 r53 1 v3 _ K12 hK12 hw
def wp_X8_areEditorsSo (x : zX)  (Q : Int32 → Prop) : Prop := (zLoop3 (lb_X8_areEditorsSo_12 x 0 0  Q ) 0 0 0)
set_option maxHeartbeats 4000000 in
set_option maxRecDepth 100000 in
theorem met_X8_areEditorsSo (l : Launch) (D : va_G) (cI : ClassId) (gx : Nat → Nat) (x : zX)  (Q : Int32 → Prop) (hw : wp_X8_areEditorsSo x Q) : ZM l D cI yX8_areEditorsSo cX8_areEditorsSo 9 (some .boolean) rmX8_areEditorsSo [.ref (gx 0)] [(wX cI gx x)] (fun u : Int32 => some (.int u)) (fun u : Int32 => [(wX cI gx x)]) (fun u : Int32 => Q u) := by
  refine z_body [some (.ref (gx 0)), none, none, none, none, none, none, none, none] (by decide +kernel) rfl (Nat.le_of_ble_eq_true rfl) rfl ?_
  intro p e s m args below meth c A C hin
  unfold wp_X8_areEditorsSo at hw
  refine z_iconst C dX8_areEditorsSo_0 0 (by decide +kernel) ?_
  refine z_istore_n C dX8_areEditorsSo_1 [some (.ref (gx 0)), some (.int 0), none, none, none, none, none, none, none] (by decide) rfl ?_
  refine z_iconst C dX8_areEditorsSo_2 0 (by decide +kernel) ?_
  refine z_istore_n C dX8_areEditorsSo_3 [some (.ref (gx 0)), some (.int 0), some (.int 0), none, none, none, none, none, none] (by decide) rfl ?_
  refine z_iconst C dX8_areEditorsSo_4 0 (by decide +kernel) ?_
  refine z_istore_n C dX8_areEditorsSo_5 [some (.ref (gx 0)), some (.int 0), some (.int 0), some (.int 0), none, none, none, none, none] (by decide) rfl ?_
  refine z_iconst C dX8_areEditorsSo_6 0 (by decide +kernel) ?_
  refine z_istore C dX8_areEditorsSo_7 [some (.ref (gx 0)), some (.int 0), some (.int 0), some (.int 0), some (.int 0), none, none, none, none] (by decide) rfl ?_
  refine z_iconst C dX8_areEditorsSo_9 0 (by decide +kernel) ?_
  refine z_istore C dX8_areEditorsSo_10 [some (.ref (gx 0)), some (.int 0), some (.int 0), some (.int 0), some (.int 0), some (.int 0), none, none, none] (by decide) rfl ?_
  exact wk_X8_areEditorsSo_12 C gx x 0 0  0 0 0 _  hw
def rmX8_isSendSo : Room := { frames := 7, cells := 0, slots := 0, locals := 169 }
def jn_X8_isSendSo_136 (x : zX) (p2 : Int32) (v4 : Int32) (w0 : zX) (s136_0 : Int32) (Q : Int32 → zX → Prop)  : Prop := (wp_X6_undo w0 (fun r8 u9 => ((s136_0 = 0 → (Q 0 u9)) ∧ (¬ s136_0 = 0 → ((r8 < 0 → (Q 0 u9)) ∧ (¬ r8 < 0 → (wp_X6_count u9 0 (fun r12 => ((¬ r12 = v4 → (Q 0 u9)) ∧ (r12 = v4 → (Q 1 u9)))))))))))
set_option maxHeartbeats 4000000 in
set_option maxRecDepth 100000 in
theorem wk_X8_isSendSo_136 {p : Program} {l : Launch} {e : Env} {s : State} {m : MethodId} {args : Array Value} {below : List Frame} {meth : Method} {c : Code} {D : va_G} {cI : ClassId} {A : Nat → Prop} (C : ZC p s m args meth c RX8 cX8_isSendSo 8 (some .boolean) D cI A) (gx : Nat → Nat) (x : zX) (p2 : Int32) (v4 : Int32) (w0 : zX) (s136_0 : Int32) (Q : Int32 → zX → Prop)  (hw : jn_X8_isSendSo_136 x p2 v4 w0 s136_0 Q ) : ZZ p l e rmX8_isSendSo s m args below meth c D A 8 0 0 (MQ below (ZQ D A (fun u : Int32 × zX => some (.int u.1)) (fun u : Int32 × zX => [(wX cI gx (u.2))]) (fun u : Int32 × zX => Q u.1 u.2)) args s rmX8_isSendSo.cells rmX8_isSendSo.slots A) [(wX cI gx w0)] 136 [some (.ref (gx 0)), none, none, none, some (.int v4), none, none, none] [.int s136_0] := by
  unfold jn_X8_isSendSo_136 at hw
  refine z_istore C dX8_isSendSo_136 [some (.ref (gx 0)), none, none, none, some (.int v4), none, some (.int s136_0), none] (by decide) rfl ?_
  refine z_aload_n C dX8_isSendSo_138 rfl ?_
  refine z_callV0 C [(wX cI gx w0)] [] rfl rfl (met_X6_undo l D cI gx w0 _ hw) y_X6_undo mw_15_11 dX8_isSendSo_139 rfl n_X6_undo rfl (by decide) ⟨rfl, rfl, Nat.le_of_ble_eq_true rfl, Nat.le_of_ble_eq_true rfl⟩ (Nat.le_of_ble_eq_true rfl) (z_pm [0] 1 rfl (by decide) rfl) ?_
  intro ⟨r8, u9⟩ hw
  try dsimp only at hw
  refine z_bs [(wX cI gx u9)] [.int r8] rfl rfl ?_
  refine z_istore C dX8_isSendSo_142 [some (.ref (gx 0)), none, none, none, some (.int v4), none, some (.int s136_0), some (.int r8)] (by decide) rfl ?_
  refine z_iload C dX8_isSendSo_144 rfl ?_
  refine z_if_eq C dX8_isSendSo_146 168 (by decide) (fun c10 => ?_) (fun c10 => ?_)
  · replace hw := hw.1 c10
    refine z_iconst C dX8_isSendSo_168 0 (by decide +kernel) ?_
    exact z_zret C rfl (by decide) (0, u9) rfl hw rfl dX8_isSendSo_169
  · replace hw := hw.2 c10
    refine z_iload C dX8_isSendSo_149 rfl ?_
    refine z_if_lt C dX8_isSendSo_151 168 (by decide) (fun c11 => ?_) (fun c11 => ?_)
    · replace hw := hw.1 c11
      refine z_iconst C dX8_isSendSo_168 0 (by decide +kernel) ?_
      exact z_zret C rfl (by decide) (0, u9) rfl hw rfl dX8_isSendSo_169
    · replace hw := hw.2 c11
      refine z_aload_n C dX8_isSendSo_154 rfl ?_
      refine z_iconst C dX8_isSendSo_155 0 (by decide +kernel) ?_
      refine z_callV0 C [(wX cI gx u9)] [] rfl rfl (met_X6_count l D cI gx u9 0 _ hw) y_X6_count mw_13_7 dX8_isSendSo_156 rfl n_X6_count rfl (by decide) ⟨rfl, rfl, Nat.le_of_ble_eq_true rfl, Nat.le_of_ble_eq_true rfl⟩ (Nat.le_of_ble_eq_true rfl) (z_pm [0] 1 rfl (by decide) rfl) ?_
      intro r12 hw
      try dsimp only at hw
      refine z_bs [(wX cI gx u9)] [.int r12] rfl rfl ?_
      refine z_iload C dX8_isSendSo_159 rfl ?_
      refine z_icmp_ne C dX8_isSendSo_161 168 (by decide) (fun c13 => ?_) (fun c13 => ?_)
      · replace hw := hw.1 c13
        refine z_iconst C dX8_isSendSo_168 0 (by decide +kernel) ?_
        exact z_zret C rfl (by decide) (0, u9) rfl hw rfl dX8_isSendSo_169
      · replace hw := hw.2 c13
        refine z_iconst C dX8_isSendSo_164 1 (by decide +kernel) ?_
        refine z_goto C dX8_isSendSo_165 169 (by decide) ?_
        exact z_zret C rfl (by decide) (1, u9) rfl hw rfl dX8_isSendSo_169
def jn_X8_isSendSo_135 (x : zX) (p2 : Int32) (v4 : Int32) (w0 : zX)  (Q : Int32 → zX → Prop)  : Prop := (jn_X8_isSendSo_136 x p2 v4 w0 0 Q )
set_option maxHeartbeats 4000000 in
set_option maxRecDepth 100000 in
theorem wk_X8_isSendSo_135 {p : Program} {l : Launch} {e : Env} {s : State} {m : MethodId} {args : Array Value} {below : List Frame} {meth : Method} {c : Code} {D : va_G} {cI : ClassId} {A : Nat → Prop} (C : ZC p s m args meth c RX8 cX8_isSendSo 8 (some .boolean) D cI A) (gx : Nat → Nat) (x : zX) (p2 : Int32) (v4 : Int32) (w0 : zX)  (Q : Int32 → zX → Prop)  (hw : jn_X8_isSendSo_135 x p2 v4 w0  Q ) : ZZ p l e rmX8_isSendSo s m args below meth c D A 8 0 0 (MQ below (ZQ D A (fun u : Int32 × zX => some (.int u.1)) (fun u : Int32 × zX => [(wX cI gx (u.2))]) (fun u : Int32 × zX => Q u.1 u.2)) args s rmX8_isSendSo.cells rmX8_isSendSo.slots A) [(wX cI gx w0)] 135 [some (.ref (gx 0)), none, none, none, some (.int v4), none, none, none] [] := by
  unfold jn_X8_isSendSo_135 at hw
  refine z_iconst C dX8_isSendSo_135 0 (by decide +kernel) ?_
  exact wk_X8_isSendSo_136 C gx x p2 v4 w0 0 _  hw
def jn_X8_isSendSo_56 (x : zX) (p2 : Int32) (v4 : Int32) (v5 : Int32) (w0 : zX) (s56_0 : Int32) (s56_1 : Int32) (Q : Int32 → zX → Prop)  : Prop := ((¬ s56_1 = s56_0 → (Q 0 w0)) ∧ (s56_1 = s56_0 → ((v5 = (-2) → (Q 1 w0)) ∧ (¬ v5 = (-2) → ((¬ v4 = 60 → (Q 0 w0)) ∧ (v4 = 60 → (Q 1 w0)))))))
set_option maxHeartbeats 4000000 in
set_option maxRecDepth 100000 in
theorem wk_X8_isSendSo_56 {p : Program} {l : Launch} {e : Env} {s : State} {m : MethodId} {args : Array Value} {below : List Frame} {meth : Method} {c : Code} {D : va_G} {cI : ClassId} {A : Nat → Prop} (C : ZC p s m args meth c RX8 cX8_isSendSo 8 (some .boolean) D cI A) (gx : Nat → Nat) (x : zX) (p2 : Int32) (v4 : Int32) (v5 : Int32) (w0 : zX) (s56_0 : Int32) (s56_1 : Int32) (Q : Int32 → zX → Prop)  (hw : jn_X8_isSendSo_56 x p2 v4 v5 w0 s56_0 s56_1 Q ) : ZZ p l e rmX8_isSendSo s m args below meth c D A 8 0 0 (MQ below (ZQ D A (fun u : Int32 × zX => some (.int u.1)) (fun u : Int32 × zX => [(wX cI gx (u.2))]) (fun u : Int32 × zX => Q u.1 u.2)) args s rmX8_isSendSo.cells rmX8_isSendSo.slots A) [(wX cI gx w0)] 56 [none, none, none, none, some (.int v4), some (.int v5), none, none] [.int s56_0, .int s56_1] := by
  unfold jn_X8_isSendSo_56 at hw
  refine z_icmp_ne C dX8_isSendSo_56 77 (by decide) (fun c24 => ?_) (fun c24 => ?_)
  · replace hw := hw.1 c24
    refine z_iconst C dX8_isSendSo_77 0 (by decide +kernel) ?_
    exact z_zret C rfl (by decide) (0, w0) rfl hw rfl dX8_isSendSo_78
  · replace hw := hw.2 c24
    refine z_iload C dX8_isSendSo_59 rfl ?_
    refine z_bipush C dX8_isSendSo_61 (-2) (by decide +kernel) ?_
    refine z_icmp_eq C dX8_isSendSo_63 73 (by decide) (fun c25 => ?_) (fun c25 => ?_)
    · replace hw := hw.1 c25
      refine z_iconst C dX8_isSendSo_73 1 (by decide +kernel) ?_
      refine z_goto C dX8_isSendSo_74 78 (by decide) ?_
      exact z_zret C rfl (by decide) (1, w0) rfl hw rfl dX8_isSendSo_78
    · replace hw := hw.2 c25
      refine z_iload C dX8_isSendSo_66 rfl ?_
      refine z_bipush C dX8_isSendSo_68 60 (by decide +kernel) ?_
      refine z_icmp_ne C dX8_isSendSo_70 77 (by decide) (fun c26 => ?_) (fun c26 => ?_)
      · replace hw := hw.1 c26
        refine z_iconst C dX8_isSendSo_77 0 (by decide +kernel) ?_
        exact z_zret C rfl (by decide) (0, w0) rfl hw rfl dX8_isSendSo_78
      · replace hw := hw.2 c26
        refine z_iconst C dX8_isSendSo_73 1 (by decide +kernel) ?_
        refine z_goto C dX8_isSendSo_74 78 (by decide) ?_
        exact z_zret C rfl (by decide) (1, w0) rfl hw rfl dX8_isSendSo_78
def jn_X8_isSendSo_45 (x : zX) (p2 : Int32) (v2 : Int32) (v4 : Int32) (v5 : Int32) (w0 : zX) (s45_0 : Int32) (Q : Int32 → zX → Prop)  : Prop := ((¬ v2 = (-2) → (jn_X8_isSendSo_56 x p2 v4 v5 w0 0 s45_0 Q )) ∧ (v2 = (-2) → (jn_X8_isSendSo_56 x p2 v4 v5 w0 1 s45_0 Q )))
set_option maxHeartbeats 4000000 in
set_option maxRecDepth 100000 in
theorem wk_X8_isSendSo_45 {p : Program} {l : Launch} {e : Env} {s : State} {m : MethodId} {args : Array Value} {below : List Frame} {meth : Method} {c : Code} {D : va_G} {cI : ClassId} {A : Nat → Prop} (C : ZC p s m args meth c RX8 cX8_isSendSo 8 (some .boolean) D cI A) (gx : Nat → Nat) (x : zX) (p2 : Int32) (v2 : Int32) (v4 : Int32) (v5 : Int32) (w0 : zX) (s45_0 : Int32) (Q : Int32 → zX → Prop)  (hw : jn_X8_isSendSo_45 x p2 v2 v4 v5 w0 s45_0 Q ) : ZZ p l e rmX8_isSendSo s m args below meth c D A 8 0 0 (MQ below (ZQ D A (fun u : Int32 × zX => some (.int u.1)) (fun u : Int32 × zX => [(wX cI gx (u.2))]) (fun u : Int32 × zX => Q u.1 u.2)) args s rmX8_isSendSo.cells rmX8_isSendSo.slots A) [(wX cI gx w0)] 45 [none, none, some (.int v2), none, some (.int v4), some (.int v5), none, none] [.int s45_0] := by
  unfold jn_X8_isSendSo_45 at hw
  refine z_iload_n C dX8_isSendSo_45 rfl ?_
  refine z_bipush C dX8_isSendSo_46 (-2) (by decide +kernel) ?_
  refine z_icmp_ne C dX8_isSendSo_48 55 (by decide) (fun c23 => ?_) (fun c23 => ?_)
  · replace hw := hw.1 c23
    refine z_iconst C dX8_isSendSo_55 0 (by decide +kernel) ?_
    refine z_ls C [false, false, false, false, true, true, false, false] [none, none, none, none, some (.int v4), some (.int v5), none, none] rfl ?_
    exact wk_X8_isSendSo_56 C gx x p2 v4 v5 w0 0 s45_0 _  hw
  · replace hw := hw.2 c23
    refine z_iconst C dX8_isSendSo_51 1 (by decide +kernel) ?_
    refine z_goto C dX8_isSendSo_52 56 (by decide) ?_
    refine z_ls C [false, false, false, false, true, true, false, false] [none, none, none, none, some (.int v4), some (.int v5), none, none] rfl ?_
    exact wk_X8_isSendSo_56 C gx x p2 v4 v5 w0 1 s45_0 _  hw
def wp_X8_isSendSo (x : zX) (p2 : Int32) (Q : Int32 → zX → Prop) : Prop := (wp_X6_wouldSend x p2 0 (fun r1 => (wp_X6_wouldSend x p2 1 (fun r2 => (wp_X6_count x 0 (fun r3 => (wp_X6_send x p2 (fun r4 u5 => ((0 ≤ r4 → ((¬ r4 = (r3 + 1) → (jn_X8_isSendSo_135 x p2 r3 u5  Q )) ∧ (r4 = (r3 + 1) → (wp_X6_logOf u5 r3 0 (fun r14 => ((¬ r14 = r1 → (jn_X8_isSendSo_135 x p2 r3 u5  Q )) ∧ (r14 = r1 → (wp_X6_logOf u5 r3 1 (fun r16 => ((¬ r16 = r2 → (jn_X8_isSendSo_135 x p2 r3 u5  Q )) ∧ (r16 = r2 → (wp_X6_logOf u5 r3 3 (fun r18 => ((¬ r18 = p2 → (jn_X8_isSendSo_135 x p2 r3 u5  Q )) ∧ (r18 = p2 → (wp_X6_editorOf u5 p2 2 (fun r20 => ((¬ r20 = 1 → (jn_X8_isSendSo_135 x p2 r3 u5  Q )) ∧ (r20 = 1 → (jn_X8_isSendSo_136 x p2 r3 u5 1 Q )))))))))))))))))))) ∧ (¬ 0 ≤ r4 → ((¬ r4 = (-2) → (jn_X8_isSendSo_45 x p2 r1 r3 r4 u5 0 Q )) ∧ (r4 = (-2) → (jn_X8_isSendSo_45 x p2 r1 r3 r4 u5 1 Q )))))))))))))
set_option maxHeartbeats 4000000 in
set_option maxRecDepth 100000 in
theorem met_X8_isSendSo (l : Launch) (D : va_G) (cI : ClassId) (gx : Nat → Nat) (x : zX) (p2 : Int32) (Q : Int32 → zX → Prop) (hw : wp_X8_isSendSo x p2 Q) : ZM l D cI yX8_isSendSo cX8_isSendSo 8 (some .boolean) rmX8_isSendSo [.ref (gx 0), .int p2] [(wX cI gx x)] (fun u : Int32 × zX => some (.int u.1)) (fun u : Int32 × zX => [(wX cI gx (u.2))]) (fun u : Int32 × zX => Q u.1 u.2) := by
  refine z_body [some (.ref (gx 0)), some (.int p2), none, none, none, none, none, none] (by decide +kernel) rfl (Nat.le_of_ble_eq_true rfl) rfl ?_
  intro p e s m args below meth c A C hin
  unfold wp_X8_isSendSo at hw
  refine z_aload_n C dX8_isSendSo_0 rfl ?_
  refine z_iload_n C dX8_isSendSo_1 rfl ?_
  refine z_iconst C dX8_isSendSo_2 0 (by decide +kernel) ?_
  refine z_callV0 C [(wX cI gx x)] [] rfl rfl (met_X6_wouldSend l D cI gx x p2 0 _ hw) y_X6_wouldSend mw_15_5 dX8_isSendSo_3 rfl n_X6_wouldSend rfl (by decide) ⟨rfl, rfl, Nat.le_of_ble_eq_true rfl, Nat.le_of_ble_eq_true rfl⟩ (Nat.le_of_ble_eq_true rfl) (z_pm [0] 1 rfl (by decide) rfl) ?_
  intro r1 hw
  try dsimp only at hw
  refine z_bs [(wX cI gx x)] [.int r1] rfl rfl ?_
  refine z_istore_n C dX8_isSendSo_6 [some (.ref (gx 0)), some (.int p2), some (.int r1), none, none, none, none, none] (by decide) rfl ?_
  refine z_aload_n C dX8_isSendSo_7 rfl ?_
  refine z_iload_n C dX8_isSendSo_8 rfl ?_
  refine z_iconst C dX8_isSendSo_9 1 (by decide +kernel) ?_
  refine z_callV0 C [(wX cI gx x)] [] rfl rfl (met_X6_wouldSend l D cI gx x p2 1 _ hw) y_X6_wouldSend mw_15_5 dX8_isSendSo_10 rfl n_X6_wouldSend rfl (by decide) ⟨rfl, rfl, Nat.le_of_ble_eq_true rfl, Nat.le_of_ble_eq_true rfl⟩ (Nat.le_of_ble_eq_true rfl) (z_pm [0] 1 rfl (by decide) rfl) ?_
  intro r2 hw
  try dsimp only at hw
  refine z_bs [(wX cI gx x)] [.int r2] rfl rfl ?_
  refine z_istore_n C dX8_isSendSo_13 [some (.ref (gx 0)), some (.int p2), some (.int r1), some (.int r2), none, none, none, none] (by decide) rfl ?_
  refine z_aload_n C dX8_isSendSo_14 rfl ?_
  refine z_iconst C dX8_isSendSo_15 0 (by decide +kernel) ?_
  refine z_callV0 C [(wX cI gx x)] [] rfl rfl (met_X6_count l D cI gx x 0 _ hw) y_X6_count mw_13_7 dX8_isSendSo_16 rfl n_X6_count rfl (by decide) ⟨rfl, rfl, Nat.le_of_ble_eq_true rfl, Nat.le_of_ble_eq_true rfl⟩ (Nat.le_of_ble_eq_true rfl) (z_pm [0] 1 rfl (by decide) rfl) ?_
  intro r3 hw
  try dsimp only at hw
  refine z_bs [(wX cI gx x)] [.int r3] rfl rfl ?_
  refine z_istore C dX8_isSendSo_19 [some (.ref (gx 0)), some (.int p2), some (.int r1), some (.int r2), some (.int r3), none, none, none] (by decide) rfl ?_
  refine z_aload_n C dX8_isSendSo_21 rfl ?_
  refine z_iload_n C dX8_isSendSo_22 rfl ?_
  refine z_callV0 C [(wX cI gx x)] [] rfl rfl (met_X6_send l D cI gx x p2 _ hw) y_X6_send mw_12_16 dX8_isSendSo_23 rfl n_X6_send rfl (by decide) ⟨rfl, rfl, Nat.le_of_ble_eq_true rfl, Nat.le_of_ble_eq_true rfl⟩ (Nat.le_of_ble_eq_true rfl) (z_pm [0] 1 rfl (by decide) rfl) ?_
  intro ⟨r4, u5⟩ hw
  try dsimp only at hw
  refine z_bs [(wX cI gx u5)] [.int r4] rfl rfl ?_
  refine z_istore C dX8_isSendSo_26 [some (.ref (gx 0)), some (.int p2), some (.int r1), some (.int r2), some (.int r3), some (.int r4), none, none] (by decide) rfl ?_
  refine z_iload C dX8_isSendSo_28 rfl ?_
  refine z_if_ge C dX8_isSendSo_30 79 (by decide) (fun c6 => ?_) (fun c6 => ?_)
  · replace hw := hw.1 c6
    refine z_iload C dX8_isSendSo_79 rfl ?_
    refine z_iload C dX8_isSendSo_81 rfl ?_
    refine z_iconst C dX8_isSendSo_83 1 (by decide +kernel) ?_
    refine z_iadd C dX8_isSendSo_84 ?_
    refine z_icmp_ne C dX8_isSendSo_85 135 (by decide) (fun c7 => ?_) (fun c7 => ?_)
    · replace hw := hw.1 c7
      refine z_ls C [true, false, false, false, true, false, false, false] [some (.ref (gx 0)), none, none, none, some (.int r3), none, none, none] rfl ?_
      exact wk_X8_isSendSo_135 C gx x p2 r3 u5  _  hw
    · replace hw := hw.2 c7
      refine z_aload_n C dX8_isSendSo_88 rfl ?_
      refine z_iload C dX8_isSendSo_89 rfl ?_
      refine z_iconst C dX8_isSendSo_91 0 (by decide +kernel) ?_
      refine z_callV0 C [(wX cI gx u5)] [] rfl rfl (met_X6_logOf l D cI gx u5 r3 0 _ hw) y_X6_logOf mw_14_4 dX8_isSendSo_92 rfl n_X6_logOf rfl (by decide) ⟨rfl, rfl, Nat.le_of_ble_eq_true rfl, Nat.le_of_ble_eq_true rfl⟩ (Nat.le_of_ble_eq_true rfl) (z_pm [0] 1 rfl (by decide) rfl) ?_
      intro r14 hw
      try dsimp only at hw
      refine z_bs [(wX cI gx u5)] [.int r14] rfl rfl ?_
      refine z_iload_n C dX8_isSendSo_95 rfl ?_
      refine z_icmp_ne C dX8_isSendSo_96 135 (by decide) (fun c15 => ?_) (fun c15 => ?_)
      · replace hw := hw.1 c15
        refine z_ls C [true, false, false, false, true, false, false, false] [some (.ref (gx 0)), none, none, none, some (.int r3), none, none, none] rfl ?_
        exact wk_X8_isSendSo_135 C gx x p2 r3 u5  _  hw
      · replace hw := hw.2 c15
        refine z_aload_n C dX8_isSendSo_99 rfl ?_
        refine z_iload C dX8_isSendSo_100 rfl ?_
        refine z_iconst C dX8_isSendSo_102 1 (by decide +kernel) ?_
        refine z_callV0 C [(wX cI gx u5)] [] rfl rfl (met_X6_logOf l D cI gx u5 r3 1 _ hw) y_X6_logOf mw_14_4 dX8_isSendSo_103 rfl n_X6_logOf rfl (by decide) ⟨rfl, rfl, Nat.le_of_ble_eq_true rfl, Nat.le_of_ble_eq_true rfl⟩ (Nat.le_of_ble_eq_true rfl) (z_pm [0] 1 rfl (by decide) rfl) ?_
        intro r16 hw
        try dsimp only at hw
        refine z_bs [(wX cI gx u5)] [.int r16] rfl rfl ?_
        refine z_iload_n C dX8_isSendSo_106 rfl ?_
        refine z_icmp_ne C dX8_isSendSo_107 135 (by decide) (fun c17 => ?_) (fun c17 => ?_)
        · replace hw := hw.1 c17
          refine z_ls C [true, false, false, false, true, false, false, false] [some (.ref (gx 0)), none, none, none, some (.int r3), none, none, none] rfl ?_
          exact wk_X8_isSendSo_135 C gx x p2 r3 u5  _  hw
        · replace hw := hw.2 c17
          refine z_aload_n C dX8_isSendSo_110 rfl ?_
          refine z_iload C dX8_isSendSo_111 rfl ?_
          refine z_iconst C dX8_isSendSo_113 3 (by decide +kernel) ?_
          refine z_callV0 C [(wX cI gx u5)] [] rfl rfl (met_X6_logOf l D cI gx u5 r3 3 _ hw) y_X6_logOf mw_14_4 dX8_isSendSo_114 rfl n_X6_logOf rfl (by decide) ⟨rfl, rfl, Nat.le_of_ble_eq_true rfl, Nat.le_of_ble_eq_true rfl⟩ (Nat.le_of_ble_eq_true rfl) (z_pm [0] 1 rfl (by decide) rfl) ?_
          intro r18 hw
          try dsimp only at hw
          refine z_bs [(wX cI gx u5)] [.int r18] rfl rfl ?_
          refine z_iload_n C dX8_isSendSo_117 rfl ?_
          refine z_icmp_ne C dX8_isSendSo_118 135 (by decide) (fun c19 => ?_) (fun c19 => ?_)
          · replace hw := hw.1 c19
            refine z_ls C [true, false, false, false, true, false, false, false] [some (.ref (gx 0)), none, none, none, some (.int r3), none, none, none] rfl ?_
            exact wk_X8_isSendSo_135 C gx x p2 r3 u5  _  hw
          · replace hw := hw.2 c19
            refine z_aload_n C dX8_isSendSo_121 rfl ?_
            refine z_iload_n C dX8_isSendSo_122 rfl ?_
            refine z_iconst C dX8_isSendSo_123 2 (by decide +kernel) ?_
            refine z_callV0 C [(wX cI gx u5)] [] rfl rfl (met_X6_editorOf l D cI gx u5 p2 2 _ hw) y_X6_editorOf mw_4_16 dX8_isSendSo_124 rfl n_X6_editorOf rfl (by decide) ⟨rfl, rfl, Nat.le_of_ble_eq_true rfl, Nat.le_of_ble_eq_true rfl⟩ (Nat.le_of_ble_eq_true rfl) (z_pm [0] 1 rfl (by decide) rfl) ?_
            intro r20 hw
            try dsimp only at hw
            refine z_bs [(wX cI gx u5)] [.int r20] rfl rfl ?_
            refine z_iconst C dX8_isSendSo_127 1 (by decide +kernel) ?_
            refine z_icmp_ne C dX8_isSendSo_128 135 (by decide) (fun c21 => ?_) (fun c21 => ?_)
            · replace hw := hw.1 c21
              refine z_ls C [true, false, false, false, true, false, false, false] [some (.ref (gx 0)), none, none, none, some (.int r3), none, none, none] rfl ?_
              exact wk_X8_isSendSo_135 C gx x p2 r3 u5  _  hw
            · replace hw := hw.2 c21
              refine z_iconst C dX8_isSendSo_131 1 (by decide +kernel) ?_
              refine z_goto C dX8_isSendSo_132 136 (by decide) ?_
              refine z_ls C [true, false, false, false, true, false, false, false] [some (.ref (gx 0)), none, none, none, some (.int r3), none, none, none] rfl ?_
              exact wk_X8_isSendSo_136 C gx x p2 r3 u5 1 _  hw
  · replace hw := hw.2 c6
    refine z_iload C dX8_isSendSo_33 rfl ?_
    refine z_bipush C dX8_isSendSo_35 (-2) (by decide +kernel) ?_
    refine z_icmp_ne C dX8_isSendSo_37 44 (by decide) (fun c22 => ?_) (fun c22 => ?_)
    · replace hw := hw.1 c22
      refine z_iconst C dX8_isSendSo_44 0 (by decide +kernel) ?_
      refine z_ls C [false, false, true, false, true, true, false, false] [none, none, some (.int r1), none, some (.int r3), some (.int r4), none, none] rfl ?_
      exact wk_X8_isSendSo_45 C gx x p2 r1 r3 r4 u5 0 _  hw
    · replace hw := hw.2 c22
      refine z_iconst C dX8_isSendSo_40 1 (by decide +kernel) ?_
      refine z_goto C dX8_isSendSo_41 45 (by decide) ?_
      refine z_ls C [false, false, true, false, true, true, false, false] [none, none, some (.int r1), none, some (.int r3), some (.int r4), none, none] rfl ?_
      exact wk_X8_isSendSo_45 C gx x p2 r1 r3 r4 u5 1 _  hw
def rmX8_isBackSo : Room := { frames := 7, cells := 0, slots := 0, locals := 171 }
def jn_X8_isBackSo_224 (x : zX) (p2 : Int32) (p3 : Int32) (v7 : Int32) (v8 : Int32) (w0 : zX)  (Q : Int32 → zX → Prop)  : Prop := ((v7 = 0 → (Q 0 w0)) ∧ (¬ v7 = 0 → ((v8 < 0 → (Q 0 w0)) ∧ (¬ v8 < 0 → (Q 1 w0)))))
set_option maxHeartbeats 4000000 in
set_option maxRecDepth 100000 in
theorem wk_X8_isBackSo_224 {p : Program} {l : Launch} {e : Env} {s : State} {m : MethodId} {args : Array Value} {below : List Frame} {meth : Method} {c : Code} {D : va_G} {cI : ClassId} {A : Nat → Prop} (C : ZC p s m args meth c RX8 cX8_isBackSo 9 (some .boolean) D cI A) (gx : Nat → Nat) (x : zX) (p2 : Int32) (p3 : Int32) (v7 : Int32) (v8 : Int32) (w0 : zX)  (Q : Int32 → zX → Prop)  (hw : jn_X8_isBackSo_224 x p2 p3 v7 v8 w0  Q ) : ZZ p l e rmX8_isBackSo s m args below meth c D A 9 0 0 (MQ below (ZQ D A (fun u : Int32 × zX => some (.int u.1)) (fun u : Int32 × zX => [(wX cI gx (u.2))]) (fun u : Int32 × zX => Q u.1 u.2)) args s rmX8_isBackSo.cells rmX8_isBackSo.slots A) [(wX cI gx w0)] 224 [none, none, none, none, none, none, none, some (.int v7), some (.int v8)] [] := by
  unfold jn_X8_isBackSo_224 at hw
  refine z_iload C dX8_isBackSo_224 rfl ?_
  refine z_if_eq C dX8_isBackSo_226 238 (by decide) (fun c17 => ?_) (fun c17 => ?_)
  · replace hw := hw.1 c17
    refine z_iconst C dX8_isBackSo_238 0 (by decide +kernel) ?_
    exact z_zret C rfl (by decide) (0, w0) rfl hw rfl dX8_isBackSo_239
  · replace hw := hw.2 c17
    refine z_iload C dX8_isBackSo_229 rfl ?_
    refine z_if_lt C dX8_isBackSo_231 238 (by decide) (fun c18 => ?_) (fun c18 => ?_)
    · replace hw := hw.1 c18
      refine z_iconst C dX8_isBackSo_238 0 (by decide +kernel) ?_
      exact z_zret C rfl (by decide) (0, w0) rfl hw rfl dX8_isBackSo_239
    · replace hw := hw.2 c18
      refine z_iconst C dX8_isBackSo_234 1 (by decide +kernel) ?_
      refine z_goto C dX8_isBackSo_235 239 (by decide) ?_
      exact z_zret C rfl (by decide) (1, w0) rfl hw rfl dX8_isBackSo_239
def jn_X8_isBackSo_210 (x : zX) (p2 : Int32) (p3 : Int32) (w0 : zX) (s210_0 : Int32) (Q : Int32 → zX → Prop)  : Prop := (wp_X6_undo w0 (fun r20 u21 => (wp_X6_undo u21 (fun r22 u23 => (jn_X8_isBackSo_224 x p2 p3 s210_0 r22 u23  Q )))))
set_option maxHeartbeats 4000000 in
set_option maxRecDepth 100000 in
theorem wk_X8_isBackSo_210 {p : Program} {l : Launch} {e : Env} {s : State} {m : MethodId} {args : Array Value} {below : List Frame} {meth : Method} {c : Code} {D : va_G} {cI : ClassId} {A : Nat → Prop} (C : ZC p s m args meth c RX8 cX8_isBackSo 9 (some .boolean) D cI A) (gx : Nat → Nat) (x : zX) (p2 : Int32) (p3 : Int32) (w0 : zX) (s210_0 : Int32) (Q : Int32 → zX → Prop)  (hw : jn_X8_isBackSo_210 x p2 p3 w0 s210_0 Q ) : ZZ p l e rmX8_isBackSo s m args below meth c D A 9 0 0 (MQ below (ZQ D A (fun u : Int32 × zX => some (.int u.1)) (fun u : Int32 × zX => [(wX cI gx (u.2))]) (fun u : Int32 × zX => Q u.1 u.2)) args s rmX8_isBackSo.cells rmX8_isBackSo.slots A) [(wX cI gx w0)] 210 [some (.ref (gx 0)), none, none, none, none, none, none, none, none] [.int s210_0] := by
  unfold jn_X8_isBackSo_210 at hw
  refine z_istore C dX8_isBackSo_210 [some (.ref (gx 0)), none, none, none, none, none, none, some (.int s210_0), none] (by decide) rfl ?_
  refine z_aload_n C dX8_isBackSo_212 rfl ?_
  refine z_callV0 C [(wX cI gx w0)] [] rfl rfl (met_X6_undo l D cI gx w0 _ hw) y_X6_undo mw_15_11 dX8_isBackSo_213 rfl n_X6_undo rfl (by decide) ⟨rfl, rfl, Nat.le_of_ble_eq_true rfl, Nat.le_of_ble_eq_true rfl⟩ (Nat.le_of_ble_eq_true rfl) (z_pm [0] 1 rfl (by decide) rfl) ?_
  intro ⟨r20, u21⟩ hw
  try dsimp only at hw
  refine z_bs [(wX cI gx u21)] [.int r20] rfl rfl ?_
  refine z_istore C dX8_isBackSo_216 [some (.ref (gx 0)), none, none, none, none, none, none, some (.int s210_0), some (.int r20)] (by decide) rfl ?_
  refine z_aload_n C dX8_isBackSo_218 rfl ?_
  refine z_callV0 C [(wX cI gx u21)] [] rfl rfl (met_X6_undo l D cI gx u21 _ hw) y_X6_undo mw_15_11 dX8_isBackSo_219 rfl n_X6_undo rfl (by decide) ⟨rfl, rfl, Nat.le_of_ble_eq_true rfl, Nat.le_of_ble_eq_true rfl⟩ (Nat.le_of_ble_eq_true rfl) (z_pm [0] 1 rfl (by decide) rfl) ?_
  intro ⟨r22, u23⟩ hw
  try dsimp only at hw
  refine z_bs [(wX cI gx u23)] [.int r22] rfl rfl ?_
  refine z_istore C dX8_isBackSo_222 [some (.ref (gx 0)), none, none, none, none, none, none, some (.int s210_0), some (.int r22)] (by decide) rfl ?_
  refine z_ls C [false, false, false, false, false, false, false, true, true] [none, none, none, none, none, none, none, some (.int s210_0), some (.int r22)] rfl ?_
  exact wk_X8_isBackSo_224 C gx x p2 p3 s210_0 r22 u23  _  hw
def jn_X8_isBackSo_209 (x : zX) (p2 : Int32) (p3 : Int32) (w0 : zX)  (Q : Int32 → zX → Prop)  : Prop := (jn_X8_isBackSo_210 x p2 p3 w0 0 Q )
set_option maxHeartbeats 4000000 in
set_option maxRecDepth 100000 in
theorem wk_X8_isBackSo_209 {p : Program} {l : Launch} {e : Env} {s : State} {m : MethodId} {args : Array Value} {below : List Frame} {meth : Method} {c : Code} {D : va_G} {cI : ClassId} {A : Nat → Prop} (C : ZC p s m args meth c RX8 cX8_isBackSo 9 (some .boolean) D cI A) (gx : Nat → Nat) (x : zX) (p2 : Int32) (p3 : Int32) (w0 : zX)  (Q : Int32 → zX → Prop)  (hw : jn_X8_isBackSo_209 x p2 p3 w0  Q ) : ZZ p l e rmX8_isBackSo s m args below meth c D A 9 0 0 (MQ below (ZQ D A (fun u : Int32 × zX => some (.int u.1)) (fun u : Int32 × zX => [(wX cI gx (u.2))]) (fun u : Int32 × zX => Q u.1 u.2)) args s rmX8_isBackSo.cells rmX8_isBackSo.slots A) [(wX cI gx w0)] 209 [some (.ref (gx 0)), none, none, none, none, none, none, none, none] [] := by
  unfold jn_X8_isBackSo_209 at hw
  refine z_iconst C dX8_isBackSo_209 0 (by decide +kernel) ?_
  exact wk_X8_isBackSo_210 C gx x p2 p3 w0 0 _  hw
def jn_X8_isBackSo_124 (x : zX) (p2 : Int32) (p3 : Int32) (v3 : Int32) (v4 : Int32) (v5 : Int32) (v6 : Int32) (w0 : zX) (s124_0 : Int32) (Q : Int32 → zX → Prop)  : Prop := (wp_X6_undo w0 (fun r12 u13 => (wp_X6_undo u13 (fun r14 u15 => ((v3 ≤ v4 → (jn_X8_isBackSo_224 x p2 p3 s124_0 r14 u15  Q )) ∧ (¬ v3 ≤ v4 → ((s124_0 = 0 → (jn_X8_isBackSo_209 x p2 p3 u15  Q )) ∧ (¬ s124_0 = 0 → (wp_X6_delete u15 p2 v4 (fun r24 u25 => ((¬ r24 = v5 → (jn_X8_isBackSo_209 x p2 p3 u25  Q )) ∧ (r24 = v5 → (wp_X6_takeBack u25 p2 (fun r27 u28 => ((¬ r27 = 1 → (jn_X8_isBackSo_209 x p2 p3 u28  Q )) ∧ (r27 = 1 → (wp_X6_letter u28 p2 v4 (fun r30 => ((¬ r30 = v5 → (jn_X8_isBackSo_209 x p2 p3 u28  Q )) ∧ (r30 = v5 → (wp_X6_letter u28 p2 (v3 - 1) (fun r32 => ((¬ r32 = v6 → (jn_X8_isBackSo_209 x p2 p3 u28  Q )) ∧ (r32 = v6 → (wp_X6_editorOf u28 p2 0 (fun r34 => ((¬ r34 = v3 → (jn_X8_isBackSo_209 x p2 p3 u28  Q )) ∧ (r34 = v3 → (jn_X8_isBackSo_210 x p2 p3 u28 1 Q )))))))))))))))))))))))))))))
set_option maxHeartbeats 4000000 in
set_option maxRecDepth 100000 in
theorem wk_X8_isBackSo_124 {p : Program} {l : Launch} {e : Env} {s : State} {m : MethodId} {args : Array Value} {below : List Frame} {meth : Method} {c : Code} {D : va_G} {cI : ClassId} {A : Nat → Prop} (C : ZC p s m args meth c RX8 cX8_isBackSo 9 (some .boolean) D cI A) (gx : Nat → Nat) (x : zX) (p2 : Int32) (p3 : Int32) (v3 : Int32) (v4 : Int32) (v5 : Int32) (v6 : Int32) (w0 : zX) (s124_0 : Int32) (Q : Int32 → zX → Prop)  (hw : jn_X8_isBackSo_124 x p2 p3 v3 v4 v5 v6 w0 s124_0 Q ) : ZZ p l e rmX8_isBackSo s m args below meth c D A 9 0 0 (MQ below (ZQ D A (fun u : Int32 × zX => some (.int u.1)) (fun u : Int32 × zX => [(wX cI gx (u.2))]) (fun u : Int32 × zX => Q u.1 u.2)) args s rmX8_isBackSo.cells rmX8_isBackSo.slots A) [(wX cI gx w0)] 124 [some (.ref (gx 0)), some (.int p2), none, some (.int v3), some (.int v4), some (.int v5), some (.int v6), none, none] [.int s124_0] := by
  unfold jn_X8_isBackSo_124 at hw
  refine z_istore C dX8_isBackSo_124 [some (.ref (gx 0)), some (.int p2), none, some (.int v3), some (.int v4), some (.int v5), some (.int v6), some (.int s124_0), none] (by decide) rfl ?_
  refine z_aload_n C dX8_isBackSo_126 rfl ?_
  refine z_callV0 C [(wX cI gx w0)] [] rfl rfl (met_X6_undo l D cI gx w0 _ hw) y_X6_undo mw_15_11 dX8_isBackSo_127 rfl n_X6_undo rfl (by decide) ⟨rfl, rfl, Nat.le_of_ble_eq_true rfl, Nat.le_of_ble_eq_true rfl⟩ (Nat.le_of_ble_eq_true rfl) (z_pm [0] 1 rfl (by decide) rfl) ?_
  intro ⟨r12, u13⟩ hw
  try dsimp only at hw
  refine z_bs [(wX cI gx u13)] [.int r12] rfl rfl ?_
  refine z_istore C dX8_isBackSo_130 [some (.ref (gx 0)), some (.int p2), none, some (.int v3), some (.int v4), some (.int v5), some (.int v6), some (.int s124_0), some (.int r12)] (by decide) rfl ?_
  refine z_aload_n C dX8_isBackSo_132 rfl ?_
  refine z_callV0 C [(wX cI gx u13)] [] rfl rfl (met_X6_undo l D cI gx u13 _ hw) y_X6_undo mw_15_11 dX8_isBackSo_133 rfl n_X6_undo rfl (by decide) ⟨rfl, rfl, Nat.le_of_ble_eq_true rfl, Nat.le_of_ble_eq_true rfl⟩ (Nat.le_of_ble_eq_true rfl) (z_pm [0] 1 rfl (by decide) rfl) ?_
  intro ⟨r14, u15⟩ hw
  try dsimp only at hw
  refine z_bs [(wX cI gx u15)] [.int r14] rfl rfl ?_
  refine z_istore C dX8_isBackSo_136 [some (.ref (gx 0)), some (.int p2), none, some (.int v3), some (.int v4), some (.int v5), some (.int v6), some (.int s124_0), some (.int r14)] (by decide) rfl ?_
  refine z_iload C dX8_isBackSo_138 rfl ?_
  refine z_iload_n C dX8_isBackSo_140 rfl ?_
  refine z_icmp_ge C dX8_isBackSo_141 224 (by decide) (fun c16 => ?_) (fun c16 => ?_)
  · replace hw := hw.1 c16
    refine z_ls C [false, false, false, false, false, false, false, true, true] [none, none, none, none, none, none, none, some (.int s124_0), some (.int r14)] rfl ?_
    exact wk_X8_isBackSo_224 C gx x p2 p3 s124_0 r14 u15  _  hw
  · replace hw := hw.2 c16
    refine z_iload C dX8_isBackSo_144 rfl ?_
    refine z_if_eq C dX8_isBackSo_146 209 (by decide) (fun c19 => ?_) (fun c19 => ?_)
    · replace hw := hw.1 c19
      refine z_ls C [true, false, false, false, false, false, false, false, false] [some (.ref (gx 0)), none, none, none, none, none, none, none, none] rfl ?_
      exact wk_X8_isBackSo_209 C gx x p2 p3 u15  _  hw
    · replace hw := hw.2 c19
      refine z_aload_n C dX8_isBackSo_149 rfl ?_
      refine z_iload_n C dX8_isBackSo_150 rfl ?_
      refine z_iload C dX8_isBackSo_151 rfl ?_
      refine z_callV0 C [(wX cI gx u15)] [] rfl rfl (met_X6_delete l D cI gx u15 p2 v4 _ hw) y_X6_delete mw_12_4 dX8_isBackSo_153 rfl n_X6_delete rfl (by decide) ⟨rfl, rfl, Nat.le_of_ble_eq_true rfl, Nat.le_of_ble_eq_true rfl⟩ (Nat.le_of_ble_eq_true rfl) (z_pm [0] 1 rfl (by decide) rfl) ?_
      intro ⟨r24, u25⟩ hw
      try dsimp only at hw
      refine z_bs [(wX cI gx u25)] [.int r24] rfl rfl ?_
      refine z_iload C dX8_isBackSo_156 rfl ?_
      refine z_icmp_ne C dX8_isBackSo_158 209 (by decide) (fun c26 => ?_) (fun c26 => ?_)
      · replace hw := hw.1 c26
        refine z_ls C [true, false, false, false, false, false, false, false, false] [some (.ref (gx 0)), none, none, none, none, none, none, none, none] rfl ?_
        exact wk_X8_isBackSo_209 C gx x p2 p3 u25  _  hw
      · replace hw := hw.2 c26
        refine z_aload_n C dX8_isBackSo_161 rfl ?_
        refine z_iload_n C dX8_isBackSo_162 rfl ?_
        refine z_callV0 C [(wX cI gx u25)] [] rfl rfl (met_X6_takeBack l D cI gx u25 p2 _ hw) y_X6_takeBack mw_12_8 dX8_isBackSo_163 rfl n_X6_takeBack rfl (by decide) ⟨rfl, rfl, Nat.le_of_ble_eq_true rfl, Nat.le_of_ble_eq_true rfl⟩ (Nat.le_of_ble_eq_true rfl) (z_pm [0] 1 rfl (by decide) rfl) ?_
        intro ⟨r27, u28⟩ hw
        try dsimp only at hw
        refine z_bs [(wX cI gx u28)] [.int r27] rfl rfl ?_
        refine z_iconst C dX8_isBackSo_166 1 (by decide +kernel) ?_
        refine z_icmp_ne C dX8_isBackSo_167 209 (by decide) (fun c29 => ?_) (fun c29 => ?_)
        · replace hw := hw.1 c29
          refine z_ls C [true, false, false, false, false, false, false, false, false] [some (.ref (gx 0)), none, none, none, none, none, none, none, none] rfl ?_
          exact wk_X8_isBackSo_209 C gx x p2 p3 u28  _  hw
        · replace hw := hw.2 c29
          refine z_aload_n C dX8_isBackSo_170 rfl ?_
          refine z_iload_n C dX8_isBackSo_171 rfl ?_
          refine z_iload C dX8_isBackSo_172 rfl ?_
          refine z_callV0 C [(wX cI gx u28)] [] rfl rfl (met_X6_letter l D cI gx u28 p2 v4 _ hw) y_X6_letter mw_5_15 dX8_isBackSo_174 rfl n_X6_letter rfl (by decide) ⟨rfl, rfl, Nat.le_of_ble_eq_true rfl, Nat.le_of_ble_eq_true rfl⟩ (Nat.le_of_ble_eq_true rfl) (z_pm [0] 1 rfl (by decide) rfl) ?_
          intro r30 hw
          try dsimp only at hw
          refine z_bs [(wX cI gx u28)] [.int r30] rfl rfl ?_
          refine z_iload C dX8_isBackSo_177 rfl ?_
          refine z_icmp_ne C dX8_isBackSo_179 209 (by decide) (fun c31 => ?_) (fun c31 => ?_)
          · replace hw := hw.1 c31
            refine z_ls C [true, false, false, false, false, false, false, false, false] [some (.ref (gx 0)), none, none, none, none, none, none, none, none] rfl ?_
            exact wk_X8_isBackSo_209 C gx x p2 p3 u28  _  hw
          · replace hw := hw.2 c31
            refine z_aload_n C dX8_isBackSo_182 rfl ?_
            refine z_iload_n C dX8_isBackSo_183 rfl ?_
            refine z_iload_n C dX8_isBackSo_184 rfl ?_
            refine z_iconst C dX8_isBackSo_185 1 (by decide +kernel) ?_
            refine z_isub C dX8_isBackSo_186 ?_
            refine z_callV0 C [(wX cI gx u28)] [] rfl rfl (met_X6_letter l D cI gx u28 p2 (v3 - 1) _ hw) y_X6_letter mw_5_15 dX8_isBackSo_187 rfl n_X6_letter rfl (by decide) ⟨rfl, rfl, Nat.le_of_ble_eq_true rfl, Nat.le_of_ble_eq_true rfl⟩ (Nat.le_of_ble_eq_true rfl) (z_pm [0] 1 rfl (by decide) rfl) ?_
            intro r32 hw
            try dsimp only at hw
            refine z_bs [(wX cI gx u28)] [.int r32] rfl rfl ?_
            refine z_iload C dX8_isBackSo_190 rfl ?_
            refine z_icmp_ne C dX8_isBackSo_192 209 (by decide) (fun c33 => ?_) (fun c33 => ?_)
            · replace hw := hw.1 c33
              refine z_ls C [true, false, false, false, false, false, false, false, false] [some (.ref (gx 0)), none, none, none, none, none, none, none, none] rfl ?_
              exact wk_X8_isBackSo_209 C gx x p2 p3 u28  _  hw
            · replace hw := hw.2 c33
              refine z_aload_n C dX8_isBackSo_195 rfl ?_
              refine z_iload_n C dX8_isBackSo_196 rfl ?_
              refine z_iconst C dX8_isBackSo_197 0 (by decide +kernel) ?_
              refine z_callV0 C [(wX cI gx u28)] [] rfl rfl (met_X6_editorOf l D cI gx u28 p2 0 _ hw) y_X6_editorOf mw_4_16 dX8_isBackSo_198 rfl n_X6_editorOf rfl (by decide) ⟨rfl, rfl, Nat.le_of_ble_eq_true rfl, Nat.le_of_ble_eq_true rfl⟩ (Nat.le_of_ble_eq_true rfl) (z_pm [0] 1 rfl (by decide) rfl) ?_
              intro r34 hw
              try dsimp only at hw
              refine z_bs [(wX cI gx u28)] [.int r34] rfl rfl ?_
              refine z_iload_n C dX8_isBackSo_201 rfl ?_
              refine z_icmp_ne C dX8_isBackSo_202 209 (by decide) (fun c35 => ?_) (fun c35 => ?_)
              · replace hw := hw.1 c35
                refine z_ls C [true, false, false, false, false, false, false, false, false] [some (.ref (gx 0)), none, none, none, none, none, none, none, none] rfl ?_
                exact wk_X8_isBackSo_209 C gx x p2 p3 u28  _  hw
              · replace hw := hw.2 c35
                refine z_iconst C dX8_isBackSo_205 1 (by decide +kernel) ?_
                refine z_goto C dX8_isBackSo_206 210 (by decide) ?_
                refine z_ls C [true, false, false, false, false, false, false, false, false] [some (.ref (gx 0)), none, none, none, none, none, none, none, none] rfl ?_
                exact wk_X8_isBackSo_210 C gx x p2 p3 u28 1 _  hw
def jn_X8_isBackSo_123 (x : zX) (p2 : Int32) (p3 : Int32) (v3 : Int32) (v4 : Int32) (v5 : Int32) (v6 : Int32) (w0 : zX)  (Q : Int32 → zX → Prop)  : Prop := (jn_X8_isBackSo_124 x p2 p3 v3 v4 v5 v6 w0 0 Q )
set_option maxHeartbeats 4000000 in
set_option maxRecDepth 100000 in
theorem wk_X8_isBackSo_123 {p : Program} {l : Launch} {e : Env} {s : State} {m : MethodId} {args : Array Value} {below : List Frame} {meth : Method} {c : Code} {D : va_G} {cI : ClassId} {A : Nat → Prop} (C : ZC p s m args meth c RX8 cX8_isBackSo 9 (some .boolean) D cI A) (gx : Nat → Nat) (x : zX) (p2 : Int32) (p3 : Int32) (v3 : Int32) (v4 : Int32) (v5 : Int32) (v6 : Int32) (w0 : zX)  (Q : Int32 → zX → Prop)  (hw : jn_X8_isBackSo_123 x p2 p3 v3 v4 v5 v6 w0  Q ) : ZZ p l e rmX8_isBackSo s m args below meth c D A 9 0 0 (MQ below (ZQ D A (fun u : Int32 × zX => some (.int u.1)) (fun u : Int32 × zX => [(wX cI gx (u.2))]) (fun u : Int32 × zX => Q u.1 u.2)) args s rmX8_isBackSo.cells rmX8_isBackSo.slots A) [(wX cI gx w0)] 123 [some (.ref (gx 0)), some (.int p2), none, some (.int v3), some (.int v4), some (.int v5), some (.int v6), none, none] [] := by
  unfold jn_X8_isBackSo_123 at hw
  refine z_iconst C dX8_isBackSo_123 0 (by decide +kernel) ?_
  exact wk_X8_isBackSo_124 C gx x p2 p3 v3 v4 v5 v6 w0 0 _  hw
def jn_X8_isBackSo_41 (x : zX) (p2 : Int32) (p3 : Int32) (v3 : Int32) (v4 : Int32) (v5 : Int32) (s41_0 : Int32) (Q : Int32 → zX → Prop)  : Prop := ((29 < v3 → (Q 1 x)) ∧ (¬ 29 < v3 → (wp_X6_editorOf x p2 1 (fun r7 => ((r7 ≤ 4 → (wp_X6_insert x p2 v4 7 (fun r9 u10 => ((¬ r9 = (v3 + 1) → (jn_X8_isBackSo_123 x p2 p3 v3 v4 v5 s41_0 u10  Q )) ∧ (r9 = (v3 + 1) → (wp_X6_letter u10 p2 v4 (fun r36 => ((¬ r36 = 7 → (jn_X8_isBackSo_123 x p2 p3 v3 v4 v5 s41_0 u10  Q )) ∧ (r36 = 7 → (wp_X6_takeBack u10 p2 (fun r38 u39 => ((¬ r38 = 2 → (jn_X8_isBackSo_123 x p2 p3 v3 v4 v5 s41_0 u39  Q )) ∧ (r38 = 2 → (wp_X6_editorOf u39 p2 0 (fun r41 => ((¬ r41 = v3 → (jn_X8_isBackSo_123 x p2 p3 v3 v4 v5 s41_0 u39  Q )) ∧ (r41 = v3 → (wp_X6_letter u39 p2 v4 (fun r43 => ((¬ r43 = v5 → (jn_X8_isBackSo_123 x p2 p3 v3 v4 v5 s41_0 u39  Q )) ∧ (r43 = v5 → (jn_X8_isBackSo_124 x p2 p3 v3 v4 v5 s41_0 u39 1 Q )))))))))))))))))))))) ∧ (¬ r7 ≤ 4 → (Q 1 x)))))))
set_option maxHeartbeats 4000000 in
set_option maxRecDepth 100000 in
theorem wk_X8_isBackSo_41 {p : Program} {l : Launch} {e : Env} {s : State} {m : MethodId} {args : Array Value} {below : List Frame} {meth : Method} {c : Code} {D : va_G} {cI : ClassId} {A : Nat → Prop} (C : ZC p s m args meth c RX8 cX8_isBackSo 9 (some .boolean) D cI A) (gx : Nat → Nat) (x : zX) (p2 : Int32) (p3 : Int32) (v3 : Int32) (v4 : Int32) (v5 : Int32) (s41_0 : Int32) (Q : Int32 → zX → Prop)  (hw : jn_X8_isBackSo_41 x p2 p3 v3 v4 v5 s41_0 Q ) : ZZ p l e rmX8_isBackSo s m args below meth c D A 9 0 0 (MQ below (ZQ D A (fun u : Int32 × zX => some (.int u.1)) (fun u : Int32 × zX => [(wX cI gx (u.2))]) (fun u : Int32 × zX => Q u.1 u.2)) args s rmX8_isBackSo.cells rmX8_isBackSo.slots A) [(wX cI gx x)] 41 [some (.ref (gx 0)), some (.int p2), none, some (.int v3), some (.int v4), some (.int v5), none, none, none] [.int s41_0] := by
  unfold jn_X8_isBackSo_41 at hw
  refine z_istore C dX8_isBackSo_41 [some (.ref (gx 0)), some (.int p2), none, some (.int v3), some (.int v4), some (.int v5), some (.int s41_0), none, none] (by decide) rfl ?_
  refine z_iload_n C dX8_isBackSo_43 rfl ?_
  refine z_bipush C dX8_isBackSo_44 29 (by decide +kernel) ?_
  refine z_icmp_gt C dX8_isBackSo_46 59 (by decide) (fun c6 => ?_) (fun c6 => ?_)
  · replace hw := hw.1 c6
    refine z_iconst C dX8_isBackSo_59 1 (by decide +kernel) ?_
    exact z_zret C rfl (by decide) (1, x) rfl hw rfl dX8_isBackSo_60
  · replace hw := hw.2 c6
    refine z_aload_n C dX8_isBackSo_49 rfl ?_
    refine z_iload_n C dX8_isBackSo_50 rfl ?_
    refine z_iconst C dX8_isBackSo_51 1 (by decide +kernel) ?_
    refine z_callV0 C [(wX cI gx x)] [] rfl rfl (met_X6_editorOf l D cI gx x p2 1 _ hw) y_X6_editorOf mw_4_16 dX8_isBackSo_52 rfl n_X6_editorOf rfl (by decide) ⟨rfl, rfl, Nat.le_of_ble_eq_true rfl, Nat.le_of_ble_eq_true rfl⟩ (Nat.le_of_ble_eq_true rfl) (z_pm [0] 1 rfl (by decide) rfl) ?_
    intro r7 hw
    try dsimp only at hw
    refine z_bs [(wX cI gx x)] [.int r7] rfl rfl ?_
    refine z_iconst C dX8_isBackSo_55 4 (by decide +kernel) ?_
    refine z_icmp_le C dX8_isBackSo_56 61 (by decide) (fun c8 => ?_) (fun c8 => ?_)
    · replace hw := hw.1 c8
      refine z_aload_n C dX8_isBackSo_61 rfl ?_
      refine z_iload_n C dX8_isBackSo_62 rfl ?_
      refine z_iload C dX8_isBackSo_63 rfl ?_
      refine z_bipush C dX8_isBackSo_65 7 (by decide +kernel) ?_
      refine z_callV0 C [(wX cI gx x)] [] rfl rfl (met_X6_insert l D cI gx x p2 v4 7 _ hw) y_X6_insert mw_5_23 dX8_isBackSo_67 rfl n_X6_insert rfl (by decide) ⟨rfl, rfl, Nat.le_of_ble_eq_true rfl, Nat.le_of_ble_eq_true rfl⟩ (Nat.le_of_ble_eq_true rfl) (z_pm [0] 1 rfl (by decide) rfl) ?_
      intro ⟨r9, u10⟩ hw
      try dsimp only at hw
      refine z_bs [(wX cI gx u10)] [.int r9] rfl rfl ?_
      refine z_iload_n C dX8_isBackSo_70 rfl ?_
      refine z_iconst C dX8_isBackSo_71 1 (by decide +kernel) ?_
      refine z_iadd C dX8_isBackSo_72 ?_
      refine z_icmp_ne C dX8_isBackSo_73 123 (by decide) (fun c11 => ?_) (fun c11 => ?_)
      · replace hw := hw.1 c11
        exact wk_X8_isBackSo_123 C gx x p2 p3 v3 v4 v5 s41_0 u10  _  hw
      · replace hw := hw.2 c11
        refine z_aload_n C dX8_isBackSo_76 rfl ?_
        refine z_iload_n C dX8_isBackSo_77 rfl ?_
        refine z_iload C dX8_isBackSo_78 rfl ?_
        refine z_callV0 C [(wX cI gx u10)] [] rfl rfl (met_X6_letter l D cI gx u10 p2 v4 _ hw) y_X6_letter mw_5_15 dX8_isBackSo_80 rfl n_X6_letter rfl (by decide) ⟨rfl, rfl, Nat.le_of_ble_eq_true rfl, Nat.le_of_ble_eq_true rfl⟩ (Nat.le_of_ble_eq_true rfl) (z_pm [0] 1 rfl (by decide) rfl) ?_
        intro r36 hw
        try dsimp only at hw
        refine z_bs [(wX cI gx u10)] [.int r36] rfl rfl ?_
        refine z_bipush C dX8_isBackSo_83 7 (by decide +kernel) ?_
        refine z_icmp_ne C dX8_isBackSo_85 123 (by decide) (fun c37 => ?_) (fun c37 => ?_)
        · replace hw := hw.1 c37
          exact wk_X8_isBackSo_123 C gx x p2 p3 v3 v4 v5 s41_0 u10  _  hw
        · replace hw := hw.2 c37
          refine z_aload_n C dX8_isBackSo_88 rfl ?_
          refine z_iload_n C dX8_isBackSo_89 rfl ?_
          refine z_callV0 C [(wX cI gx u10)] [] rfl rfl (met_X6_takeBack l D cI gx u10 p2 _ hw) y_X6_takeBack mw_12_8 dX8_isBackSo_90 rfl n_X6_takeBack rfl (by decide) ⟨rfl, rfl, Nat.le_of_ble_eq_true rfl, Nat.le_of_ble_eq_true rfl⟩ (Nat.le_of_ble_eq_true rfl) (z_pm [0] 1 rfl (by decide) rfl) ?_
          intro ⟨r38, u39⟩ hw
          try dsimp only at hw
          refine z_bs [(wX cI gx u39)] [.int r38] rfl rfl ?_
          refine z_iconst C dX8_isBackSo_93 2 (by decide +kernel) ?_
          refine z_icmp_ne C dX8_isBackSo_94 123 (by decide) (fun c40 => ?_) (fun c40 => ?_)
          · replace hw := hw.1 c40
            exact wk_X8_isBackSo_123 C gx x p2 p3 v3 v4 v5 s41_0 u39  _  hw
          · replace hw := hw.2 c40
            refine z_aload_n C dX8_isBackSo_97 rfl ?_
            refine z_iload_n C dX8_isBackSo_98 rfl ?_
            refine z_iconst C dX8_isBackSo_99 0 (by decide +kernel) ?_
            refine z_callV0 C [(wX cI gx u39)] [] rfl rfl (met_X6_editorOf l D cI gx u39 p2 0 _ hw) y_X6_editorOf mw_4_16 dX8_isBackSo_100 rfl n_X6_editorOf rfl (by decide) ⟨rfl, rfl, Nat.le_of_ble_eq_true rfl, Nat.le_of_ble_eq_true rfl⟩ (Nat.le_of_ble_eq_true rfl) (z_pm [0] 1 rfl (by decide) rfl) ?_
            intro r41 hw
            try dsimp only at hw
            refine z_bs [(wX cI gx u39)] [.int r41] rfl rfl ?_
            refine z_iload_n C dX8_isBackSo_103 rfl ?_
            refine z_icmp_ne C dX8_isBackSo_104 123 (by decide) (fun c42 => ?_) (fun c42 => ?_)
            · replace hw := hw.1 c42
              exact wk_X8_isBackSo_123 C gx x p2 p3 v3 v4 v5 s41_0 u39  _  hw
            · replace hw := hw.2 c42
              refine z_aload_n C dX8_isBackSo_107 rfl ?_
              refine z_iload_n C dX8_isBackSo_108 rfl ?_
              refine z_iload C dX8_isBackSo_109 rfl ?_
              refine z_callV0 C [(wX cI gx u39)] [] rfl rfl (met_X6_letter l D cI gx u39 p2 v4 _ hw) y_X6_letter mw_5_15 dX8_isBackSo_111 rfl n_X6_letter rfl (by decide) ⟨rfl, rfl, Nat.le_of_ble_eq_true rfl, Nat.le_of_ble_eq_true rfl⟩ (Nat.le_of_ble_eq_true rfl) (z_pm [0] 1 rfl (by decide) rfl) ?_
              intro r43 hw
              try dsimp only at hw
              refine z_bs [(wX cI gx u39)] [.int r43] rfl rfl ?_
              refine z_iload C dX8_isBackSo_114 rfl ?_
              refine z_icmp_ne C dX8_isBackSo_116 123 (by decide) (fun c44 => ?_) (fun c44 => ?_)
              · replace hw := hw.1 c44
                exact wk_X8_isBackSo_123 C gx x p2 p3 v3 v4 v5 s41_0 u39  _  hw
              · replace hw := hw.2 c44
                refine z_iconst C dX8_isBackSo_119 1 (by decide +kernel) ?_
                refine z_goto C dX8_isBackSo_120 124 (by decide) ?_
                exact wk_X8_isBackSo_124 C gx x p2 p3 v3 v4 v5 s41_0 u39 1 _  hw
    · replace hw := hw.2 c8
      refine z_iconst C dX8_isBackSo_59 1 (by decide +kernel) ?_
      exact z_zret C rfl (by decide) (1, x) rfl hw rfl dX8_isBackSo_60
def wp_X8_isBackSo (x : zX) (p2 : Int32) (p3 : Int32) (Q : Int32 → zX → Prop) : Prop := (wp_X6_editorOf x p2 0 (fun r1 => (wp_X8_low p3 (r1 + 1) (fun r2 => (wp_X6_letter x p2 r2 (fun r3 => ((¬ r1 = 0 → (wp_X6_letter x p2 (r1 - 1) (fun r5 => (jn_X8_isBackSo_41 x p2 p3 r1 r2 r3 r5 Q )))) ∧ (r1 = 0 → (jn_X8_isBackSo_41 x p2 p3 r1 r2 r3 0 Q )))))))))
set_option maxHeartbeats 4000000 in
set_option maxRecDepth 100000 in
theorem met_X8_isBackSo (l : Launch) (D : va_G) (cI : ClassId) (gx : Nat → Nat) (x : zX) (p2 : Int32) (p3 : Int32) (Q : Int32 → zX → Prop) (hw : wp_X8_isBackSo x p2 p3 Q) : ZM l D cI yX8_isBackSo cX8_isBackSo 9 (some .boolean) rmX8_isBackSo [.ref (gx 0), .int p2, .int p3] [(wX cI gx x)] (fun u : Int32 × zX => some (.int u.1)) (fun u : Int32 × zX => [(wX cI gx (u.2))]) (fun u : Int32 × zX => Q u.1 u.2) := by
  refine z_body [some (.ref (gx 0)), some (.int p2), some (.int p3), none, none, none, none, none, none] (by decide +kernel) rfl (Nat.le_of_ble_eq_true rfl) rfl ?_
  intro p e s m args below meth c A C hin
  unfold wp_X8_isBackSo at hw
  refine z_aload_n C dX8_isBackSo_0 rfl ?_
  refine z_iload_n C dX8_isBackSo_1 rfl ?_
  refine z_iconst C dX8_isBackSo_2 0 (by decide +kernel) ?_
  refine z_callV0 C [(wX cI gx x)] [] rfl rfl (met_X6_editorOf l D cI gx x p2 0 _ hw) y_X6_editorOf mw_4_16 dX8_isBackSo_3 rfl n_X6_editorOf rfl (by decide) ⟨rfl, rfl, Nat.le_of_ble_eq_true rfl, Nat.le_of_ble_eq_true rfl⟩ (Nat.le_of_ble_eq_true rfl) (z_pm [0] 1 rfl (by decide) rfl) ?_
  intro r1 hw
  try dsimp only at hw
  refine z_bs [(wX cI gx x)] [.int r1] rfl rfl ?_
  refine z_istore_n C dX8_isBackSo_6 [some (.ref (gx 0)), some (.int p2), some (.int p3), some (.int r1), none, none, none, none, none] (by decide) rfl ?_
  refine z_iload_n C dX8_isBackSo_7 rfl ?_
  refine z_iload_n C dX8_isBackSo_8 rfl ?_
  refine z_iconst C dX8_isBackSo_9 1 (by decide +kernel) ?_
  refine z_iadd C dX8_isBackSo_10 ?_
  refine z_callS0 C [] [(wX cI gx x)] (met_X8_low l D cI p3 (r1 + 1) _ hw) y_X8_low mw_4_12 dX8_isBackSo_11 rfl n_X8_low rfl (by decide) ⟨rfl, rfl, Nat.le_of_ble_eq_true rfl, Nat.le_of_ble_eq_true rfl⟩ (Nat.le_of_ble_eq_true rfl) (z_pm [0] 1 rfl (by decide) rfl) ?_
  intro r2 hw
  try dsimp only at hw
  refine z_bs [(wX cI gx x)] [.int r2] rfl rfl ?_
  refine z_istore C dX8_isBackSo_14 [some (.ref (gx 0)), some (.int p2), some (.int p3), some (.int r1), some (.int r2), none, none, none, none] (by decide) rfl ?_
  refine z_aload_n C dX8_isBackSo_16 rfl ?_
  refine z_iload_n C dX8_isBackSo_17 rfl ?_
  refine z_iload C dX8_isBackSo_18 rfl ?_
  refine z_callV0 C [(wX cI gx x)] [] rfl rfl (met_X6_letter l D cI gx x p2 r2 _ hw) y_X6_letter mw_5_15 dX8_isBackSo_20 rfl n_X6_letter rfl (by decide) ⟨rfl, rfl, Nat.le_of_ble_eq_true rfl, Nat.le_of_ble_eq_true rfl⟩ (Nat.le_of_ble_eq_true rfl) (z_pm [0] 1 rfl (by decide) rfl) ?_
  intro r3 hw
  try dsimp only at hw
  refine z_bs [(wX cI gx x)] [.int r3] rfl rfl ?_
  refine z_istore C dX8_isBackSo_23 [some (.ref (gx 0)), some (.int p2), some (.int p3), some (.int r1), some (.int r2), some (.int r3), none, none, none] (by decide) rfl ?_
  refine z_iload_n C dX8_isBackSo_25 rfl ?_
  refine z_if_ne C dX8_isBackSo_26 33 (by decide) (fun c4 => ?_) (fun c4 => ?_)
  · replace hw := hw.1 c4
    refine z_aload_n C dX8_isBackSo_33 rfl ?_
    refine z_iload_n C dX8_isBackSo_34 rfl ?_
    refine z_iload_n C dX8_isBackSo_35 rfl ?_
    refine z_iconst C dX8_isBackSo_36 1 (by decide +kernel) ?_
    refine z_isub C dX8_isBackSo_37 ?_
    refine z_callV0 C [(wX cI gx x)] [] rfl rfl (met_X6_letter l D cI gx x p2 (r1 - 1) _ hw) y_X6_letter mw_5_15 dX8_isBackSo_38 rfl n_X6_letter rfl (by decide) ⟨rfl, rfl, Nat.le_of_ble_eq_true rfl, Nat.le_of_ble_eq_true rfl⟩ (Nat.le_of_ble_eq_true rfl) (z_pm [0] 1 rfl (by decide) rfl) ?_
    intro r5 hw
    try dsimp only at hw
    refine z_bs [(wX cI gx x)] [.int r5] rfl rfl ?_
    refine z_ls C [true, true, false, true, true, true, false, false, false] [some (.ref (gx 0)), some (.int p2), none, some (.int r1), some (.int r2), some (.int r3), none, none, none] rfl ?_
    exact wk_X8_isBackSo_41 C gx x p2 p3 r1 r2 r3 r5 _  hw
  · replace hw := hw.2 c4
    refine z_iconst C dX8_isBackSo_29 0 (by decide +kernel) ?_
    refine z_goto C dX8_isBackSo_30 41 (by decide) ?_
    refine z_ls C [true, true, false, true, true, true, false, false, false] [some (.ref (gx 0)), some (.int p2), none, some (.int r1), some (.int r2), some (.int r3), none, none, none] rfl ?_
    exact wk_X8_isBackSo_41 C gx x p2 p3 r1 r2 r3 0 _  hw
def rmX8_isEndSo : Room := { frames := 6, cells := 0, slots := 0, locals := 145 }
def jn_X8_isEndSo_164 (x : zX) (v3 : Int32) (w0 : zX) (s164_0 : Int32) (s164_1 : Int32) (Q : Int32 → zX → Prop)  : Prop := ((¬ s164_1 = s164_0 → (Q 0 w0)) ∧ (s164_1 = s164_0 → (wp_X6_count w0 3 (fun r15 => ((0 < r15 → (Q 1 w0)) ∧ (¬ 0 < r15 → ((v3 = 0 → (Q 0 w0)) ∧ (¬ v3 = 0 → (Q 1 w0)))))))))
set_option maxHeartbeats 4000000 in
set_option maxRecDepth 100000 in
theorem wk_X8_isEndSo_164 {p : Program} {l : Launch} {e : Env} {s : State} {m : MethodId} {args : Array Value} {below : List Frame} {meth : Method} {c : Code} {D : va_G} {cI : ClassId} {A : Nat → Prop} (C : ZC p s m args meth c RX8 cX8_isEndSo 7 (some .boolean) D cI A) (gx : Nat → Nat) (x : zX) (v3 : Int32) (w0 : zX) (s164_0 : Int32) (s164_1 : Int32) (Q : Int32 → zX → Prop)  (hw : jn_X8_isEndSo_164 x v3 w0 s164_0 s164_1 Q ) : ZZ p l e rmX8_isEndSo s m args below meth c D A 7 0 0 (MQ below (ZQ D A (fun u : Int32 × zX => some (.int u.1)) (fun u : Int32 × zX => [(wX cI gx (u.2))]) (fun u : Int32 × zX => Q u.1 u.2)) args s rmX8_isEndSo.cells rmX8_isEndSo.slots A) [(wX cI gx w0)] 164 [some (.ref (gx 0)), none, none, some (.int v3), none, none, none] [.int s164_0, .int s164_1] := by
  unfold jn_X8_isEndSo_164 at hw
  refine z_icmp_ne C dX8_isEndSo_164 183 (by decide) (fun c14 => ?_) (fun c14 => ?_)
  · replace hw := hw.1 c14
    refine z_iconst C dX8_isEndSo_183 0 (by decide +kernel) ?_
    exact z_zret C rfl (by decide) (0, w0) rfl hw rfl dX8_isEndSo_184
  · replace hw := hw.2 c14
    refine z_aload_n C dX8_isEndSo_167 rfl ?_
    refine z_iconst C dX8_isEndSo_168 3 (by decide +kernel) ?_
    refine z_callV0 C [(wX cI gx w0)] [] rfl rfl (met_X6_count l D cI gx w0 3 _ hw) y_X6_count mw_13_7 dX8_isEndSo_169 rfl n_X6_count rfl (by decide) ⟨rfl, rfl, Nat.le_of_ble_eq_true rfl, Nat.le_of_ble_eq_true rfl⟩ (Nat.le_of_ble_eq_true rfl) (z_pm [0] 1 rfl (by decide) rfl) ?_
    intro r15 hw
    try dsimp only at hw
    refine z_bs [(wX cI gx w0)] [.int r15] rfl rfl ?_
    refine z_if_gt C dX8_isEndSo_172 179 (by decide) (fun c16 => ?_) (fun c16 => ?_)
    · replace hw := hw.1 c16
      refine z_iconst C dX8_isEndSo_179 1 (by decide +kernel) ?_
      refine z_goto C dX8_isEndSo_180 184 (by decide) ?_
      exact z_zret C rfl (by decide) (1, w0) rfl hw rfl dX8_isEndSo_184
    · replace hw := hw.2 c16
      refine z_iload_n C dX8_isEndSo_175 rfl ?_
      refine z_if_eq C dX8_isEndSo_176 183 (by decide) (fun c17 => ?_) (fun c17 => ?_)
      · replace hw := hw.1 c17
        refine z_iconst C dX8_isEndSo_183 0 (by decide +kernel) ?_
        exact z_zret C rfl (by decide) (0, w0) rfl hw rfl dX8_isEndSo_184
      · replace hw := hw.2 c17
        refine z_iconst C dX8_isEndSo_179 1 (by decide +kernel) ?_
        refine z_goto C dX8_isEndSo_180 184 (by decide) ?_
        exact z_zret C rfl (by decide) (1, w0) rfl hw rfl dX8_isEndSo_184
def jn_X8_isEndSo_114 (x : zX) (v1 : Int32) (v3 : Int32) (v5 : Int32) (v6 : Int32) (w0 : zX) (s114_0 : Int32) (Q : Int32 → zX → Prop) (K64 : (Int32) → (Int32) → (Int32) → (zX) → Prop) : Prop := ((v3 = 0 → (K64 0 s114_0 (v5 + 1) w0)) ∧ (¬ v3 = 0 → (wp_X6_inTheEnd w0 1 v5 (fun r22 u23 => ((¬ v6 = r22 → (K64 0 s114_0 (v5 + 1) u23)) ∧ (v6 = r22 → (K64 1 s114_0 (v5 + 1) u23)))))))
set_option maxHeartbeats 4000000 in
set_option maxRecDepth 100000 in
theorem wk_X8_isEndSo_114 {p : Program} {l : Launch} {e : Env} {s : State} {m : MethodId} {args : Array Value} {below : List Frame} {meth : Method} {c : Code} {D : va_G} {cI : ClassId} {A : Nat → Prop} (C : ZC p s m args meth c RX8 cX8_isEndSo 7 (some .boolean) D cI A) (gx : Nat → Nat) (x : zX) (v1 : Int32) (v3 : Int32) (v5 : Int32) (v6 : Int32) (w0 : zX) (s114_0 : Int32) (Q : Int32 → zX → Prop) (K64 : (Int32) → (Int32) → (Int32) → (zX) → Prop) (hK64 : ∀ (v3 : Int32) (v4 : Int32) (v5 : Int32) (w0 : zX), K64 v3 v4 v5 w0 → ZZ p l e rmX8_isEndSo s m args below meth c D A 7 0 0 (MQ below (ZQ D A (fun u : Int32 × zX => some (.int u.1)) (fun u : Int32 × zX => [(wX cI gx (u.2))]) (fun u : Int32 × zX => Q u.1 u.2)) args s rmX8_isEndSo.cells rmX8_isEndSo.slots A) [(wX cI gx w0)] 64 [some (.ref (gx 0)), some (.int v1), none, some (.int v3), some (.int v4), some (.int v5), none] []) (hw : jn_X8_isEndSo_114 x v1 v3 v5 v6 w0 s114_0 Q K64) : ZZ p l e rmX8_isEndSo s m args below meth c D A 7 0 0 (MQ below (ZQ D A (fun u : Int32 × zX => some (.int u.1)) (fun u : Int32 × zX => [(wX cI gx (u.2))]) (fun u : Int32 × zX => Q u.1 u.2)) args s rmX8_isEndSo.cells rmX8_isEndSo.slots A) [(wX cI gx w0)] 114 [some (.ref (gx 0)), some (.int v1), none, some (.int v3), none, some (.int v5), some (.int v6)] [.int s114_0] := by
  unfold jn_X8_isEndSo_114 at hw
  refine z_istore C dX8_isEndSo_114 [some (.ref (gx 0)), some (.int v1), none, some (.int v3), some (.int s114_0), some (.int v5), some (.int v6)] (by decide) rfl ?_
  refine z_iload_n C dX8_isEndSo_116 rfl ?_
  refine z_if_eq C dX8_isEndSo_117 136 (by decide) (fun c21 => ?_) (fun c21 => ?_)
  · replace hw := hw.1 c21
    refine z_iconst C dX8_isEndSo_136 0 (by decide +kernel) ?_
    refine z_istore_n C dX8_isEndSo_137 [some (.ref (gx 0)), some (.int v1), none, some (.int 0), some (.int s114_0), some (.int v5), some (.int v6)] (by decide) rfl ?_
    refine z_iinc C dX8_isEndSo_138 rfl (v5 + 1) (by rfl) [some (.ref (gx 0)), some (.int v1), none, some (.int 0), some (.int s114_0), some (.int (v5 + 1)), some (.int v6)] (by decide) rfl ?_
    refine z_goto C dX8_isEndSo_141 64 (by decide) ?_
    refine z_ls C [true, true, false, true, true, true, false] [some (.ref (gx 0)), some (.int v1), none, some (.int 0), some (.int s114_0), some (.int (v5 + 1)), none] rfl ?_
    exact hK64 _ _ _ _ hw
  · replace hw := hw.2 c21
    refine z_iload C dX8_isEndSo_120 rfl ?_
    refine z_aload_n C dX8_isEndSo_122 rfl ?_
    refine z_iconst C dX8_isEndSo_123 1 (by decide +kernel) ?_
    refine z_iload C dX8_isEndSo_124 rfl ?_
    refine z_callV0 C [(wX cI gx w0)] [] rfl rfl (met_X6_inTheEnd l D cI gx w0 1 v5 _ hw) y_X6_inTheEnd mw_16_16 dX8_isEndSo_126 rfl n_X6_inTheEnd rfl (by decide) ⟨rfl, rfl, Nat.le_of_ble_eq_true rfl, Nat.le_of_ble_eq_true rfl⟩ (Nat.le_of_ble_eq_true rfl) (z_pm [0] 1 rfl (by decide) rfl) ?_
    intro ⟨r22, u23⟩ hw
    try dsimp only at hw
    refine z_bs [(wX cI gx u23)] [.int r22, .int v6] rfl rfl ?_
    refine z_icmp_ne C dX8_isEndSo_129 136 (by decide) (fun c24 => ?_) (fun c24 => ?_)
    · replace hw := hw.1 c24
      refine z_iconst C dX8_isEndSo_136 0 (by decide +kernel) ?_
      refine z_istore_n C dX8_isEndSo_137 [some (.ref (gx 0)), some (.int v1), none, some (.int 0), some (.int s114_0), some (.int v5), some (.int v6)] (by decide) rfl ?_
      refine z_iinc C dX8_isEndSo_138 rfl (v5 + 1) (by rfl) [some (.ref (gx 0)), some (.int v1), none, some (.int 0), some (.int s114_0), some (.int (v5 + 1)), some (.int v6)] (by decide) rfl ?_
      refine z_goto C dX8_isEndSo_141 64 (by decide) ?_
      refine z_ls C [true, true, false, true, true, true, false] [some (.ref (gx 0)), some (.int v1), none, some (.int 0), some (.int s114_0), some (.int (v5 + 1)), none] rfl ?_
      exact hK64 _ _ _ _ hw
    · replace hw := hw.2 c24
      refine z_iconst C dX8_isEndSo_132 1 (by decide +kernel) ?_
      refine z_goto C dX8_isEndSo_133 137 (by decide) ?_
      refine z_istore_n C dX8_isEndSo_137 [some (.ref (gx 0)), some (.int v1), none, some (.int 1), some (.int s114_0), some (.int v5), some (.int v6)] (by decide) rfl ?_
      refine z_iinc C dX8_isEndSo_138 rfl (v5 + 1) (by rfl) [some (.ref (gx 0)), some (.int v1), none, some (.int 1), some (.int s114_0), some (.int (v5 + 1)), some (.int v6)] (by decide) rfl ?_
      refine z_goto C dX8_isEndSo_141 64 (by decide) ?_
      refine z_ls C [true, true, false, true, true, true, false] [some (.ref (gx 0)), some (.int v1), none, some (.int 1), some (.int s114_0), some (.int (v5 + 1)), none] rfl ?_
      exact hK64 _ _ _ _ hw
def jn_X8_isEndSo_113 (x : zX) (v1 : Int32) (v3 : Int32) (v5 : Int32) (v6 : Int32) (w0 : zX)  (Q : Int32 → zX → Prop) (K64 : (Int32) → (Int32) → (Int32) → (zX) → Prop) : Prop := (jn_X8_isEndSo_114 x v1 v3 v5 v6 w0 0 Q K64)
set_option maxHeartbeats 4000000 in
set_option maxRecDepth 100000 in
theorem wk_X8_isEndSo_113 {p : Program} {l : Launch} {e : Env} {s : State} {m : MethodId} {args : Array Value} {below : List Frame} {meth : Method} {c : Code} {D : va_G} {cI : ClassId} {A : Nat → Prop} (C : ZC p s m args meth c RX8 cX8_isEndSo 7 (some .boolean) D cI A) (gx : Nat → Nat) (x : zX) (v1 : Int32) (v3 : Int32) (v5 : Int32) (v6 : Int32) (w0 : zX)  (Q : Int32 → zX → Prop) (K64 : (Int32) → (Int32) → (Int32) → (zX) → Prop) (hK64 : ∀ (v3 : Int32) (v4 : Int32) (v5 : Int32) (w0 : zX), K64 v3 v4 v5 w0 → ZZ p l e rmX8_isEndSo s m args below meth c D A 7 0 0 (MQ below (ZQ D A (fun u : Int32 × zX => some (.int u.1)) (fun u : Int32 × zX => [(wX cI gx (u.2))]) (fun u : Int32 × zX => Q u.1 u.2)) args s rmX8_isEndSo.cells rmX8_isEndSo.slots A) [(wX cI gx w0)] 64 [some (.ref (gx 0)), some (.int v1), none, some (.int v3), some (.int v4), some (.int v5), none] []) (hw : jn_X8_isEndSo_113 x v1 v3 v5 v6 w0  Q K64) : ZZ p l e rmX8_isEndSo s m args below meth c D A 7 0 0 (MQ below (ZQ D A (fun u : Int32 × zX => some (.int u.1)) (fun u : Int32 × zX => [(wX cI gx (u.2))]) (fun u : Int32 × zX => Q u.1 u.2)) args s rmX8_isEndSo.cells rmX8_isEndSo.slots A) [(wX cI gx w0)] 113 [some (.ref (gx 0)), some (.int v1), none, some (.int v3), none, some (.int v5), some (.int v6)] [] := by
  unfold jn_X8_isEndSo_113 at hw
  refine z_iconst C dX8_isEndSo_113 0 (by decide +kernel) ?_
  exact wk_X8_isEndSo_114 C gx x v1 v3 v5 v6 w0 0 _ K64 hK64 hw
def jn_X8_isEndSo_109 (x : zX) (v1 : Int32) (v3 : Int32) (v5 : Int32) (v6 : Int32) (w0 : zX)  (Q : Int32 → zX → Prop) (K64 : (Int32) → (Int32) → (Int32) → (zX) → Prop) : Prop := (jn_X8_isEndSo_114 x v1 v3 v5 v6 w0 1 Q K64)
set_option maxHeartbeats 4000000 in
set_option maxRecDepth 100000 in
theorem wk_X8_isEndSo_109 {p : Program} {l : Launch} {e : Env} {s : State} {m : MethodId} {args : Array Value} {below : List Frame} {meth : Method} {c : Code} {D : va_G} {cI : ClassId} {A : Nat → Prop} (C : ZC p s m args meth c RX8 cX8_isEndSo 7 (some .boolean) D cI A) (gx : Nat → Nat) (x : zX) (v1 : Int32) (v3 : Int32) (v5 : Int32) (v6 : Int32) (w0 : zX)  (Q : Int32 → zX → Prop) (K64 : (Int32) → (Int32) → (Int32) → (zX) → Prop) (hK64 : ∀ (v3 : Int32) (v4 : Int32) (v5 : Int32) (w0 : zX), K64 v3 v4 v5 w0 → ZZ p l e rmX8_isEndSo s m args below meth c D A 7 0 0 (MQ below (ZQ D A (fun u : Int32 × zX => some (.int u.1)) (fun u : Int32 × zX => [(wX cI gx (u.2))]) (fun u : Int32 × zX => Q u.1 u.2)) args s rmX8_isEndSo.cells rmX8_isEndSo.slots A) [(wX cI gx w0)] 64 [some (.ref (gx 0)), some (.int v1), none, some (.int v3), some (.int v4), some (.int v5), none] []) (hw : jn_X8_isEndSo_109 x v1 v3 v5 v6 w0  Q K64) : ZZ p l e rmX8_isEndSo s m args below meth c D A 7 0 0 (MQ below (ZQ D A (fun u : Int32 × zX => some (.int u.1)) (fun u : Int32 × zX => [(wX cI gx (u.2))]) (fun u : Int32 × zX => Q u.1 u.2)) args s rmX8_isEndSo.cells rmX8_isEndSo.slots A) [(wX cI gx w0)] 109 [some (.ref (gx 0)), some (.int v1), none, some (.int v3), none, some (.int v5), some (.int v6)] [] := by
  unfold jn_X8_isEndSo_109 at hw
  refine z_iconst C dX8_isEndSo_109 1 (by decide +kernel) ?_
  refine z_goto C dX8_isEndSo_110 114 (by decide) ?_
  exact wk_X8_isEndSo_114 C gx x v1 v3 v5 v6 w0 1 _ K64 hK64 hw
def lb_X8_isEndSo_64 (x : zX) (v1 : Int32)  (Q : Int32 → zX → Prop)  (K64 : (Int32) → (Int32) → (Int32) → (zX) → Prop) (v3 : Int32) (v4 : Int32) (v5 : Int32) (w0 : zX) : Prop := ((v1 ≤ v5 → ((v4 = 0 → (Q 0 w0)) ∧ (¬ v4 = 0 → (wp_X6_both w0 2 (fun r11 u12 => ((¬ r11 = 1 → (jn_X8_isEndSo_164 x v3 u12 0 v3 Q )) ∧ (r11 = 1 → (jn_X8_isEndSo_164 x v3 u12 1 v3 Q )))))))) ∧ (¬ v1 ≤ v5 → (wp_X6_inTheEnd w0 0 v5 (fun r18 u19 => ((v4 = 0 → (jn_X8_isEndSo_113 x v1 v3 v5 r18 u19  Q K64)) ∧ (¬ v4 = 0 → ((r18 < 0 → (jn_X8_isEndSo_113 x v1 v3 v5 r18 u19  Q K64)) ∧ (¬ r18 < 0 → (wp_X6_count u19 3 (fun r26 => ((0 < r26 → (jn_X8_isEndSo_109 x v1 v3 v5 r18 u19  Q K64)) ∧ (¬ 0 < r26 → (wp_X6_letter u19 3 v5 (fun r28 => ((¬ r18 = r28 → (jn_X8_isEndSo_113 x v1 v3 v5 r18 u19  Q K64)) ∧ (r18 = r28 → (jn_X8_isEndSo_109 x v1 v3 v5 r18 u19  Q K64)))))))))))))))))
set_option maxHeartbeats 4000000 in
set_option maxRecDepth 100000 in
theorem wk_X8_isEndSo_64 {p : Program} {l : Launch} {e : Env} {s : State} {m : MethodId} {args : Array Value} {below : List Frame} {meth : Method} {c : Code} {D : va_G} {cI : ClassId} {A : Nat → Prop} (C : ZC p s m args meth c RX8 cX8_isEndSo 7 (some .boolean) D cI A) (gx : Nat → Nat) (x : zX) (v1 : Int32)  (v3 : Int32) (v4 : Int32) (v5 : Int32) (w0 : zX) (Q : Int32 → zX → Prop)  (hw : zLoop4 (lb_X8_isEndSo_64 x v1  Q ) v3 v4 v5 w0) : ZZ p l e rmX8_isEndSo s m args below meth c D A 7 0 0 (MQ below (ZQ D A (fun u : Int32 × zX => some (.int u.1)) (fun u : Int32 × zX => [(wX cI gx (u.2))]) (fun u : Int32 × zX => Q u.1 u.2)) args s rmX8_isEndSo.cells rmX8_isEndSo.slots A) [(wX cI gx w0)] 64 [some (.ref (gx 0)), some (.int v1), none, some (.int v3), some (.int v4), some (.int v5), none] [] := by
  refine zLoop4_w (fun (v3 : Int32) (v4 : Int32) (v5 : Int32) (w0 : zX) => ZZ p l e rmX8_isEndSo s m args below meth c D A 7 0 0 (MQ below (ZQ D A (fun u : Int32 × zX => some (.int u.1)) (fun u : Int32 × zX => [(wX cI gx (u.2))]) (fun u : Int32 × zX => Q u.1 u.2)) args s rmX8_isEndSo.cells rmX8_isEndSo.slots A) [(wX cI gx w0)] 64 [some (.ref (gx 0)), some (.int v1), none, some (.int v3), some (.int v4), some (.int v5), none] []) ?_ _ _ _ _ hw
  clear hw
  intro K64 hK64 v3 v4 v5 w0 hw
  unfold lb_X8_isEndSo_64 at hw
  refine z_iload C dX8_isEndSo_64 rfl ?_
  refine z_iload_n C dX8_isEndSo_66 rfl ?_
  refine z_icmp_ge C dX8_isEndSo_67 144 (by decide) (fun c9 => ?_) (fun c9 => ?_)
  · replace hw := hw.1 c9
    refine z_iload C dX8_isEndSo_144 rfl ?_
    refine z_if_eq C dX8_isEndSo_146 183 (by decide) (fun c10 => ?_) (fun c10 => ?_)
    · replace hw := hw.1 c10
      refine z_iconst C dX8_isEndSo_183 0 (by decide +kernel) ?_
      exact z_zret C rfl (by decide) (0, w0) rfl hw rfl dX8_isEndSo_184
    · replace hw := hw.2 c10
      refine z_iload_n C dX8_isEndSo_149 rfl ?_
      refine z_aload_n C dX8_isEndSo_150 rfl ?_
      refine z_iconst C dX8_isEndSo_151 2 (by decide +kernel) ?_
      refine z_callV0 C [(wX cI gx w0)] [] rfl rfl (met_X6_both l D cI gx w0 2 _ hw) y_X6_both mw_16_2 dX8_isEndSo_152 rfl n_X6_both rfl (by decide) ⟨rfl, rfl, Nat.le_of_ble_eq_true rfl, Nat.le_of_ble_eq_true rfl⟩ (Nat.le_of_ble_eq_true rfl) (z_pm [0] 1 rfl (by decide) rfl) ?_
      intro ⟨r11, u12⟩ hw
      try dsimp only at hw
      refine z_bs [(wX cI gx u12)] [.int r11, .int v3] rfl rfl ?_
      refine z_iconst C dX8_isEndSo_155 1 (by decide +kernel) ?_
      refine z_icmp_ne C dX8_isEndSo_156 163 (by decide) (fun c13 => ?_) (fun c13 => ?_)
      · replace hw := hw.1 c13
        refine z_iconst C dX8_isEndSo_163 0 (by decide +kernel) ?_
        refine z_ls C [true, false, false, true, false, false, false] [some (.ref (gx 0)), none, none, some (.int v3), none, none, none] rfl ?_
        exact wk_X8_isEndSo_164 C gx x v3 u12 0 v3 _  hw
      · replace hw := hw.2 c13
        refine z_iconst C dX8_isEndSo_159 1 (by decide +kernel) ?_
        refine z_goto C dX8_isEndSo_160 164 (by decide) ?_
        refine z_ls C [true, false, false, true, false, false, false] [some (.ref (gx 0)), none, none, some (.int v3), none, none, none] rfl ?_
        exact wk_X8_isEndSo_164 C gx x v3 u12 1 v3 _  hw
  · replace hw := hw.2 c9
    refine z_aload_n C dX8_isEndSo_70 rfl ?_
    refine z_iconst C dX8_isEndSo_71 0 (by decide +kernel) ?_
    refine z_iload C dX8_isEndSo_72 rfl ?_
    refine z_callV0 C [(wX cI gx w0)] [] rfl rfl (met_X6_inTheEnd l D cI gx w0 0 v5 _ hw) y_X6_inTheEnd mw_16_16 dX8_isEndSo_74 rfl n_X6_inTheEnd rfl (by decide) ⟨rfl, rfl, Nat.le_of_ble_eq_true rfl, Nat.le_of_ble_eq_true rfl⟩ (Nat.le_of_ble_eq_true rfl) (z_pm [0] 1 rfl (by decide) rfl) ?_
    intro ⟨r18, u19⟩ hw
    try dsimp only at hw
    refine z_bs [(wX cI gx u19)] [.int r18] rfl rfl ?_
    refine z_istore C dX8_isEndSo_77 [some (.ref (gx 0)), some (.int v1), none, some (.int v3), some (.int v4), some (.int v5), some (.int r18)] (by decide) rfl ?_
    refine z_iload C dX8_isEndSo_79 rfl ?_
    refine z_if_eq C dX8_isEndSo_81 113 (by decide) (fun c20 => ?_) (fun c20 => ?_)
    · replace hw := hw.1 c20
      refine z_ls C [true, true, false, true, false, true, true] [some (.ref (gx 0)), some (.int v1), none, some (.int v3), none, some (.int v5), some (.int r18)] rfl ?_
      exact wk_X8_isEndSo_113 C gx x v1 v3 v5 r18 u19  _ K64 hK64 hw
    · replace hw := hw.2 c20
      refine z_iload C dX8_isEndSo_84 rfl ?_
      refine z_if_lt C dX8_isEndSo_86 113 (by decide) (fun c25 => ?_) (fun c25 => ?_)
      · replace hw := hw.1 c25
        refine z_ls C [true, true, false, true, false, true, true] [some (.ref (gx 0)), some (.int v1), none, some (.int v3), none, some (.int v5), some (.int r18)] rfl ?_
        exact wk_X8_isEndSo_113 C gx x v1 v3 v5 r18 u19  _ K64 hK64 hw
      · replace hw := hw.2 c25
        refine z_aload_n C dX8_isEndSo_89 rfl ?_
        refine z_iconst C dX8_isEndSo_90 3 (by decide +kernel) ?_
        refine z_callV0 C [(wX cI gx u19)] [] rfl rfl (met_X6_count l D cI gx u19 3 _ hw) y_X6_count mw_13_7 dX8_isEndSo_91 rfl n_X6_count rfl (by decide) ⟨rfl, rfl, Nat.le_of_ble_eq_true rfl, Nat.le_of_ble_eq_true rfl⟩ (Nat.le_of_ble_eq_true rfl) (z_pm [0] 1 rfl (by decide) rfl) ?_
        intro r26 hw
        try dsimp only at hw
        refine z_bs [(wX cI gx u19)] [.int r26] rfl rfl ?_
        refine z_if_gt C dX8_isEndSo_94 109 (by decide) (fun c27 => ?_) (fun c27 => ?_)
        · replace hw := hw.1 c27
          refine z_ls C [true, true, false, true, false, true, true] [some (.ref (gx 0)), some (.int v1), none, some (.int v3), none, some (.int v5), some (.int r18)] rfl ?_
          exact wk_X8_isEndSo_109 C gx x v1 v3 v5 r18 u19  _ K64 hK64 hw
        · replace hw := hw.2 c27
          refine z_iload C dX8_isEndSo_97 rfl ?_
          refine z_aload_n C dX8_isEndSo_99 rfl ?_
          refine z_iconst C dX8_isEndSo_100 3 (by decide +kernel) ?_
          refine z_iload C dX8_isEndSo_101 rfl ?_
          refine z_callV0 C [(wX cI gx u19)] [] rfl rfl (met_X6_letter l D cI gx u19 3 v5 _ hw) y_X6_letter mw_5_15 dX8_isEndSo_103 rfl n_X6_letter rfl (by decide) ⟨rfl, rfl, Nat.le_of_ble_eq_true rfl, Nat.le_of_ble_eq_true rfl⟩ (Nat.le_of_ble_eq_true rfl) (z_pm [0] 1 rfl (by decide) rfl) ?_
          intro r28 hw
          try dsimp only at hw
          refine z_bs [(wX cI gx u19)] [.int r28, .int r18] rfl rfl ?_
          refine z_icmp_ne C dX8_isEndSo_106 113 (by decide) (fun c29 => ?_) (fun c29 => ?_)
          · replace hw := hw.1 c29
            refine z_ls C [true, true, false, true, false, true, true] [some (.ref (gx 0)), some (.int v1), none, some (.int v3), none, some (.int v5), some (.int r18)] rfl ?_
            exact wk_X8_isEndSo_113 C gx x v1 v3 v5 r18 u19  _ K64 hK64 hw
          · replace hw := hw.2 c29
            refine z_ls C [true, true, false, true, false, true, true] [some (.ref (gx 0)), some (.int v1), none, some (.int v3), none, some (.int v5), some (.int r18)] rfl ?_
            exact wk_X8_isEndSo_109 C gx x v1 v3 v5 r18 u19  _ K64 hK64 hw
def jn_X8_isEndSo_22 (x : zX) (v1 : Int32) (v2 : Int32) (w0 : zX) (s22_0 : Int32) (Q : Int32 → zX → Prop)  : Prop := (wp_X6_both w0 3 (fun r6 u7 => ((¬ r6 = 1 → (zLoop4 (lb_X8_isEndSo_64 x v1  Q ) s22_0 0 0 u7)) ∧ (r6 = 1 → (wp_X6_inTheEnd u7 0 v1 (fun r30 u31 => ((¬ r30 = (-4) → (zLoop4 (lb_X8_isEndSo_64 x v1  Q ) s22_0 0 0 u31)) ∧ (r30 = (-4) → (wp_X6_inTheEnd u31 1 v2 (fun r33 u34 => ((¬ r33 = (-4) → (zLoop4 (lb_X8_isEndSo_64 x v1  Q ) s22_0 0 0 u34)) ∧ (r33 = (-4) → (zLoop4 (lb_X8_isEndSo_64 x v1  Q ) s22_0 1 0 u34)))))))))))))
set_option maxHeartbeats 4000000 in
set_option maxRecDepth 100000 in
theorem wk_X8_isEndSo_22 {p : Program} {l : Launch} {e : Env} {s : State} {m : MethodId} {args : Array Value} {below : List Frame} {meth : Method} {c : Code} {D : va_G} {cI : ClassId} {A : Nat → Prop} (C : ZC p s m args meth c RX8 cX8_isEndSo 7 (some .boolean) D cI A) (gx : Nat → Nat) (x : zX) (v1 : Int32) (v2 : Int32) (w0 : zX) (s22_0 : Int32) (Q : Int32 → zX → Prop)  (hw : jn_X8_isEndSo_22 x v1 v2 w0 s22_0 Q ) : ZZ p l e rmX8_isEndSo s m args below meth c D A 7 0 0 (MQ below (ZQ D A (fun u : Int32 × zX => some (.int u.1)) (fun u : Int32 × zX => [(wX cI gx (u.2))]) (fun u : Int32 × zX => Q u.1 u.2)) args s rmX8_isEndSo.cells rmX8_isEndSo.slots A) [(wX cI gx w0)] 22 [some (.ref (gx 0)), some (.int v1), some (.int v2), none, none, none, none] [.int s22_0] := by
  unfold jn_X8_isEndSo_22 at hw
  refine z_istore_n C dX8_isEndSo_22 [some (.ref (gx 0)), some (.int v1), some (.int v2), some (.int s22_0), none, none, none] (by decide) rfl ?_
  refine z_aload_n C dX8_isEndSo_23 rfl ?_
  refine z_iconst C dX8_isEndSo_24 3 (by decide +kernel) ?_
  refine z_callV0 C [(wX cI gx w0)] [] rfl rfl (met_X6_both l D cI gx w0 3 _ hw) y_X6_both mw_16_2 dX8_isEndSo_25 rfl n_X6_both rfl (by decide) ⟨rfl, rfl, Nat.le_of_ble_eq_true rfl, Nat.le_of_ble_eq_true rfl⟩ (Nat.le_of_ble_eq_true rfl) (z_pm [0] 1 rfl (by decide) rfl) ?_
  intro ⟨r6, u7⟩ hw
  try dsimp only at hw
  refine z_bs [(wX cI gx u7)] [.int r6] rfl rfl ?_
  refine z_iconst C dX8_isEndSo_28 1 (by decide +kernel) ?_
  refine z_icmp_ne C dX8_isEndSo_29 58 (by decide) (fun c8 => ?_) (fun c8 => ?_)
  · replace hw := hw.1 c8
    refine z_iconst C dX8_isEndSo_58 0 (by decide +kernel) ?_
    refine z_istore C dX8_isEndSo_59 [some (.ref (gx 0)), some (.int v1), some (.int v2), some (.int s22_0), some (.int 0), none, none] (by decide) rfl ?_
    refine z_iconst C dX8_isEndSo_61 0 (by decide +kernel) ?_
    refine z_istore C dX8_isEndSo_62 [some (.ref (gx 0)), some (.int v1), some (.int v2), some (.int s22_0), some (.int 0), some (.int 0), none] (by decide) rfl ?_
    refine z_ls C [true, true, false, true, true, true, false] [some (.ref (gx 0)), some (.int v1), none, some (.int s22_0), some (.int 0), some (.int 0), none] rfl ?_
    exact wk_X8_isEndSo_64 C gx x v1  s22_0 0 0 u7 _  hw
  · replace hw := hw.2 c8
    refine z_aload_n C dX8_isEndSo_32 rfl ?_
    refine z_iconst C dX8_isEndSo_33 0 (by decide +kernel) ?_
    refine z_iload_n C dX8_isEndSo_34 rfl ?_
    refine z_callV0 C [(wX cI gx u7)] [] rfl rfl (met_X6_inTheEnd l D cI gx u7 0 v1 _ hw) y_X6_inTheEnd mw_16_16 dX8_isEndSo_35 rfl n_X6_inTheEnd rfl (by decide) ⟨rfl, rfl, Nat.le_of_ble_eq_true rfl, Nat.le_of_ble_eq_true rfl⟩ (Nat.le_of_ble_eq_true rfl) (z_pm [0] 1 rfl (by decide) rfl) ?_
    intro ⟨r30, u31⟩ hw
    try dsimp only at hw
    refine z_bs [(wX cI gx u31)] [.int r30] rfl rfl ?_
    refine z_bipush C dX8_isEndSo_38 (-4) (by decide +kernel) ?_
    refine z_icmp_ne C dX8_isEndSo_40 58 (by decide) (fun c32 => ?_) (fun c32 => ?_)
    · replace hw := hw.1 c32
      refine z_iconst C dX8_isEndSo_58 0 (by decide +kernel) ?_
      refine z_istore C dX8_isEndSo_59 [some (.ref (gx 0)), some (.int v1), some (.int v2), some (.int s22_0), some (.int 0), none, none] (by decide) rfl ?_
      refine z_iconst C dX8_isEndSo_61 0 (by decide +kernel) ?_
      refine z_istore C dX8_isEndSo_62 [some (.ref (gx 0)), some (.int v1), some (.int v2), some (.int s22_0), some (.int 0), some (.int 0), none] (by decide) rfl ?_
      refine z_ls C [true, true, false, true, true, true, false] [some (.ref (gx 0)), some (.int v1), none, some (.int s22_0), some (.int 0), some (.int 0), none] rfl ?_
      exact wk_X8_isEndSo_64 C gx x v1  s22_0 0 0 u31 _  hw
    · replace hw := hw.2 c32
      refine z_aload_n C dX8_isEndSo_43 rfl ?_
      refine z_iconst C dX8_isEndSo_44 1 (by decide +kernel) ?_
      refine z_iload_n C dX8_isEndSo_45 rfl ?_
      refine z_callV0 C [(wX cI gx u31)] [] rfl rfl (met_X6_inTheEnd l D cI gx u31 1 v2 _ hw) y_X6_inTheEnd mw_16_16 dX8_isEndSo_46 rfl n_X6_inTheEnd rfl (by decide) ⟨rfl, rfl, Nat.le_of_ble_eq_true rfl, Nat.le_of_ble_eq_true rfl⟩ (Nat.le_of_ble_eq_true rfl) (z_pm [0] 1 rfl (by decide) rfl) ?_
      intro ⟨r33, u34⟩ hw
      try dsimp only at hw
      refine z_bs [(wX cI gx u34)] [.int r33] rfl rfl ?_
      refine z_bipush C dX8_isEndSo_49 (-4) (by decide +kernel) ?_
      refine z_icmp_ne C dX8_isEndSo_51 58 (by decide) (fun c35 => ?_) (fun c35 => ?_)
      · replace hw := hw.1 c35
        refine z_iconst C dX8_isEndSo_58 0 (by decide +kernel) ?_
        refine z_istore C dX8_isEndSo_59 [some (.ref (gx 0)), some (.int v1), some (.int v2), some (.int s22_0), some (.int 0), none, none] (by decide) rfl ?_
        refine z_iconst C dX8_isEndSo_61 0 (by decide +kernel) ?_
        refine z_istore C dX8_isEndSo_62 [some (.ref (gx 0)), some (.int v1), some (.int v2), some (.int s22_0), some (.int 0), some (.int 0), none] (by decide) rfl ?_
        refine z_ls C [true, true, false, true, true, true, false] [some (.ref (gx 0)), some (.int v1), none, some (.int s22_0), some (.int 0), some (.int 0), none] rfl ?_
        exact wk_X8_isEndSo_64 C gx x v1  s22_0 0 0 u34 _  hw
      · replace hw := hw.2 c35
        refine z_iconst C dX8_isEndSo_54 1 (by decide +kernel) ?_
        refine z_goto C dX8_isEndSo_55 59 (by decide) ?_
        refine z_istore C dX8_isEndSo_59 [some (.ref (gx 0)), some (.int v1), some (.int v2), some (.int s22_0), some (.int 1), none, none] (by decide) rfl ?_
        refine z_iconst C dX8_isEndSo_61 0 (by decide +kernel) ?_
        refine z_istore C dX8_isEndSo_62 [some (.ref (gx 0)), some (.int v1), some (.int v2), some (.int s22_0), some (.int 1), some (.int 0), none] (by decide) rfl ?_
        refine z_ls C [true, true, false, true, true, true, false] [some (.ref (gx 0)), some (.int v1), none, some (.int s22_0), some (.int 1), some (.int 0), none] rfl ?_
        exact wk_X8_isEndSo_64 C gx x v1  s22_0 1 0 u34 _  hw
def wp_X8_isEndSo (x : zX)  (Q : Int32 → zX → Prop) : Prop := (wp_X6_both x 0 (fun r1 u2 => (wp_X6_both u2 1 (fun r3 u4 => ((¬ r1 = r3 → (jn_X8_isEndSo_22 x r1 r3 u4 0 Q )) ∧ (r1 = r3 → (jn_X8_isEndSo_22 x r1 r3 u4 1 Q )))))))
set_option maxHeartbeats 4000000 in
set_option maxRecDepth 100000 in
theorem met_X8_isEndSo (l : Launch) (D : va_G) (cI : ClassId) (gx : Nat → Nat) (x : zX)  (Q : Int32 → zX → Prop) (hw : wp_X8_isEndSo x Q) : ZM l D cI yX8_isEndSo cX8_isEndSo 7 (some .boolean) rmX8_isEndSo [.ref (gx 0)] [(wX cI gx x)] (fun u : Int32 × zX => some (.int u.1)) (fun u : Int32 × zX => [(wX cI gx (u.2))]) (fun u : Int32 × zX => Q u.1 u.2) := by
  refine z_body [some (.ref (gx 0)), none, none, none, none, none, none] (by decide +kernel) rfl (Nat.le_of_ble_eq_true rfl) rfl ?_
  intro p e s m args below meth c A C hin
  unfold wp_X8_isEndSo at hw
  refine z_aload_n C dX8_isEndSo_0 rfl ?_
  refine z_iconst C dX8_isEndSo_1 0 (by decide +kernel) ?_
  refine z_callV0 C [(wX cI gx x)] [] rfl rfl (met_X6_both l D cI gx x 0 _ hw) y_X6_both mw_16_2 dX8_isEndSo_2 rfl n_X6_both rfl (by decide) ⟨rfl, rfl, Nat.le_of_ble_eq_true rfl, Nat.le_of_ble_eq_true rfl⟩ (Nat.le_of_ble_eq_true rfl) (z_pm [0] 1 rfl (by decide) rfl) ?_
  intro ⟨r1, u2⟩ hw
  try dsimp only at hw
  refine z_bs [(wX cI gx u2)] [.int r1] rfl rfl ?_
  refine z_istore_n C dX8_isEndSo_5 [some (.ref (gx 0)), some (.int r1), none, none, none, none, none] (by decide) rfl ?_
  refine z_aload_n C dX8_isEndSo_6 rfl ?_
  refine z_iconst C dX8_isEndSo_7 1 (by decide +kernel) ?_
  refine z_callV0 C [(wX cI gx u2)] [] rfl rfl (met_X6_both l D cI gx u2 1 _ hw) y_X6_both mw_16_2 dX8_isEndSo_8 rfl n_X6_both rfl (by decide) ⟨rfl, rfl, Nat.le_of_ble_eq_true rfl, Nat.le_of_ble_eq_true rfl⟩ (Nat.le_of_ble_eq_true rfl) (z_pm [0] 1 rfl (by decide) rfl) ?_
  intro ⟨r3, u4⟩ hw
  try dsimp only at hw
  refine z_bs [(wX cI gx u4)] [.int r3] rfl rfl ?_
  refine z_istore_n C dX8_isEndSo_11 [some (.ref (gx 0)), some (.int r1), some (.int r3), none, none, none, none] (by decide) rfl ?_
  refine z_iload_n C dX8_isEndSo_12 rfl ?_
  refine z_iload_n C dX8_isEndSo_13 rfl ?_
  refine z_icmp_ne C dX8_isEndSo_14 21 (by decide) (fun c5 => ?_) (fun c5 => ?_)
  · replace hw := hw.1 c5
    refine z_iconst C dX8_isEndSo_21 0 (by decide +kernel) ?_
    exact wk_X8_isEndSo_22 C gx x r1 r3 u4 0 _  hw
  · replace hw := hw.2 c5
    refine z_iconst C dX8_isEndSo_17 1 (by decide +kernel) ?_
    refine z_goto C dX8_isEndSo_18 22 (by decide) ?_
    exact wk_X8_isEndSo_22 C gx x r1 r3 u4 1 _  hw
