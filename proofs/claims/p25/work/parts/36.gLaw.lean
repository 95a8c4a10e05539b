/-! printed by wip/p25/mkL.py: the law's body -/
def jn_X8_law_211 (x : zX) (v2 : Int32) (w0 : zX)  (Q : Int32 → zX → Prop) (K10 : (Int32) → (zX) → Prop) : Prop := ((¬ (v2 - v2 / 11 * 11) = 7 → (K10 (v2 + 1) w0)) ∧ ((v2 - v2 / 11 * 11) = 7 → (wp_X8_isEndSo w0 (fun r19 u20 => ((¬ r19 = 0 → (K10 (v2 + 1) u20)) ∧ (r19 = 0 → False))))))
set_option maxHeartbeats 4000000 in
set_option maxRecDepth 100000 in
theorem wk_X8_law_211 {p : Program} {l : Launch} {e : Env} {s : State} {m : MethodId} {below : List Frame} {meth : Method} {c : Code} {D : va_G} {cI : ClassId} {b L : Nat} {xs : Nat → Int32} (C : LC p s m meth c D cI b) (hX : va_X b L xs s s.heap) (hbl : b < s.heap.size) (hL : L ≤ 260) (gx : Nat → Nat) (x : zX) (v2 : Int32) (w0 : zX)  (Q : Int32 → zX → Prop) (K10 : (Int32) → (zX) → Prop) (hK10 : ∀ (v2 : Int32) (w0 : zX), K10 v2 w0 → ZLW p l e s m below meth c D b [(wX cI gx w0)] 10 [some (.ref b), some (.ref (gx 0)), some (.int v2), none, none, none, none, none, none, none] []) (hw : jn_X8_law_211 x v2 w0  Q K10) : ZLW p l e s m below meth c D b [(wX cI gx w0)] 211 [some (.ref b), some (.ref (gx 0)), some (.int v2), none, none, none, none, none, none, none] [] := by
  unfold jn_X8_law_211 at hw
  refine z_iload_n C dX8_law_211 rfl ?_
  refine z_bipush C dX8_law_212 11 (by decide +kernel) ?_
  refine z_irem C dX8_law_214 (by decide +kernel) ?_
  refine z_bipush C dX8_law_215 7 (by decide +kernel) ?_
  refine z_icmp_ne C dX8_law_217 229 (by decide) (fun c18 => ?_) (fun c18 => ?_)
  · replace hw := hw.1 c18
    refine z_iinc C dX8_law_229 rfl (v2 + 1) (by rfl) [some (.ref b), some (.ref (gx 0)), some (.int (v2 + 1)), none, none, none, none, none, none, none] (by decide) rfl ?_
    refine z_goto C dX8_law_232 10 (by decide) ?_
    exact hK10 _ _ hw
  · replace hw := hw.2 c18
    refine z_aload_n C dX8_law_220 rfl ?_
    refine z_callS0 C [(wX cI gx w0)] [] (met_X8_isEndSo l D cI gx w0 _ hw) y_X8_isEndSo mw_15_23 dX8_law_221 rfl n_X8_isEndSo rfl (by decide) ⟨rfl, rfl, Nat.le_of_ble_eq_true rfl, Nat.le_of_ble_eq_true rfl⟩ (Nat.le_of_ble_eq_true rfl) (z_pm [0] 1 rfl (by decide) rfl) ?_
    intro ⟨r19, u20⟩ hw
    try dsimp only at hw
    refine z_bs [(wX cI gx u20)] [.int r19] rfl rfl ?_
    refine z_if_ne C dX8_law_224 229 (by decide) (fun c21 => ?_) (fun c21 => ?_)
    · replace hw := hw.1 c21
      refine z_iinc C dX8_law_229 rfl (v2 + 1) (by rfl) [some (.ref b), some (.ref (gx 0)), some (.int (v2 + 1)), none, none, none, none, none, none, none] (by decide) rfl ?_
      refine z_goto C dX8_law_232 10 (by decide) ?_
      exact hK10 _ _ hw
    · replace hw := hw.2 c21
      refine z_iconst C dX8_law_227 0 (by decide +kernel) ?_
      exact absurd hw id
def jn_X8_law_186 (x : zX) (v2 : Int32) (v3 : Int32) (w0 : zX)  (Q : Int32 → zX → Prop) (K10 : (Int32) → (zX) → Prop) : Prop := ((¬ (v2 - v2 / 4 * 4) = 2 → (jn_X8_law_211 x v2 w0  Q K10)) ∧ ((v2 - v2 / 4 * 4) = 2 → (wp_X8_low (v3 >>> (8 &&& 31)) 3 (fun r22 => (wp_X8_isBackSo w0 r22 (v3 >>> (5 &&& 31)) (fun r23 u24 => ((r23 = 0 → False) ∧ (¬ r23 = 0 → (jn_X8_law_211 x v2 u24  Q K10)))))))))
set_option maxHeartbeats 4000000 in
set_option maxRecDepth 100000 in
theorem wk_X8_law_186 {p : Program} {l : Launch} {e : Env} {s : State} {m : MethodId} {below : List Frame} {meth : Method} {c : Code} {D : va_G} {cI : ClassId} {b L : Nat} {xs : Nat → Int32} (C : LC p s m meth c D cI b) (hX : va_X b L xs s s.heap) (hbl : b < s.heap.size) (hL : L ≤ 260) (gx : Nat → Nat) (x : zX) (v2 : Int32) (v3 : Int32) (w0 : zX)  (Q : Int32 → zX → Prop) (K10 : (Int32) → (zX) → Prop) (hK10 : ∀ (v2 : Int32) (w0 : zX), K10 v2 w0 → ZLW p l e s m below meth c D b [(wX cI gx w0)] 10 [some (.ref b), some (.ref (gx 0)), some (.int v2), none, none, none, none, none, none, none] []) (hw : jn_X8_law_186 x v2 v3 w0  Q K10) : ZLW p l e s m below meth c D b [(wX cI gx w0)] 186 [some (.ref b), some (.ref (gx 0)), some (.int v2), some (.int v3), none, none, none, none, none, none] [] := by
  unfold jn_X8_law_186 at hw
  refine z_iload_n C dX8_law_186 rfl ?_
  refine z_iconst C dX8_law_187 4 (by decide +kernel) ?_
  refine z_irem C dX8_law_188 (by decide +kernel) ?_
  refine z_iconst C dX8_law_189 2 (by decide +kernel) ?_
  refine z_icmp_ne C dX8_law_190 211 (by decide) (fun c17 => ?_) (fun c17 => ?_)
  · replace hw := hw.1 c17
    refine z_ls C [true, true, true, false, false, false, false, false, false, false] [some (.ref b), some (.ref (gx 0)), some (.int v2), none, none, none, none, none, none, none] rfl ?_
    exact wk_X8_law_211 C hX hbl hL gx x v2 w0  _ K10 hK10 hw
  · replace hw := hw.2 c17
    refine z_aload_n C dX8_law_193 rfl ?_
    refine z_iload_n C dX8_law_194 rfl ?_
    refine z_bipush C dX8_law_195 8 (by decide +kernel) ?_
    refine z_ishr C dX8_law_197 ?_
    refine z_iconst C dX8_law_198 3 (by decide +kernel) ?_
    refine z_callS0 C [] [(wX cI gx w0)] (met_X8_low l D cI (v3 >>> (8 &&& 31)) 3 _ hw) y_X8_low mw_4_12 dX8_law_199 rfl n_X8_low rfl (by decide) ⟨rfl, rfl, Nat.le_of_ble_eq_true rfl, Nat.le_of_ble_eq_true rfl⟩ (Nat.le_of_ble_eq_true rfl) (z_pm [0] 1 rfl (by decide) rfl) ?_
    intro r22 hw
    try dsimp only at hw
    refine z_bs [(wX cI gx w0)] [.int r22, .ref (gx 0)] rfl rfl ?_
    refine z_iload_n C dX8_law_202 rfl ?_
    refine z_iconst C dX8_law_203 5 (by decide +kernel) ?_
    refine z_ishr C dX8_law_204 ?_
    refine z_callS0 C [(wX cI gx w0)] [] (met_X8_isBackSo l D cI gx w0 r22 (v3 >>> (5 &&& 31)) _ hw) y_X8_isBackSo mw_15_20 dX8_law_205 rfl n_X8_isBackSo rfl (by decide) ⟨rfl, rfl, Nat.le_of_ble_eq_true rfl, Nat.le_of_ble_eq_true rfl⟩ (Nat.le_of_ble_eq_true rfl) (z_pm [0] 1 rfl (by decide) rfl) ?_
    intro ⟨r23, u24⟩ hw
    try dsimp only at hw
    refine z_bs [(wX cI gx u24)] [.int r23] rfl rfl ?_
    refine z_if_eq C dX8_law_208 227 (by decide) (fun c25 => ?_) (fun c25 => ?_)
    · replace hw := hw.1 c25
      refine z_iconst C dX8_law_227 0 (by decide +kernel) ?_
      exact absurd hw id
    · replace hw := hw.2 c25
      refine z_ls C [true, true, true, false, false, false, false, false, false, false] [some (.ref b), some (.ref (gx 0)), some (.int v2), none, none, none, none, none, none, none] rfl ?_
      exact wk_X8_law_211 C hX hbl hL gx x v2 u24  _ K10 hK10 hw
def jn_X8_law_157 (x : zX) (v2 : Int32) (v3 : Int32) (w0 : zX)  (Q : Int32 → zX → Prop) (K10 : (Int32) → (zX) → Prop) : Prop := (wp_X8_areEditorsSo w0 (fun r14 => ((r14 = 0 → False) ∧ (¬ r14 = 0 → ((¬ (v2 - v2 / 3 * 3) = 1 → (jn_X8_law_186 x v2 v3 w0  Q K10)) ∧ ((v2 - v2 / 3 * 3) = 1 → (wp_X8_low (v3 >>> (9 &&& 31)) 3 (fun r26 => (wp_X8_isSendSo w0 r26 (fun r27 u28 => ((r27 = 0 → False) ∧ (¬ r27 = 0 → (jn_X8_law_186 x v2 v3 u28  Q K10)))))))))))))
set_option maxHeartbeats 4000000 in
set_option maxRecDepth 100000 in
theorem wk_X8_law_157 {p : Program} {l : Launch} {e : Env} {s : State} {m : MethodId} {below : List Frame} {meth : Method} {c : Code} {D : va_G} {cI : ClassId} {b L : Nat} {xs : Nat → Int32} (C : LC p s m meth c D cI b) (hX : va_X b L xs s s.heap) (hbl : b < s.heap.size) (hL : L ≤ 260) (gx : Nat → Nat) (x : zX) (v2 : Int32) (v3 : Int32) (w0 : zX)  (Q : Int32 → zX → Prop) (K10 : (Int32) → (zX) → Prop) (hK10 : ∀ (v2 : Int32) (w0 : zX), K10 v2 w0 → ZLW p l e s m below meth c D b [(wX cI gx w0)] 10 [some (.ref b), some (.ref (gx 0)), some (.int v2), none, none, none, none, none, none, none] []) (hw : jn_X8_law_157 x v2 v3 w0  Q K10) : ZLW p l e s m below meth c D b [(wX cI gx w0)] 157 [some (.ref b), some (.ref (gx 0)), some (.int v2), some (.int v3), none, none, none, none, none, none] [] := by
  unfold jn_X8_law_157 at hw
  refine z_aload_n C dX8_law_157 rfl ?_
  refine z_callS0 C [(wX cI gx w0)] [] (met_X8_areEditorsSo l D cI gx w0 _ hw) y_X8_areEditorsSo mw_13_4 dX8_law_158 rfl n_X8_areEditorsSo rfl (by decide) ⟨rfl, rfl, Nat.le_of_ble_eq_true rfl, Nat.le_of_ble_eq_true rfl⟩ (Nat.le_of_ble_eq_true rfl) (z_pm [0] 1 rfl (by decide) rfl) ?_
  intro r14 hw
  try dsimp only at hw
  refine z_bs [(wX cI gx w0)] [.int r14] rfl rfl ?_
  refine z_if_eq C dX8_law_161 227 (by decide) (fun c15 => ?_) (fun c15 => ?_)
  · replace hw := hw.1 c15
    refine z_iconst C dX8_law_227 0 (by decide +kernel) ?_
    exact absurd hw id
  · replace hw := hw.2 c15
    refine z_iload_n C dX8_law_164 rfl ?_
    refine z_iconst C dX8_law_165 3 (by decide +kernel) ?_
    refine z_irem C dX8_law_166 (by decide +kernel) ?_
    refine z_iconst C dX8_law_167 1 (by decide +kernel) ?_
    refine z_icmp_ne C dX8_law_168 186 (by decide) (fun c16 => ?_) (fun c16 => ?_)
    · replace hw := hw.1 c16
      exact wk_X8_law_186 C hX hbl hL gx x v2 v3 w0  _ K10 hK10 hw
    · replace hw := hw.2 c16
      refine z_aload_n C dX8_law_171 rfl ?_
      refine z_iload_n C dX8_law_172 rfl ?_
      refine z_bipush C dX8_law_173 9 (by decide +kernel) ?_
      refine z_ishr C dX8_law_175 ?_
      refine z_iconst C dX8_law_176 3 (by decide +kernel) ?_
      refine z_callS0 C [] [(wX cI gx w0)] (met_X8_low l D cI (v3 >>> (9 &&& 31)) 3 _ hw) y_X8_low mw_4_12 dX8_law_177 rfl n_X8_low rfl (by decide) ⟨rfl, rfl, Nat.le_of_ble_eq_true rfl, Nat.le_of_ble_eq_true rfl⟩ (Nat.le_of_ble_eq_true rfl) (z_pm [0] 1 rfl (by decide) rfl) ?_
      intro r26 hw
      try dsimp only at hw
      refine z_bs [(wX cI gx w0)] [.int r26, .ref (gx 0)] rfl rfl ?_
      refine z_callS0 C [(wX cI gx w0)] [] (met_X8_isSendSo l D cI gx w0 r26 _ hw) y_X8_isSendSo mw_15_2 dX8_law_180 rfl n_X8_isSendSo rfl (by decide) ⟨rfl, rfl, Nat.le_of_ble_eq_true rfl, Nat.le_of_ble_eq_true rfl⟩ (Nat.le_of_ble_eq_true rfl) (z_pm [0] 1 rfl (by decide) rfl) ?_
      intro ⟨r27, u28⟩ hw
      try dsimp only at hw
      refine z_bs [(wX cI gx u28)] [.int r27] rfl rfl ?_
      refine z_if_eq C dX8_law_183 227 (by decide) (fun c29 => ?_) (fun c29 => ?_)
      · replace hw := hw.1 c29
        refine z_iconst C dX8_law_227 0 (by decide +kernel) ?_
        exact absurd hw id
      · replace hw := hw.2 c29
        exact wk_X8_law_186 C hX hbl hL gx x v2 v3 u28  _ K10 hK10 hw
def jn_X8_law_115 (x : zX) (v2 : Int32) (v3 : Int32) (v4 : Int32) (v5 : Int32) (v8 : Int32) (v9 : Int32) (w0 : zX)  (Q : Int32 → zX → Prop) (K10 : (Int32) → (zX) → Prop) : Prop := ((4 ≤ v9 → (jn_X8_law_157 x v2 v3 w0  Q K10)) ∧ (¬ 4 ≤ v9 → ((v8 < 0 → (jn_X8_law_157 x v2 v3 w0  Q K10)) ∧ (¬ v8 < 0 → (wp_X8_low (v3 >>> (6 &&& 31)) (v5 + 1) (fun r31 => (wp_X6_letter w0 v4 r31 (fun r32 => (wp_X8_low (v3 >>> (9 &&& 31)) 26 (fun r33 => ((r32 = r33 → (jn_X8_law_157 x v2 v3 w0  Q K10)) ∧ (¬ r32 = r33 → False))))))))))))
set_option maxHeartbeats 4000000 in
set_option maxRecDepth 100000 in
theorem wk_X8_law_115 {p : Program} {l : Launch} {e : Env} {s : State} {m : MethodId} {below : List Frame} {meth : Method} {c : Code} {D : va_G} {cI : ClassId} {b L : Nat} {xs : Nat → Int32} (C : LC p s m meth c D cI b) (hX : va_X b L xs s s.heap) (hbl : b < s.heap.size) (hL : L ≤ 260) (gx : Nat → Nat) (x : zX) (v2 : Int32) (v3 : Int32) (v4 : Int32) (v5 : Int32) (v8 : Int32) (v9 : Int32) (w0 : zX)  (Q : Int32 → zX → Prop) (K10 : (Int32) → (zX) → Prop) (hK10 : ∀ (v2 : Int32) (w0 : zX), K10 v2 w0 → ZLW p l e s m below meth c D b [(wX cI gx w0)] 10 [some (.ref b), some (.ref (gx 0)), some (.int v2), none, none, none, none, none, none, none] []) (hw : jn_X8_law_115 x v2 v3 v4 v5 v8 v9 w0  Q K10) : ZLW p l e s m below meth c D b [(wX cI gx w0)] 115 [some (.ref b), some (.ref (gx 0)), some (.int v2), some (.int v3), some (.int v4), some (.int v5), none, none, some (.int v8), some (.int v9)] [] := by
  unfold jn_X8_law_115 at hw
  refine z_iload C dX8_law_115 rfl ?_
  refine z_iconst C dX8_law_117 4 (by decide +kernel) ?_
  refine z_icmp_ge C dX8_law_118 157 (by decide) (fun c13 => ?_) (fun c13 => ?_)
  · replace hw := hw.1 c13
    refine z_ls C [true, true, true, true, false, false, false, false, false, false] [some (.ref b), some (.ref (gx 0)), some (.int v2), some (.int v3), none, none, none, none, none, none] rfl ?_
    exact wk_X8_law_157 C hX hbl hL gx x v2 v3 w0  _ K10 hK10 hw
  · replace hw := hw.2 c13
    refine z_iload C dX8_law_121 rfl ?_
    refine z_if_lt C dX8_law_123 157 (by decide) (fun c30 => ?_) (fun c30 => ?_)
    · replace hw := hw.1 c30
      refine z_ls C [true, true, true, true, false, false, false, false, false, false] [some (.ref b), some (.ref (gx 0)), some (.int v2), some (.int v3), none, none, none, none, none, none] rfl ?_
      exact wk_X8_law_157 C hX hbl hL gx x v2 v3 w0  _ K10 hK10 hw
    · replace hw := hw.2 c30
      refine z_aload_n C dX8_law_126 rfl ?_
      refine z_iload C dX8_law_127 rfl ?_
      refine z_iload_n C dX8_law_129 rfl ?_
      refine z_bipush C dX8_law_130 6 (by decide +kernel) ?_
      refine z_ishr C dX8_law_132 ?_
      refine z_iload C dX8_law_133 rfl ?_
      refine z_iconst C dX8_law_135 1 (by decide +kernel) ?_
      refine z_iadd C dX8_law_136 ?_
      refine z_callS0 C [] [(wX cI gx w0)] (met_X8_low l D cI (v3 >>> (6 &&& 31)) (v5 + 1) _ hw) y_X8_low mw_4_12 dX8_law_137 rfl n_X8_low rfl (by decide) ⟨rfl, rfl, Nat.le_of_ble_eq_true rfl, Nat.le_of_ble_eq_true rfl⟩ (Nat.le_of_ble_eq_true rfl) (z_pm [0] 1 rfl (by decide) rfl) ?_
      intro r31 hw
      try dsimp only at hw
      refine z_bs [(wX cI gx w0)] [.int r31, .int v4, .ref (gx 0)] rfl rfl ?_
      refine z_callV0 C [(wX cI gx w0)] [] rfl rfl (met_X6_letter l D cI gx w0 v4 r31 _ hw) y_X6_letter mw_5_15 dX8_law_140 rfl n_X6_letter rfl (by decide) ⟨rfl, rfl, Nat.le_of_ble_eq_true rfl, Nat.le_of_ble_eq_true rfl⟩ (Nat.le_of_ble_eq_true rfl) (z_pm [0] 1 rfl (by decide) rfl) ?_
      intro r32 hw
      try dsimp only at hw
      refine z_bs [(wX cI gx w0)] [.int r32] rfl rfl ?_
      refine z_iload_n C dX8_law_143 rfl ?_
      refine z_bipush C dX8_law_144 9 (by decide +kernel) ?_
      refine z_ishr C dX8_law_146 ?_
      refine z_bipush C dX8_law_147 26 (by decide +kernel) ?_
      refine z_callS0 C [] [(wX cI gx w0)] (met_X8_low l D cI (v3 >>> (9 &&& 31)) 26 _ hw) y_X8_low mw_4_12 dX8_law_149 rfl n_X8_low rfl (by decide) ⟨rfl, rfl, Nat.le_of_ble_eq_true rfl, Nat.le_of_ble_eq_true rfl⟩ (Nat.le_of_ble_eq_true rfl) (z_pm [0] 1 rfl (by decide) rfl) ?_
      intro r33 hw
      try dsimp only at hw
      refine z_bs [(wX cI gx w0)] [.int r33, .int r32] rfl rfl ?_
      refine z_icmp_eq C dX8_law_152 157 (by decide) (fun c34 => ?_) (fun c34 => ?_)
      · replace hw := hw.1 c34
        refine z_ls C [true, true, true, true, false, false, false, false, false, false] [some (.ref b), some (.ref (gx 0)), some (.int v2), some (.int v3), none, none, none, none, none, none] rfl ?_
        exact wk_X8_law_157 C hX hbl hL gx x v2 v3 w0  _ K10 hK10 hw
      · replace hw := hw.2 c34
        refine z_iconst C dX8_law_155 0 (by decide +kernel) ?_
        exact absurd hw id
def jn_X8_law_58 (x : zX) (v2 : Int32) (v3 : Int32) (v4 : Int32) (v5 : Int32) (w0 : zX) (s58_0 : Int32) (Q : Int32 → zX → Prop) (K10 : (Int32) → (zX) → Prop) : Prop := (wp_X6_letter w0 v4 s58_0 (fun r7 => (wp_X8_does w0 v3 (fun r8 u9 => (∀ x10 : Int32, x10 = (v3 &&& 15) → ((r8 < (-3) → False) ∧ (¬ r8 < (-3) → ((x10 ≤ 3 → (jn_X8_law_115 x v2 v3 v4 v5 r8 x10 u9  Q K10)) ∧ (¬ x10 ≤ 3 → ((7 ≤ x10 → (jn_X8_law_115 x v2 v3 v4 v5 r8 x10 u9  Q K10)) ∧ (¬ 7 ≤ x10 → ((r8 < 0 → (jn_X8_law_115 x v2 v3 v4 v5 r8 x10 u9  Q K10)) ∧ (¬ r8 < 0 → ((¬ r8 = r7 → False) ∧ (r8 = r7 → (jn_X8_law_115 x v2 v3 v4 v5 r8 x10 u9  Q K10))))))))))))))))
set_option maxHeartbeats 4000000 in
set_option maxRecDepth 100000 in
theorem wk_X8_law_58 {p : Program} {l : Launch} {e : Env} {s : State} {m : MethodId} {below : List Frame} {meth : Method} {c : Code} {D : va_G} {cI : ClassId} {b L : Nat} {xs : Nat → Int32} (C : LC p s m meth c D cI b) (hX : va_X b L xs s s.heap) (hbl : b < s.heap.size) (hL : L ≤ 260) (gx : Nat → Nat) (x : zX) (v2 : Int32) (v3 : Int32) (v4 : Int32) (v5 : Int32) (w0 : zX) (s58_0 : Int32) (Q : Int32 → zX → Prop) (K10 : (Int32) → (zX) → Prop) (hK10 : ∀ (v2 : Int32) (w0 : zX), K10 v2 w0 → ZLW p l e s m below meth c D b [(wX cI gx w0)] 10 [some (.ref b), some (.ref (gx 0)), some (.int v2), none, none, none, none, none, none, none] []) (hw : jn_X8_law_58 x v2 v3 v4 v5 w0 s58_0 Q K10) : ZLW p l e s m below meth c D b [(wX cI gx w0)] 58 [some (.ref b), some (.ref (gx 0)), some (.int v2), some (.int v3), some (.int v4), some (.int v5), none, none, none, none] [.int s58_0] := by
  unfold jn_X8_law_58 at hw
  refine z_istore C dX8_law_58 [some (.ref b), some (.ref (gx 0)), some (.int v2), some (.int v3), some (.int v4), some (.int v5), some (.int s58_0), none, none, none] (by decide) rfl ?_
  refine z_aload_n C dX8_law_60 rfl ?_
  refine z_iload C dX8_law_61 rfl ?_
  refine z_iload C dX8_law_63 rfl ?_
  refine z_callV0 C [(wX cI gx w0)] [] rfl rfl (met_X6_letter l D cI gx w0 v4 s58_0 _ hw) y_X6_letter mw_5_15 dX8_law_65 rfl n_X6_letter rfl (by decide) ⟨rfl, rfl, Nat.le_of_ble_eq_true rfl, Nat.le_of_ble_eq_true rfl⟩ (Nat.le_of_ble_eq_true rfl) (z_pm [0] 1 rfl (by decide) rfl) ?_
  intro r7 hw
  try dsimp only at hw
  refine z_bs [(wX cI gx w0)] [.int r7] rfl rfl ?_
  refine z_istore C dX8_law_68 [some (.ref b), some (.ref (gx 0)), some (.int v2), some (.int v3), some (.int v4), some (.int v5), some (.int s58_0), some (.int r7), none, none] (by decide) rfl ?_
  refine z_aload_n C dX8_law_70 rfl ?_
  refine z_iload_n C dX8_law_71 rfl ?_
  refine z_callS0 C [(wX cI gx w0)] [] (met_X8_does l D cI gx w0 v3 _ hw) y_X8_does mw_5_20 dX8_law_72 rfl n_X8_does rfl (by decide) ⟨rfl, rfl, Nat.le_of_ble_eq_true rfl, Nat.le_of_ble_eq_true rfl⟩ (Nat.le_of_ble_eq_true rfl) (z_pm [0] 1 rfl (by decide) rfl) ?_
  intro ⟨r8, u9⟩ hw
  try dsimp only at hw
  refine z_bs [(wX cI gx u9)] [.int r8] rfl rfl ?_
  refine z_istore C dX8_law_75 [some (.ref b), some (.ref (gx 0)), some (.int v2), some (.int v3), some (.int v4), some (.int v5), some (.int s58_0), some (.int r7), some (.int r8), none] (by decide) rfl ?_
  refine z_iload_n C dX8_law_77 rfl ?_
  refine z_bipush C dX8_law_78 15 (by decide +kernel) ?_
  refine z_iand C dX8_law_80 ?_
  refine z_name C (fun x10 ex10 => ?_)
  replace hw := hw x10 ex10
  refine z_istore C dX8_law_81 [some (.ref b), some (.ref (gx 0)), some (.int v2), some (.int v3), some (.int v4), some (.int v5), some (.int s58_0), some (.int r7), some (.int r8), some (.int x10)] (by decide) rfl ?_
  refine z_iload C dX8_law_83 rfl ?_
  refine z_bipush C dX8_law_85 (-3) (by decide +kernel) ?_
  refine z_icmp_lt C dX8_law_87 155 (by decide) (fun c11 => ?_) (fun c11 => ?_)
  · replace hw := hw.1 c11
    refine z_iconst C dX8_law_155 0 (by decide +kernel) ?_
    exact absurd hw id
  · replace hw := hw.2 c11
    refine z_iload C dX8_law_90 rfl ?_
    refine z_iconst C dX8_law_92 3 (by decide +kernel) ?_
    refine z_icmp_le C dX8_law_93 115 (by decide) (fun c12 => ?_) (fun c12 => ?_)
    · replace hw := hw.1 c12
      refine z_ls C [true, true, true, true, true, true, false, false, true, true] [some (.ref b), some (.ref (gx 0)), some (.int v2), some (.int v3), some (.int v4), some (.int v5), none, none, some (.int r8), some (.int x10)] rfl ?_
      exact wk_X8_law_115 C hX hbl hL gx x v2 v3 v4 v5 r8 x10 u9  _ K10 hK10 hw
    · replace hw := hw.2 c12
      refine z_iload C dX8_law_96 rfl ?_
      refine z_bipush C dX8_law_98 7 (by decide +kernel) ?_
      refine z_icmp_ge C dX8_law_100 115 (by decide) (fun c35 => ?_) (fun c35 => ?_)
      · replace hw := hw.1 c35
        refine z_ls C [true, true, true, true, true, true, false, false, true, true] [some (.ref b), some (.ref (gx 0)), some (.int v2), some (.int v3), some (.int v4), some (.int v5), none, none, some (.int r8), some (.int x10)] rfl ?_
        exact wk_X8_law_115 C hX hbl hL gx x v2 v3 v4 v5 r8 x10 u9  _ K10 hK10 hw
      · replace hw := hw.2 c35
        refine z_iload C dX8_law_103 rfl ?_
        refine z_if_lt C dX8_law_105 115 (by decide) (fun c36 => ?_) (fun c36 => ?_)
        · replace hw := hw.1 c36
          refine z_ls C [true, true, true, true, true, true, false, false, true, true] [some (.ref b), some (.ref (gx 0)), some (.int v2), some (.int v3), some (.int v4), some (.int v5), none, none, some (.int r8), some (.int x10)] rfl ?_
          exact wk_X8_law_115 C hX hbl hL gx x v2 v3 v4 v5 r8 x10 u9  _ K10 hK10 hw
        · replace hw := hw.2 c36
          refine z_iload C dX8_law_108 rfl ?_
          refine z_iload C dX8_law_110 rfl ?_
          refine z_icmp_ne C dX8_law_112 155 (by decide) (fun c37 => ?_) (fun c37 => ?_)
          · replace hw := hw.1 c37
            refine z_iconst C dX8_law_155 0 (by decide +kernel) ?_
            exact absurd hw id
          · replace hw := hw.2 c37
            refine z_ls C [true, true, true, true, true, true, false, false, true, true] [some (.ref b), some (.ref (gx 0)), some (.int v2), some (.int v3), some (.int v4), some (.int v5), none, none, some (.int r8), some (.int x10)] rfl ?_
            exact wk_X8_law_115 C hX hbl hL gx x v2 v3 v4 v5 r8 x10 u9  _ K10 hK10 hw
def lb_X8_law_10 (x : zX)   (Q : Int32 → zX → Prop)  (K10 : (Int32) → (zX) → Prop) (v2 : Int32) (w0 : zX) : Prop := ((56 ≤ v2 → True) ∧ (¬ 56 ≤ v2 → (¬ v2 < 0 ∧ (∀ r2 : Int32, (wp_X8_low (r2 >>> (4 &&& 31)) 3 (fun r3 => (wp_X6_editorOf w0 r3 0 (fun r4 => ((¬ r4 = 0 → (wp_X8_low (r2 >>> (6 &&& 31)) r4 (fun r6 => (jn_X8_law_58 x v2 r2 r3 r4 w0 r6 Q K10)))) ∧ (r4 = 0 → (jn_X8_law_58 x v2 r2 r3 r4 w0 0 Q K10)))))))))))
set_option maxHeartbeats 4000000 in
set_option maxRecDepth 100000 in
theorem wk_X8_law_10 {p : Program} {l : Launch} {e : Env} {s : State} {m : MethodId} {below : List Frame} {meth : Method} {c : Code} {D : va_G} {cI : ClassId} {b L : Nat} {xs : Nat → Int32} (C : LC p s m meth c D cI b) (hX : va_X b L xs s s.heap) (hbl : b < s.heap.size) (hL : L ≤ 260) (gx : Nat → Nat) (x : zX)   (v2 : Int32) (w0 : zX) (Q : Int32 → zX → Prop)  (hw : zLoop2 (lb_X8_law_10 x   Q ) v2 w0) : ZLW p l e s m below meth c D b [(wX cI gx w0)] 10 [some (.ref b), some (.ref (gx 0)), some (.int v2), none, none, none, none, none, none, none] [] := by
  refine zLoop2_w (fun (v2 : Int32) (w0 : zX) => ZLW p l e s m below meth c D b [(wX cI gx w0)] 10 [some (.ref b), some (.ref (gx 0)), some (.int v2), none, none, none, none, none, none, none] []) ?_ _ _ hw
  clear hw
  intro K10 hK10 v2 w0 hw
  unfold lb_X8_law_10 at hw
  refine z_iload_n C dX8_law_10 rfl ?_
  refine z_bipush C dX8_law_11 56 (by decide +kernel) ?_
  refine z_icmp_ge C dX8_law_13 235 (by decide) (fun c1 => ?_) (fun c1 => ?_)
  · replace hw := hw.1 c1
    refine z_iconst C dX8_law_235 1 (by decide +kernel) ?_
    exact z_lret C (Nat.le_of_ble_eq_true rfl) (Nat.le_of_ble_eq_true rfl) dX8_law_236
  · replace hw := hw.2 c1
    refine z_aload_n C dX8_law_16 rfl ?_
    refine z_iload_n C dX8_law_17 rfl ?_
    refine z_cellcall C hX hbl hL hw.1 mw_4_8 dX8_law_18 rfl (Nat.le_of_ble_eq_true rfl) ⟨Nat.le_of_ble_eq_true rfl, Nat.le_of_ble_eq_true rfl⟩ (fun r2 => ?_)
    replace hw := hw.2 r2
    refine z_istore_n C dX8_law_21 [some (.ref b), some (.ref (gx 0)), some (.int v2), some (.int r2), none, none, none, none, none, none] (by decide) rfl ?_
    refine z_iload_n C dX8_law_22 rfl ?_
    refine z_iconst C dX8_law_23 4 (by decide +kernel) ?_
    refine z_ishr C dX8_law_24 ?_
    refine z_iconst C dX8_law_25 3 (by decide +kernel) ?_
    refine z_callS0 C [] [(wX cI gx w0)] (met_X8_low l D cI (r2 >>> (4 &&& 31)) 3 _ hw) y_X8_low mw_4_12 dX8_law_26 rfl n_X8_low rfl (by decide) ⟨rfl, rfl, Nat.le_of_ble_eq_true rfl, Nat.le_of_ble_eq_true rfl⟩ (Nat.le_of_ble_eq_true rfl) (z_pm [0] 1 rfl (by decide) rfl) ?_
    intro r3 hw
    try dsimp only at hw
    refine z_bs [(wX cI gx w0)] [.int r3] rfl rfl ?_
    refine z_istore C dX8_law_29 [some (.ref b), some (.ref (gx 0)), some (.int v2), some (.int r2), some (.int r3), none, none, none, none, none] (by decide) rfl ?_
    refine z_aload_n C dX8_law_31 rfl ?_
    refine z_iload C dX8_law_32 rfl ?_
    refine z_iconst C dX8_law_34 0 (by decide +kernel) ?_
    refine z_callV0 C [(wX cI gx w0)] [] rfl rfl (met_X6_editorOf l D cI gx w0 r3 0 _ hw) y_X6_editorOf mw_4_16 dX8_law_35 rfl n_X6_editorOf rfl (by decide) ⟨rfl, rfl, Nat.le_of_ble_eq_true rfl, Nat.le_of_ble_eq_true rfl⟩ (Nat.le_of_ble_eq_true rfl) (z_pm [0] 1 rfl (by decide) rfl) ?_
    intro r4 hw
    try dsimp only at hw
    refine z_bs [(wX cI gx w0)] [.int r4] rfl rfl ?_
    refine z_istore C dX8_law_38 [some (.ref b), some (.ref (gx 0)), some (.int v2), some (.int r2), some (.int r3), some (.int r4), none, none, none, none] (by decide) rfl ?_
    refine z_iload C dX8_law_40 rfl ?_
    refine z_if_ne C dX8_law_42 49 (by decide) (fun c5 => ?_) (fun c5 => ?_)
    · replace hw := hw.1 c5
      refine z_iload_n C dX8_law_49 rfl ?_
      refine z_bipush C dX8_law_50 6 (by decide +kernel) ?_
      refine z_ishr C dX8_law_52 ?_
      refine z_iload C dX8_law_53 rfl ?_
      refine z_callS0 C [] [(wX cI gx w0)] (met_X8_low l D cI (r2 >>> (6 &&& 31)) r4 _ hw) y_X8_low mw_4_12 dX8_law_55 rfl n_X8_low rfl (by decide) ⟨rfl, rfl, Nat.le_of_ble_eq_true rfl, Nat.le_of_ble_eq_true rfl⟩ (Nat.le_of_ble_eq_true rfl) (z_pm [0] 1 rfl (by decide) rfl) ?_
      intro r6 hw
      try dsimp only at hw
      refine z_bs [(wX cI gx w0)] [.int r6] rfl rfl ?_
      exact wk_X8_law_58 C hX hbl hL gx x v2 r2 r3 r4 w0 r6 _ K10 hK10 hw
    · replace hw := hw.2 c5
      refine z_iconst C dX8_law_45 0 (by decide +kernel) ?_
      refine z_goto C dX8_law_46 58 (by decide) ?_
      exact wk_X8_law_58 C hX hbl hL gx x v2 r2 r3 r4 w0 0 _ K10 hK10 hw
def wp_X8_law (x : zX) (Q : Int32 → zX → Prop) : Prop := (zLoop2 (lb_X8_law_10 x   Q ) 0 x)
set_option maxHeartbeats 4000000 in
set_option maxRecDepth 100000 in
theorem wk_X8_law {p : Program} {l : Launch} {e : Env} {s : State} {m : MethodId} {below : List Frame} {meth : Method} {c : Code} {D : va_G} {cI : ClassId} {b L : Nat} {xs : Nat → Int32} (C : LC p s m meth c D cI b) (hX : va_X b L xs s s.heap) (hbl : b < s.heap.size) (hL : L ≤ 260) (gx : Nat → Nat) (x : zX) (Q : Int32 → zX → Prop) (hw : wp_X8_law x Q) : ZLW p l e s m below meth c D b [(wX cI gx x)] 8 [some (.ref b), some (.ref (gx 0)), none, none, none, none, none, none, none, none] [] := by
  unfold wp_X8_law at hw
  refine z_iconst C dX8_law_8 0 (by decide +kernel) ?_
  refine z_istore_n C dX8_law_9 [some (.ref b), some (.ref (gx 0)), some (.int 0), none, none, none, none, none, none, none] (by decide) rfl ?_
  exact wk_X8_law_10 C hX hbl hL gx x   0 x _  hw
