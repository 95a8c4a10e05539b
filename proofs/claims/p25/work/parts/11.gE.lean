/-! printed by wip/p25/gen.py: what each method does, and that the machine does it -/
def rmX2_canSend : Room := { frames := 1, cells := 0, slots := 0, locals := 20 }
def f_X2_canSend (ed : zE)  : Int32 := (if (f_X4_size (eWait ed)) ≤ 0 then 0 else (if (eUw ed) = 0 then 1 else 0))
set_option maxHeartbeats 4000000 in
set_option maxRecDepth 100000 in
theorem met_X2_canSend (l : Launch) (D : va_G) (cI : ClassId) (ged : Nat → Nat) (ed : zE)  : ZM l D cI yX2_canSend cX2_canSend 1 (some .boolean) rmX2_canSend [.ref (ged 0)] [(wE cI ged ed)] (fun _ : Unit => some (.int (f_X2_canSend ed))) (fun _ : Unit => [(wE cI ged ed)]) (fun _ : Unit => True) := by
  refine z_body [some (.ref (ged 0))] (by decide +kernel) rfl (Nat.le_of_ble_eq_true rfl) rfl ?_
  intro p e s m args below meth c A C hin
  refine z_aload_n C dX2_canSend_0 rfl ?_
  refine z_get C inlX2 rfl 2 (by decide) mw_2_23 dX2_canSend_1 0 0 rfl rfl rfl ?_
  refine z_open 0 [(wEo ged ed), (wN cI (ged 1) (ged 2) (eCopy ed)), (wN cI (ged 3) (ged 4) (eWait ed)), (wN cI (ged 5) (ged 6) (eBacks ed))] [(wEo ged ed), (wN cI (ged 1) (ged 2) (eCopy ed)), (wN cI (ged 3) (ged 4) (eWait ed)), (wN cI (ged 5) (ged 6) (eBacks ed))] rfl rfl rfl ?_
  refine z_callFV C [(wN cI (ged 3) (ged 4) (eWait ed))] [(wEo ged ed), (wN cI (ged 1) (ged 2) (eCopy ed)), (wN cI (ged 5) (ged 6) (eBacks ed))] rfl rfl (met_X4_size l D cI (ged 3) (ged 4) (eWait ed)) y_X4_size mw_7_16 dX2_canSend_4 rfl n_X4_size rfl (by decide) ⟨rfl, rfl, Nat.le_of_ble_eq_true rfl, Nat.le_of_ble_eq_true rfl⟩ (Nat.le_of_ble_eq_true rfl) (z_pm [2, 0, 1, 3] 4 rfl (by decide) rfl) ?_
  refine z_shut 0 [(wEo ged ed), (wN cI (ged 1) (ged 2) (eCopy ed)), (wN cI (ged 3) (ged 4) (eWait ed)), (wN cI (ged 5) (ged 6) (eBacks ed))] [(wE cI ged ed)] rfl rfl rfl ?_
  refine z_if_le C dX2_canSend_7 21 (by decide) (fun c1 => ?_) (fun c1 => ?_)
  · refine z_iconst C dX2_canSend_21 0 (by decide +kernel) ?_
    exact z_zret C rfl (by decide) () (by rw [f_X2_canSend, if_pos c1]) trivial rfl dX2_canSend_22
  · refine z_aload_n C dX2_canSend_10 rfl ?_
    refine z_get C inlX2 rfl 4 (by decide) mw_6_19 dX2_canSend_11 0 0 rfl rfl rfl ?_
    refine z_if_ne C dX2_canSend_14 21 (by decide) (fun c2 => ?_) (fun c2 => ?_)
    · refine z_iconst C dX2_canSend_21 0 (by decide +kernel) ?_
      exact z_zret C rfl (by decide) () (by rw [f_X2_canSend, if_neg c1, if_neg c2]) trivial rfl dX2_canSend_22
    · refine z_iconst C dX2_canSend_17 1 (by decide +kernel) ?_
      refine z_goto C dX2_canSend_18 22 (by decide) ?_
      exact z_zret C rfl (by decide) () (by rw [f_X2_canSend, if_neg c1, if_pos c2]) trivial rfl dX2_canSend_22
theorem b_X2_canSend (ed : zE)  : zB (f_X2_canSend ed) := by
  unfold f_X2_canSend
  (repeat' split) <;> exact ⟨by decide, by decide⟩
def rmX2_isSettled : Room := { frames := 1, cells := 0, slots := 0, locals := 20 }
def f_X2_isSettled (ed : zE) (o : zN)  : Int32 := (if (f_X4_size (eWait ed)) = 0 then (if (eHeard ed) < (f_X4_size o) then 0 else 1) else 0)
set_option maxHeartbeats 4000000 in
set_option maxRecDepth 100000 in
theorem met_X2_isSettled (l : Launch) (D : va_G) (cI : ClassId) (ged : Nat → Nat) (ao : Nat) (co : Nat) (ed : zE) (o : zN)  : ZM l D cI yX2_isSettled cX2_isSettled 2 (some .boolean) rmX2_isSettled [.ref (ged 0), .ref ao] [(wE cI ged ed), (wN cI ao co o)] (fun _ : Unit => some (.int (f_X2_isSettled ed o))) (fun _ : Unit => [(wE cI ged ed), (wN cI ao co o)]) (fun _ : Unit => True) := by
  refine z_body [some (.ref (ged 0)), some (.ref ao)] (by decide +kernel) rfl (Nat.le_of_ble_eq_true rfl) rfl ?_
  intro p e s m args below meth c A C hin
  refine z_aload_n C dX2_isSettled_0 rfl ?_
  refine z_get C inlX2 rfl 2 (by decide) mw_2_23 dX2_isSettled_1 0 0 rfl rfl rfl ?_
  refine z_open 0 [(wEo ged ed), (wN cI (ged 1) (ged 2) (eCopy ed)), (wN cI (ged 3) (ged 4) (eWait ed)), (wN cI (ged 5) (ged 6) (eBacks ed))] [(wEo ged ed), (wN cI (ged 1) (ged 2) (eCopy ed)), (wN cI (ged 3) (ged 4) (eWait ed)), (wN cI (ged 5) (ged 6) (eBacks ed)), (wN cI ao co o)] rfl rfl rfl ?_
  refine z_callFV C [(wN cI (ged 3) (ged 4) (eWait ed))] [(wEo ged ed), (wN cI (ged 1) (ged 2) (eCopy ed)), (wN cI (ged 5) (ged 6) (eBacks ed)), (wN cI ao co o)] rfl rfl (met_X4_size l D cI (ged 3) (ged 4) (eWait ed)) y_X4_size mw_7_16 dX2_isSettled_4 rfl n_X4_size rfl (by decide) ⟨rfl, rfl, Nat.le_of_ble_eq_true rfl, Nat.le_of_ble_eq_true rfl⟩ (Nat.le_of_ble_eq_true rfl) (z_pm [2, 0, 1, 3, 4] 5 rfl (by decide) rfl) ?_
  refine z_shut 0 [(wEo ged ed), (wN cI (ged 1) (ged 2) (eCopy ed)), (wN cI (ged 3) (ged 4) (eWait ed)), (wN cI (ged 5) (ged 6) (eBacks ed))] [(wE cI ged ed), (wN cI ao co o)] rfl rfl rfl ?_
  refine z_if_ne C dX2_isSettled_7 25 (by decide) (fun c1 => ?_) (fun c1 => ?_)
  · refine z_iconst C dX2_isSettled_25 0 (by decide +kernel) ?_
    exact z_zret C rfl (by decide) () (by rw [f_X2_isSettled, if_neg c1]) trivial rfl dX2_isSettled_26
  · refine z_aload_n C dX2_isSettled_10 rfl ?_
    refine z_get C inlX2 rfl 5 (by decide) mw_6_20 dX2_isSettled_11 0 0 rfl rfl rfl ?_
    refine z_aload_n C dX2_isSettled_14 rfl ?_
    refine z_callFV C [(wN cI ao co o)] [(wE cI ged ed)] rfl rfl (met_X4_size l D cI ao co o) y_X4_size mw_7_16 dX2_isSettled_15 rfl n_X4_size rfl (by decide) ⟨rfl, rfl, Nat.le_of_ble_eq_true rfl, Nat.le_of_ble_eq_true rfl⟩ (Nat.le_of_ble_eq_true rfl) (z_pm [1, 0] 2 rfl (by decide) rfl) ?_
    refine z_icmp_lt C dX2_isSettled_18 25 (by decide) (fun c2 => ?_) (fun c2 => ?_)
    · refine z_iconst C dX2_isSettled_25 0 (by decide +kernel) ?_
      exact z_zret C rfl (by decide) () (by rw [f_X2_isSettled, if_pos c1, if_pos c2]) trivial rfl dX2_isSettled_26
    · refine z_iconst C dX2_isSettled_21 1 (by decide +kernel) ?_
      refine z_goto C dX2_isSettled_22 26 (by decide) ?_
      exact z_zret C rfl (by decide) () (by rw [f_X2_isSettled, if_pos c1, if_neg c2]) trivial rfl dX2_isSettled_26
theorem b_X2_isSettled (ed : zE) (o : zN)  : zB (f_X2_isSettled ed o) := by
  unfold f_X2_isSettled
  (repeat' split) <;> exact ⟨by decide, by decide⟩
def rmX2_apply : Room := { frames := 1, cells := 0, slots := 0, locals := 28 }
def lb_X2_apply_90 (ed : zE) (p1 : Int32) (w0Spot : Int32) (w0Copy : zN)  (Q : zE → Prop)  (K90 : (Int32) → (zN) → Prop) (v4 : Int32) (w0Backs : zN) : Prop := (((f_X4_size w0Backs) ≤ v4 → (Q (eSetBacks (eSetCopy (eSetSpot ed w0Spot) w0Copy) w0Backs))) ∧ (¬ (f_X4_size w0Backs) ≤ v4 → (wp_X4_at w0Backs v4 (fun r6 => (wp_X4_put w0Backs v4 (f_X0_reshaped r6 p1) (fun u7 => (K90 (v4 + 1) u7)))))))
set_option maxHeartbeats 4000000 in
set_option maxRecDepth 100000 in
theorem wk_X2_apply_90 {p : Program} {l : Launch} {e : Env} {s : State} {m : MethodId} {args : Array Value} {below : List Frame} {meth : Method} {c : Code} {D : va_G} {cI : ClassId} {A : Nat → Prop} (C : ZC p s m args meth c RX2 cX2_apply 5 none D cI A) (ged : Nat → Nat) (ed : zE) (p1 : Int32) (w0Spot : Int32) (w0Copy : zN)  (v4 : Int32) (w0Backs : zN) (Q : zE → Prop)  (hw : zLoop2 (lb_X2_apply_90 ed p1 w0Spot w0Copy  Q ) v4 w0Backs) : ZZ p l e rmX2_apply s m args below meth c D A 5 0 0 (MQ below (ZQ D A (fun _ : zE => none) (fun u : zE => [(wE cI ged u)]) (fun u : zE => Q u)) args s rmX2_apply.cells rmX2_apply.slots A) [(wE cI ged (eSetBacks (eSetCopy (eSetSpot ed w0Spot) w0Copy) w0Backs))] 90 [some (.ref (ged 0)), some (.int p1), none, none, some (.int v4)] [] := by
  refine zLoop2_w (fun (v4 : Int32) (w0Backs : zN) => ZZ p l e rmX2_apply s m args below meth c D A 5 0 0 (MQ below (ZQ D A (fun _ : zE => none) (fun u : zE => [(wE cI ged u)]) (fun u : zE => Q u)) args s rmX2_apply.cells rmX2_apply.slots A) [(wE cI ged (eSetBacks (eSetCopy (eSetSpot ed w0Spot) w0Copy) w0Backs))] 90 [some (.ref (ged 0)), some (.int p1), none, none, some (.int v4)] []) ?_ _ _ hw
  clear hw
  intro K90 hK90 v4 w0Backs hw
  unfold lb_X2_apply_90 at hw
  refine z_iload C dX2_apply_90 rfl ?_
  refine z_aload_n C dX2_apply_92 rfl ?_
  refine z_get C inlX2 rfl 3 (by decide) mw_3_0 dX2_apply_93 0 0 rfl rfl rfl ?_
  refine z_open 0 [(wEo ged (eSetBacks (eSetCopy (eSetSpot ed w0Spot) w0Copy) w0Backs)), (wN cI (ged 1) (ged 2) w0Copy), (wN cI (ged 3) (ged 4) (eWait ed)), (wN cI (ged 5) (ged 6) w0Backs)] [(wEo ged (eSetBacks (eSetCopy (eSetSpot ed w0Spot) w0Copy) w0Backs)), (wN cI (ged 1) (ged 2) w0Copy), (wN cI (ged 3) (ged 4) (eWait ed)), (wN cI (ged 5) (ged 6) w0Backs)] rfl rfl rfl ?_
  refine z_callFV C [(wN cI (ged 5) (ged 6) w0Backs)] [(wEo ged (eSetBacks (eSetCopy (eSetSpot ed w0Spot) w0Copy) w0Backs)), (wN cI (ged 1) (ged 2) w0Copy), (wN cI (ged 3) (ged 4) (eWait ed))] rfl rfl (met_X4_size l D cI (ged 5) (ged 6) w0Backs) y_X4_size mw_7_16 dX2_apply_96 rfl n_X4_size rfl (by decide) ⟨rfl, rfl, Nat.le_of_ble_eq_true rfl, Nat.le_of_ble_eq_true rfl⟩ (Nat.le_of_ble_eq_true rfl) (z_pm [3, 0, 1, 2] 4 rfl (by decide) rfl) ?_
  refine z_shut 0 [(wEo ged (eSetBacks (eSetCopy (eSetSpot ed w0Spot) w0Copy) w0Backs)), (wN cI (ged 1) (ged 2) w0Copy), (wN cI (ged 3) (ged 4) (eWait ed)), (wN cI (ged 5) (ged 6) w0Backs)] [(wE cI ged (eSetBacks (eSetCopy (eSetSpot ed w0Spot) w0Copy) w0Backs))] rfl rfl rfl ?_
  refine z_icmp_ge C dX2_apply_99 130 (by decide) (fun c5 => ?_) (fun c5 => ?_)
  · replace hw := hw.1 c5
    exact z_vret C rfl ((eSetBacks (eSetCopy (eSetSpot ed w0Spot) w0Copy) w0Backs)) rfl hw rfl dX2_apply_130
  · replace hw := hw.2 c5
    refine z_aload_n C dX2_apply_102 rfl ?_
    refine z_get C inlX2 rfl 3 (by decide) mw_3_0 dX2_apply_103 0 0 rfl rfl rfl ?_
    refine z_iload C dX2_apply_106 rfl ?_
    refine z_aload_n C dX2_apply_108 rfl ?_
    refine z_get C inlX2 rfl 3 (by decide) mw_3_0 dX2_apply_109 0 0 rfl rfl rfl ?_
    refine z_iload C dX2_apply_112 rfl ?_
    refine z_open 0 [(wEo ged (eSetBacks (eSetCopy (eSetSpot ed w0Spot) w0Copy) w0Backs)), (wN cI (ged 1) (ged 2) w0Copy), (wN cI (ged 3) (ged 4) (eWait ed)), (wN cI (ged 5) (ged 6) w0Backs)] [(wEo ged (eSetBacks (eSetCopy (eSetSpot ed w0Spot) w0Copy) w0Backs)), (wN cI (ged 1) (ged 2) w0Copy), (wN cI (ged 3) (ged 4) (eWait ed)), (wN cI (ged 5) (ged 6) w0Backs)] rfl rfl rfl ?_
    refine z_callV0 C [(wN cI (ged 5) (ged 6) w0Backs)] [(wEo ged (eSetBacks (eSetCopy (eSetSpot ed w0Spot) w0Copy) w0Backs)), (wN cI (ged 1) (ged 2) w0Copy), (wN cI (ged 3) (ged 4) (eWait ed))] rfl rfl (met_X4_at l D cI (ged 5) (ged 6) w0Backs v4 _ hw) y_X4_at mw_8_22 dX2_apply_114 rfl n_X4_at rfl (by decide) ⟨rfl, rfl, Nat.le_of_ble_eq_true rfl, Nat.le_of_ble_eq_true rfl⟩ (Nat.le_of_ble_eq_true rfl) (z_pm [3, 0, 1, 2] 4 rfl (by decide) rfl) ?_
    intro r6 hw
    try dsimp only at hw
    refine z_bs [(wN cI (ged 5) (ged 6) w0Backs), (wEo ged (eSetBacks (eSetCopy (eSetSpot ed w0Spot) w0Copy) w0Backs)), (wN cI (ged 1) (ged 2) w0Copy), (wN cI (ged 3) (ged 4) (eWait ed))] [.int r6, .int v4, .ref (ged 5)] rfl rfl ?_
    refine z_perm C [(wEo ged (eSetBacks (eSetCopy (eSetSpot ed w0Spot) w0Copy) w0Backs)), (wN cI (ged 1) (ged 2) w0Copy), (wN cI (ged 3) (ged 4) (eWait ed)), (wN cI (ged 5) (ged 6) w0Backs)] (z_pm [1, 2, 3, 0] 4 rfl (by decide) rfl) ?_
    refine z_shut 0 [(wEo ged (eSetBacks (eSetCopy (eSetSpot ed w0Spot) w0Copy) w0Backs)), (wN cI (ged 1) (ged 2) w0Copy), (wN cI (ged 3) (ged 4) (eWait ed)), (wN cI (ged 5) (ged 6) w0Backs)] [(wE cI ged (eSetBacks (eSetCopy (eSetSpot ed w0Spot) w0Copy) w0Backs))] rfl rfl rfl ?_
    refine z_iload_n C dX2_apply_117 rfl ?_
    refine z_callFS C [] [(wE cI ged (eSetBacks (eSetCopy (eSetSpot ed w0Spot) w0Copy) w0Backs))] (met_X0_reshaped l D cI r6 p1) y_X0_reshaped mw_8_23 dX2_apply_118 rfl n_X0_reshaped rfl (by decide) ⟨rfl, rfl, Nat.le_of_ble_eq_true rfl, Nat.le_of_ble_eq_true rfl⟩ (Nat.le_of_ble_eq_true rfl) (z_pm [0] 1 rfl (by decide) rfl) ?_
    refine z_open 0 [(wEo ged (eSetBacks (eSetCopy (eSetSpot ed w0Spot) w0Copy) w0Backs)), (wN cI (ged 1) (ged 2) w0Copy), (wN cI (ged 3) (ged 4) (eWait ed)), (wN cI (ged 5) (ged 6) w0Backs)] [(wEo ged (eSetBacks (eSetCopy (eSetSpot ed w0Spot) w0Copy) w0Backs)), (wN cI (ged 1) (ged 2) w0Copy), (wN cI (ged 3) (ged 4) (eWait ed)), (wN cI (ged 5) (ged 6) w0Backs)] rfl rfl rfl ?_
    refine z_callV0 C [(wN cI (ged 5) (ged 6) w0Backs)] [(wEo ged (eSetBacks (eSetCopy (eSetSpot ed w0Spot) w0Copy) w0Backs)), (wN cI (ged 1) (ged 2) w0Copy), (wN cI (ged 3) (ged 4) (eWait ed))] rfl rfl (met_X4_put l D cI (ged 5) (ged 6) w0Backs v4 (f_X0_reshaped r6 p1) _ hw) y_X4_put mw_9_2 dX2_apply_121 rfl n_X4_put rfl (by decide) ⟨rfl, rfl, Nat.le_of_ble_eq_true rfl, Nat.le_of_ble_eq_true rfl⟩ (Nat.le_of_ble_eq_true rfl) (z_pm [3, 0, 1, 2] 4 rfl (by decide) rfl) ?_
    intro u7 hw
    try dsimp only at hw
    refine z_bs [(wN cI (ged 5) (ged 6) u7), (wEo ged (eSetBacks (eSetCopy (eSetSpot ed w0Spot) w0Copy) w0Backs)), (wN cI (ged 1) (ged 2) w0Copy), (wN cI (ged 3) (ged 4) (eWait ed))] [] rfl rfl ?_
    refine z_perm C [(wEo ged (eSetBacks (eSetCopy (eSetSpot ed w0Spot) w0Copy) w0Backs)), (wN cI (ged 1) (ged 2) w0Copy), (wN cI (ged 3) (ged 4) (eWait ed)), (wN cI (ged 5) (ged 6) u7)] (z_pm [1, 2, 3, 0] 4 rfl (by decide) rfl) ?_
    refine z_shut 0 [(wEo ged (eSetBacks (eSetCopy (eSetSpot ed w0Spot) w0Copy) w0Backs)), (wN cI (ged 1) (ged 2) w0Copy), (wN cI (ged 3) (ged 4) (eWait ed)), (wN cI (ged 5) (ged 6) u7)] [(wE cI ged (eSetBacks (eSetCopy (eSetSpot ed w0Spot) w0Copy) u7))] rfl rfl rfl ?_
    refine z_iinc C dX2_apply_124 rfl (v4 + 1) (by rfl) [some (.ref (ged 0)), some (.int p1), none, none, some (.int (v4 + 1))] (by decide) rfl ?_
    refine z_goto C dX2_apply_127 90 (by decide) ?_
    exact hK90 _ _ hw
def wp_X2_apply (ed : zE) (p1 : Int32) (Q : zE → Prop) : Prop := (∀ x1 : Int32, x1 = (f_X0_place p1) → (∀ x2 : Int32, x2 = (f_X0_kind p1) → ((¬ x2 = 1 → ((¬ x2 = 2 → (zLoop2 (lb_X2_apply_90 ed p1 (eSpot ed) (eCopy ed)  Q ) 0 (eBacks ed))) ∧ (x2 = 2 → (wp_X4_removeAt (eCopy ed) x1 (fun u8 => (((eSpot ed) ≤ x1 → (zLoop2 (lb_X2_apply_90 ed p1 ((eSpot ed) - 0) u8  Q ) 0 (eBacks ed))) ∧ (¬ (eSpot ed) ≤ x1 → (zLoop2 (lb_X2_apply_90 ed p1 ((eSpot ed) - 1) u8  Q ) 0 (eBacks ed))))))))) ∧ (x2 = 1 → (wp_X4_addAt (eCopy ed) x1 (f_X0_sign p1) (fun u10 => (((eSpot ed) < x1 → (zLoop2 (lb_X2_apply_90 ed p1 ((eSpot ed) + 0) u10  Q ) 0 (eBacks ed))) ∧ (¬ (eSpot ed) < x1 → (zLoop2 (lb_X2_apply_90 ed p1 ((eSpot ed) + 1) u10  Q ) 0 (eBacks ed))))))))))
set_option maxHeartbeats 4000000 in
set_option maxRecDepth 100000 in
theorem met_X2_apply (l : Launch) (D : va_G) (cI : ClassId) (ged : Nat → Nat) (ed : zE) (p1 : Int32) (Q : zE → Prop) (hw : wp_X2_apply ed p1 Q) : ZM l D cI yX2_apply cX2_apply 5 none rmX2_apply [.ref (ged 0), .int p1] [(wE cI ged ed)] (fun _ : zE => none) (fun u : zE => [(wE cI ged u)]) (fun u : zE => Q u) := by
  refine z_body [some (.ref (ged 0)), some (.int p1), none, none, none] (by decide +kernel) rfl (Nat.le_of_ble_eq_true rfl) rfl ?_
  intro p e s m args below meth c A C hin
  unfold wp_X2_apply at hw
  refine z_iload_n C dX2_apply_0 rfl ?_
  refine z_callFS C [] [(wE cI ged ed)] (met_X0_place l D cI p1) y_X0_place mw_8_5 dX2_apply_1 rfl n_X0_place rfl (by decide) ⟨rfl, rfl, Nat.le_of_ble_eq_true rfl, Nat.le_of_ble_eq_true rfl⟩ (Nat.le_of_ble_eq_true rfl) (z_pm [0] 1 rfl (by decide) rfl) ?_
  refine z_name C (fun x1 ex1 => ?_)
  replace hw := hw x1 ex1
  refine z_istore_n C dX2_apply_4 [some (.ref (ged 0)), some (.int p1), some (.int x1), none, none] (by decide) rfl ?_
  refine z_iload_n C dX2_apply_5 rfl ?_
  refine z_callFS C [] [(wE cI ged ed)] (met_X0_kind l D cI p1) y_X0_kind mw_8_8 dX2_apply_6 rfl n_X0_kind rfl (by decide) ⟨rfl, rfl, Nat.le_of_ble_eq_true rfl, Nat.le_of_ble_eq_true rfl⟩ (Nat.le_of_ble_eq_true rfl) (z_pm [0] 1 rfl (by decide) rfl) ?_
  refine z_name C (fun x2 ex2 => ?_)
  replace hw := hw x2 ex2
  refine z_istore_n C dX2_apply_9 [some (.ref (ged 0)), some (.int p1), some (.int x1), some (.int x2), none] (by decide) rfl ?_
  refine z_iload_n C dX2_apply_10 rfl ?_
  refine z_iconst C dX2_apply_11 1 (by decide +kernel) ?_
  refine z_icmp_ne C dX2_apply_12 52 (by decide) (fun c3 => ?_) (fun c3 => ?_)
  · replace hw := hw.1 c3
    refine z_iload_n C dX2_apply_52 rfl ?_
    refine z_iconst C dX2_apply_53 2 (by decide +kernel) ?_
    refine z_icmp_ne C dX2_apply_54 87 (by decide) (fun c4 => ?_) (fun c4 => ?_)
    · replace hw := hw.1 c4
      refine z_iconst C dX2_apply_87 0 (by decide +kernel) ?_
      refine z_istore C dX2_apply_88 [some (.ref (ged 0)), some (.int p1), some (.int x1), some (.int x2), some (.int 0)] (by decide) rfl ?_
      refine z_ls C [true, true, false, false, true] [some (.ref (ged 0)), some (.int p1), none, none, some (.int 0)] rfl ?_
      exact wk_X2_apply_90 C ged ed p1 (eSpot ed) (eCopy ed)  0 (eBacks ed) _  hw
    · replace hw := hw.2 c4
      refine z_aload_n C dX2_apply_57 rfl ?_
      refine z_get C inlX2 rfl 1 (by decide) mw_2_22 dX2_apply_58 0 0 rfl rfl rfl ?_
      refine z_iload_n C dX2_apply_61 rfl ?_
      refine z_open 0 [(wEo ged ed), (wN cI (ged 1) (ged 2) (eCopy ed)), (wN cI (ged 3) (ged 4) (eWait ed)), (wN cI (ged 5) (ged 6) (eBacks ed))] [(wEo ged ed), (wN cI (ged 1) (ged 2) (eCopy ed)), (wN cI (ged 3) (ged 4) (eWait ed)), (wN cI (ged 5) (ged 6) (eBacks ed))] rfl rfl rfl ?_
      refine z_callV0 C [(wN cI (ged 1) (ged 2) (eCopy ed))] [(wEo ged ed), (wN cI (ged 3) (ged 4) (eWait ed)), (wN cI (ged 5) (ged 6) (eBacks ed))] rfl rfl (met_X4_removeAt l D cI (ged 1) (ged 2) (eCopy ed) x1 _ hw) y_X4_removeAt mw_8_18 dX2_apply_62 rfl n_X4_removeAt rfl (by decide) ⟨rfl, rfl, Nat.le_of_ble_eq_true rfl, Nat.le_of_ble_eq_true rfl⟩ (Nat.le_of_ble_eq_true rfl) (z_pm [1, 0, 2, 3] 4 rfl (by decide) rfl) ?_
      intro u8 hw
      try dsimp only at hw
      refine z_bs [(wN cI (ged 1) (ged 2) u8), (wEo ged ed), (wN cI (ged 3) (ged 4) (eWait ed)), (wN cI (ged 5) (ged 6) (eBacks ed))] [] rfl rfl ?_
      refine z_perm C [(wEo ged ed), (wN cI (ged 1) (ged 2) u8), (wN cI (ged 3) (ged 4) (eWait ed)), (wN cI (ged 5) (ged 6) (eBacks ed))] (z_pm [1, 0, 2, 3] 4 rfl (by decide) rfl) ?_
      refine z_shut 0 [(wEo ged ed), (wN cI (ged 1) (ged 2) u8), (wN cI (ged 3) (ged 4) (eWait ed)), (wN cI (ged 5) (ged 6) (eBacks ed))] [(wE cI ged (eSetCopy ed u8))] rfl rfl rfl ?_
      refine z_aload_n C dX2_apply_65 rfl ?_
      refine z_dup C dX2_apply_66 rfl ?_
      refine z_get C inlX2 rfl 6 (by decide) mw_6_21 dX2_apply_67 0 0 rfl rfl rfl ?_
      refine z_iload_n C dX2_apply_70 rfl ?_
      refine z_aload_n C dX2_apply_71 rfl ?_
      refine z_get C inlX2 rfl 6 (by decide) mw_6_21 dX2_apply_72 0 0 rfl rfl rfl ?_
      refine z_icmp_ge C dX2_apply_75 82 (by decide) (fun c9 => ?_) (fun c9 => ?_)
      · replace hw := hw.1 c9
        refine z_iconst C dX2_apply_82 0 (by decide +kernel) ?_
        refine z_isub C dX2_apply_83 ?_
        refine z_put C inlX2 rfl tyX2 tyX2_ok nmX2 6 (by decide) mw_6_21 rfl rfl rfl rfl dX2_apply_84 0 0 rfl rfl (Nat.le_of_ble_eq_true rfl) [(wE cI ged (eSetCopy (eSetSpot ed ((eSpot ed) - 0)) u8))] rfl ?_
        refine z_iconst C dX2_apply_87 0 (by decide +kernel) ?_
        refine z_istore C dX2_apply_88 [some (.ref (ged 0)), some (.int p1), some (.int x1), some (.int x2), some (.int 0)] (by decide) rfl ?_
        refine z_ls C [true, true, false, false, true] [some (.ref (ged 0)), some (.int p1), none, none, some (.int 0)] rfl ?_
        exact wk_X2_apply_90 C ged ed p1 ((eSpot ed) - 0) u8  0 (eBacks ed) _  hw
      · replace hw := hw.2 c9
        refine z_iconst C dX2_apply_78 1 (by decide +kernel) ?_
        refine z_goto C dX2_apply_79 83 (by decide) ?_
        refine z_isub C dX2_apply_83 ?_
        refine z_put C inlX2 rfl tyX2 tyX2_ok nmX2 6 (by decide) mw_6_21 rfl rfl rfl rfl dX2_apply_84 0 0 rfl rfl (Nat.le_of_ble_eq_true rfl) [(wE cI ged (eSetCopy (eSetSpot ed ((eSpot ed) - 1)) u8))] rfl ?_
        refine z_iconst C dX2_apply_87 0 (by decide +kernel) ?_
        refine z_istore C dX2_apply_88 [some (.ref (ged 0)), some (.int p1), some (.int x1), some (.int x2), some (.int 0)] (by decide) rfl ?_
        refine z_ls C [true, true, false, false, true] [some (.ref (ged 0)), some (.int p1), none, none, some (.int 0)] rfl ?_
        exact wk_X2_apply_90 C ged ed p1 ((eSpot ed) - 1) u8  0 (eBacks ed) _  hw
  · replace hw := hw.2 c3
    refine z_aload_n C dX2_apply_15 rfl ?_
    refine z_get C inlX2 rfl 1 (by decide) mw_2_22 dX2_apply_16 0 0 rfl rfl rfl ?_
    refine z_iload_n C dX2_apply_19 rfl ?_
    refine z_iload_n C dX2_apply_20 rfl ?_
    refine z_callFS C [] [(wE cI ged ed)] (met_X0_sign l D cI p1) y_X0_sign mw_8_11 dX2_apply_21 rfl n_X0_sign rfl (by decide) ⟨rfl, rfl, Nat.le_of_ble_eq_true rfl, Nat.le_of_ble_eq_true rfl⟩ (Nat.le_of_ble_eq_true rfl) (z_pm [0] 1 rfl (by decide) rfl) ?_
    refine z_open 0 [(wEo ged ed), (wN cI (ged 1) (ged 2) (eCopy ed)), (wN cI (ged 3) (ged 4) (eWait ed)), (wN cI (ged 5) (ged 6) (eBacks ed))] [(wEo ged ed), (wN cI (ged 1) (ged 2) (eCopy ed)), (wN cI (ged 3) (ged 4) (eWait ed)), (wN cI (ged 5) (ged 6) (eBacks ed))] rfl rfl rfl ?_
    refine z_callV0 C [(wN cI (ged 1) (ged 2) (eCopy ed))] [(wEo ged ed), (wN cI (ged 3) (ged 4) (eWait ed)), (wN cI (ged 5) (ged 6) (eBacks ed))] rfl rfl (met_X4_addAt l D cI (ged 1) (ged 2) (eCopy ed) x1 (f_X0_sign p1) _ hw) y_X4_addAt mw_8_14 dX2_apply_24 rfl n_X4_addAt rfl (by decide) ⟨rfl, rfl, Nat.le_of_ble_eq_true rfl, Nat.le_of_ble_eq_true rfl⟩ (Nat.le_of_ble_eq_true rfl) (z_pm [1, 0, 2, 3] 4 rfl (by decide) rfl) ?_
    intro u10 hw
    try dsimp only at hw
    refine z_bs [(wN cI (ged 1) (ged 2) u10), (wEo ged ed), (wN cI (ged 3) (ged 4) (eWait ed)), (wN cI (ged 5) (ged 6) (eBacks ed))] [] rfl rfl ?_
    refine z_perm C [(wEo ged ed), (wN cI (ged 1) (ged 2) u10), (wN cI (ged 3) (ged 4) (eWait ed)), (wN cI (ged 5) (ged 6) (eBacks ed))] (z_pm [1, 0, 2, 3] 4 rfl (by decide) rfl) ?_
    refine z_shut 0 [(wEo ged ed), (wN cI (ged 1) (ged 2) u10), (wN cI (ged 3) (ged 4) (eWait ed)), (wN cI (ged 5) (ged 6) (eBacks ed))] [(wE cI ged (eSetCopy ed u10))] rfl rfl rfl ?_
    refine z_aload_n C dX2_apply_27 rfl ?_
    refine z_dup C dX2_apply_28 rfl ?_
    refine z_get C inlX2 rfl 6 (by decide) mw_6_21 dX2_apply_29 0 0 rfl rfl rfl ?_
    refine z_iload_n C dX2_apply_32 rfl ?_
    refine z_aload_n C dX2_apply_33 rfl ?_
    refine z_get C inlX2 rfl 6 (by decide) mw_6_21 dX2_apply_34 0 0 rfl rfl rfl ?_
    refine z_icmp_gt C dX2_apply_37 44 (by decide) (fun c11 => ?_) (fun c11 => ?_)
    · replace hw := hw.1 c11
      refine z_iconst C dX2_apply_44 0 (by decide +kernel) ?_
      refine z_iadd C dX2_apply_45 ?_
      refine z_put C inlX2 rfl tyX2 tyX2_ok nmX2 6 (by decide) mw_6_21 rfl rfl rfl rfl dX2_apply_46 0 0 rfl rfl (Nat.le_of_ble_eq_true rfl) [(wE cI ged (eSetCopy (eSetSpot ed ((eSpot ed) + 0)) u10))] rfl ?_
      refine z_goto C dX2_apply_49 87 (by decide) ?_
      refine z_iconst C dX2_apply_87 0 (by decide +kernel) ?_
      refine z_istore C dX2_apply_88 [some (.ref (ged 0)), some (.int p1), some (.int x1), some (.int x2), some (.int 0)] (by decide) rfl ?_
      refine z_ls C [true, true, false, false, true] [some (.ref (ged 0)), some (.int p1), none, none, some (.int 0)] rfl ?_
      exact wk_X2_apply_90 C ged ed p1 ((eSpot ed) + 0) u10  0 (eBacks ed) _  hw
    · replace hw := hw.2 c11
      refine z_iconst C dX2_apply_40 1 (by decide +kernel) ?_
      refine z_goto C dX2_apply_41 45 (by decide) ?_
      refine z_iadd C dX2_apply_45 ?_
      refine z_put C inlX2 rfl tyX2 tyX2_ok nmX2 6 (by decide) mw_6_21 rfl rfl rfl rfl dX2_apply_46 0 0 rfl rfl (Nat.le_of_ble_eq_true rfl) [(wE cI ged (eSetCopy (eSetSpot ed ((eSpot ed) + 1)) u10))] rfl ?_
      refine z_goto C dX2_apply_49 87 (by decide) ?_
      refine z_iconst C dX2_apply_87 0 (by decide +kernel) ?_
      refine z_istore C dX2_apply_88 [some (.ref (ged 0)), some (.int p1), some (.int x1), some (.int x2), some (.int 0)] (by decide) rfl ?_
      refine z_ls C [true, true, false, false, true] [some (.ref (ged 0)), some (.int p1), none, none, some (.int 0)] rfl ?_
      exact wk_X2_apply_90 C ged ed p1 ((eSpot ed) + 1) u10  0 (eBacks ed) _  hw
def rmX2_write : Room := { frames := 2, cells := 0, slots := 0, locals := 52 }
def wp_X2_write (ed : zE) (p1 : Int32) (Q : zE → Prop) : Prop := (wp_X2_apply ed p1 (fun u1 => (wp_X4_add (eWait u1) p1 (fun u2 => (Q (eSetWait (eSetWr u1 ((eWr u1) + 1)) u2))))))
set_option maxHeartbeats 4000000 in
set_option maxRecDepth 100000 in
theorem met_X2_write (l : Launch) (D : va_G) (cI : ClassId) (ged : Nat → Nat) (ed : zE) (p1 : Int32) (Q : zE → Prop) (hw : wp_X2_write ed p1 Q) : ZM l D cI yX2_write cX2_write 2 none rmX2_write [.ref (ged 0), .int p1] [(wE cI ged ed)] (fun _ : zE => none) (fun u : zE => [(wE cI ged u)]) (fun u : zE => Q u) := by
  refine z_body [some (.ref (ged 0)), some (.int p1)] (by decide +kernel) rfl (Nat.le_of_ble_eq_true rfl) rfl ?_
  intro p e s m args below meth c A C hin
  unfold wp_X2_write at hw
  refine z_aload_n C dX2_write_0 rfl ?_
  refine z_iload_n C dX2_write_1 rfl ?_
  refine z_callV0 C [(wE cI ged ed)] [] rfl rfl (met_X2_apply l D cI ged ed p1 _ hw) y_X2_apply mw_8_1 dX2_write_2 rfl n_X2_apply rfl (by decide) ⟨rfl, rfl, Nat.le_of_ble_eq_true rfl, Nat.le_of_ble_eq_true rfl⟩ (Nat.le_of_ble_eq_true rfl) (z_pm [0] 1 rfl (by decide) rfl) ?_
  intro u1 hw
  try dsimp only at hw
  refine z_bs [(wE cI ged u1)] [] rfl rfl ?_
  refine z_aload_n C dX2_write_5 rfl ?_
  refine z_get C inlX2 rfl 2 (by decide) mw_2_23 dX2_write_6 0 0 rfl rfl rfl ?_
  refine z_iload_n C dX2_write_9 rfl ?_
  refine z_open 0 [(wEo ged u1), (wN cI (ged 1) (ged 2) (eCopy u1)), (wN cI (ged 3) (ged 4) (eWait u1)), (wN cI (ged 5) (ged 6) (eBacks u1))] [(wEo ged u1), (wN cI (ged 1) (ged 2) (eCopy u1)), (wN cI (ged 3) (ged 4) (eWait u1)), (wN cI (ged 5) (ged 6) (eBacks u1))] rfl rfl rfl ?_
  refine z_callV0 C [(wN cI (ged 3) (ged 4) (eWait u1))] [(wEo ged u1), (wN cI (ged 1) (ged 2) (eCopy u1)), (wN cI (ged 5) (ged 6) (eBacks u1))] rfl rfl (met_X4_add l D cI (ged 3) (ged 4) (eWait u1) p1 _ hw) y_X4_add mw_9_6 dX2_write_10 rfl n_X4_add rfl (by decide) ⟨rfl, rfl, Nat.le_of_ble_eq_true rfl, Nat.le_of_ble_eq_true rfl⟩ (Nat.le_of_ble_eq_true rfl) (z_pm [2, 0, 1, 3] 4 rfl (by decide) rfl) ?_
  intro u2 hw
  try dsimp only at hw
  refine z_bs [(wN cI (ged 3) (ged 4) u2), (wEo ged u1), (wN cI (ged 1) (ged 2) (eCopy u1)), (wN cI (ged 5) (ged 6) (eBacks u1))] [] rfl rfl ?_
  refine z_perm C [(wEo ged u1), (wN cI (ged 1) (ged 2) (eCopy u1)), (wN cI (ged 3) (ged 4) u2), (wN cI (ged 5) (ged 6) (eBacks u1))] (z_pm [1, 2, 0, 3] 4 rfl (by decide) rfl) ?_
  refine z_shut 0 [(wEo ged u1), (wN cI (ged 1) (ged 2) (eCopy u1)), (wN cI (ged 3) (ged 4) u2), (wN cI (ged 5) (ged 6) (eBacks u1))] [(wE cI ged (eSetWait u1 u2))] rfl rfl rfl ?_
  refine z_aload_n C dX2_write_13 rfl ?_
  refine z_dup C dX2_write_14 rfl ?_
  refine z_get C inlX2 rfl 7 (by decide) mw_6_22 dX2_write_15 0 0 rfl rfl rfl ?_
  refine z_iconst C dX2_write_18 1 (by decide +kernel) ?_
  refine z_iadd C dX2_write_19 ?_
  refine z_put C inlX2 rfl tyX2 tyX2_ok nmX2 7 (by decide) mw_6_22 rfl rfl rfl rfl dX2_write_20 0 0 rfl rfl (Nat.le_of_ble_eq_true rfl) [(wE cI ged (eSetWait (eSetWr u1 ((eWr u1) + 1)) u2))] rfl ?_
  exact z_vret C rfl ((eSetWait (eSetWr u1 ((eWr u1) + 1)) u2)) rfl hw rfl dX2_write_23
def rmX2_keepBack : Room := { frames := 2, cells := 0, slots := 0, locals := 44 }
def wp_X2_keepBack (ed : zE) (p1 : Int32) (Q : zE → Prop) : Prop := (((f_X4_size (eBacks ed)) < 6 → (wp_X4_add (eBacks ed) p1 (fun u2 => (Q (eSetBacks ed u2))))) ∧ (¬ (f_X4_size (eBacks ed)) < 6 → (wp_X4_removeAt (eBacks ed) 0 (fun u3 => (wp_X4_add u3 p1 (fun u4 => (Q (eSetBacks ed u4))))))))
set_option maxHeartbeats 4000000 in
set_option maxRecDepth 100000 in
theorem met_X2_keepBack (l : Launch) (D : va_G) (cI : ClassId) (ged : Nat → Nat) (ed : zE) (p1 : Int32) (Q : zE → Prop) (hw : wp_X2_keepBack ed p1 Q) : ZM l D cI yX2_keepBack cX2_keepBack 2 none rmX2_keepBack [.ref (ged 0), .int p1] [(wE cI ged ed)] (fun _ : zE => none) (fun u : zE => [(wE cI ged u)]) (fun u : zE => Q u) := by
  refine z_body [some (.ref (ged 0)), some (.int p1)] (by decide +kernel) rfl (Nat.le_of_ble_eq_true rfl) rfl ?_
  intro p e s m args below meth c A C hin
  unfold wp_X2_keepBack at hw
  refine z_aload_n C dX2_keepBack_0 rfl ?_
  refine z_get C inlX2 rfl 3 (by decide) mw_3_0 dX2_keepBack_1 0 0 rfl rfl rfl ?_
  refine z_open 0 [(wEo ged ed), (wN cI (ged 1) (ged 2) (eCopy ed)), (wN cI (ged 3) (ged 4) (eWait ed)), (wN cI (ged 5) (ged 6) (eBacks ed))] [(wEo ged ed), (wN cI (ged 1) (ged 2) (eCopy ed)), (wN cI (ged 3) (ged 4) (eWait ed)), (wN cI (ged 5) (ged 6) (eBacks ed))] rfl rfl rfl ?_
  refine z_callFV C [(wN cI (ged 5) (ged 6) (eBacks ed))] [(wEo ged ed), (wN cI (ged 1) (ged 2) (eCopy ed)), (wN cI (ged 3) (ged 4) (eWait ed))] rfl rfl (met_X4_size l D cI (ged 5) (ged 6) (eBacks ed)) y_X4_size mw_7_16 dX2_keepBack_4 rfl n_X4_size rfl (by decide) ⟨rfl, rfl, Nat.le_of_ble_eq_true rfl, Nat.le_of_ble_eq_true rfl⟩ (Nat.le_of_ble_eq_true rfl) (z_pm [3, 0, 1, 2] 4 rfl (by decide) rfl) ?_
  refine z_shut 0 [(wEo ged ed), (wN cI (ged 1) (ged 2) (eCopy ed)), (wN cI (ged 3) (ged 4) (eWait ed)), (wN cI (ged 5) (ged 6) (eBacks ed))] [(wE cI ged ed)] rfl rfl rfl ?_
  refine z_bipush C dX2_keepBack_7 6 (by decide +kernel) ?_
  refine z_icmp_lt C dX2_keepBack_9 20 (by decide) (fun c1 => ?_) (fun c1 => ?_)
  · replace hw := hw.1 c1
    refine z_aload_n C dX2_keepBack_20 rfl ?_
    refine z_get C inlX2 rfl 3 (by decide) mw_3_0 dX2_keepBack_21 0 0 rfl rfl rfl ?_
    refine z_iload_n C dX2_keepBack_24 rfl ?_
    refine z_open 0 [(wEo ged ed), (wN cI (ged 1) (ged 2) (eCopy ed)), (wN cI (ged 3) (ged 4) (eWait ed)), (wN cI (ged 5) (ged 6) (eBacks ed))] [(wEo ged ed), (wN cI (ged 1) (ged 2) (eCopy ed)), (wN cI (ged 3) (ged 4) (eWait ed)), (wN cI (ged 5) (ged 6) (eBacks ed))] rfl rfl rfl ?_
    refine z_callV0 C [(wN cI (ged 5) (ged 6) (eBacks ed))] [(wEo ged ed), (wN cI (ged 1) (ged 2) (eCopy ed)), (wN cI (ged 3) (ged 4) (eWait ed))] rfl rfl (met_X4_add l D cI (ged 5) (ged 6) (eBacks ed) p1 _ hw) y_X4_add mw_9_6 dX2_keepBack_25 rfl n_X4_add rfl (by decide) ⟨rfl, rfl, Nat.le_of_ble_eq_true rfl, Nat.le_of_ble_eq_true rfl⟩ (Nat.le_of_ble_eq_true rfl) (z_pm [3, 0, 1, 2] 4 rfl (by decide) rfl) ?_
    intro u2 hw
    try dsimp only at hw
    refine z_bs [(wN cI (ged 5) (ged 6) u2), (wEo ged ed), (wN cI (ged 1) (ged 2) (eCopy ed)), (wN cI (ged 3) (ged 4) (eWait ed))] [] rfl rfl ?_
    refine z_perm C [(wEo ged ed), (wN cI (ged 1) (ged 2) (eCopy ed)), (wN cI (ged 3) (ged 4) (eWait ed)), (wN cI (ged 5) (ged 6) u2)] (z_pm [1, 2, 3, 0] 4 rfl (by decide) rfl) ?_
    refine z_shut 0 [(wEo ged ed), (wN cI (ged 1) (ged 2) (eCopy ed)), (wN cI (ged 3) (ged 4) (eWait ed)), (wN cI (ged 5) (ged 6) u2)] [(wE cI ged (eSetBacks ed u2))] rfl rfl rfl ?_
    exact z_vret C rfl ((eSetBacks ed u2)) rfl hw rfl dX2_keepBack_28
  · replace hw := hw.2 c1
    refine z_aload_n C dX2_keepBack_12 rfl ?_
    refine z_get C inlX2 rfl 3 (by decide) mw_3_0 dX2_keepBack_13 0 0 rfl rfl rfl ?_
    refine z_iconst C dX2_keepBack_16 0 (by decide +kernel) ?_
    refine z_open 0 [(wEo ged ed), (wN cI (ged 1) (ged 2) (eCopy ed)), (wN cI (ged 3) (ged 4) (eWait ed)), (wN cI (ged 5) (ged 6) (eBacks ed))] [(wEo ged ed), (wN cI (ged 1) (ged 2) (eCopy ed)), (wN cI (ged 3) (ged 4) (eWait ed)), (wN cI (ged 5) (ged 6) (eBacks ed))] rfl rfl rfl ?_
    refine z_callV0 C [(wN cI (ged 5) (ged 6) (eBacks ed))] [(wEo ged ed), (wN cI (ged 1) (ged 2) (eCopy ed)), (wN cI (ged 3) (ged 4) (eWait ed))] rfl rfl (met_X4_removeAt l D cI (ged 5) (ged 6) (eBacks ed) 0 _ hw) y_X4_removeAt mw_8_18 dX2_keepBack_17 rfl n_X4_removeAt rfl (by decide) ⟨rfl, rfl, Nat.le_of_ble_eq_true rfl, Nat.le_of_ble_eq_true rfl⟩ (Nat.le_of_ble_eq_true rfl) (z_pm [3, 0, 1, 2] 4 rfl (by decide) rfl) ?_
    intro u3 hw
    try dsimp only at hw
    refine z_bs [(wN cI (ged 5) (ged 6) u3), (wEo ged ed), (wN cI (ged 1) (ged 2) (eCopy ed)), (wN cI (ged 3) (ged 4) (eWait ed))] [] rfl rfl ?_
    refine z_perm C [(wEo ged ed), (wN cI (ged 1) (ged 2) (eCopy ed)), (wN cI (ged 3) (ged 4) (eWait ed)), (wN cI (ged 5) (ged 6) u3)] (z_pm [1, 2, 3, 0] 4 rfl (by decide) rfl) ?_
    refine z_shut 0 [(wEo ged ed), (wN cI (ged 1) (ged 2) (eCopy ed)), (wN cI (ged 3) (ged 4) (eWait ed)), (wN cI (ged 5) (ged 6) u3)] [(wE cI ged (eSetBacks ed u3))] rfl rfl rfl ?_
    refine z_aload_n C dX2_keepBack_20 rfl ?_
    refine z_get C inlX2 rfl 3 (by decide) mw_3_0 dX2_keepBack_21 0 0 rfl rfl rfl ?_
    refine z_iload_n C dX2_keepBack_24 rfl ?_
    refine z_open 0 [(wEo ged (eSetBacks ed u3)), (wN cI (ged 1) (ged 2) (eCopy ed)), (wN cI (ged 3) (ged 4) (eWait ed)), (wN cI (ged 5) (ged 6) u3)] [(wEo ged (eSetBacks ed u3)), (wN cI (ged 1) (ged 2) (eCopy ed)), (wN cI (ged 3) (ged 4) (eWait ed)), (wN cI (ged 5) (ged 6) u3)] rfl rfl rfl ?_
    refine z_callV0 C [(wN cI (ged 5) (ged 6) u3)] [(wEo ged (eSetBacks ed u3)), (wN cI (ged 1) (ged 2) (eCopy ed)), (wN cI (ged 3) (ged 4) (eWait ed))] rfl rfl (met_X4_add l D cI (ged 5) (ged 6) u3 p1 _ hw) y_X4_add mw_9_6 dX2_keepBack_25 rfl n_X4_add rfl (by decide) ⟨rfl, rfl, Nat.le_of_ble_eq_true rfl, Nat.le_of_ble_eq_true rfl⟩ (Nat.le_of_ble_eq_true rfl) (z_pm [3, 0, 1, 2] 4 rfl (by decide) rfl) ?_
    intro u4 hw
    try dsimp only at hw
    refine z_bs [(wN cI (ged 5) (ged 6) u4), (wEo ged (eSetBacks ed u3)), (wN cI (ged 1) (ged 2) (eCopy ed)), (wN cI (ged 3) (ged 4) (eWait ed))] [] rfl rfl ?_
    refine z_perm C [(wEo ged (eSetBacks ed u3)), (wN cI (ged 1) (ged 2) (eCopy ed)), (wN cI (ged 3) (ged 4) (eWait ed)), (wN cI (ged 5) (ged 6) u4)] (z_pm [1, 2, 3, 0] 4 rfl (by decide) rfl) ?_
    refine z_shut 0 [(wEo ged (eSetBacks ed u3)), (wN cI (ged 1) (ged 2) (eCopy ed)), (wN cI (ged 3) (ged 4) (eWait ed)), (wN cI (ged 5) (ged 6) u4)] [(wE cI ged (eSetBacks ed u4))] rfl rfl rfl ?_
    exact z_vret C rfl ((eSetBacks ed u4)) rfl hw rfl dX2_keepBack_28
def rmX2_putIn : Room := { frames := 3, cells := 0, slots := 0, locals := 73 }
def wp_X2_putIn (ed : zE) (p1 : Int32) (p2 : Int32) (Q : Int32 → zE → Prop) : Prop := ((p1 < 0 → (Q (-1) ed)) ∧ (¬ p1 < 0 → (((f_X4_size (eCopy ed)) < p1 → (Q (-1) ed)) ∧ (¬ (f_X4_size (eCopy ed)) < p1 → ((p2 < 0 → (Q (-1) ed)) ∧ (¬ p2 < 0 → ((p2 < 26 → ((30 ≤ (f_X4_size (eCopy ed)) → (Q (-3) ed)) ∧ (¬ 30 ≤ (f_X4_size (eCopy ed)) → (((f_X4_size (eWait ed)) < 6 → (wp_X2_write ed (f_X0_of 1 p1 p2 (eNum ed)) (fun u7 => (wp_X2_keepBack u7 (f_X0_of 2 p1 0 (eNum u7)) (fun u8 => (Q (f_X4_size (eCopy u8)) u8)))))) ∧ (¬ (f_X4_size (eWait ed)) < 6 → (Q (-3) ed)))))) ∧ (¬ p2 < 26 → (Q (-1) ed)))))))))
set_option maxHeartbeats 4000000 in
set_option maxRecDepth 100000 in
theorem met_X2_putIn (l : Launch) (D : va_G) (cI : ClassId) (ged : Nat → Nat) (ed : zE) (p1 : Int32) (p2 : Int32) (Q : Int32 → zE → Prop) (hw : wp_X2_putIn ed p1 p2 Q) : ZM l D cI yX2_putIn cX2_putIn 3 (some .int) rmX2_putIn [.ref (ged 0), .int p1, .int p2] [(wE cI ged ed)] (fun u : Int32 × zE => some (.int u.1)) (fun u : Int32 × zE => [(wE cI ged (u.2))]) (fun u : Int32 × zE => Q u.1 u.2) := by
  refine z_body [some (.ref (ged 0)), some (.int p1), some (.int p2)] (by decide +kernel) rfl (Nat.le_of_ble_eq_true rfl) rfl ?_
  intro p e s m args below meth c A C hin
  unfold wp_X2_putIn at hw
  refine z_iload_n C dX2_putIn_0 rfl ?_
  refine z_if_lt C dX2_putIn_1 25 (by decide) (fun c1 => ?_) (fun c1 => ?_)
  · replace hw := hw.1 c1
    refine z_iconst C dX2_putIn_25 (-1) (by decide +kernel) ?_
    exact z_iret C rfl ((-1), ed) rfl hw rfl dX2_putIn_26
  · replace hw := hw.2 c1
    refine z_iload_n C dX2_putIn_4 rfl ?_
    refine z_aload_n C dX2_putIn_5 rfl ?_
    refine z_get C inlX2 rfl 1 (by decide) mw_2_22 dX2_putIn_6 0 0 rfl rfl rfl ?_
    refine z_open 0 [(wEo ged ed), (wN cI (ged 1) (ged 2) (eCopy ed)), (wN cI (ged 3) (ged 4) (eWait ed)), (wN cI (ged 5) (ged 6) (eBacks ed))] [(wEo ged ed), (wN cI (ged 1) (ged 2) (eCopy ed)), (wN cI (ged 3) (ged 4) (eWait ed)), (wN cI (ged 5) (ged 6) (eBacks ed))] rfl rfl rfl ?_
    refine z_callFV C [(wN cI (ged 1) (ged 2) (eCopy ed))] [(wEo ged ed), (wN cI (ged 3) (ged 4) (eWait ed)), (wN cI (ged 5) (ged 6) (eBacks ed))] rfl rfl (met_X4_size l D cI (ged 1) (ged 2) (eCopy ed)) y_X4_size mw_7_16 dX2_putIn_9 rfl n_X4_size rfl (by decide) ⟨rfl, rfl, Nat.le_of_ble_eq_true rfl, Nat.le_of_ble_eq_true rfl⟩ (Nat.le_of_ble_eq_true rfl) (z_pm [1, 0, 2, 3] 4 rfl (by decide) rfl) ?_
    refine z_shut 0 [(wEo ged ed), (wN cI (ged 1) (ged 2) (eCopy ed)), (wN cI (ged 3) (ged 4) (eWait ed)), (wN cI (ged 5) (ged 6) (eBacks ed))] [(wE cI ged ed)] rfl rfl rfl ?_
    refine z_icmp_gt C dX2_putIn_12 25 (by decide) (fun c2 => ?_) (fun c2 => ?_)
    · replace hw := hw.1 c2
      refine z_iconst C dX2_putIn_25 (-1) (by decide +kernel) ?_
      exact z_iret C rfl ((-1), ed) rfl hw rfl dX2_putIn_26
    · replace hw := hw.2 c2
      refine z_iload_n C dX2_putIn_15 rfl ?_
      refine z_if_lt C dX2_putIn_16 25 (by decide) (fun c3 => ?_) (fun c3 => ?_)
      · replace hw := hw.1 c3
        refine z_iconst C dX2_putIn_25 (-1) (by decide +kernel) ?_
        exact z_iret C rfl ((-1), ed) rfl hw rfl dX2_putIn_26
      · replace hw := hw.2 c3
        refine z_iload_n C dX2_putIn_19 rfl ?_
        refine z_bipush C dX2_putIn_20 26 (by decide +kernel) ?_
        refine z_icmp_lt C dX2_putIn_22 27 (by decide) (fun c4 => ?_) (fun c4 => ?_)
        · replace hw := hw.1 c4
          refine z_aload_n C dX2_putIn_27 rfl ?_
          refine z_get C inlX2 rfl 1 (by decide) mw_2_22 dX2_putIn_28 0 0 rfl rfl rfl ?_
          refine z_open 0 [(wEo ged ed), (wN cI (ged 1) (ged 2) (eCopy ed)), (wN cI (ged 3) (ged 4) (eWait ed)), (wN cI (ged 5) (ged 6) (eBacks ed))] [(wEo ged ed), (wN cI (ged 1) (ged 2) (eCopy ed)), (wN cI (ged 3) (ged 4) (eWait ed)), (wN cI (ged 5) (ged 6) (eBacks ed))] rfl rfl rfl ?_
          refine z_callFV C [(wN cI (ged 1) (ged 2) (eCopy ed))] [(wEo ged ed), (wN cI (ged 3) (ged 4) (eWait ed)), (wN cI (ged 5) (ged 6) (eBacks ed))] rfl rfl (met_X4_size l D cI (ged 1) (ged 2) (eCopy ed)) y_X4_size mw_7_16 dX2_putIn_31 rfl n_X4_size rfl (by decide) ⟨rfl, rfl, Nat.le_of_ble_eq_true rfl, Nat.le_of_ble_eq_true rfl⟩ (Nat.le_of_ble_eq_true rfl) (z_pm [1, 0, 2, 3] 4 rfl (by decide) rfl) ?_
          refine z_shut 0 [(wEo ged ed), (wN cI (ged 1) (ged 2) (eCopy ed)), (wN cI (ged 3) (ged 4) (eWait ed)), (wN cI (ged 5) (ged 6) (eBacks ed))] [(wE cI ged ed)] rfl rfl rfl ?_
          refine z_bipush C dX2_putIn_34 30 (by decide +kernel) ?_
          refine z_icmp_ge C dX2_putIn_36 51 (by decide) (fun c5 => ?_) (fun c5 => ?_)
          · replace hw := hw.1 c5
            refine z_bipush C dX2_putIn_51 (-3) (by decide +kernel) ?_
            exact z_iret C rfl ((-3), ed) rfl hw rfl dX2_putIn_53
          · replace hw := hw.2 c5
            refine z_aload_n C dX2_putIn_39 rfl ?_
            refine z_get C inlX2 rfl 2 (by decide) mw_2_23 dX2_putIn_40 0 0 rfl rfl rfl ?_
            refine z_open 0 [(wEo ged ed), (wN cI (ged 1) (ged 2) (eCopy ed)), (wN cI (ged 3) (ged 4) (eWait ed)), (wN cI (ged 5) (ged 6) (eBacks ed))] [(wEo ged ed), (wN cI (ged 1) (ged 2) (eCopy ed)), (wN cI (ged 3) (ged 4) (eWait ed)), (wN cI (ged 5) (ged 6) (eBacks ed))] rfl rfl rfl ?_
            refine z_callFV C [(wN cI (ged 3) (ged 4) (eWait ed))] [(wEo ged ed), (wN cI (ged 1) (ged 2) (eCopy ed)), (wN cI (ged 5) (ged 6) (eBacks ed))] rfl rfl (met_X4_size l D cI (ged 3) (ged 4) (eWait ed)) y_X4_size mw_7_16 dX2_putIn_43 rfl n_X4_size rfl (by decide) ⟨rfl, rfl, Nat.le_of_ble_eq_true rfl, Nat.le_of_ble_eq_true rfl⟩ (Nat.le_of_ble_eq_true rfl) (z_pm [2, 0, 1, 3] 4 rfl (by decide) rfl) ?_
            refine z_shut 0 [(wEo ged ed), (wN cI (ged 1) (ged 2) (eCopy ed)), (wN cI (ged 3) (ged 4) (eWait ed)), (wN cI (ged 5) (ged 6) (eBacks ed))] [(wE cI ged ed)] rfl rfl rfl ?_
            refine z_bipush C dX2_putIn_46 6 (by decide +kernel) ?_
            refine z_icmp_lt C dX2_putIn_48 54 (by decide) (fun c6 => ?_) (fun c6 => ?_)
            · replace hw := hw.1 c6
              refine z_aload_n C dX2_putIn_54 rfl ?_
              refine z_iconst C dX2_putIn_55 1 (by decide +kernel) ?_
              refine z_iload_n C dX2_putIn_56 rfl ?_
              refine z_iload_n C dX2_putIn_57 rfl ?_
              refine z_aload_n C dX2_putIn_58 rfl ?_
              refine z_get C inlX2 rfl 0 (by decide) mw_2_20 dX2_putIn_59 0 0 rfl rfl rfl ?_
              refine z_callFS C [] [(wE cI ged ed)] (met_X0_of l D cI 1 p1 p2 (eNum ed)) y_X0_of mw_7_17 dX2_putIn_62 rfl n_X0_of rfl (by decide) ⟨rfl, rfl, Nat.le_of_ble_eq_true rfl, Nat.le_of_ble_eq_true rfl⟩ (Nat.le_of_ble_eq_true rfl) (z_pm [0] 1 rfl (by decide) rfl) ?_
              refine z_callV0 C [(wE cI ged ed)] [] rfl rfl (met_X2_write l D cI ged ed (f_X0_of 1 p1 p2 (eNum ed)) _ hw) y_X2_write mw_7_21 dX2_putIn_65 rfl n_X2_write rfl (by decide) ⟨rfl, rfl, Nat.le_of_ble_eq_true rfl, Nat.le_of_ble_eq_true rfl⟩ (Nat.le_of_ble_eq_true rfl) (z_pm [0] 1 rfl (by decide) rfl) ?_
              intro u7 hw
              try dsimp only at hw
              refine z_bs [(wE cI ged u7)] [] rfl rfl ?_
              refine z_aload_n C dX2_putIn_68 rfl ?_
              refine z_iconst C dX2_putIn_69 2 (by decide +kernel) ?_
              refine z_iload_n C dX2_putIn_70 rfl ?_
              refine z_iconst C dX2_putIn_71 0 (by decide +kernel) ?_
              refine z_aload_n C dX2_putIn_72 rfl ?_
              refine z_get C inlX2 rfl 0 (by decide) mw_2_20 dX2_putIn_73 0 0 rfl rfl rfl ?_
              refine z_callFS C [] [(wE cI ged u7)] (met_X0_of l D cI 2 p1 0 (eNum u7)) y_X0_of mw_7_17 dX2_putIn_76 rfl n_X0_of rfl (by decide) ⟨rfl, rfl, Nat.le_of_ble_eq_true rfl, Nat.le_of_ble_eq_true rfl⟩ (Nat.le_of_ble_eq_true rfl) (z_pm [0] 1 rfl (by decide) rfl) ?_
              refine z_callV0 C [(wE cI ged u7)] [] rfl rfl (met_X2_keepBack l D cI ged u7 (f_X0_of 2 p1 0 (eNum u7)) _ hw) y_X2_keepBack mw_9_11 dX2_putIn_79 rfl n_X2_keepBack rfl (by decide) ⟨rfl, rfl, Nat.le_of_ble_eq_true rfl, Nat.le_of_ble_eq_true rfl⟩ (Nat.le_of_ble_eq_true rfl) (z_pm [0] 1 rfl (by decide) rfl) ?_
              intro u8 hw
              try dsimp only at hw
              refine z_bs [(wE cI ged u8)] [] rfl rfl ?_
              refine z_aload_n C dX2_putIn_82 rfl ?_
              refine z_get C inlX2 rfl 1 (by decide) mw_2_22 dX2_putIn_83 0 0 rfl rfl rfl ?_
              refine z_open 0 [(wEo ged u8), (wN cI (ged 1) (ged 2) (eCopy u8)), (wN cI (ged 3) (ged 4) (eWait u8)), (wN cI (ged 5) (ged 6) (eBacks u8))] [(wEo ged u8), (wN cI (ged 1) (ged 2) (eCopy u8)), (wN cI (ged 3) (ged 4) (eWait u8)), (wN cI (ged 5) (ged 6) (eBacks u8))] rfl rfl rfl ?_
              refine z_callFV C [(wN cI (ged 1) (ged 2) (eCopy u8))] [(wEo ged u8), (wN cI (ged 3) (ged 4) (eWait u8)), (wN cI (ged 5) (ged 6) (eBacks u8))] rfl rfl (met_X4_size l D cI (ged 1) (ged 2) (eCopy u8)) y_X4_size mw_7_16 dX2_putIn_86 rfl n_X4_size rfl (by decide) ⟨rfl, rfl, Nat.le_of_ble_eq_true rfl, Nat.le_of_ble_eq_true rfl⟩ (Nat.le_of_ble_eq_true rfl) (z_pm [1, 0, 2, 3] 4 rfl (by decide) rfl) ?_
              refine z_shut 0 [(wEo ged u8), (wN cI (ged 1) (ged 2) (eCopy u8)), (wN cI (ged 3) (ged 4) (eWait u8)), (wN cI (ged 5) (ged 6) (eBacks u8))] [(wE cI ged u8)] rfl rfl rfl ?_
              exact z_iret C rfl ((f_X4_size (eCopy u8)), u8) rfl hw rfl dX2_putIn_89
            · replace hw := hw.2 c6
              refine z_bipush C dX2_putIn_51 (-3) (by decide +kernel) ?_
              exact z_iret C rfl ((-3), ed) rfl hw rfl dX2_putIn_53
        · replace hw := hw.2 c4
          refine z_iconst C dX2_putIn_25 (-1) (by decide +kernel) ?_
          exact z_iret C rfl ((-1), ed) rfl hw rfl dX2_putIn_26
def rmX2_takeOut : Room := { frames := 3, cells := 0, slots := 0, locals := 73 }
def wp_X2_takeOut (ed : zE) (p1 : Int32) (Q : Int32 → zE → Prop) : Prop := ((p1 < 0 → (Q (-1) ed)) ∧ (¬ p1 < 0 → ((p1 < (f_X4_size (eCopy ed)) → (((f_X4_size (eWait ed)) < 6 → (wp_X4_at (eCopy ed) p1 (fun r4 => (wp_X2_write ed (f_X0_of 2 p1 0 (eNum ed)) (fun u5 => (wp_X2_keepBack u5 (f_X0_of 1 p1 r4 (eNum u5)) (fun u6 => (Q r4 u6)))))))) ∧ (¬ (f_X4_size (eWait ed)) < 6 → (Q (-3) ed)))) ∧ (¬ p1 < (f_X4_size (eCopy ed)) → (Q (-1) ed)))))
set_option maxHeartbeats 4000000 in
set_option maxRecDepth 100000 in
theorem met_X2_takeOut (l : Launch) (D : va_G) (cI : ClassId) (ged : Nat → Nat) (ed : zE) (p1 : Int32) (Q : Int32 → zE → Prop) (hw : wp_X2_takeOut ed p1 Q) : ZM l D cI yX2_takeOut cX2_takeOut 3 (some .int) rmX2_takeOut [.ref (ged 0), .int p1] [(wE cI ged ed)] (fun u : Int32 × zE => some (.int u.1)) (fun u : Int32 × zE => [(wE cI ged (u.2))]) (fun u : Int32 × zE => Q u.1 u.2) := by
  refine z_body [some (.ref (ged 0)), some (.int p1), none] (by decide +kernel) rfl (Nat.le_of_ble_eq_true rfl) rfl ?_
  intro p e s m args below meth c A C hin
  unfold wp_X2_takeOut at hw
  refine z_iload_n C dX2_takeOut_0 rfl ?_
  refine z_if_lt C dX2_takeOut_1 15 (by decide) (fun c1 => ?_) (fun c1 => ?_)
  · replace hw := hw.1 c1
    refine z_iconst C dX2_takeOut_15 (-1) (by decide +kernel) ?_
    exact z_iret C rfl ((-1), ed) rfl hw rfl dX2_takeOut_16
  · replace hw := hw.2 c1
    refine z_iload_n C dX2_takeOut_4 rfl ?_
    refine z_aload_n C dX2_takeOut_5 rfl ?_
    refine z_get C inlX2 rfl 1 (by decide) mw_2_22 dX2_takeOut_6 0 0 rfl rfl rfl ?_
    refine z_open 0 [(wEo ged ed), (wN cI (ged 1) (ged 2) (eCopy ed)), (wN cI (ged 3) (ged 4) (eWait ed)), (wN cI (ged 5) (ged 6) (eBacks ed))] [(wEo ged ed), (wN cI (ged 1) (ged 2) (eCopy ed)), (wN cI (ged 3) (ged 4) (eWait ed)), (wN cI (ged 5) (ged 6) (eBacks ed))] rfl rfl rfl ?_
    refine z_callFV C [(wN cI (ged 1) (ged 2) (eCopy ed))] [(wEo ged ed), (wN cI (ged 3) (ged 4) (eWait ed)), (wN cI (ged 5) (ged 6) (eBacks ed))] rfl rfl (met_X4_size l D cI (ged 1) (ged 2) (eCopy ed)) y_X4_size mw_7_16 dX2_takeOut_9 rfl n_X4_size rfl (by decide) ⟨rfl, rfl, Nat.le_of_ble_eq_true rfl, Nat.le_of_ble_eq_true rfl⟩ (Nat.le_of_ble_eq_true rfl) (z_pm [1, 0, 2, 3] 4 rfl (by decide) rfl) ?_
    refine z_shut 0 [(wEo ged ed), (wN cI (ged 1) (ged 2) (eCopy ed)), (wN cI (ged 3) (ged 4) (eWait ed)), (wN cI (ged 5) (ged 6) (eBacks ed))] [(wE cI ged ed)] rfl rfl rfl ?_
    refine z_icmp_lt C dX2_takeOut_12 17 (by decide) (fun c2 => ?_) (fun c2 => ?_)
    · replace hw := hw.1 c2
      refine z_aload_n C dX2_takeOut_17 rfl ?_
      refine z_get C inlX2 rfl 2 (by decide) mw_2_23 dX2_takeOut_18 0 0 rfl rfl rfl ?_
      refine z_open 0 [(wEo ged ed), (wN cI (ged 1) (ged 2) (eCopy ed)), (wN cI (ged 3) (ged 4) (eWait ed)), (wN cI (ged 5) (ged 6) (eBacks ed))] [(wEo ged ed), (wN cI (ged 1) (ged 2) (eCopy ed)), (wN cI (ged 3) (ged 4) (eWait ed)), (wN cI (ged 5) (ged 6) (eBacks ed))] rfl rfl rfl ?_
      refine z_callFV C [(wN cI (ged 3) (ged 4) (eWait ed))] [(wEo ged ed), (wN cI (ged 1) (ged 2) (eCopy ed)), (wN cI (ged 5) (ged 6) (eBacks ed))] rfl rfl (met_X4_size l D cI (ged 3) (ged 4) (eWait ed)) y_X4_size mw_7_16 dX2_takeOut_21 rfl n_X4_size rfl (by decide) ⟨rfl, rfl, Nat.le_of_ble_eq_true rfl, Nat.le_of_ble_eq_true rfl⟩ (Nat.le_of_ble_eq_true rfl) (z_pm [2, 0, 1, 3] 4 rfl (by decide) rfl) ?_
      refine z_shut 0 [(wEo ged ed), (wN cI (ged 1) (ged 2) (eCopy ed)), (wN cI (ged 3) (ged 4) (eWait ed)), (wN cI (ged 5) (ged 6) (eBacks ed))] [(wE cI ged ed)] rfl rfl rfl ?_
      refine z_bipush C dX2_takeOut_24 6 (by decide +kernel) ?_
      refine z_icmp_lt C dX2_takeOut_26 32 (by decide) (fun c3 => ?_) (fun c3 => ?_)
      · replace hw := hw.1 c3
        refine z_aload_n C dX2_takeOut_32 rfl ?_
        refine z_get C inlX2 rfl 1 (by decide) mw_2_22 dX2_takeOut_33 0 0 rfl rfl rfl ?_
        refine z_iload_n C dX2_takeOut_36 rfl ?_
        refine z_open 0 [(wEo ged ed), (wN cI (ged 1) (ged 2) (eCopy ed)), (wN cI (ged 3) (ged 4) (eWait ed)), (wN cI (ged 5) (ged 6) (eBacks ed))] [(wEo ged ed), (wN cI (ged 1) (ged 2) (eCopy ed)), (wN cI (ged 3) (ged 4) (eWait ed)), (wN cI (ged 5) (ged 6) (eBacks ed))] rfl rfl rfl ?_
        refine z_callV0 C [(wN cI (ged 1) (ged 2) (eCopy ed))] [(wEo ged ed), (wN cI (ged 3) (ged 4) (eWait ed)), (wN cI (ged 5) (ged 6) (eBacks ed))] rfl rfl (met_X4_at l D cI (ged 1) (ged 2) (eCopy ed) p1 _ hw) y_X4_at mw_8_22 dX2_takeOut_37 rfl n_X4_at rfl (by decide) ⟨rfl, rfl, Nat.le_of_ble_eq_true rfl, Nat.le_of_ble_eq_true rfl⟩ (Nat.le_of_ble_eq_true rfl) (z_pm [1, 0, 2, 3] 4 rfl (by decide) rfl) ?_
        intro r4 hw
        try dsimp only at hw
        refine z_bs [(wN cI (ged 1) (ged 2) (eCopy ed)), (wEo ged ed), (wN cI (ged 3) (ged 4) (eWait ed)), (wN cI (ged 5) (ged 6) (eBacks ed))] [.int r4] rfl rfl ?_
        refine z_perm C [(wEo ged ed), (wN cI (ged 1) (ged 2) (eCopy ed)), (wN cI (ged 3) (ged 4) (eWait ed)), (wN cI (ged 5) (ged 6) (eBacks ed))] (z_pm [1, 0, 2, 3] 4 rfl (by decide) rfl) ?_
        refine z_shut 0 [(wEo ged ed), (wN cI (ged 1) (ged 2) (eCopy ed)), (wN cI (ged 3) (ged 4) (eWait ed)), (wN cI (ged 5) (ged 6) (eBacks ed))] [(wE cI ged ed)] rfl rfl rfl ?_
        refine z_istore_n C dX2_takeOut_40 [some (.ref (ged 0)), some (.int p1), some (.int r4)] (by decide) rfl ?_
        refine z_aload_n C dX2_takeOut_41 rfl ?_
        refine z_iconst C dX2_takeOut_42 2 (by decide +kernel) ?_
        refine z_iload_n C dX2_takeOut_43 rfl ?_
        refine z_iconst C dX2_takeOut_44 0 (by decide +kernel) ?_
        refine z_aload_n C dX2_takeOut_45 rfl ?_
        refine z_get C inlX2 rfl 0 (by decide) mw_2_20 dX2_takeOut_46 0 0 rfl rfl rfl ?_
        refine z_callFS C [] [(wE cI ged ed)] (met_X0_of l D cI 2 p1 0 (eNum ed)) y_X0_of mw_7_17 dX2_takeOut_49 rfl n_X0_of rfl (by decide) ⟨rfl, rfl, Nat.le_of_ble_eq_true rfl, Nat.le_of_ble_eq_true rfl⟩ (Nat.le_of_ble_eq_true rfl) (z_pm [0] 1 rfl (by decide) rfl) ?_
        refine z_callV0 C [(wE cI ged ed)] [] rfl rfl (met_X2_write l D cI ged ed (f_X0_of 2 p1 0 (eNum ed)) _ hw) y_X2_write mw_7_21 dX2_takeOut_52 rfl n_X2_write rfl (by decide) ⟨rfl, rfl, Nat.le_of_ble_eq_true rfl, Nat.le_of_ble_eq_true rfl⟩ (Nat.le_of_ble_eq_true rfl) (z_pm [0] 1 rfl (by decide) rfl) ?_
        intro u5 hw
        try dsimp only at hw
        refine z_bs [(wE cI ged u5)] [] rfl rfl ?_
        refine z_aload_n C dX2_takeOut_55 rfl ?_
        refine z_iconst C dX2_takeOut_56 1 (by decide +kernel) ?_
        refine z_iload_n C dX2_takeOut_57 rfl ?_
        refine z_iload_n C dX2_takeOut_58 rfl ?_
        refine z_aload_n C dX2_takeOut_59 rfl ?_
        refine z_get C inlX2 rfl 0 (by decide) mw_2_20 dX2_takeOut_60 0 0 rfl rfl rfl ?_
        refine z_callFS C [] [(wE cI ged u5)] (met_X0_of l D cI 1 p1 r4 (eNum u5)) y_X0_of mw_7_17 dX2_takeOut_63 rfl n_X0_of rfl (by decide) ⟨rfl, rfl, Nat.le_of_ble_eq_true rfl, Nat.le_of_ble_eq_true rfl⟩ (Nat.le_of_ble_eq_true rfl) (z_pm [0] 1 rfl (by decide) rfl) ?_
        refine z_callV0 C [(wE cI ged u5)] [] rfl rfl (met_X2_keepBack l D cI ged u5 (f_X0_of 1 p1 r4 (eNum u5)) _ hw) y_X2_keepBack mw_9_11 dX2_takeOut_66 rfl n_X2_keepBack rfl (by decide) ⟨rfl, rfl, Nat.le_of_ble_eq_true rfl, Nat.le_of_ble_eq_true rfl⟩ (Nat.le_of_ble_eq_true rfl) (z_pm [0] 1 rfl (by decide) rfl) ?_
        intro u6 hw
        try dsimp only at hw
        refine z_bs [(wE cI ged u6)] [] rfl rfl ?_
        refine z_iload_n C dX2_takeOut_69 rfl ?_
        exact z_iret C rfl (r4, u6) rfl hw rfl dX2_takeOut_70
      · replace hw := hw.2 c3
        refine z_bipush C dX2_takeOut_29 (-3) (by decide +kernel) ?_
        exact z_iret C rfl ((-3), ed) rfl hw rfl dX2_takeOut_31
    · replace hw := hw.2 c2
      refine z_iconst C dX2_takeOut_15 (-1) (by decide +kernel) ?_
      exact z_iret C rfl ((-1), ed) rfl hw rfl dX2_takeOut_16
def rmX2_goBack : Room := { frames := 3, cells := 0, slots := 0, locals := 73 }
def jn_X2_goBack_63 (ed : zE) (v1 : Int32) (v2 : Int32) (v3 : Int32)  (Q : Int32 → zE → Prop)  : Prop := (wp_X4_removeAt (eBacks ed) v1 (fun u7 => ((v3 = 0 → (Q v3 (eSetBacks ed u7))) ∧ (¬ v3 = 0 → (wp_X2_write (eSetBacks ed u7) v2 (fun u9 => (Q v3 u9)))))))
set_option maxHeartbeats 4000000 in
set_option maxRecDepth 100000 in
theorem wk_X2_goBack_63 {p : Program} {l : Launch} {e : Env} {s : State} {m : MethodId} {args : Array Value} {below : List Frame} {meth : Method} {c : Code} {D : va_G} {cI : ClassId} {A : Nat → Prop} (C : ZC p s m args meth c RX2 cX2_goBack 4 (some .int) D cI A) (ged : Nat → Nat) (ed : zE) (v1 : Int32) (v2 : Int32) (v3 : Int32)  (Q : Int32 → zE → Prop)  (hw : jn_X2_goBack_63 ed v1 v2 v3  Q ) : ZZ p l e rmX2_goBack s m args below meth c D A 4 0 0 (MQ below (ZQ D A (fun u : Int32 × zE => some (.int u.1)) (fun u : Int32 × zE => [(wE cI ged (u.2))]) (fun u : Int32 × zE => Q u.1 u.2)) args s rmX2_goBack.cells rmX2_goBack.slots A) [(wE cI ged ed)] 63 [some (.ref (ged 0)), some (.int v1), some (.int v2), some (.int v3)] [] := by
  unfold jn_X2_goBack_63 at hw
  refine z_aload_n C dX2_goBack_63 rfl ?_
  refine z_get C inlX2 rfl 3 (by decide) mw_3_0 dX2_goBack_64 0 0 rfl rfl rfl ?_
  refine z_iload_n C dX2_goBack_67 rfl ?_
  refine z_open 0 [(wEo ged ed), (wN cI (ged 1) (ged 2) (eCopy ed)), (wN cI (ged 3) (ged 4) (eWait ed)), (wN cI (ged 5) (ged 6) (eBacks ed))] [(wEo ged ed), (wN cI (ged 1) (ged 2) (eCopy ed)), (wN cI (ged 3) (ged 4) (eWait ed)), (wN cI (ged 5) (ged 6) (eBacks ed))] rfl rfl rfl ?_
  refine z_callV0 C [(wN cI (ged 5) (ged 6) (eBacks ed))] [(wEo ged ed), (wN cI (ged 1) (ged 2) (eCopy ed)), (wN cI (ged 3) (ged 4) (eWait ed))] rfl rfl (met_X4_removeAt l D cI (ged 5) (ged 6) (eBacks ed) v1 _ hw) y_X4_removeAt mw_8_18 dX2_goBack_68 rfl n_X4_removeAt rfl (by decide) ⟨rfl, rfl, Nat.le_of_ble_eq_true rfl, Nat.le_of_ble_eq_true rfl⟩ (Nat.le_of_ble_eq_true rfl) (z_pm [3, 0, 1, 2] 4 rfl (by decide) rfl) ?_
  intro u7 hw
  try dsimp only at hw
  refine z_bs [(wN cI (ged 5) (ged 6) u7), (wEo ged ed), (wN cI (ged 1) (ged 2) (eCopy ed)), (wN cI (ged 3) (ged 4) (eWait ed))] [] rfl rfl ?_
  refine z_perm C [(wEo ged ed), (wN cI (ged 1) (ged 2) (eCopy ed)), (wN cI (ged 3) (ged 4) (eWait ed)), (wN cI (ged 5) (ged 6) u7)] (z_pm [1, 2, 3, 0] 4 rfl (by decide) rfl) ?_
  refine z_shut 0 [(wEo ged ed), (wN cI (ged 1) (ged 2) (eCopy ed)), (wN cI (ged 3) (ged 4) (eWait ed)), (wN cI (ged 5) (ged 6) u7)] [(wE cI ged (eSetBacks ed u7))] rfl rfl rfl ?_
  refine z_iload_n C dX2_goBack_71 rfl ?_
  refine z_if_eq C dX2_goBack_72 80 (by decide) (fun c8 => ?_) (fun c8 => ?_)
  · replace hw := hw.1 c8
    refine z_iload_n C dX2_goBack_80 rfl ?_
    exact z_iret C rfl (v3, (eSetBacks ed u7)) rfl hw rfl dX2_goBack_81
  · replace hw := hw.2 c8
    refine z_aload_n C dX2_goBack_75 rfl ?_
    refine z_iload_n C dX2_goBack_76 rfl ?_
    refine z_callV0 C [(wE cI ged (eSetBacks ed u7))] [] rfl rfl (met_X2_write l D cI ged (eSetBacks ed u7) v2 _ hw) y_X2_write mw_7_21 dX2_goBack_77 rfl n_X2_write rfl (by decide) ⟨rfl, rfl, Nat.le_of_ble_eq_true rfl, Nat.le_of_ble_eq_true rfl⟩ (Nat.le_of_ble_eq_true rfl) (z_pm [0] 1 rfl (by decide) rfl) ?_
    intro u9 hw
    try dsimp only at hw
    refine z_bs [(wE cI ged u9)] [] rfl rfl ?_
    refine z_iload_n C dX2_goBack_80 rfl ?_
    exact z_iret C rfl (v3, u9) rfl hw rfl dX2_goBack_81
def wp_X2_goBack (ed : zE)  (Q : Int32 → zE → Prop) : Prop := (∀ x1 : Int32, x1 = ((f_X4_size (eBacks ed)) - 1) → ((0 ≤ x1 → (wp_X4_at (eBacks ed) x1 (fun r3 => (∀ x4 : Int32, x4 = (f_X0_kind r3) → ((6 ≤ (f_X4_size (eWait ed)) → (Q (-3) ed)) ∧ (¬ 6 ≤ (f_X4_size (eWait ed)) → ((¬ x4 = 1 → (jn_X2_goBack_63 ed x1 r3 x4  Q )) ∧ (x4 = 1 → (((f_X4_size (eCopy ed)) < 30 → (jn_X2_goBack_63 ed x1 r3 x4  Q )) ∧ (¬ (f_X4_size (eCopy ed)) < 30 → (Q (-3) ed))))))))))) ∧ (¬ 0 ≤ x1 → (Q (-2) ed))))
set_option maxHeartbeats 4000000 in
set_option maxRecDepth 100000 in
theorem met_X2_goBack (l : Launch) (D : va_G) (cI : ClassId) (ged : Nat → Nat) (ed : zE)  (Q : Int32 → zE → Prop) (hw : wp_X2_goBack ed Q) : ZM l D cI yX2_goBack cX2_goBack 4 (some .int) rmX2_goBack [.ref (ged 0)] [(wE cI ged ed)] (fun u : Int32 × zE => some (.int u.1)) (fun u : Int32 × zE => [(wE cI ged (u.2))]) (fun u : Int32 × zE => Q u.1 u.2) := by
  refine z_body [some (.ref (ged 0)), none, none, none] (by decide +kernel) rfl (Nat.le_of_ble_eq_true rfl) rfl ?_
  intro p e s m args below meth c A C hin
  unfold wp_X2_goBack at hw
  refine z_aload_n C dX2_goBack_0 rfl ?_
  refine z_get C inlX2 rfl 3 (by decide) mw_3_0 dX2_goBack_1 0 0 rfl rfl rfl ?_
  refine z_open 0 [(wEo ged ed), (wN cI (ged 1) (ged 2) (eCopy ed)), (wN cI (ged 3) (ged 4) (eWait ed)), (wN cI (ged 5) (ged 6) (eBacks ed))] [(wEo ged ed), (wN cI (ged 1) (ged 2) (eCopy ed)), (wN cI (ged 3) (ged 4) (eWait ed)), (wN cI (ged 5) (ged 6) (eBacks ed))] rfl rfl rfl ?_
  refine z_callFV C [(wN cI (ged 5) (ged 6) (eBacks ed))] [(wEo ged ed), (wN cI (ged 1) (ged 2) (eCopy ed)), (wN cI (ged 3) (ged 4) (eWait ed))] rfl rfl (met_X4_size l D cI (ged 5) (ged 6) (eBacks ed)) y_X4_size mw_7_16 dX2_goBack_4 rfl n_X4_size rfl (by decide) ⟨rfl, rfl, Nat.le_of_ble_eq_true rfl, Nat.le_of_ble_eq_true rfl⟩ (Nat.le_of_ble_eq_true rfl) (z_pm [3, 0, 1, 2] 4 rfl (by decide) rfl) ?_
  refine z_shut 0 [(wEo ged ed), (wN cI (ged 1) (ged 2) (eCopy ed)), (wN cI (ged 3) (ged 4) (eWait ed)), (wN cI (ged 5) (ged 6) (eBacks ed))] [(wE cI ged ed)] rfl rfl rfl ?_
  refine z_iconst C dX2_goBack_7 1 (by decide +kernel) ?_
  refine z_isub C dX2_goBack_8 ?_
  refine z_name C (fun x1 ex1 => ?_)
  replace hw := hw x1 ex1
  refine z_istore_n C dX2_goBack_9 [some (.ref (ged 0)), some (.int x1), none, none] (by decide) rfl ?_
  refine z_iload_n C dX2_goBack_10 rfl ?_
  refine z_if_ge C dX2_goBack_11 17 (by decide) (fun c2 => ?_) (fun c2 => ?_)
  · replace hw := hw.1 c2
    refine z_aload_n C dX2_goBack_17 rfl ?_
    refine z_get C inlX2 rfl 3 (by decide) mw_3_0 dX2_goBack_18 0 0 rfl rfl rfl ?_
    refine z_iload_n C dX2_goBack_21 rfl ?_
    refine z_open 0 [(wEo ged ed), (wN cI (ged 1) (ged 2) (eCopy ed)), (wN cI (ged 3) (ged 4) (eWait ed)), (wN cI (ged 5) (ged 6) (eBacks ed))] [(wEo ged ed), (wN cI (ged 1) (ged 2) (eCopy ed)), (wN cI (ged 3) (ged 4) (eWait ed)), (wN cI (ged 5) (ged 6) (eBacks ed))] rfl rfl rfl ?_
    refine z_callV0 C [(wN cI (ged 5) (ged 6) (eBacks ed))] [(wEo ged ed), (wN cI (ged 1) (ged 2) (eCopy ed)), (wN cI (ged 3) (ged 4) (eWait ed))] rfl rfl (met_X4_at l D cI (ged 5) (ged 6) (eBacks ed) x1 _ hw) y_X4_at mw_8_22 dX2_goBack_22 rfl n_X4_at rfl (by decide) ⟨rfl, rfl, Nat.le_of_ble_eq_true rfl, Nat.le_of_ble_eq_true rfl⟩ (Nat.le_of_ble_eq_true rfl) (z_pm [3, 0, 1, 2] 4 rfl (by decide) rfl) ?_
    intro r3 hw
    try dsimp only at hw
    refine z_bs [(wN cI (ged 5) (ged 6) (eBacks ed)), (wEo ged ed), (wN cI (ged 1) (ged 2) (eCopy ed)), (wN cI (ged 3) (ged 4) (eWait ed))] [.int r3] rfl rfl ?_
    refine z_perm C [(wEo ged ed), (wN cI (ged 1) (ged 2) (eCopy ed)), (wN cI (ged 3) (ged 4) (eWait ed)), (wN cI (ged 5) (ged 6) (eBacks ed))] (z_pm [1, 2, 3, 0] 4 rfl (by decide) rfl) ?_
    refine z_shut 0 [(wEo ged ed), (wN cI (ged 1) (ged 2) (eCopy ed)), (wN cI (ged 3) (ged 4) (eWait ed)), (wN cI (ged 5) (ged 6) (eBacks ed))] [(wE cI ged ed)] rfl rfl rfl ?_
    refine z_istore_n C dX2_goBack_25 [some (.ref (ged 0)), some (.int x1), some (.int r3), none] (by decide) rfl ?_
    refine z_iload_n C dX2_goBack_26 rfl ?_
    refine z_callFS C [] [(wE cI ged ed)] (met_X0_kind l D cI r3) y_X0_kind mw_8_8 dX2_goBack_27 rfl n_X0_kind rfl (by decide) ⟨rfl, rfl, Nat.le_of_ble_eq_true rfl, Nat.le_of_ble_eq_true rfl⟩ (Nat.le_of_ble_eq_true rfl) (z_pm [0] 1 rfl (by decide) rfl) ?_
    refine z_name C (fun x4 ex4 => ?_)
    replace hw := hw x4 ex4
    refine z_istore_n C dX2_goBack_30 [some (.ref (ged 0)), some (.int x1), some (.int r3), some (.int x4)] (by decide) rfl ?_
    refine z_aload_n C dX2_goBack_31 rfl ?_
    refine z_get C inlX2 rfl 2 (by decide) mw_2_23 dX2_goBack_32 0 0 rfl rfl rfl ?_
    refine z_open 0 [(wEo ged ed), (wN cI (ged 1) (ged 2) (eCopy ed)), (wN cI (ged 3) (ged 4) (eWait ed)), (wN cI (ged 5) (ged 6) (eBacks ed))] [(wEo ged ed), (wN cI (ged 1) (ged 2) (eCopy ed)), (wN cI (ged 3) (ged 4) (eWait ed)), (wN cI (ged 5) (ged 6) (eBacks ed))] rfl rfl rfl ?_
    refine z_callFV C [(wN cI (ged 3) (ged 4) (eWait ed))] [(wEo ged ed), (wN cI (ged 1) (ged 2) (eCopy ed)), (wN cI (ged 5) (ged 6) (eBacks ed))] rfl rfl (met_X4_size l D cI (ged 3) (ged 4) (eWait ed)) y_X4_size mw_7_16 dX2_goBack_35 rfl n_X4_size rfl (by decide) ⟨rfl, rfl, Nat.le_of_ble_eq_true rfl, Nat.le_of_ble_eq_true rfl⟩ (Nat.le_of_ble_eq_true rfl) (z_pm [2, 0, 1, 3] 4 rfl (by decide) rfl) ?_
    refine z_shut 0 [(wEo ged ed), (wN cI (ged 1) (ged 2) (eCopy ed)), (wN cI (ged 3) (ged 4) (eWait ed)), (wN cI (ged 5) (ged 6) (eBacks ed))] [(wE cI ged ed)] rfl rfl rfl ?_
    refine z_bipush C dX2_goBack_38 6 (by decide +kernel) ?_
    refine z_icmp_ge C dX2_goBack_40 60 (by decide) (fun c5 => ?_) (fun c5 => ?_)
    · replace hw := hw.1 c5
      refine z_bipush C dX2_goBack_60 (-3) (by decide +kernel) ?_
      exact z_iret C rfl ((-3), ed) rfl hw rfl dX2_goBack_62
    · replace hw := hw.2 c5
      refine z_iload_n C dX2_goBack_43 rfl ?_
      refine z_iconst C dX2_goBack_44 1 (by decide +kernel) ?_
      refine z_icmp_ne C dX2_goBack_45 63 (by decide) (fun c6 => ?_) (fun c6 => ?_)
      · replace hw := hw.1 c6
        exact wk_X2_goBack_63 C ged ed x1 r3 x4  _  hw
      · replace hw := hw.2 c6
        refine z_aload_n C dX2_goBack_48 rfl ?_
        refine z_get C inlX2 rfl 1 (by decide) mw_2_22 dX2_goBack_49 0 0 rfl rfl rfl ?_
        refine z_open 0 [(wEo ged ed), (wN cI (ged 1) (ged 2) (eCopy ed)), (wN cI (ged 3) (ged 4) (eWait ed)), (wN cI (ged 5) (ged 6) (eBacks ed))] [(wEo ged ed), (wN cI (ged 1) (ged 2) (eCopy ed)), (wN cI (ged 3) (ged 4) (eWait ed)), (wN cI (ged 5) (ged 6) (eBacks ed))] rfl rfl rfl ?_
        refine z_callFV C [(wN cI (ged 1) (ged 2) (eCopy ed))] [(wEo ged ed), (wN cI (ged 3) (ged 4) (eWait ed)), (wN cI (ged 5) (ged 6) (eBacks ed))] rfl rfl (met_X4_size l D cI (ged 1) (ged 2) (eCopy ed)) y_X4_size mw_7_16 dX2_goBack_52 rfl n_X4_size rfl (by decide) ⟨rfl, rfl, Nat.le_of_ble_eq_true rfl, Nat.le_of_ble_eq_true rfl⟩ (Nat.le_of_ble_eq_true rfl) (z_pm [1, 0, 2, 3] 4 rfl (by decide) rfl) ?_
        refine z_shut 0 [(wEo ged ed), (wN cI (ged 1) (ged 2) (eCopy ed)), (wN cI (ged 3) (ged 4) (eWait ed)), (wN cI (ged 5) (ged 6) (eBacks ed))] [(wE cI ged ed)] rfl rfl rfl ?_
        refine z_bipush C dX2_goBack_55 30 (by decide +kernel) ?_
        refine z_icmp_lt C dX2_goBack_57 63 (by decide) (fun c10 => ?_) (fun c10 => ?_)
        · replace hw := hw.1 c10
          exact wk_X2_goBack_63 C ged ed x1 r3 x4  _  hw
        · replace hw := hw.2 c10
          refine z_bipush C dX2_goBack_60 (-3) (by decide +kernel) ?_
          exact z_iret C rfl ((-3), ed) rfl hw rfl dX2_goBack_62
  · replace hw := hw.2 c2
    refine z_bipush C dX2_goBack_14 (-2) (by decide +kernel) ?_
    exact z_iret C rfl ((-2), ed) rfl hw rfl dX2_goBack_16
def rmX2_setSpot : Room := { frames := 1, cells := 0, slots := 0, locals := 20 }
def wp_X2_setSpot (ed : zE) (p1 : Int32) (Q : Int32 → zE → Prop) : Prop := ((p1 < 0 → (Q (-1) ed)) ∧ (¬ p1 < 0 → ((p1 ≤ (f_X4_size (eCopy ed)) → (∀ x3 : Int32, x3 = (eSpot ed) → (Q x3 (eSetSpot ed p1)))) ∧ (¬ p1 ≤ (f_X4_size (eCopy ed)) → (Q (-1) ed)))))
set_option maxHeartbeats 4000000 in
set_option maxRecDepth 100000 in
theorem met_X2_setSpot (l : Launch) (D : va_G) (cI : ClassId) (ged : Nat → Nat) (ed : zE) (p1 : Int32) (Q : Int32 → zE → Prop) (hw : wp_X2_setSpot ed p1 Q) : ZM l D cI yX2_setSpot cX2_setSpot 3 (some .int) rmX2_setSpot [.ref (ged 0), .int p1] [(wE cI ged ed)] (fun u : Int32 × zE => some (.int u.1)) (fun u : Int32 × zE => [(wE cI ged (u.2))]) (fun u : Int32 × zE => Q u.1 u.2) := by
  refine z_body [some (.ref (ged 0)), some (.int p1), none] (by decide +kernel) rfl (Nat.le_of_ble_eq_true rfl) rfl ?_
  intro p e s m args below meth c A C hin
  unfold wp_X2_setSpot at hw
  refine z_iload_n C dX2_setSpot_0 rfl ?_
  refine z_if_lt C dX2_setSpot_1 15 (by decide) (fun c1 => ?_) (fun c1 => ?_)
  · replace hw := hw.1 c1
    refine z_iconst C dX2_setSpot_15 (-1) (by decide +kernel) ?_
    exact z_iret C rfl ((-1), ed) rfl hw rfl dX2_setSpot_16
  · replace hw := hw.2 c1
    refine z_iload_n C dX2_setSpot_4 rfl ?_
    refine z_aload_n C dX2_setSpot_5 rfl ?_
    refine z_get C inlX2 rfl 1 (by decide) mw_2_22 dX2_setSpot_6 0 0 rfl rfl rfl ?_
    refine z_open 0 [(wEo ged ed), (wN cI (ged 1) (ged 2) (eCopy ed)), (wN cI (ged 3) (ged 4) (eWait ed)), (wN cI (ged 5) (ged 6) (eBacks ed))] [(wEo ged ed), (wN cI (ged 1) (ged 2) (eCopy ed)), (wN cI (ged 3) (ged 4) (eWait ed)), (wN cI (ged 5) (ged 6) (eBacks ed))] rfl rfl rfl ?_
    refine z_callFV C [(wN cI (ged 1) (ged 2) (eCopy ed))] [(wEo ged ed), (wN cI (ged 3) (ged 4) (eWait ed)), (wN cI (ged 5) (ged 6) (eBacks ed))] rfl rfl (met_X4_size l D cI (ged 1) (ged 2) (eCopy ed)) y_X4_size mw_7_16 dX2_setSpot_9 rfl n_X4_size rfl (by decide) ⟨rfl, rfl, Nat.le_of_ble_eq_true rfl, Nat.le_of_ble_eq_true rfl⟩ (Nat.le_of_ble_eq_true rfl) (z_pm [1, 0, 2, 3] 4 rfl (by decide) rfl) ?_
    refine z_shut 0 [(wEo ged ed), (wN cI (ged 1) (ged 2) (eCopy ed)), (wN cI (ged 3) (ged 4) (eWait ed)), (wN cI (ged 5) (ged 6) (eBacks ed))] [(wE cI ged ed)] rfl rfl rfl ?_
    refine z_icmp_le C dX2_setSpot_12 17 (by decide) (fun c2 => ?_) (fun c2 => ?_)
    · replace hw := hw.1 c2
      refine z_aload_n C dX2_setSpot_17 rfl ?_
      refine z_get C inlX2 rfl 6 (by decide) mw_6_21 dX2_setSpot_18 0 0 rfl rfl rfl ?_
      refine z_name C (fun x3 ex3 => ?_)
      replace hw := hw x3 ex3
      refine z_istore_n C dX2_setSpot_21 [some (.ref (ged 0)), some (.int p1), some (.int x3)] (by decide) rfl ?_
      refine z_aload_n C dX2_setSpot_22 rfl ?_
      refine z_iload_n C dX2_setSpot_23 rfl ?_
      refine z_put C inlX2 rfl tyX2 tyX2_ok nmX2 6 (by decide) mw_6_21 rfl rfl rfl rfl dX2_setSpot_24 0 0 rfl rfl (Nat.le_of_ble_eq_true rfl) [(wE cI ged (eSetSpot ed p1))] rfl ?_
      refine z_iload_n C dX2_setSpot_27 rfl ?_
      exact z_iret C rfl (x3, (eSetSpot ed p1)) rfl hw rfl dX2_setSpot_28
    · replace hw := hw.2 c2
      refine z_iconst C dX2_setSpot_15 (-1) (by decide +kernel) ?_
      exact z_iret C rfl ((-1), ed) rfl hw rfl dX2_setSpot_16
def rmX2_outgoing : Room := { frames := 1, cells := 0, slots := 0, locals := 28 }
def lb_X2_outgoing_14 (ed : zE) (o : zN)   (Q : Int32 → Prop)  (K14 : (Int32) → (Int32) → Prop) (v2 : Int32) (v3 : Int32) : Prop := (((f_X4_size o) ≤ v3 → (Q v2)) ∧ (¬ (f_X4_size o) ≤ v3 → (wp_X4_at o v3 (fun r4 => (∀ x5 : Int32, x5 = (f_X0_reshaped v2 r4) → (K14 x5 (v3 + 1)))))))
set_option maxHeartbeats 4000000 in
set_option maxRecDepth 100000 in
theorem wk_X2_outgoing_14 {p : Program} {l : Launch} {e : Env} {s : State} {m : MethodId} {args : Array Value} {below : List Frame} {meth : Method} {c : Code} {D : va_G} {cI : ClassId} {A : Nat → Prop} (C : ZC p s m args meth c RX2 cX2_outgoing 4 (some .int) D cI A) (ged : Nat → Nat) (ao : Nat) (co : Nat) (ed : zE) (o : zN)   (v2 : Int32) (v3 : Int32) (Q : Int32 → Prop)  (hw : zLoop2 (lb_X2_outgoing_14 ed o   Q ) v2 v3) : ZZ p l e rmX2_outgoing s m args below meth c D A 4 0 0 (MQ below (ZQ D A (fun u : Int32 => some (.int u)) (fun u : Int32 => [(wE cI ged ed), (wN cI ao co o)]) (fun u : Int32 => Q u)) args s rmX2_outgoing.cells rmX2_outgoing.slots A) [(wE cI ged ed), (wN cI ao co o)] 14 [none, some (.ref ao), some (.int v2), some (.int v3)] [] := by
  refine zLoop2_w (fun (v2 : Int32) (v3 : Int32) => ZZ p l e rmX2_outgoing s m args below meth c D A 4 0 0 (MQ below (ZQ D A (fun u : Int32 => some (.int u)) (fun u : Int32 => [(wE cI ged ed), (wN cI ao co o)]) (fun u : Int32 => Q u)) args s rmX2_outgoing.cells rmX2_outgoing.slots A) [(wE cI ged ed), (wN cI ao co o)] 14 [none, some (.ref ao), some (.int v2), some (.int v3)] []) ?_ _ _ hw
  clear hw
  intro K14 hK14 v2 v3 hw
  unfold lb_X2_outgoing_14 at hw
  refine z_iload_n C dX2_outgoing_14 rfl ?_
  refine z_aload_n C dX2_outgoing_15 rfl ?_
  refine z_callFV C [(wN cI ao co o)] [(wE cI ged ed)] rfl rfl (met_X4_size l D cI ao co o) y_X4_size mw_7_16 dX2_outgoing_16 rfl n_X4_size rfl (by decide) ⟨rfl, rfl, Nat.le_of_ble_eq_true rfl, Nat.le_of_ble_eq_true rfl⟩ (Nat.le_of_ble_eq_true rfl) (z_pm [1, 0] 2 rfl (by decide) rfl) ?_
  refine z_icmp_ge C dX2_outgoing_19 38 (by decide) (fun c3 => ?_) (fun c3 => ?_)
  · replace hw := hw.1 c3
    refine z_iload_n C dX2_outgoing_38 rfl ?_
    exact z_iret C rfl (v2) rfl hw rfl dX2_outgoing_39
  · replace hw := hw.2 c3
    refine z_iload_n C dX2_outgoing_22 rfl ?_
    refine z_aload_n C dX2_outgoing_23 rfl ?_
    refine z_iload_n C dX2_outgoing_24 rfl ?_
    refine z_callV0 C [(wN cI ao co o)] [(wE cI ged ed)] rfl rfl (met_X4_at l D cI ao co o v3 _ hw) y_X4_at mw_8_22 dX2_outgoing_25 rfl n_X4_at rfl (by decide) ⟨rfl, rfl, Nat.le_of_ble_eq_true rfl, Nat.le_of_ble_eq_true rfl⟩ (Nat.le_of_ble_eq_true rfl) (z_pm [1, 0] 2 rfl (by decide) rfl) ?_
    intro r4 hw
    try dsimp only at hw
    refine z_bs [(wN cI ao co o), (wE cI ged ed)] [.int r4, .int v2] rfl rfl ?_
    refine z_perm C [(wE cI ged ed), (wN cI ao co o)] (z_pm [1, 0] 2 rfl (by decide) rfl) ?_
    refine z_callFS C [] [(wE cI ged ed), (wN cI ao co o)] (met_X0_reshaped l D cI v2 r4) y_X0_reshaped mw_8_23 dX2_outgoing_28 rfl n_X0_reshaped rfl (by decide) ⟨rfl, rfl, Nat.le_of_ble_eq_true rfl, Nat.le_of_ble_eq_true rfl⟩ (Nat.le_of_ble_eq_true rfl) (z_pm [0, 1] 2 rfl (by decide) rfl) ?_
    refine z_name C (fun x5 ex5 => ?_)
    replace hw := hw x5 ex5
    refine z_istore_n C dX2_outgoing_31 [none, some (.ref ao), some (.int x5), some (.int v3)] (by decide) rfl ?_
    refine z_iinc C dX2_outgoing_32 rfl (v3 + 1) (by rfl) [none, some (.ref ao), some (.int x5), some (.int (v3 + 1))] (by decide) rfl ?_
    refine z_goto C dX2_outgoing_35 14 (by decide) ?_
    exact hK14 _ _ hw
def wp_X2_outgoing (ed : zE) (o : zN)  (Q : Int32 → Prop) : Prop := (wp_X4_at (eWait ed) 0 (fun r1 => (∀ x2 : Int32, x2 = (eHeard ed) → (zLoop2 (lb_X2_outgoing_14 ed o   Q ) r1 x2))))
set_option maxHeartbeats 4000000 in
set_option maxRecDepth 100000 in
theorem met_X2_outgoing (l : Launch) (D : va_G) (cI : ClassId) (ged : Nat → Nat) (ao : Nat) (co : Nat) (ed : zE) (o : zN)  (Q : Int32 → Prop) (hw : wp_X2_outgoing ed o Q) : ZM l D cI yX2_outgoing cX2_outgoing 4 (some .int) rmX2_outgoing [.ref (ged 0), .ref ao] [(wE cI ged ed), (wN cI ao co o)] (fun u : Int32 => some (.int u)) (fun u : Int32 => [(wE cI ged ed), (wN cI ao co o)]) (fun u : Int32 => Q u) := by
  refine z_body [some (.ref (ged 0)), some (.ref ao), none, none] (by decide +kernel) rfl (Nat.le_of_ble_eq_true rfl) rfl ?_
  intro p e s m args below meth c A C hin
  unfold wp_X2_outgoing at hw
  refine z_aload_n C dX2_outgoing_0 rfl ?_
  refine z_get C inlX2 rfl 2 (by decide) mw_2_23 dX2_outgoing_1 0 0 rfl rfl rfl ?_
  refine z_iconst C dX2_outgoing_4 0 (by decide +kernel) ?_
  refine z_open 0 [(wEo ged ed), (wN cI (ged 1) (ged 2) (eCopy ed)), (wN cI (ged 3) (ged 4) (eWait ed)), (wN cI (ged 5) (ged 6) (eBacks ed))] [(wEo ged ed), (wN cI (ged 1) (ged 2) (eCopy ed)), (wN cI (ged 3) (ged 4) (eWait ed)), (wN cI (ged 5) (ged 6) (eBacks ed)), (wN cI ao co o)] rfl rfl rfl ?_
  refine z_callV0 C [(wN cI (ged 3) (ged 4) (eWait ed))] [(wEo ged ed), (wN cI (ged 1) (ged 2) (eCopy ed)), (wN cI (ged 5) (ged 6) (eBacks ed)), (wN cI ao co o)] rfl rfl (met_X4_at l D cI (ged 3) (ged 4) (eWait ed) 0 _ hw) y_X4_at mw_8_22 dX2_outgoing_5 rfl n_X4_at rfl (by decide) ⟨rfl, rfl, Nat.le_of_ble_eq_true rfl, Nat.le_of_ble_eq_true rfl⟩ (Nat.le_of_ble_eq_true rfl) (z_pm [2, 0, 1, 3, 4] 5 rfl (by decide) rfl) ?_
  intro r1 hw
  try dsimp only at hw
  refine z_bs [(wN cI (ged 3) (ged 4) (eWait ed)), (wEo ged ed), (wN cI (ged 1) (ged 2) (eCopy ed)), (wN cI (ged 5) (ged 6) (eBacks ed)), (wN cI ao co o)] [.int r1] rfl rfl ?_
  refine z_perm C [(wEo ged ed), (wN cI (ged 1) (ged 2) (eCopy ed)), (wN cI (ged 3) (ged 4) (eWait ed)), (wN cI (ged 5) (ged 6) (eBacks ed)), (wN cI ao co o)] (z_pm [1, 2, 0, 3, 4] 5 rfl (by decide) rfl) ?_
  refine z_shut 0 [(wEo ged ed), (wN cI (ged 1) (ged 2) (eCopy ed)), (wN cI (ged 3) (ged 4) (eWait ed)), (wN cI (ged 5) (ged 6) (eBacks ed))] [(wE cI ged ed), (wN cI ao co o)] rfl rfl rfl ?_
  refine z_istore_n C dX2_outgoing_8 [some (.ref (ged 0)), some (.ref ao), some (.int r1), none] (by decide) rfl ?_
  refine z_aload_n C dX2_outgoing_9 rfl ?_
  refine z_get C inlX2 rfl 5 (by decide) mw_6_20 dX2_outgoing_10 0 0 rfl rfl rfl ?_
  refine z_name C (fun x2 ex2 => ?_)
  replace hw := hw x2 ex2
  refine z_istore_n C dX2_outgoing_13 [some (.ref (ged 0)), some (.ref ao), some (.int r1), some (.int x2)] (by decide) rfl ?_
  refine z_ls C [false, true, true, true] [none, some (.ref ao), some (.int r1), some (.int x2)] rfl ?_
  exact wk_X2_outgoing_14 C ged ao co ed o   r1 x2 _  hw
def rmX2_hearNext : Room := { frames := 2, cells := 0, slots := 0, locals := 52 }
def jn_X2_hearNext_66 (ed : zE) (o : zN) (v2 : Int32) (w0Heard : Int32)  (Q : Int32 → zE → Prop)  : Prop := (wp_X0_passThrough (eWait ed) v2 (fun r4 u5 => (wp_X2_apply (eSetWait (eSetHeard ed w0Heard) u5) r4 (fun u6 => (Q (f_X0_kind r4) u6)))))
set_option maxHeartbeats 4000000 in
set_option maxRecDepth 100000 in
theorem wk_X2_hearNext_66 {p : Program} {l : Launch} {e : Env} {s : State} {m : MethodId} {args : Array Value} {below : List Frame} {meth : Method} {c : Code} {D : va_G} {cI : ClassId} {A : Nat → Prop} (C : ZC p s m args meth c RX2 cX2_hearNext 4 (some .int) D cI A) (ged : Nat → Nat) (ao : Nat) (co : Nat) (ed : zE) (o : zN) (v2 : Int32) (w0Heard : Int32)  (Q : Int32 → zE → Prop)  (hw : jn_X2_hearNext_66 ed o v2 w0Heard  Q ) : ZZ p l e rmX2_hearNext s m args below meth c D A 4 0 0 (MQ below (ZQ D A (fun u : Int32 × zE => some (.int u.1)) (fun u : Int32 × zE => [(wE cI ged (u.2)), (wN cI ao co o)]) (fun u : Int32 × zE => Q u.1 u.2)) args s rmX2_hearNext.cells rmX2_hearNext.slots A) [(wE cI ged (eSetHeard ed w0Heard)), (wN cI ao co o)] 66 [some (.ref (ged 0)), none, some (.int v2), none] [] := by
  unfold jn_X2_hearNext_66 at hw
  refine z_aload_n C dX2_hearNext_66 rfl ?_
  refine z_get C inlX2 rfl 2 (by decide) mw_2_23 dX2_hearNext_67 0 0 rfl rfl rfl ?_
  refine z_iload_n C dX2_hearNext_70 rfl ?_
  refine z_open 0 [(wEo ged (eSetHeard ed w0Heard)), (wN cI (ged 1) (ged 2) (eCopy ed)), (wN cI (ged 3) (ged 4) (eWait ed)), (wN cI (ged 5) (ged 6) (eBacks ed))] [(wEo ged (eSetHeard ed w0Heard)), (wN cI (ged 1) (ged 2) (eCopy ed)), (wN cI (ged 3) (ged 4) (eWait ed)), (wN cI (ged 5) (ged 6) (eBacks ed)), (wN cI ao co o)] rfl rfl rfl ?_
  refine z_callS0 C [(wN cI (ged 3) (ged 4) (eWait ed))] [(wEo ged (eSetHeard ed w0Heard)), (wN cI (ged 1) (ged 2) (eCopy ed)), (wN cI (ged 5) (ged 6) (eBacks ed)), (wN cI ao co o)] (met_X0_passThrough l D cI (ged 3) (ged 4) (eWait ed) v2 _ hw) y_X0_passThrough mw_11_10 dX2_hearNext_71 rfl n_X0_passThrough rfl (by decide) ⟨rfl, rfl, Nat.le_of_ble_eq_true rfl, Nat.le_of_ble_eq_true rfl⟩ (Nat.le_of_ble_eq_true rfl) (z_pm [2, 0, 1, 3, 4] 5 rfl (by decide) rfl) ?_
  intro ⟨r4, u5⟩ hw
  try dsimp only at hw
  refine z_bs [(wN cI (ged 3) (ged 4) u5), (wEo ged (eSetHeard ed w0Heard)), (wN cI (ged 1) (ged 2) (eCopy ed)), (wN cI (ged 5) (ged 6) (eBacks ed)), (wN cI ao co o)] [.int r4] rfl rfl ?_
  refine z_perm C [(wEo ged (eSetHeard ed w0Heard)), (wN cI (ged 1) (ged 2) (eCopy ed)), (wN cI (ged 3) (ged 4) u5), (wN cI (ged 5) (ged 6) (eBacks ed)), (wN cI ao co o)] (z_pm [1, 2, 0, 3, 4] 5 rfl (by decide) rfl) ?_
  refine z_shut 0 [(wEo ged (eSetHeard ed w0Heard)), (wN cI (ged 1) (ged 2) (eCopy ed)), (wN cI (ged 3) (ged 4) u5), (wN cI (ged 5) (ged 6) (eBacks ed))] [(wE cI ged (eSetWait (eSetHeard ed w0Heard) u5)), (wN cI ao co o)] rfl rfl rfl ?_
  refine z_istore_n C dX2_hearNext_74 [some (.ref (ged 0)), none, some (.int v2), some (.int r4)] (by decide) rfl ?_
  refine z_aload_n C dX2_hearNext_75 rfl ?_
  refine z_iload_n C dX2_hearNext_76 rfl ?_
  refine z_callV0 C [(wE cI ged (eSetWait (eSetHeard ed w0Heard) u5))] [(wN cI ao co o)] rfl rfl (met_X2_apply l D cI ged (eSetWait (eSetHeard ed w0Heard) u5) r4 _ hw) y_X2_apply mw_8_1 dX2_hearNext_77 rfl n_X2_apply rfl (by decide) ⟨rfl, rfl, Nat.le_of_ble_eq_true rfl, Nat.le_of_ble_eq_true rfl⟩ (Nat.le_of_ble_eq_true rfl) (z_pm [0, 1] 2 rfl (by decide) rfl) ?_
  intro u6 hw
  try dsimp only at hw
  refine z_bs [(wE cI ged u6), (wN cI ao co o)] [] rfl rfl ?_
  refine z_iload_n C dX2_hearNext_80 rfl ?_
  refine z_callFS C [] [(wE cI ged u6), (wN cI ao co o)] (met_X0_kind l D cI r4) y_X0_kind mw_8_8 dX2_hearNext_81 rfl n_X0_kind rfl (by decide) ⟨rfl, rfl, Nat.le_of_ble_eq_true rfl, Nat.le_of_ble_eq_true rfl⟩ (Nat.le_of_ble_eq_true rfl) (z_pm [0, 1] 2 rfl (by decide) rfl) ?_
  exact z_iret C rfl ((f_X0_kind r4), u6) rfl hw rfl dX2_hearNext_84
def wp_X2_hearNext (ed : zE) (o : zN)  (Q : Int32 → zE → Prop) : Prop := (((eHeard ed) < (f_X4_size o) → (wp_X4_at o (eHeard ed) (fun r2 => (((eUw ed) = 0 → (jn_X2_hearNext_66 ed o r2 ((eHeard ed) + 1)  Q )) ∧ (¬ (eUw ed) = 0 → ((¬ (f_X0_writer r2) = (eNum ed) → (jn_X2_hearNext_66 ed o r2 ((eHeard ed) + 1)  Q )) ∧ ((f_X0_writer r2) = (eNum ed) → (wp_X4_removeAt (eWait ed) 0 (fun u8 => (Q 0 (eSetWait (eSetHeard (eSetUw ed 0) ((eHeard ed) + 1)) u8))))))))))) ∧ (¬ (eHeard ed) < (f_X4_size o) → (Q (-2) ed)))
set_option maxHeartbeats 4000000 in
set_option maxRecDepth 100000 in
theorem met_X2_hearNext (l : Launch) (D : va_G) (cI : ClassId) (ged : Nat → Nat) (ao : Nat) (co : Nat) (ed : zE) (o : zN)  (Q : Int32 → zE → Prop) (hw : wp_X2_hearNext ed o Q) : ZM l D cI yX2_hearNext cX2_hearNext 4 (some .int) rmX2_hearNext [.ref (ged 0), .ref ao] [(wE cI ged ed), (wN cI ao co o)] (fun u : Int32 × zE => some (.int u.1)) (fun u : Int32 × zE => [(wE cI ged (u.2)), (wN cI ao co o)]) (fun u : Int32 × zE => Q u.1 u.2) := by
  refine z_body [some (.ref (ged 0)), some (.ref ao), none, none] (by decide +kernel) rfl (Nat.le_of_ble_eq_true rfl) rfl ?_
  intro p e s m args below meth c A C hin
  unfold wp_X2_hearNext at hw
  refine z_aload_n C dX2_hearNext_0 rfl ?_
  refine z_get C inlX2 rfl 5 (by decide) mw_6_20 dX2_hearNext_1 0 0 rfl rfl rfl ?_
  refine z_aload_n C dX2_hearNext_4 rfl ?_
  refine z_callFV C [(wN cI ao co o)] [(wE cI ged ed)] rfl rfl (met_X4_size l D cI ao co o) y_X4_size mw_7_16 dX2_hearNext_5 rfl n_X4_size rfl (by decide) ⟨rfl, rfl, Nat.le_of_ble_eq_true rfl, Nat.le_of_ble_eq_true rfl⟩ (Nat.le_of_ble_eq_true rfl) (z_pm [1, 0] 2 rfl (by decide) rfl) ?_
  refine z_icmp_lt C dX2_hearNext_8 14 (by decide) (fun c1 => ?_) (fun c1 => ?_)
  · replace hw := hw.1 c1
    refine z_aload_n C dX2_hearNext_14 rfl ?_
    refine z_aload_n C dX2_hearNext_15 rfl ?_
    refine z_get C inlX2 rfl 5 (by decide) mw_6_20 dX2_hearNext_16 0 0 rfl rfl rfl ?_
    refine z_callV0 C [(wN cI ao co o)] [(wE cI ged ed)] rfl rfl (met_X4_at l D cI ao co o (eHeard ed) _ hw) y_X4_at mw_8_22 dX2_hearNext_19 rfl n_X4_at rfl (by decide) ⟨rfl, rfl, Nat.le_of_ble_eq_true rfl, Nat.le_of_ble_eq_true rfl⟩ (Nat.le_of_ble_eq_true rfl) (z_pm [1, 0] 2 rfl (by decide) rfl) ?_
    intro r2 hw
    try dsimp only at hw
    refine z_bs [(wN cI ao co o), (wE cI ged ed)] [.int r2] rfl rfl ?_
    refine z_perm C [(wE cI ged ed), (wN cI ao co o)] (z_pm [1, 0] 2 rfl (by decide) rfl) ?_
    refine z_istore_n C dX2_hearNext_22 [some (.ref (ged 0)), some (.ref ao), some (.int r2), none] (by decide) rfl ?_
    refine z_aload_n C dX2_hearNext_23 rfl ?_
    refine z_dup C dX2_hearNext_24 rfl ?_
    refine z_get C inlX2 rfl 5 (by decide) mw_6_20 dX2_hearNext_25 0 0 rfl rfl rfl ?_
    refine z_iconst C dX2_hearNext_28 1 (by decide +kernel) ?_
    refine z_iadd C dX2_hearNext_29 ?_
    refine z_put C inlX2 rfl tyX2 tyX2_ok nmX2 5 (by decide) mw_6_20 rfl rfl rfl rfl dX2_hearNext_30 0 0 rfl rfl (Nat.le_of_ble_eq_true rfl) [(wE cI ged (eSetHeard ed ((eHeard ed) + 1))), (wN cI ao co o)] rfl ?_
    refine z_aload_n C dX2_hearNext_33 rfl ?_
    refine z_get C inlX2 rfl 4 (by decide) mw_6_19 dX2_hearNext_34 0 0 rfl rfl rfl ?_
    refine z_if_eq C dX2_hearNext_37 66 (by decide) (fun c3 => ?_) (fun c3 => ?_)
    · replace hw := hw.1 c3
      refine z_ls C [true, false, true, false] [some (.ref (ged 0)), none, some (.int r2), none] rfl ?_
      exact wk_X2_hearNext_66 C ged ao co ed o r2 ((eHeard ed) + 1)  _  hw
    · replace hw := hw.2 c3
      refine z_iload_n C dX2_hearNext_40 rfl ?_
      refine z_callFS C [] [(wE cI ged (eSetHeard ed ((eHeard ed) + 1))), (wN cI ao co o)] (met_X0_writer l D cI r2) y_X0_writer mw_11_9 dX2_hearNext_41 rfl n_X0_writer rfl (by decide) ⟨rfl, rfl, Nat.le_of_ble_eq_true rfl, Nat.le_of_ble_eq_true rfl⟩ (Nat.le_of_ble_eq_true rfl) (z_pm [0, 1] 2 rfl (by decide) rfl) ?_
      refine z_aload_n C dX2_hearNext_44 rfl ?_
      refine z_get C inlX2 rfl 0 (by decide) mw_2_20 dX2_hearNext_45 0 0 rfl rfl rfl ?_
      refine z_icmp_ne C dX2_hearNext_48 66 (by decide) (fun c7 => ?_) (fun c7 => ?_)
      · replace hw := hw.1 c7
        refine z_ls C [true, false, true, false] [some (.ref (ged 0)), none, some (.int r2), none] rfl ?_
        exact wk_X2_hearNext_66 C ged ao co ed o r2 ((eHeard ed) + 1)  _  hw
      · replace hw := hw.2 c7
        refine z_aload_n C dX2_hearNext_51 rfl ?_
        refine z_get C inlX2 rfl 2 (by decide) mw_2_23 dX2_hearNext_52 0 0 rfl rfl rfl ?_
        refine z_iconst C dX2_hearNext_55 0 (by decide +kernel) ?_
        refine z_open 0 [(wEo ged (eSetHeard ed ((eHeard ed) + 1))), (wN cI (ged 1) (ged 2) (eCopy ed)), (wN cI (ged 3) (ged 4) (eWait ed)), (wN cI (ged 5) (ged 6) (eBacks ed))] [(wEo ged (eSetHeard ed ((eHeard ed) + 1))), (wN cI (ged 1) (ged 2) (eCopy ed)), (wN cI (ged 3) (ged 4) (eWait ed)), (wN cI (ged 5) (ged 6) (eBacks ed)), (wN cI ao co o)] rfl rfl rfl ?_
        refine z_callV0 C [(wN cI (ged 3) (ged 4) (eWait ed))] [(wEo ged (eSetHeard ed ((eHeard ed) + 1))), (wN cI (ged 1) (ged 2) (eCopy ed)), (wN cI (ged 5) (ged 6) (eBacks ed)), (wN cI ao co o)] rfl rfl (met_X4_removeAt l D cI (ged 3) (ged 4) (eWait ed) 0 _ hw) y_X4_removeAt mw_8_18 dX2_hearNext_56 rfl n_X4_removeAt rfl (by decide) ⟨rfl, rfl, Nat.le_of_ble_eq_true rfl, Nat.le_of_ble_eq_true rfl⟩ (Nat.le_of_ble_eq_true rfl) (z_pm [2, 0, 1, 3, 4] 5 rfl (by decide) rfl) ?_
        intro u8 hw
        try dsimp only at hw
        refine z_bs [(wN cI (ged 3) (ged 4) u8), (wEo ged (eSetHeard ed ((eHeard ed) + 1))), (wN cI (ged 1) (ged 2) (eCopy ed)), (wN cI (ged 5) (ged 6) (eBacks ed)), (wN cI ao co o)] [] rfl rfl ?_
        refine z_perm C [(wEo ged (eSetHeard ed ((eHeard ed) + 1))), (wN cI (ged 1) (ged 2) (eCopy ed)), (wN cI (ged 3) (ged 4) u8), (wN cI (ged 5) (ged 6) (eBacks ed)), (wN cI ao co o)] (z_pm [1, 2, 0, 3, 4] 5 rfl (by decide) rfl) ?_
        refine z_shut 0 [(wEo ged (eSetHeard ed ((eHeard ed) + 1))), (wN cI (ged 1) (ged 2) (eCopy ed)), (wN cI (ged 3) (ged 4) u8), (wN cI (ged 5) (ged 6) (eBacks ed))] [(wE cI ged (eSetWait (eSetHeard ed ((eHeard ed) + 1)) u8)), (wN cI ao co o)] rfl rfl rfl ?_
        refine z_aload_n C dX2_hearNext_59 rfl ?_
        refine z_iconst C dX2_hearNext_60 0 (by decide +kernel) ?_
        refine z_put C inlX2 rfl tyX2 tyX2_ok nmX2 4 (by decide) mw_6_19 rfl rfl (by decide) (by decide) dX2_hearNext_61 0 0 rfl rfl (Nat.le_of_ble_eq_true rfl) [(wE cI ged (eSetWait (eSetHeard (eSetUw ed 0) ((eHeard ed) + 1)) u8)), (wN cI ao co o)] rfl ?_
        refine z_iconst C dX2_hearNext_64 0 (by decide +kernel) ?_
        exact z_iret C rfl (0, (eSetWait (eSetHeard (eSetUw ed 0) ((eHeard ed) + 1)) u8)) rfl hw rfl dX2_hearNext_65
  · replace hw := hw.2 c1
    refine z_bipush C dX2_hearNext_11 (-2) (by decide +kernel) ?_
    exact z_iret C rfl ((-2), ed) rfl hw rfl dX2_hearNext_13
def rmX2_hearRest : Room := { frames := 3, cells := 0, slots := 0, locals := 75 }
def lb_X2_hearRest_19 (ed : zE) (o : zN) (v2 : Int32)  (Q : Int32 → zE → Prop)  (K19 : (Int32) → (zE) → Prop) (v3 : Int32) (w0 : zE) : Prop := ((v2 ≤ v3 → (Q v2 w0)) ∧ (¬ v2 ≤ v3 → (wp_X2_hearNext w0 o (fun r4 u5 => (K19 (v3 + 1) u5)))))
set_option maxHeartbeats 4000000 in
set_option maxRecDepth 100000 in
theorem wk_X2_hearRest_19 {p : Program} {l : Launch} {e : Env} {s : State} {m : MethodId} {args : Array Value} {below : List Frame} {meth : Method} {c : Code} {D : va_G} {cI : ClassId} {A : Nat → Prop} (C : ZC p s m args meth c RX2 cX2_hearRest 4 (some .int) D cI A) (ged : Nat → Nat) (ao : Nat) (co : Nat) (ed : zE) (o : zN) (v2 : Int32)  (v3 : Int32) (w0 : zE) (Q : Int32 → zE → Prop)  (hw : zLoop2 (lb_X2_hearRest_19 ed o v2  Q ) v3 w0) : ZZ p l e rmX2_hearRest s m args below meth c D A 4 0 0 (MQ below (ZQ D A (fun u : Int32 × zE => some (.int u.1)) (fun u : Int32 × zE => [(wE cI ged (u.2)), (wN cI ao co o)]) (fun u : Int32 × zE => Q u.1 u.2)) args s rmX2_hearRest.cells rmX2_hearRest.slots A) [(wE cI ged w0), (wN cI ao co o)] 19 [some (.ref (ged 0)), some (.ref ao), some (.int v2), some (.int v3)] [] := by
  refine zLoop2_w (fun (v3 : Int32) (w0 : zE) => ZZ p l e rmX2_hearRest s m args below meth c D A 4 0 0 (MQ below (ZQ D A (fun u : Int32 × zE => some (.int u.1)) (fun u : Int32 × zE => [(wE cI ged (u.2)), (wN cI ao co o)]) (fun u : Int32 × zE => Q u.1 u.2)) args s rmX2_hearRest.cells rmX2_hearRest.slots A) [(wE cI ged w0), (wN cI ao co o)] 19 [some (.ref (ged 0)), some (.ref ao), some (.int v2), some (.int v3)] []) ?_ _ _ hw
  clear hw
  intro K19 hK19 v3 w0 hw
  unfold lb_X2_hearRest_19 at hw
  refine z_iload_n C dX2_hearRest_19 rfl ?_
  refine z_iload_n C dX2_hearRest_20 rfl ?_
  refine z_icmp_ge C dX2_hearRest_21 36 (by decide) (fun c3 => ?_) (fun c3 => ?_)
  · replace hw := hw.1 c3
    refine z_iload_n C dX2_hearRest_36 rfl ?_
    exact z_iret C rfl (v2, w0) rfl hw rfl dX2_hearRest_37
  · replace hw := hw.2 c3
    refine z_aload_n C dX2_hearRest_24 rfl ?_
    refine z_aload_n C dX2_hearRest_25 rfl ?_
    refine z_callV0 C [(wE cI ged w0), (wN cI ao co o)] [] rfl rfl (met_X2_hearNext l D cI ged ao co w0 o _ hw) y_X2_hearNext mw_11_21 dX2_hearRest_26 rfl n_X2_hearNext rfl (by decide) ⟨rfl, rfl, Nat.le_of_ble_eq_true rfl, Nat.le_of_ble_eq_true rfl⟩ (Nat.le_of_ble_eq_true rfl) (z_pm [0, 1] 2 rfl (by decide) rfl) ?_
    intro ⟨r4, u5⟩ hw
    try dsimp only at hw
    refine z_bs [(wE cI ged u5), (wN cI ao co o)] [.int r4] rfl rfl ?_
    refine z_pop C dX2_hearRest_29 rfl ?_
    refine z_iinc C dX2_hearRest_30 rfl (v3 + 1) (by rfl) [some (.ref (ged 0)), some (.ref ao), some (.int v2), some (.int (v3 + 1))] (by decide) rfl ?_
    refine z_goto C dX2_hearRest_33 19 (by decide) ?_
    exact hK19 _ _ hw
def wp_X2_hearRest (ed : zE) (o : zN)  (Q : Int32 → zE → Prop) : Prop := (∀ x1 : Int32, x1 = ((f_X4_size o) - (eHeard ed)) → ((0 < x1 → (zLoop2 (lb_X2_hearRest_19 ed o x1  Q ) 0 ed)) ∧ (¬ 0 < x1 → (Q (-2) ed))))
set_option maxHeartbeats 4000000 in
set_option maxRecDepth 100000 in
theorem met_X2_hearRest (l : Launch) (D : va_G) (cI : ClassId) (ged : Nat → Nat) (ao : Nat) (co : Nat) (ed : zE) (o : zN)  (Q : Int32 → zE → Prop) (hw : wp_X2_hearRest ed o Q) : ZM l D cI yX2_hearRest cX2_hearRest 4 (some .int) rmX2_hearRest [.ref (ged 0), .ref ao] [(wE cI ged ed), (wN cI ao co o)] (fun u : Int32 × zE => some (.int u.1)) (fun u : Int32 × zE => [(wE cI ged (u.2)), (wN cI ao co o)]) (fun u : Int32 × zE => Q u.1 u.2) := by
  refine z_body [some (.ref (ged 0)), some (.ref ao), none, none] (by decide +kernel) rfl (Nat.le_of_ble_eq_true rfl) rfl ?_
  intro p e s m args below meth c A C hin
  unfold wp_X2_hearRest at hw
  refine z_aload_n C dX2_hearRest_0 rfl ?_
  refine z_callFV C [(wN cI ao co o)] [(wE cI ged ed)] rfl rfl (met_X4_size l D cI ao co o) y_X4_size mw_7_16 dX2_hearRest_1 rfl n_X4_size rfl (by decide) ⟨rfl, rfl, Nat.le_of_ble_eq_true rfl, Nat.le_of_ble_eq_true rfl⟩ (Nat.le_of_ble_eq_true rfl) (z_pm [1, 0] 2 rfl (by decide) rfl) ?_
  refine z_aload_n C dX2_hearRest_4 rfl ?_
  refine z_get C inlX2 rfl 5 (by decide) mw_6_20 dX2_hearRest_5 0 0 rfl rfl rfl ?_
  refine z_isub C dX2_hearRest_8 ?_
  refine z_name C (fun x1 ex1 => ?_)
  replace hw := hw x1 ex1
  refine z_istore_n C dX2_hearRest_9 [some (.ref (ged 0)), some (.ref ao), some (.int x1), none] (by decide) rfl ?_
  refine z_iload_n C dX2_hearRest_10 rfl ?_
  refine z_if_gt C dX2_hearRest_11 17 (by decide) (fun c2 => ?_) (fun c2 => ?_)
  · replace hw := hw.1 c2
    refine z_iconst C dX2_hearRest_17 0 (by decide +kernel) ?_
    refine z_istore_n C dX2_hearRest_18 [some (.ref (ged 0)), some (.ref ao), some (.int x1), some (.int 0)] (by decide) rfl ?_
    exact wk_X2_hearRest_19 C ged ao co ed o x1  0 ed _  hw
  · replace hw := hw.2 c2
    refine z_bipush C dX2_hearRest_14 (-2) (by decide +kernel) ?_
    exact z_iret C rfl ((-2), ed) rfl hw rfl dX2_hearRest_16
def rmX2_copyEditor : Room := { frames := 2, cells := 0, slots := 0, locals := 47 }
def wp_X2_copyEditor (ed : zE) (o : zE)  (Q : zE → Prop) : Prop := (wp_X4_copyNumbers (eCopy ed) (eCopy o) (fun u1 => (wp_X4_copyNumbers (eWait ed) (eWait o) (fun u2 => (wp_X4_copyNumbers (eBacks ed) (eBacks o) (fun u3 => (zB (eUw o) ∧ (Q (eSetBacks (eSetWait (eSetCopy (eSetWr (eSetSpot (eSetHeard (eSetUw ed (eUw o)) (eHeard o)) (eSpot o)) (eWr o)) u1) u2) u3)))))))))
set_option maxHeartbeats 4000000 in
set_option maxRecDepth 100000 in
theorem met_X2_copyEditor (l : Launch) (D : va_G) (cI : ClassId) (ged : Nat → Nat) (go : Nat → Nat) (ed : zE) (o : zE)  (Q : zE → Prop) (hw : wp_X2_copyEditor ed o Q) : ZM l D cI yX2_copyEditor cX2_copyEditor 2 none rmX2_copyEditor [.ref (ged 0), .ref (go 0)] [(wE cI ged ed), (wE cI go o)] (fun _ : zE => none) (fun u : zE => [(wE cI ged u), (wE cI go o)]) (fun u : zE => Q u) := by
  refine z_body [some (.ref (ged 0)), some (.ref (go 0))] (by decide +kernel) rfl (Nat.le_of_ble_eq_true rfl) rfl ?_
  intro p e s m args below meth c A C hin
  unfold wp_X2_copyEditor at hw
  refine z_aload_n C dX2_copyEditor_0 rfl ?_
  refine z_get C inlX2 rfl 1 (by decide) mw_2_22 dX2_copyEditor_1 0 0 rfl rfl rfl ?_
  refine z_aload_n C dX2_copyEditor_4 rfl ?_
  refine z_get C inlX2 rfl 1 (by decide) mw_2_22 dX2_copyEditor_5 1 0 rfl rfl rfl ?_
  refine z_open 0 [(wEo ged ed), (wN cI (ged 1) (ged 2) (eCopy ed)), (wN cI (ged 3) (ged 4) (eWait ed)), (wN cI (ged 5) (ged 6) (eBacks ed))] [(wEo ged ed), (wN cI (ged 1) (ged 2) (eCopy ed)), (wN cI (ged 3) (ged 4) (eWait ed)), (wN cI (ged 5) (ged 6) (eBacks ed)), (wE cI go o)] rfl rfl rfl ?_
  refine z_open 4 [(wEo go o), (wN cI (go 1) (go 2) (eCopy o)), (wN cI (go 3) (go 4) (eWait o)), (wN cI (go 5) (go 6) (eBacks o))] [(wEo ged ed), (wN cI (ged 1) (ged 2) (eCopy ed)), (wN cI (ged 3) (ged 4) (eWait ed)), (wN cI (ged 5) (ged 6) (eBacks ed)), (wEo go o), (wN cI (go 1) (go 2) (eCopy o)), (wN cI (go 3) (go 4) (eWait o)), (wN cI (go 5) (go 6) (eBacks o))] rfl rfl rfl ?_
  refine z_callV0 C [(wN cI (ged 1) (ged 2) (eCopy ed)), (wN cI (go 1) (go 2) (eCopy o))] [(wEo ged ed), (wN cI (ged 3) (ged 4) (eWait ed)), (wN cI (ged 5) (ged 6) (eBacks ed)), (wEo go o), (wN cI (go 3) (go 4) (eWait o)), (wN cI (go 5) (go 6) (eBacks o))] rfl rfl (met_X4_copyNumbers l D cI (ged 1) (ged 2) (go 1) (go 2) (eCopy ed) (eCopy o) _ hw) y_X4_copyNumbers mw_6_23 dX2_copyEditor_8 rfl n_X4_copyNumbers rfl (by decide) ⟨rfl, rfl, Nat.le_of_ble_eq_true rfl, Nat.le_of_ble_eq_true rfl⟩ (Nat.le_of_ble_eq_true rfl) (z_pm [1, 5, 0, 2, 3, 4, 6, 7] 8 rfl (by decide) rfl) ?_
  intro u1 hw
  try dsimp only at hw
  refine z_bs [(wN cI (ged 1) (ged 2) u1), (wN cI (go 1) (go 2) (eCopy o)), (wEo ged ed), (wN cI (ged 3) (ged 4) (eWait ed)), (wN cI (ged 5) (ged 6) (eBacks ed)), (wEo go o), (wN cI (go 3) (go 4) (eWait o)), (wN cI (go 5) (go 6) (eBacks o))] [] rfl rfl ?_
  refine z_perm C [(wEo ged ed), (wN cI (ged 1) (ged 2) u1), (wN cI (ged 3) (ged 4) (eWait ed)), (wN cI (ged 5) (ged 6) (eBacks ed)), (wEo go o), (wN cI (go 1) (go 2) (eCopy o)), (wN cI (go 3) (go 4) (eWait o)), (wN cI (go 5) (go 6) (eBacks o))] (z_pm [2, 0, 3, 4, 5, 1, 6, 7] 8 rfl (by decide) rfl) ?_
  refine z_shut 4 [(wEo go o), (wN cI (go 1) (go 2) (eCopy o)), (wN cI (go 3) (go 4) (eWait o)), (wN cI (go 5) (go 6) (eBacks o))] [(wEo ged ed), (wN cI (ged 1) (ged 2) u1), (wN cI (ged 3) (ged 4) (eWait ed)), (wN cI (ged 5) (ged 6) (eBacks ed)), (wE cI go o)] rfl rfl rfl ?_
  refine z_shut 0 [(wEo ged ed), (wN cI (ged 1) (ged 2) u1), (wN cI (ged 3) (ged 4) (eWait ed)), (wN cI (ged 5) (ged 6) (eBacks ed))] [(wE cI ged (eSetCopy ed u1)), (wE cI go o)] rfl rfl rfl ?_
  refine z_aload_n C dX2_copyEditor_11 rfl ?_
  refine z_get C inlX2 rfl 2 (by decide) mw_2_23 dX2_copyEditor_12 0 0 rfl rfl rfl ?_
  refine z_aload_n C dX2_copyEditor_15 rfl ?_
  refine z_get C inlX2 rfl 2 (by decide) mw_2_23 dX2_copyEditor_16 1 0 rfl rfl rfl ?_
  refine z_open 0 [(wEo ged (eSetCopy ed u1)), (wN cI (ged 1) (ged 2) u1), (wN cI (ged 3) (ged 4) (eWait ed)), (wN cI (ged 5) (ged 6) (eBacks ed))] [(wEo ged (eSetCopy ed u1)), (wN cI (ged 1) (ged 2) u1), (wN cI (ged 3) (ged 4) (eWait ed)), (wN cI (ged 5) (ged 6) (eBacks ed)), (wE cI go o)] rfl rfl rfl ?_
  refine z_open 4 [(wEo go o), (wN cI (go 1) (go 2) (eCopy o)), (wN cI (go 3) (go 4) (eWait o)), (wN cI (go 5) (go 6) (eBacks o))] [(wEo ged (eSetCopy ed u1)), (wN cI (ged 1) (ged 2) u1), (wN cI (ged 3) (ged 4) (eWait ed)), (wN cI (ged 5) (ged 6) (eBacks ed)), (wEo go o), (wN cI (go 1) (go 2) (eCopy o)), (wN cI (go 3) (go 4) (eWait o)), (wN cI (go 5) (go 6) (eBacks o))] rfl rfl rfl ?_
  refine z_callV0 C [(wN cI (ged 3) (ged 4) (eWait ed)), (wN cI (go 3) (go 4) (eWait o))] [(wEo ged (eSetCopy ed u1)), (wN cI (ged 1) (ged 2) u1), (wN cI (ged 5) (ged 6) (eBacks ed)), (wEo go o), (wN cI (go 1) (go 2) (eCopy o)), (wN cI (go 5) (go 6) (eBacks o))] rfl rfl (met_X4_copyNumbers l D cI (ged 3) (ged 4) (go 3) (go 4) (eWait ed) (eWait o) _ hw) y_X4_copyNumbers mw_6_23 dX2_copyEditor_19 rfl n_X4_copyNumbers rfl (by decide) ⟨rfl, rfl, Nat.le_of_ble_eq_true rfl, Nat.le_of_ble_eq_true rfl⟩ (Nat.le_of_ble_eq_true rfl) (z_pm [2, 6, 0, 1, 3, 4, 5, 7] 8 rfl (by decide) rfl) ?_
  intro u2 hw
  try dsimp only at hw
  refine z_bs [(wN cI (ged 3) (ged 4) u2), (wN cI (go 3) (go 4) (eWait o)), (wEo ged (eSetCopy ed u1)), (wN cI (ged 1) (ged 2) u1), (wN cI (ged 5) (ged 6) (eBacks ed)), (wEo go o), (wN cI (go 1) (go 2) (eCopy o)), (wN cI (go 5) (go 6) (eBacks o))] [] rfl rfl ?_
  refine z_perm C [(wEo ged (eSetCopy ed u1)), (wN cI (ged 1) (ged 2) u1), (wN cI (ged 3) (ged 4) u2), (wN cI (ged 5) (ged 6) (eBacks ed)), (wEo go o), (wN cI (go 1) (go 2) (eCopy o)), (wN cI (go 3) (go 4) (eWait o)), (wN cI (go 5) (go 6) (eBacks o))] (z_pm [2, 3, 0, 4, 5, 6, 1, 7] 8 rfl (by decide) rfl) ?_
  refine z_shut 4 [(wEo go o), (wN cI (go 1) (go 2) (eCopy o)), (wN cI (go 3) (go 4) (eWait o)), (wN cI (go 5) (go 6) (eBacks o))] [(wEo ged (eSetCopy ed u1)), (wN cI (ged 1) (ged 2) u1), (wN cI (ged 3) (ged 4) u2), (wN cI (ged 5) (ged 6) (eBacks ed)), (wE cI go o)] rfl rfl rfl ?_
  refine z_shut 0 [(wEo ged (eSetCopy ed u1)), (wN cI (ged 1) (ged 2) u1), (wN cI (ged 3) (ged 4) u2), (wN cI (ged 5) (ged 6) (eBacks ed))] [(wE cI ged (eSetWait (eSetCopy ed u1) u2)), (wE cI go o)] rfl rfl rfl ?_
  refine z_aload_n C dX2_copyEditor_22 rfl ?_
  refine z_get C inlX2 rfl 3 (by decide) mw_3_0 dX2_copyEditor_23 0 0 rfl rfl rfl ?_
  refine z_aload_n C dX2_copyEditor_26 rfl ?_
  refine z_get C inlX2 rfl 3 (by decide) mw_3_0 dX2_copyEditor_27 1 0 rfl rfl rfl ?_
  refine z_open 0 [(wEo ged (eSetWait (eSetCopy ed u1) u2)), (wN cI (ged 1) (ged 2) u1), (wN cI (ged 3) (ged 4) u2), (wN cI (ged 5) (ged 6) (eBacks ed))] [(wEo ged (eSetWait (eSetCopy ed u1) u2)), (wN cI (ged 1) (ged 2) u1), (wN cI (ged 3) (ged 4) u2), (wN cI (ged 5) (ged 6) (eBacks ed)), (wE cI go o)] rfl rfl rfl ?_
  refine z_open 4 [(wEo go o), (wN cI (go 1) (go 2) (eCopy o)), (wN cI (go 3) (go 4) (eWait o)), (wN cI (go 5) (go 6) (eBacks o))] [(wEo ged (eSetWait (eSetCopy ed u1) u2)), (wN cI (ged 1) (ged 2) u1), (wN cI (ged 3) (ged 4) u2), (wN cI (ged 5) (ged 6) (eBacks ed)), (wEo go o), (wN cI (go 1) (go 2) (eCopy o)), (wN cI (go 3) (go 4) (eWait o)), (wN cI (go 5) (go 6) (eBacks o))] rfl rfl rfl ?_
  refine z_callV0 C [(wN cI (ged 5) (ged 6) (eBacks ed)), (wN cI (go 5) (go 6) (eBacks o))] [(wEo ged (eSetWait (eSetCopy ed u1) u2)), (wN cI (ged 1) (ged 2) u1), (wN cI (ged 3) (ged 4) u2), (wEo go o), (wN cI (go 1) (go 2) (eCopy o)), (wN cI (go 3) (go 4) (eWait o))] rfl rfl (met_X4_copyNumbers l D cI (ged 5) (ged 6) (go 5) (go 6) (eBacks ed) (eBacks o) _ hw) y_X4_copyNumbers mw_6_23 dX2_copyEditor_30 rfl n_X4_copyNumbers rfl (by decide) ⟨rfl, rfl, Nat.le_of_ble_eq_true rfl, Nat.le_of_ble_eq_true rfl⟩ (Nat.le_of_ble_eq_true rfl) (z_pm [3, 7, 0, 1, 2, 4, 5, 6] 8 rfl (by decide) rfl) ?_
  intro u3 hw
  try dsimp only at hw
  refine z_bs [(wN cI (ged 5) (ged 6) u3), (wN cI (go 5) (go 6) (eBacks o)), (wEo ged (eSetWait (eSetCopy ed u1) u2)), (wN cI (ged 1) (ged 2) u1), (wN cI (ged 3) (ged 4) u2), (wEo go o), (wN cI (go 1) (go 2) (eCopy o)), (wN cI (go 3) (go 4) (eWait o))] [] rfl rfl ?_
  refine z_perm C [(wEo ged (eSetWait (eSetCopy ed u1) u2)), (wN cI (ged 1) (ged 2) u1), (wN cI (ged 3) (ged 4) u2), (wN cI (ged 5) (ged 6) u3), (wEo go o), (wN cI (go 1) (go 2) (eCopy o)), (wN cI (go 3) (go 4) (eWait o)), (wN cI (go 5) (go 6) (eBacks o))] (z_pm [2, 3, 4, 0, 5, 6, 7, 1] 8 rfl (by decide) rfl) ?_
  refine z_shut 4 [(wEo go o), (wN cI (go 1) (go 2) (eCopy o)), (wN cI (go 3) (go 4) (eWait o)), (wN cI (go 5) (go 6) (eBacks o))] [(wEo ged (eSetWait (eSetCopy ed u1) u2)), (wN cI (ged 1) (ged 2) u1), (wN cI (ged 3) (ged 4) u2), (wN cI (ged 5) (ged 6) u3), (wE cI go o)] rfl rfl rfl ?_
  refine z_shut 0 [(wEo ged (eSetWait (eSetCopy ed u1) u2)), (wN cI (ged 1) (ged 2) u1), (wN cI (ged 3) (ged 4) u2), (wN cI (ged 5) (ged 6) u3)] [(wE cI ged (eSetBacks (eSetWait (eSetCopy ed u1) u2) u3)), (wE cI go o)] rfl rfl rfl ?_
  refine z_aload_n C dX2_copyEditor_33 rfl ?_
  refine z_aload_n C dX2_copyEditor_34 rfl ?_
  refine z_get C inlX2 rfl 4 (by decide) mw_6_19 dX2_copyEditor_35 1 0 rfl rfl rfl ?_
  have hb38 := hw.1
  replace hw := hw.2
  refine z_put C inlX2 rfl tyX2 tyX2_ok nmX2 4 (by decide) mw_6_19 rfl rfl hb38.1 hb38.2 dX2_copyEditor_38 0 0 rfl rfl (Nat.le_of_ble_eq_true rfl) [(wE cI ged (eSetBacks (eSetWait (eSetCopy (eSetUw ed (eUw o)) u1) u2) u3)), (wE cI go o)] rfl ?_
  refine z_aload_n C dX2_copyEditor_41 rfl ?_
  refine z_aload_n C dX2_copyEditor_42 rfl ?_
  refine z_get C inlX2 rfl 5 (by decide) mw_6_20 dX2_copyEditor_43 1 0 rfl rfl rfl ?_
  refine z_put C inlX2 rfl tyX2 tyX2_ok nmX2 5 (by decide) mw_6_20 rfl rfl rfl rfl dX2_copyEditor_46 0 0 rfl rfl (Nat.le_of_ble_eq_true rfl) [(wE cI ged (eSetBacks (eSetWait (eSetCopy (eSetHeard (eSetUw ed (eUw o)) (eHeard o)) u1) u2) u3)), (wE cI go o)] rfl ?_
  refine z_aload_n C dX2_copyEditor_49 rfl ?_
  refine z_aload_n C dX2_copyEditor_50 rfl ?_
  refine z_get C inlX2 rfl 6 (by decide) mw_6_21 dX2_copyEditor_51 1 0 rfl rfl rfl ?_
  refine z_put C inlX2 rfl tyX2 tyX2_ok nmX2 6 (by decide) mw_6_21 rfl rfl rfl rfl dX2_copyEditor_54 0 0 rfl rfl (Nat.le_of_ble_eq_true rfl) [(wE cI ged (eSetBacks (eSetWait (eSetCopy (eSetSpot (eSetHeard (eSetUw ed (eUw o)) (eHeard o)) (eSpot o)) u1) u2) u3)), (wE cI go o)] rfl ?_
  refine z_aload_n C dX2_copyEditor_57 rfl ?_
  refine z_aload_n C dX2_copyEditor_58 rfl ?_
  refine z_get C inlX2 rfl 7 (by decide) mw_6_22 dX2_copyEditor_59 1 0 rfl rfl rfl ?_
  refine z_put C inlX2 rfl tyX2 tyX2_ok nmX2 7 (by decide) mw_6_22 rfl rfl rfl rfl dX2_copyEditor_62 0 0 rfl rfl (Nat.le_of_ble_eq_true rfl) [(wE cI ged (eSetBacks (eSetWait (eSetCopy (eSetWr (eSetSpot (eSetHeard (eSetUw ed (eUw o)) (eHeard o)) (eSpot o)) (eWr o)) u1) u2) u3)), (wE cI go o)] rfl ?_
  exact z_vret C rfl ((eSetBacks (eSetWait (eSetCopy (eSetWr (eSetSpot (eSetHeard (eSetUw ed (eUw o)) (eHeard o)) (eSpot o)) (eWr o)) u1) u2) u3)) rfl hw rfl dX2_copyEditor_65
