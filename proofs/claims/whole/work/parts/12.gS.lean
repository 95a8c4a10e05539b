/-! printed by wip/whole/gen.py: what each method does, and that the machine does it -/
def rmX6_isNoEditor : Room := { frames := 0, cells := 0, slots := 0, locals := 0 }
def f_X6_isNoEditor  (p1 : Int32) : Int32 := (if p1 < 0 then 1 else (if p1 < 3 then 0 else 1))
set_option maxHeartbeats 4000000 in
set_option maxRecDepth 100000 in
theorem met_X6_isNoEditor (l : Launch) (D : va_G) (cI : ClassId)   (p1 : Int32) : ZM l D cI yX6_isNoEditor cX6_isNoEditor 1 (some .boolean) rmX6_isNoEditor [.int p1] [] (fun _ : Unit => some (.int (f_X6_isNoEditor p1))) (fun _ : Unit => []) (fun _ : Unit => True) := by
  refine z_body [some (.int p1)] (by decide +kernel) rfl (Nat.le_of_ble_eq_true rfl) rfl ?_
  intro p e s m args below meth c A C hin
  refine z_iload_n C dX6_isNoEditor_0 rfl ?_
  refine z_if_lt C dX6_isNoEditor_1 9 (by decide) (fun c1 => ?_) (fun c1 => ?_)
  · refine z_iconst C dX6_isNoEditor_9 1 (by decide +kernel) ?_
    refine z_goto C dX6_isNoEditor_10 14 (by decide) ?_
    exact z_zret C rfl (by decide) () (by rw [f_X6_isNoEditor, if_pos c1]) trivial rfl dX6_isNoEditor_14
  · refine z_iload_n C dX6_isNoEditor_4 rfl ?_
    refine z_iconst C dX6_isNoEditor_5 3 (by decide +kernel) ?_
    refine z_icmp_lt C dX6_isNoEditor_6 13 (by decide) (fun c2 => ?_) (fun c2 => ?_)
    · refine z_iconst C dX6_isNoEditor_13 0 (by decide +kernel) ?_
      exact z_zret C rfl (by decide) () (by rw [f_X6_isNoEditor, if_neg c1, if_pos c2]) trivial rfl dX6_isNoEditor_14
    · refine z_iconst C dX6_isNoEditor_9 1 (by decide +kernel) ?_
      refine z_goto C dX6_isNoEditor_10 14 (by decide) ?_
      exact z_zret C rfl (by decide) () (by rw [f_X6_isNoEditor, if_neg c1, if_neg c2]) trivial rfl dX6_isNoEditor_14
theorem b_X6_isNoEditor  (p1 : Int32) : zB (f_X6_isNoEditor p1) := by
  unfold f_X6_isNoEditor
  (repeat' split) <;> exact ⟨by decide, by decide⟩
def rmX5_editor : Room := { frames := 0, cells := 0, slots := 0, locals := 0 }
set_option maxHeartbeats 4000000 in
set_option maxRecDepth 100000 in
theorem met_X5_editor (l : Launch) (D : va_G) (cI : ClassId) (gt : Nat → Nat) (t : zT) (p1 : Int32) : ZM l D cI yX5_editor cX5_editor 2 (some (.object "ReshapedTexts$Editor")) rmX5_editor [.ref (gt 0), .int p1] [(wS cI gt t)] (fun _ : Unit => some (.ref ((gE gt (ixE p1)) 0))) (fun _ : Unit => [(wS cI gt t)]) (fun _ : Unit => True) := by
  refine z_body [some (.ref (gt 0)), some (.int p1)] (by decide +kernel) rfl (Nat.le_of_ble_eq_true rfl) rfl ?_
  intro p e s m args below meth c A C hin
  refine z_iload_n C dX5_editor_0 rfl ?_
  refine z_if_ne C dX5_editor_1 9 (by decide) (fun c1 => ?_) (fun c1 => ?_)
  · refine z_iload_n C dX5_editor_9 rfl ?_
    refine z_iconst C dX5_editor_10 1 (by decide +kernel) ?_
    refine z_icmp_ne C dX5_editor_11 21 (by decide) (fun c2 => ?_) (fun c2 => ?_)
    · refine z_aload_n C dX5_editor_21 rfl ?_
      refine z_get C inlX5 rfl 2 (by decide) mw_2_12 dX5_editor_22 0 0 rfl rfl rfl ?_
      exact z_aret C rfl () (by rw [show ixE p1 = 2 by unfold ixE; rw [if_neg c1, if_neg c2]]; rfl) trivial rfl dX5_editor_25
    · refine z_aload_n C dX5_editor_14 rfl ?_
      refine z_get C inlX5 rfl 1 (by decide) mw_2_11 dX5_editor_15 0 0 rfl rfl rfl ?_
      refine z_goto C dX5_editor_18 25 (by decide) ?_
      exact z_aret C rfl () (by rw [show ixE p1 = 1 by unfold ixE; rw [if_neg c1, if_pos c2]]; rfl) trivial rfl dX5_editor_25
  · refine z_aload_n C dX5_editor_4 rfl ?_
    refine z_get C inlX5 rfl 0 (by decide) mw_2_10 dX5_editor_5 0 0 rfl rfl rfl ?_
    exact z_aret C rfl () (by rw [show ixE p1 = 0 by unfold ixE; rw [if_pos c1]]; rfl) trivial rfl dX5_editor_8
def rmX5_append : Room := { frames := 2, cells := 0, slots := 0, locals := 51 }
def jn_X5_append_75 (k : Nat) (t : zT) (v2 : Int32) (w0Text : zN) (w0Wrs : zN)  (Q : zT → Prop)  : Prop := (wp_X4_add (tLog t) v2 (fun u6 => (Q (tSetWrs (tSetText (tSetLog (tSetEds t (va_up (tEds t) k (eSetUw (tEd (tSetWrs (tSetText (tSetLog t u6) w0Text) w0Wrs) k) 1))) u6) w0Text) w0Wrs))))
set_option maxHeartbeats 4000000 in
set_option maxRecDepth 100000 in
theorem wk_X5_append_75 {p : Program} {l : Launch} {e : Env} {s : State} {m : MethodId} {args : Array Value} {below : List Frame} {meth : Method} {c : Code} {D : va_G} {cI : ClassId} {A : Nat → Prop} (C : ZC p s m args meth c RX5 cX5_append 5 none D cI A) (gt : Nat → Nat) (k : Nat) (t : zT) (v2 : Int32) (w0Text : zN) (w0Wrs : zN)  (hk : k < 3) (Q : zT → Prop)  (hw : jn_X5_append_75 k t v2 w0Text w0Wrs  Q ) : ZZ p l e rmX5_append s m args below meth c D A 5 0 0 (MQ below (ZQ D A (fun _ : zT => none) (fun u : zT => [(wS cI gt u)]) (fun u : zT => Q u)) args s rmX5_append.cells rmX5_append.slots A) [(wS cI gt (tSetWrs (tSetText t w0Text) w0Wrs))] 75 [some (.ref (gt 0)), some (.ref ((gE gt k) 0)), some (.int v2), none, none] [] := by
  unfold jn_X5_append_75 at hw
  refine z_aload_n C dX5_append_75 rfl ?_
  refine z_get C inlX5 rfl 3 (by decide) mw_2_16 dX5_append_76 0 0 rfl rfl rfl ?_
  refine z_iload_n C dX5_append_79 rfl ?_
  refine z_open 0 [(wSo gt), (wE cI (gE gt 0) (tEd (tSetWrs (tSetText t w0Text) w0Wrs) 0)), (wE cI (gE gt 1) (tEd (tSetWrs (tSetText t w0Text) w0Wrs) 1)), (wE cI (gE gt 2) (tEd (tSetWrs (tSetText t w0Text) w0Wrs) 2)), (wN cI (gt 22) (gt 23) (tLog t)), (wN cI (gt 24) (gt 25) w0Text), (wN cI (gt 26) (gt 27) w0Wrs)] [(wSo gt), (wE cI (gE gt 0) (tEd (tSetWrs (tSetText t w0Text) w0Wrs) 0)), (wE cI (gE gt 1) (tEd (tSetWrs (tSetText t w0Text) w0Wrs) 1)), (wE cI (gE gt 2) (tEd (tSetWrs (tSetText t w0Text) w0Wrs) 2)), (wN cI (gt 22) (gt 23) (tLog t)), (wN cI (gt 24) (gt 25) w0Text), (wN cI (gt 26) (gt 27) w0Wrs)] rfl rfl rfl ?_
  refine z_callV0 C [(wN cI (gt 22) (gt 23) (tLog t))] [(wSo gt), (wE cI (gE gt 0) (tEd (tSetWrs (tSetText t w0Text) w0Wrs) 0)), (wE cI (gE gt 1) (tEd (tSetWrs (tSetText t w0Text) w0Wrs) 1)), (wE cI (gE gt 2) (tEd (tSetWrs (tSetText t w0Text) w0Wrs) 2)), (wN cI (gt 24) (gt 25) w0Text), (wN cI (gt 26) (gt 27) w0Wrs)] rfl rfl (met_X4_add l D cI (gt 22) (gt 23) (tLog t) v2 _ hw) y_X4_add mw_10_15 dX5_append_80 rfl n_X4_add rfl (by decide) ⟨rfl, rfl, Nat.le_of_ble_eq_true rfl, Nat.le_of_ble_eq_true rfl⟩ (Nat.le_of_ble_eq_true rfl) (z_pm [4, 0, 1, 2, 3, 5, 6] 7 rfl (by decide) rfl) ?_
  intro u6 hw
  try dsimp only at hw
  refine z_bs [(wN cI (gt 22) (gt 23) u6), (wSo gt), (wE cI (gE gt 0) (tEd (tSetWrs (tSetText t w0Text) w0Wrs) 0)), (wE cI (gE gt 1) (tEd (tSetWrs (tSetText t w0Text) w0Wrs) 1)), (wE cI (gE gt 2) (tEd (tSetWrs (tSetText t w0Text) w0Wrs) 2)), (wN cI (gt 24) (gt 25) w0Text), (wN cI (gt 26) (gt 27) w0Wrs)] [] rfl rfl ?_
  refine z_perm C [(wSo gt), (wE cI (gE gt 0) (tEd (tSetWrs (tSetText t w0Text) w0Wrs) 0)), (wE cI (gE gt 1) (tEd (tSetWrs (tSetText t w0Text) w0Wrs) 1)), (wE cI (gE gt 2) (tEd (tSetWrs (tSetText t w0Text) w0Wrs) 2)), (wN cI (gt 22) (gt 23) u6), (wN cI (gt 24) (gt 25) w0Text), (wN cI (gt 26) (gt 27) w0Wrs)] (z_pm [1, 2, 3, 4, 0, 5, 6] 7 rfl (by decide) rfl) ?_
  refine z_shut 0 [(wSo gt), (wE cI (gE gt 0) (tEd (tSetWrs (tSetText t w0Text) w0Wrs) 0)), (wE cI (gE gt 1) (tEd (tSetWrs (tSetText t w0Text) w0Wrs) 1)), (wE cI (gE gt 2) (tEd (tSetWrs (tSetText t w0Text) w0Wrs) 2)), (wN cI (gt 22) (gt 23) u6), (wN cI (gt 24) (gt 25) w0Text), (wN cI (gt 26) (gt 27) w0Wrs)] [(wS cI gt (tSetWrs (tSetText (tSetLog t u6) w0Text) w0Wrs))] rfl rfl rfl ?_
  refine z_aload_n C dX5_append_83 rfl ?_
  refine z_iconst C dX5_append_84 1 (by decide +kernel) ?_
  refine z_focus 0 hk [(wF cI gt (tSetWrs (tSetText (tSetLog t u6) w0Text) w0Wrs) k (tEd (tSetWrs (tSetText (tSetLog t u6) w0Text) w0Wrs) k))] rfl rfl ?_
  refine z_putN C inlX2 rfl tyX2 tyX2_ok nmX2 4 (by decide) (List.mem_of_getElem? (i := 16) rfl) rfl rfl (by decide) (by decide) dX5_append_85 0 1 rfl rfl (Nat.le_of_ble_eq_true rfl) [(wF cI gt (tSetWrs (tSetText (tSetLog t u6) w0Text) w0Wrs) k (eSetUw (tEd (tSetWrs (tSetText (tSetLog t u6) w0Text) w0Wrs) k) 1))] rfl ?_
  refine z_unfocus 0 hk (tSetWrs (tSetText (tSetLog (tSetEds t (va_up (tEds t) k (eSetUw (tEd (tSetWrs (tSetText (tSetLog t u6) w0Text) w0Wrs) k) 1))) u6) w0Text) w0Wrs) [(wS cI gt (tSetWrs (tSetText (tSetLog (tSetEds t (va_up (tEds t) k (eSetUw (tEd (tSetWrs (tSetText (tSetLog t u6) w0Text) w0Wrs) k) 1))) u6) w0Text) w0Wrs))] rfl rfl rfl ?_
  exact z_vret C rfl ((tSetWrs (tSetText (tSetLog (tSetEds t (va_up (tEds t) k (eSetUw (tEd (tSetWrs (tSetText (tSetLog t u6) w0Text) w0Wrs) k) 1))) u6) w0Text) w0Wrs)) rfl hw rfl dX5_append_88
def wp_X5_append (k : Nat) (t : zT)  (Q : zT → Prop) : Prop := (wp_X2_outgoing (tEd t k) (tLog t) (fun r1 => (∀ x2 : Int32, x2 = (f_X0_place r1) → (∀ x3 : Int32, x3 = (f_X0_kind r1) → ((¬ x3 = 1 → ((¬ x3 = 2 → (jn_X5_append_75 k t r1 (tText t) (tWrs t)  Q )) ∧ (x3 = 2 → (wp_X4_removeAt (tText t) x2 (fun u7 => (wp_X4_removeAt (tWrs t) x2 (fun u8 => (jn_X5_append_75 k t r1 u7 u8  Q )))))))) ∧ (x3 = 1 → (wp_X4_addAt (tText t) x2 (f_X0_sign r1) (fun u9 => (wp_X4_addAt (tWrs t) x2 (f_X0_writer r1) (fun u10 => (jn_X5_append_75 k t r1 u9 u10  Q )))))))))))
set_option maxHeartbeats 4000000 in
set_option maxRecDepth 100000 in
theorem met_X5_append (l : Launch) (D : va_G) (cI : ClassId) (gt : Nat → Nat) (k : Nat) (t : zT)  (hk : k < 3) (Q : zT → Prop) (hw : wp_X5_append k t Q) : ZM l D cI yX5_append cX5_append 5 none rmX5_append [.ref (gt 0), .ref ((gE gt k) 0)] [(wS cI gt t)] (fun _ : zT => none) (fun u : zT => [(wS cI gt u)]) (fun u : zT => Q u) := by
  refine z_body [some (.ref (gt 0)), some (.ref ((gE gt k) 0)), none, none, none] (by decide +kernel) rfl (Nat.le_of_ble_eq_true rfl) rfl ?_
  intro p e s m args below meth c A C hin
  unfold wp_X5_append at hw
  refine z_aload_n C dX5_append_0 rfl ?_
  refine z_aload_n C dX5_append_1 rfl ?_
  refine z_get C inlX5 rfl 3 (by decide) mw_2_16 dX5_append_2 0 0 rfl rfl rfl ?_
  refine z_focus 0 hk [(wF cI gt t k (tEd t k))] rfl rfl ?_
  refine z_open 0 [(wSo gt), (wE cI (gE gt k) (tEd t k)), (wN cI (gt 22) (gt 23) (tLog t)), (wN cI (gt 24) (gt 25) (tText t)), (wN cI (gt 26) (gt 27) (tWrs t)), (wR cI gt t k)] [(wSo gt), (wE cI (gE gt k) (tEd t k)), (wN cI (gt 22) (gt 23) (tLog t)), (wN cI (gt 24) (gt 25) (tText t)), (wN cI (gt 26) (gt 27) (tWrs t)), (wR cI gt t k)] rfl rfl rfl ?_
  refine z_callV0 C [(wE cI (gE gt k) (tEd t k)), (wN cI (gt 22) (gt 23) (tLog t))] [(wSo gt), (wN cI (gt 24) (gt 25) (tText t)), (wN cI (gt 26) (gt 27) (tWrs t)), (wR cI gt t k)] rfl rfl (met_X2_outgoing l D cI (gE gt k) (gt 22) (gt 23) (tEd t k) (tLog t) _ hw) y_X2_outgoing mw_10_3 dX5_append_5 rfl n_X2_outgoing rfl (by decide) ⟨rfl, rfl, Nat.le_of_ble_eq_true rfl, Nat.le_of_ble_eq_true rfl⟩ (Nat.le_of_ble_eq_true rfl) (z_pm [1, 2, 0, 3, 4, 5] 6 rfl (by decide) rfl) ?_
  intro r1 hw
  try dsimp only at hw
  refine z_bs [(wE cI (gE gt k) (tEd t k)), (wN cI (gt 22) (gt 23) (tLog t)), (wSo gt), (wN cI (gt 24) (gt 25) (tText t)), (wN cI (gt 26) (gt 27) (tWrs t)), (wR cI gt t k)] [.int r1] rfl rfl ?_
  refine z_perm C [(wSo gt), (wE cI (gE gt k) (tEd t k)), (wN cI (gt 22) (gt 23) (tLog t)), (wN cI (gt 24) (gt 25) (tText t)), (wN cI (gt 26) (gt 27) (tWrs t)), (wR cI gt t k)] (z_pm [2, 0, 1, 3, 4, 5] 6 rfl (by decide) rfl) ?_
  refine z_shut 0 [(wSo gt), (wE cI (gE gt k) (tEd t k)), (wN cI (gt 22) (gt 23) (tLog t)), (wN cI (gt 24) (gt 25) (tText t)), (wN cI (gt 26) (gt 27) (tWrs t)), (wR cI gt t k)] [(wF cI gt t k (tEd t k))] rfl rfl rfl ?_
  refine z_istore_n C dX5_append_8 [some (.ref (gt 0)), some (.ref ((gE gt k) 0)), some (.int r1), none, none] (by decide) rfl ?_
  refine z_iload_n C dX5_append_9 rfl ?_
  refine z_callFS C [] [(wF cI gt t k (tEd t k))] (met_X0_place l D cI r1) y_X0_place mw_10_7 dX5_append_10 rfl n_X0_place rfl (by decide) ⟨rfl, rfl, Nat.le_of_ble_eq_true rfl, Nat.le_of_ble_eq_true rfl⟩ (Nat.le_of_ble_eq_true rfl) (z_pm [0] 1 rfl (by decide) rfl) ?_
  refine z_name C (fun x2 ex2 => ?_)
  replace hw := hw x2 ex2
  refine z_istore_n C dX5_append_13 [some (.ref (gt 0)), some (.ref ((gE gt k) 0)), some (.int r1), some (.int x2), none] (by decide) rfl ?_
  refine z_iload_n C dX5_append_14 rfl ?_
  refine z_callFS C [] [(wF cI gt t k (tEd t k))] (met_X0_kind l D cI r1) y_X0_kind mw_10_8 dX5_append_15 rfl n_X0_kind rfl (by decide) ⟨rfl, rfl, Nat.le_of_ble_eq_true rfl, Nat.le_of_ble_eq_true rfl⟩ (Nat.le_of_ble_eq_true rfl) (z_pm [0] 1 rfl (by decide) rfl) ?_
  refine z_name C (fun x3 ex3 => ?_)
  replace hw := hw x3 ex3
  refine z_istore C dX5_append_18 [some (.ref (gt 0)), some (.ref ((gE gt k) 0)), some (.int r1), some (.int x2), some (.int x3)] (by decide) rfl ?_
  refine z_iload C dX5_append_20 rfl ?_
  refine z_iconst C dX5_append_22 1 (by decide +kernel) ?_
  refine z_icmp_ne C dX5_append_23 53 (by decide) (fun c4 => ?_) (fun c4 => ?_)
  · replace hw := hw.1 c4
    refine z_iload C dX5_append_53 rfl ?_
    refine z_iconst C dX5_append_55 2 (by decide +kernel) ?_
    refine z_icmp_ne C dX5_append_56 75 (by decide) (fun c5 => ?_) (fun c5 => ?_)
    · replace hw := hw.1 c5
      refine z_unfocus 0 hk t [(wS cI gt t)] (tSetEd_same _ _) rfl rfl ?_
      refine z_ls C [true, true, true, false, false] [some (.ref (gt 0)), some (.ref ((gE gt k) 0)), some (.int r1), none, none] rfl ?_
      exact wk_X5_append_75 C gt k t r1 (tText t) (tWrs t)  hk _  hw
    · replace hw := hw.2 c5
      refine z_aload_n C dX5_append_59 rfl ?_
      refine z_get C inlX5 rfl 4 (by decide) mw_2_17 dX5_append_60 0 0 rfl rfl rfl ?_
      refine z_iload_n C dX5_append_63 rfl ?_
      refine z_open 0 [(wSo gt), (wE cI (gE gt k) (tEd t k)), (wN cI (gt 22) (gt 23) (tLog t)), (wN cI (gt 24) (gt 25) (tText t)), (wN cI (gt 26) (gt 27) (tWrs t)), (wR cI gt t k)] [(wSo gt), (wE cI (gE gt k) (tEd t k)), (wN cI (gt 22) (gt 23) (tLog t)), (wN cI (gt 24) (gt 25) (tText t)), (wN cI (gt 26) (gt 27) (tWrs t)), (wR cI gt t k)] rfl rfl rfl ?_
      refine z_callV0 C [(wN cI (gt 24) (gt 25) (tText t))] [(wSo gt), (wE cI (gE gt k) (tEd t k)), (wN cI (gt 22) (gt 23) (tLog t)), (wN cI (gt 26) (gt 27) (tWrs t)), (wR cI gt t k)] rfl rfl (met_X4_removeAt l D cI (gt 24) (gt 25) (tText t) x2 _ hw) y_X4_removeAt mw_10_14 dX5_append_64 rfl n_X4_removeAt rfl (by decide) ⟨rfl, rfl, Nat.le_of_ble_eq_true rfl, Nat.le_of_ble_eq_true rfl⟩ (Nat.le_of_ble_eq_true rfl) (z_pm [3, 0, 1, 2, 4, 5] 6 rfl (by decide) rfl) ?_
      intro u7 hw
      try dsimp only at hw
      refine z_bs [(wN cI (gt 24) (gt 25) u7), (wSo gt), (wE cI (gE gt k) (tEd t k)), (wN cI (gt 22) (gt 23) (tLog t)), (wN cI (gt 26) (gt 27) (tWrs t)), (wR cI gt t k)] [] rfl rfl ?_
      refine z_perm C [(wSo gt), (wE cI (gE gt k) (tEd t k)), (wN cI (gt 22) (gt 23) (tLog t)), (wN cI (gt 24) (gt 25) u7), (wN cI (gt 26) (gt 27) (tWrs t)), (wR cI gt t k)] (z_pm [1, 2, 3, 0, 4, 5] 6 rfl (by decide) rfl) ?_
      refine z_shut 0 [(wSo gt), (wE cI (gE gt k) (tEd t k)), (wN cI (gt 22) (gt 23) (tLog t)), (wN cI (gt 24) (gt 25) u7), (wN cI (gt 26) (gt 27) (tWrs t)), (wR cI gt t k)] [(wF cI gt (tSetText t u7) k (tEd t k))] rfl rfl rfl ?_
      refine z_aload_n C dX5_append_67 rfl ?_
      refine z_get C inlX5 rfl 5 (by decide) mw_2_18 dX5_append_68 0 0 rfl rfl rfl ?_
      refine z_iload_n C dX5_append_71 rfl ?_
      refine z_open 0 [(wSo gt), (wE cI (gE gt k) (tEd t k)), (wN cI (gt 22) (gt 23) (tLog t)), (wN cI (gt 24) (gt 25) u7), (wN cI (gt 26) (gt 27) (tWrs t)), (wR cI gt (tSetText t u7) k)] [(wSo gt), (wE cI (gE gt k) (tEd t k)), (wN cI (gt 22) (gt 23) (tLog t)), (wN cI (gt 24) (gt 25) u7), (wN cI (gt 26) (gt 27) (tWrs t)), (wR cI gt (tSetText t u7) k)] rfl rfl rfl ?_
      refine z_callV0 C [(wN cI (gt 26) (gt 27) (tWrs t))] [(wSo gt), (wE cI (gE gt k) (tEd t k)), (wN cI (gt 22) (gt 23) (tLog t)), (wN cI (gt 24) (gt 25) u7), (wR cI gt (tSetText t u7) k)] rfl rfl (met_X4_removeAt l D cI (gt 26) (gt 27) (tWrs t) x2 _ hw) y_X4_removeAt mw_10_14 dX5_append_72 rfl n_X4_removeAt rfl (by decide) ⟨rfl, rfl, Nat.le_of_ble_eq_true rfl, Nat.le_of_ble_eq_true rfl⟩ (Nat.le_of_ble_eq_true rfl) (z_pm [4, 0, 1, 2, 3, 5] 6 rfl (by decide) rfl) ?_
      intro u8 hw
      try dsimp only at hw
      refine z_bs [(wN cI (gt 26) (gt 27) u8), (wSo gt), (wE cI (gE gt k) (tEd t k)), (wN cI (gt 22) (gt 23) (tLog t)), (wN cI (gt 24) (gt 25) u7), (wR cI gt (tSetText t u7) k)] [] rfl rfl ?_
      refine z_perm C [(wSo gt), (wE cI (gE gt k) (tEd t k)), (wN cI (gt 22) (gt 23) (tLog t)), (wN cI (gt 24) (gt 25) u7), (wN cI (gt 26) (gt 27) u8), (wR cI gt (tSetText t u7) k)] (z_pm [1, 2, 3, 4, 0, 5] 6 rfl (by decide) rfl) ?_
      refine z_shut 0 [(wSo gt), (wE cI (gE gt k) (tEd t k)), (wN cI (gt 22) (gt 23) (tLog t)), (wN cI (gt 24) (gt 25) u7), (wN cI (gt 26) (gt 27) u8), (wR cI gt (tSetText t u7) k)] [(wF cI gt (tSetWrs (tSetText t u7) u8) k (tEd t k))] rfl rfl rfl ?_
      refine z_unfocus 0 hk (tSetWrs (tSetText t u7) u8) [(wS cI gt (tSetWrs (tSetText t u7) u8))] (tSetEd_same _ _) rfl rfl ?_
      refine z_ls C [true, true, true, false, false] [some (.ref (gt 0)), some (.ref ((gE gt k) 0)), some (.int r1), none, none] rfl ?_
      exact wk_X5_append_75 C gt k t r1 u7 u8  hk _  hw
  · replace hw := hw.2 c4
    refine z_aload_n C dX5_append_26 rfl ?_
    refine z_get C inlX5 rfl 4 (by decide) mw_2_17 dX5_append_27 0 0 rfl rfl rfl ?_
    refine z_iload_n C dX5_append_30 rfl ?_
    refine z_iload_n C dX5_append_31 rfl ?_
    refine z_callFS C [] [(wF cI gt t k (tEd t k))] (met_X0_sign l D cI r1) y_X0_sign mw_10_9 dX5_append_32 rfl n_X0_sign rfl (by decide) ⟨rfl, rfl, Nat.le_of_ble_eq_true rfl, Nat.le_of_ble_eq_true rfl⟩ (Nat.le_of_ble_eq_true rfl) (z_pm [0] 1 rfl (by decide) rfl) ?_
    refine z_open 0 [(wSo gt), (wE cI (gE gt k) (tEd t k)), (wN cI (gt 22) (gt 23) (tLog t)), (wN cI (gt 24) (gt 25) (tText t)), (wN cI (gt 26) (gt 27) (tWrs t)), (wR cI gt t k)] [(wSo gt), (wE cI (gE gt k) (tEd t k)), (wN cI (gt 22) (gt 23) (tLog t)), (wN cI (gt 24) (gt 25) (tText t)), (wN cI (gt 26) (gt 27) (tWrs t)), (wR cI gt t k)] rfl rfl rfl ?_
    refine z_callV0 C [(wN cI (gt 24) (gt 25) (tText t))] [(wSo gt), (wE cI (gE gt k) (tEd t k)), (wN cI (gt 22) (gt 23) (tLog t)), (wN cI (gt 26) (gt 27) (tWrs t)), (wR cI gt t k)] rfl rfl (met_X4_addAt l D cI (gt 24) (gt 25) (tText t) x2 (f_X0_sign r1) _ hw) y_X4_addAt mw_10_10 dX5_append_35 rfl n_X4_addAt rfl (by decide) ⟨rfl, rfl, Nat.le_of_ble_eq_true rfl, Nat.le_of_ble_eq_true rfl⟩ (Nat.le_of_ble_eq_true rfl) (z_pm [3, 0, 1, 2, 4, 5] 6 rfl (by decide) rfl) ?_
    intro u9 hw
    try dsimp only at hw
    refine z_bs [(wN cI (gt 24) (gt 25) u9), (wSo gt), (wE cI (gE gt k) (tEd t k)), (wN cI (gt 22) (gt 23) (tLog t)), (wN cI (gt 26) (gt 27) (tWrs t)), (wR cI gt t k)] [] rfl rfl ?_
    refine z_perm C [(wSo gt), (wE cI (gE gt k) (tEd t k)), (wN cI (gt 22) (gt 23) (tLog t)), (wN cI (gt 24) (gt 25) u9), (wN cI (gt 26) (gt 27) (tWrs t)), (wR cI gt t k)] (z_pm [1, 2, 3, 0, 4, 5] 6 rfl (by decide) rfl) ?_
    refine z_shut 0 [(wSo gt), (wE cI (gE gt k) (tEd t k)), (wN cI (gt 22) (gt 23) (tLog t)), (wN cI (gt 24) (gt 25) u9), (wN cI (gt 26) (gt 27) (tWrs t)), (wR cI gt t k)] [(wF cI gt (tSetText t u9) k (tEd t k))] rfl rfl rfl ?_
    refine z_aload_n C dX5_append_38 rfl ?_
    refine z_get C inlX5 rfl 5 (by decide) mw_2_18 dX5_append_39 0 0 rfl rfl rfl ?_
    refine z_iload_n C dX5_append_42 rfl ?_
    refine z_iload_n C dX5_append_43 rfl ?_
    refine z_callFS C [] [(wF cI gt (tSetText t u9) k (tEd t k))] (met_X0_writer l D cI r1) y_X0_writer mw_10_11 dX5_append_44 rfl n_X0_writer rfl (by decide) ⟨rfl, rfl, Nat.le_of_ble_eq_true rfl, Nat.le_of_ble_eq_true rfl⟩ (Nat.le_of_ble_eq_true rfl) (z_pm [0] 1 rfl (by decide) rfl) ?_
    refine z_open 0 [(wSo gt), (wE cI (gE gt k) (tEd t k)), (wN cI (gt 22) (gt 23) (tLog t)), (wN cI (gt 24) (gt 25) u9), (wN cI (gt 26) (gt 27) (tWrs t)), (wR cI gt (tSetText t u9) k)] [(wSo gt), (wE cI (gE gt k) (tEd t k)), (wN cI (gt 22) (gt 23) (tLog t)), (wN cI (gt 24) (gt 25) u9), (wN cI (gt 26) (gt 27) (tWrs t)), (wR cI gt (tSetText t u9) k)] rfl rfl rfl ?_
    refine z_callV0 C [(wN cI (gt 26) (gt 27) (tWrs t))] [(wSo gt), (wE cI (gE gt k) (tEd t k)), (wN cI (gt 22) (gt 23) (tLog t)), (wN cI (gt 24) (gt 25) u9), (wR cI gt (tSetText t u9) k)] rfl rfl (met_X4_addAt l D cI (gt 26) (gt 27) (tWrs t) x2 (f_X0_writer r1) _ hw) y_X4_addAt mw_10_10 dX5_append_47 rfl n_X4_addAt rfl (by decide) ⟨rfl, rfl, Nat.le_of_ble_eq_true rfl, Nat.le_of_ble_eq_true rfl⟩ (Nat.le_of_ble_eq_true rfl) (z_pm [4, 0, 1, 2, 3, 5] 6 rfl (by decide) rfl) ?_
    intro u10 hw
    try dsimp only at hw
    refine z_bs [(wN cI (gt 26) (gt 27) u10), (wSo gt), (wE cI (gE gt k) (tEd t k)), (wN cI (gt 22) (gt 23) (tLog t)), (wN cI (gt 24) (gt 25) u9), (wR cI gt (tSetText t u9) k)] [] rfl rfl ?_
    refine z_perm C [(wSo gt), (wE cI (gE gt k) (tEd t k)), (wN cI (gt 22) (gt 23) (tLog t)), (wN cI (gt 24) (gt 25) u9), (wN cI (gt 26) (gt 27) u10), (wR cI gt (tSetText t u9) k)] (z_pm [1, 2, 3, 4, 0, 5] 6 rfl (by decide) rfl) ?_
    refine z_shut 0 [(wSo gt), (wE cI (gE gt k) (tEd t k)), (wN cI (gt 22) (gt 23) (tLog t)), (wN cI (gt 24) (gt 25) u9), (wN cI (gt 26) (gt 27) u10), (wR cI gt (tSetText t u9) k)] [(wF cI gt (tSetWrs (tSetText t u9) u10) k (tEd t k))] rfl rfl rfl ?_
    refine z_goto C dX5_append_50 75 (by decide) ?_
    refine z_unfocus 0 hk (tSetWrs (tSetText t u9) u10) [(wS cI gt (tSetWrs (tSetText t u9) u10))] (tSetEd_same _ _) rfl rfl ?_
    refine z_ls C [true, true, true, false, false] [some (.ref (gt 0)), some (.ref ((gE gt k) 0)), some (.int r1), none, none] rfl ?_
    exact wk_X5_append_75 C gt k t r1 u9 u10  hk _  hw
def rmX5_pass : Room := { frames := 3, cells := 0, slots := 0, locals := 75 }
def wp_X5_pass (k : Nat) (t : zT)  (Q : Int32 → zT → Prop) : Prop := ((¬ (f_X2_canSend (tEd t k)) = 0 → (((f_X4_size (tLog t)) < 60 → (wp_X5_append k t (fun u3 => (Q (f_X4_size (tLog u3)) u3)))) ∧ (¬ (f_X4_size (tLog t)) < 60 → (Q (-3) t)))) ∧ ((f_X2_canSend (tEd t k)) = 0 → (Q (-2) t)))
set_option maxHeartbeats 4000000 in
set_option maxRecDepth 100000 in
theorem met_X5_pass (l : Launch) (D : va_G) (cI : ClassId) (gt : Nat → Nat) (k : Nat) (t : zT)  (hk : k < 3) (Q : Int32 → zT → Prop) (hw : wp_X5_pass k t Q) : ZM l D cI yX5_pass cX5_pass 2 (some .int) rmX5_pass [.ref (gt 0), .ref ((gE gt k) 0)] [(wS cI gt t)] (fun u : Int32 × zT => some (.int u.1)) (fun u : Int32 × zT => [(wS cI gt (u.2))]) (fun u : Int32 × zT => Q u.1 u.2) := by
  refine z_body [some (.ref (gt 0)), some (.ref ((gE gt k) 0))] (by decide +kernel) rfl (Nat.le_of_ble_eq_true rfl) rfl ?_
  intro p e s m args below meth c A C hin
  unfold wp_X5_pass at hw
  refine z_aload_n C dX5_pass_0 rfl ?_
  refine z_focus 0 hk [(wF cI gt t k (tEd t k))] rfl rfl ?_
  refine z_open 0 [(wSo gt), (wE cI (gE gt k) (tEd t k)), (wN cI (gt 22) (gt 23) (tLog t)), (wN cI (gt 24) (gt 25) (tText t)), (wN cI (gt 26) (gt 27) (tWrs t)), (wR cI gt t k)] [(wSo gt), (wE cI (gE gt k) (tEd t k)), (wN cI (gt 22) (gt 23) (tLog t)), (wN cI (gt 24) (gt 25) (tText t)), (wN cI (gt 26) (gt 27) (tWrs t)), (wR cI gt t k)] rfl rfl rfl ?_
  refine z_callFV C [(wE cI (gE gt k) (tEd t k))] [(wSo gt), (wN cI (gt 22) (gt 23) (tLog t)), (wN cI (gt 24) (gt 25) (tText t)), (wN cI (gt 26) (gt 27) (tWrs t)), (wR cI gt t k)] rfl rfl (met_X2_canSend l D cI (gE gt k) (tEd t k)) y_X2_canSend mw_9_18 dX5_pass_1 rfl n_X2_canSend rfl (by decide) ⟨rfl, rfl, Nat.le_of_ble_eq_true rfl, Nat.le_of_ble_eq_true rfl⟩ (Nat.le_of_ble_eq_true rfl) (z_pm [1, 0, 2, 3, 4, 5] 6 rfl (by decide) rfl) ?_
  refine z_shut 0 [(wSo gt), (wE cI (gE gt k) (tEd t k)), (wN cI (gt 22) (gt 23) (tLog t)), (wN cI (gt 24) (gt 25) (tText t)), (wN cI (gt 26) (gt 27) (tWrs t)), (wR cI gt t k)] [(wF cI gt t k (tEd t k))] rfl rfl rfl ?_
  refine z_if_ne C dX5_pass_4 10 (by decide) (fun c1 => ?_) (fun c1 => ?_)
  · replace hw := hw.1 c1
    refine z_aload_n C dX5_pass_10 rfl ?_
    refine z_get C inlX5 rfl 3 (by decide) mw_2_16 dX5_pass_11 0 0 rfl rfl rfl ?_
    refine z_open 0 [(wSo gt), (wE cI (gE gt k) (tEd t k)), (wN cI (gt 22) (gt 23) (tLog t)), (wN cI (gt 24) (gt 25) (tText t)), (wN cI (gt 26) (gt 27) (tWrs t)), (wR cI gt t k)] [(wSo gt), (wE cI (gE gt k) (tEd t k)), (wN cI (gt 22) (gt 23) (tLog t)), (wN cI (gt 24) (gt 25) (tText t)), (wN cI (gt 26) (gt 27) (tWrs t)), (wR cI gt t k)] rfl rfl rfl ?_
    refine z_callFV C [(wN cI (gt 22) (gt 23) (tLog t))] [(wSo gt), (wE cI (gE gt k) (tEd t k)), (wN cI (gt 24) (gt 25) (tText t)), (wN cI (gt 26) (gt 27) (tWrs t)), (wR cI gt t k)] rfl rfl (met_X4_size l D cI (gt 22) (gt 23) (tLog t)) y_X4_size mw_9_22 dX5_pass_14 rfl n_X4_size rfl (by decide) ⟨rfl, rfl, Nat.le_of_ble_eq_true rfl, Nat.le_of_ble_eq_true rfl⟩ (Nat.le_of_ble_eq_true rfl) (z_pm [2, 0, 1, 3, 4, 5] 6 rfl (by decide) rfl) ?_
    refine z_shut 0 [(wSo gt), (wE cI (gE gt k) (tEd t k)), (wN cI (gt 22) (gt 23) (tLog t)), (wN cI (gt 24) (gt 25) (tText t)), (wN cI (gt 26) (gt 27) (tWrs t)), (wR cI gt t k)] [(wF cI gt t k (tEd t k))] rfl rfl rfl ?_
    refine z_bipush C dX5_pass_17 60 (by decide +kernel) ?_
    refine z_icmp_lt C dX5_pass_19 25 (by decide) (fun c2 => ?_) (fun c2 => ?_)
    · replace hw := hw.1 c2
      refine z_aload_n C dX5_pass_25 rfl ?_
      refine z_aload_n C dX5_pass_26 rfl ?_
      refine z_unfocus 0 hk t [(wS cI gt t)] (tSetEd_same _ _) rfl rfl ?_
      refine z_callV0 C [(wS cI gt t)] [] rfl rfl (met_X5_append l D cI gt k t hk _ hw) y_X5_append mw_9_23 dX5_pass_27 rfl n_X5_append rfl (by decide) ⟨rfl, rfl, Nat.le_of_ble_eq_true rfl, Nat.le_of_ble_eq_true rfl⟩ (Nat.le_of_ble_eq_true rfl) (z_pm [0] 1 rfl (by decide) rfl) ?_
      intro u3 hw
      try dsimp only at hw
      refine z_bs [(wS cI gt u3)] [] rfl rfl ?_
      refine z_aload_n C dX5_pass_30 rfl ?_
      refine z_get C inlX5 rfl 3 (by decide) mw_2_16 dX5_pass_31 0 0 rfl rfl rfl ?_
      refine z_open 0 [(wSo gt), (wE cI (gE gt 0) (tEd u3 0)), (wE cI (gE gt 1) (tEd u3 1)), (wE cI (gE gt 2) (tEd u3 2)), (wN cI (gt 22) (gt 23) (tLog u3)), (wN cI (gt 24) (gt 25) (tText u3)), (wN cI (gt 26) (gt 27) (tWrs u3))] [(wSo gt), (wE cI (gE gt 0) (tEd u3 0)), (wE cI (gE gt 1) (tEd u3 1)), (wE cI (gE gt 2) (tEd u3 2)), (wN cI (gt 22) (gt 23) (tLog u3)), (wN cI (gt 24) (gt 25) (tText u3)), (wN cI (gt 26) (gt 27) (tWrs u3))] rfl rfl rfl ?_
      refine z_callFV C [(wN cI (gt 22) (gt 23) (tLog u3))] [(wSo gt), (wE cI (gE gt 0) (tEd u3 0)), (wE cI (gE gt 1) (tEd u3 1)), (wE cI (gE gt 2) (tEd u3 2)), (wN cI (gt 24) (gt 25) (tText u3)), (wN cI (gt 26) (gt 27) (tWrs u3))] rfl rfl (met_X4_size l D cI (gt 22) (gt 23) (tLog u3)) y_X4_size mw_9_22 dX5_pass_34 rfl n_X4_size rfl (by decide) ⟨rfl, rfl, Nat.le_of_ble_eq_true rfl, Nat.le_of_ble_eq_true rfl⟩ (Nat.le_of_ble_eq_true rfl) (z_pm [4, 0, 1, 2, 3, 5, 6] 7 rfl (by decide) rfl) ?_
      refine z_shut 0 [(wSo gt), (wE cI (gE gt 0) (tEd u3 0)), (wE cI (gE gt 1) (tEd u3 1)), (wE cI (gE gt 2) (tEd u3 2)), (wN cI (gt 22) (gt 23) (tLog u3)), (wN cI (gt 24) (gt 25) (tText u3)), (wN cI (gt 26) (gt 27) (tWrs u3))] [(wS cI gt u3)] rfl rfl rfl ?_
      exact z_iret C rfl ((f_X4_size (tLog u3)), u3) rfl hw rfl dX5_pass_37
    · replace hw := hw.2 c2
      refine z_bipush C dX5_pass_22 (-3) (by decide +kernel) ?_
      refine z_unfocus 0 hk t [(wS cI gt t)] (tSetEd_same _ _) rfl rfl ?_
      exact z_iret C rfl ((-3), t) rfl hw rfl dX5_pass_24
  · replace hw := hw.2 c1
    refine z_bipush C dX5_pass_7 (-2) (by decide +kernel) ?_
    refine z_unfocus 0 hk t [(wS cI gt t)] (tSetEd_same _ _) rfl rfl ?_
    exact z_iret C rfl ((-2), t) rfl hw rfl dX5_pass_9
def rmX5_answer : Room := { frames := 4, cells := 0, slots := 0, locals := 98 }
def wp_X5_answer (t : zT) (p1 : Int32) (p2 : Int32) (p3 : Int32) (p4 : Int32) (Q : Int32 → zT → Prop) : Prop := (((f_X6_isNoEditor p2) = 0 → ((p1 = 77 → (wp_X2_setSpot (tEd t (ixE p2)) p3 (fun r3 u4 => (Q r3 (tSetEds t (va_up (tEds t) (ixE p2) u4)))))) ∧ (¬ p1 = 77 → ((p1 = 98 → (wp_X2_goBack (tEd t (ixE p2)) (fun r6 u7 => (Q r6 (tSetEds t (va_up (tEds t) (ixE p2) u7)))))) ∧ (¬ p1 = 98 → ((p1 = 100 → (wp_X2_takeOut (tEd t (ixE p2)) p3 (fun r9 u10 => (Q r9 (tSetEds t (va_up (tEds t) (ixE p2) u10)))))) ∧ (¬ p1 = 100 → ((p1 = 104 → (wp_X2_hearNext (tEd t (ixE p2)) (tLog t) (fun r12 u13 => (Q r12 (tSetEds t (va_up (tEds t) (ixE p2) u13)))))) ∧ (¬ p1 = 104 → ((p1 = 105 → (wp_X2_putIn (tEd t (ixE p2)) p3 p4 (fun r15 u16 => (Q r15 (tSetEds t (va_up (tEds t) (ixE p2) u16)))))) ∧ (¬ p1 = 105 → ((p1 = 115 → (wp_X5_pass (ixE p2) t (fun r18 u19 => (Q r18 u19)))) ∧ (¬ p1 = 115 → (wp_X2_hearRest (tEd t (ixE p2)) (tLog t) (fun r20 u21 => (Q r20 (tSetEds t (va_up (tEds t) (ixE p2) u21)))))))))))))))))) ∧ (¬ (f_X6_isNoEditor p2) = 0 → (Q (-1) t)))
set_option maxHeartbeats 4000000 in
set_option maxRecDepth 100000 in
theorem met_X5_answer (l : Launch) (D : va_G) (cI : ClassId) (gt : Nat → Nat) (t : zT) (p1 : Int32) (p2 : Int32) (p3 : Int32) (p4 : Int32) (Q : Int32 → zT → Prop) (hw : wp_X5_answer t p1 p2 p3 p4 Q) : ZM l D cI yX5_answer cX5_answer 6 (some .int) rmX5_answer [.ref (gt 0), .int p1, .int p2, .int p3, .int p4] [(wS cI gt t)] (fun u : Int32 × zT => some (.int u.1)) (fun u : Int32 × zT => [(wS cI gt (u.2))]) (fun u : Int32 × zT => Q u.1 u.2) := by
  refine z_body [some (.ref (gt 0)), some (.int p1), some (.int p2), some (.int p3), some (.int p4), none] (by decide +kernel) rfl (Nat.le_of_ble_eq_true rfl) rfl ?_
  intro p e s m args below meth c A C hin
  unfold wp_X5_answer at hw
  refine z_iload_n C dX5_answer_0 rfl ?_
  refine z_callFSN C [] [(wS cI gt t)] (met_X6_isNoEditor l D cI p2) y_X6_isNoEditor (List.mem_of_getElem? (i := 19) rfl) dX5_answer_1 rfl n_X6_isNoEditor rfl (by decide) ⟨rfl, rfl, Nat.le_of_ble_eq_true rfl, Nat.le_of_ble_eq_true rfl⟩ (Nat.le_of_ble_eq_true rfl) (z_pm [0] 1 rfl (by decide) rfl) ?_
  refine z_if_eq C dX5_answer_4 9 (by decide) (fun c1 => ?_) (fun c1 => ?_)
  · replace hw := hw.1 c1
    refine z_aload_n C dX5_answer_9 rfl ?_
    refine z_iload_n C dX5_answer_10 rfl ?_
    refine z_callFV C [(wS cI gt t)] [] rfl rfl (met_X5_editor l D cI gt t p2) y_X5_editor mw_6_13 dX5_answer_11 rfl n_X5_editor rfl (by decide) ⟨rfl, rfl, Nat.le_of_ble_eq_true rfl, Nat.le_of_ble_eq_true rfl⟩ (Nat.le_of_ble_eq_true rfl) (z_pm [0] 1 rfl (by decide) rfl) ?_
    refine z_astore C dX5_answer_14 [some (.ref (gt 0)), some (.int p1), some (.int p2), some (.int p3), some (.int p4), some (.ref ((gE gt (ixE p2)) 0))] (by decide) rfl ?_
    refine z_iload_n C dX5_answer_16 rfl ?_
    by_cases c2 : p1 = 77
    · refine z_lookupAt C dX5_answer_17 (by decide) 77 c2 81 (by decide) 98 (by decide) ?_
      replace hw := hw.1 c2
      refine z_aload C dX5_answer_98 rfl ?_
      refine z_iload_n C dX5_answer_100 rfl ?_
      refine z_focus 0 (ixE_lt _) [(wF cI gt t (ixE p2) (tEd t (ixE p2)))] rfl rfl ?_
      refine z_open 0 [(wSo gt), (wE cI (gE gt (ixE p2)) (tEd t (ixE p2))), (wN cI (gt 22) (gt 23) (tLog t)), (wN cI (gt 24) (gt 25) (tText t)), (wN cI (gt 26) (gt 27) (tWrs t)), (wR cI gt t (ixE p2))] [(wSo gt), (wE cI (gE gt (ixE p2)) (tEd t (ixE p2))), (wN cI (gt 22) (gt 23) (tLog t)), (wN cI (gt 24) (gt 25) (tText t)), (wN cI (gt 26) (gt 27) (tWrs t)), (wR cI gt t (ixE p2))] rfl rfl rfl ?_
      refine z_callV0 C [(wE cI (gE gt (ixE p2)) (tEd t (ixE p2)))] [(wSo gt), (wN cI (gt 22) (gt 23) (tLog t)), (wN cI (gt 24) (gt 25) (tText t)), (wN cI (gt 26) (gt 27) (tWrs t)), (wR cI gt t (ixE p2))] rfl rfl (met_X2_setSpot l D cI (gE gt (ixE p2)) (tEd t (ixE p2)) p3 _ hw) y_X2_setSpot mw_9_10 dX5_answer_101 rfl n_X2_setSpot rfl (by decide) ⟨rfl, rfl, Nat.le_of_ble_eq_true rfl, Nat.le_of_ble_eq_true rfl⟩ (Nat.le_of_ble_eq_true rfl) (z_pm [1, 0, 2, 3, 4, 5] 6 rfl (by decide) rfl) ?_
      intro ⟨r3, u4⟩ hw
      try dsimp only at hw
      refine z_bs [(wE cI (gE gt (ixE p2)) u4), (wSo gt), (wN cI (gt 22) (gt 23) (tLog t)), (wN cI (gt 24) (gt 25) (tText t)), (wN cI (gt 26) (gt 27) (tWrs t)), (wR cI gt t (ixE p2))] [.int r3] rfl rfl ?_
      refine z_perm C [(wSo gt), (wE cI (gE gt (ixE p2)) u4), (wN cI (gt 22) (gt 23) (tLog t)), (wN cI (gt 24) (gt 25) (tText t)), (wN cI (gt 26) (gt 27) (tWrs t)), (wR cI gt t (ixE p2))] (z_pm [1, 0, 2, 3, 4, 5] 6 rfl (by decide) rfl) ?_
      refine z_shut 0 [(wSo gt), (wE cI (gE gt (ixE p2)) u4), (wN cI (gt 22) (gt 23) (tLog t)), (wN cI (gt 24) (gt 25) (tText t)), (wN cI (gt 26) (gt 27) (tWrs t)), (wR cI gt t (ixE p2))] [(wF cI gt t (ixE p2) u4)] rfl rfl rfl ?_
      refine z_unfocus 0 (ixE_lt _) (tSetEds t (va_up (tEds t) (ixE p2) u4)) [(wS cI gt (tSetEds t (va_up (tEds t) (ixE p2) u4)))] rfl rfl rfl ?_
      exact z_iret C rfl (r3, (tSetEds t (va_up (tEds t) (ixE p2) u4))) rfl hw rfl dX5_answer_104
    replace hw := hw.2 c2
    by_cases c5 : p1 = 98
    · refine z_lookupAt C dX5_answer_17 (by decide) 98 c5 75 (by decide) 92 (by decide) ?_
      replace hw := hw.1 c5
      refine z_aload C dX5_answer_92 rfl ?_
      refine z_focus 0 (ixE_lt _) [(wF cI gt t (ixE p2) (tEd t (ixE p2)))] rfl rfl ?_
      refine z_open 0 [(wSo gt), (wE cI (gE gt (ixE p2)) (tEd t (ixE p2))), (wN cI (gt 22) (gt 23) (tLog t)), (wN cI (gt 24) (gt 25) (tText t)), (wN cI (gt 26) (gt 27) (tWrs t)), (wR cI gt t (ixE p2))] [(wSo gt), (wE cI (gE gt (ixE p2)) (tEd t (ixE p2))), (wN cI (gt 22) (gt 23) (tLog t)), (wN cI (gt 24) (gt 25) (tText t)), (wN cI (gt 26) (gt 27) (tWrs t)), (wR cI gt t (ixE p2))] rfl rfl rfl ?_
      refine z_callV0 C [(wE cI (gE gt (ixE p2)) (tEd t (ixE p2)))] [(wSo gt), (wN cI (gt 22) (gt 23) (tLog t)), (wN cI (gt 24) (gt 25) (tText t)), (wN cI (gt 26) (gt 27) (tWrs t)), (wR cI gt t (ixE p2))] rfl rfl (met_X2_goBack l D cI (gE gt (ixE p2)) (tEd t (ixE p2)) _ hw) y_X2_goBack mw_9_6 dX5_answer_94 rfl n_X2_goBack rfl (by decide) ⟨rfl, rfl, Nat.le_of_ble_eq_true rfl, Nat.le_of_ble_eq_true rfl⟩ (Nat.le_of_ble_eq_true rfl) (z_pm [1, 0, 2, 3, 4, 5] 6 rfl (by decide) rfl) ?_
      intro ⟨r6, u7⟩ hw
      try dsimp only at hw
      refine z_bs [(wE cI (gE gt (ixE p2)) u7), (wSo gt), (wN cI (gt 22) (gt 23) (tLog t)), (wN cI (gt 24) (gt 25) (tText t)), (wN cI (gt 26) (gt 27) (tWrs t)), (wR cI gt t (ixE p2))] [.int r6] rfl rfl ?_
      refine z_perm C [(wSo gt), (wE cI (gE gt (ixE p2)) u7), (wN cI (gt 22) (gt 23) (tLog t)), (wN cI (gt 24) (gt 25) (tText t)), (wN cI (gt 26) (gt 27) (tWrs t)), (wR cI gt t (ixE p2))] (z_pm [1, 0, 2, 3, 4, 5] 6 rfl (by decide) rfl) ?_
      refine z_shut 0 [(wSo gt), (wE cI (gE gt (ixE p2)) u7), (wN cI (gt 22) (gt 23) (tLog t)), (wN cI (gt 24) (gt 25) (tText t)), (wN cI (gt 26) (gt 27) (tWrs t)), (wR cI gt t (ixE p2))] [(wF cI gt t (ixE p2) u7)] rfl rfl rfl ?_
      refine z_unfocus 0 (ixE_lt _) (tSetEds t (va_up (tEds t) (ixE p2) u7)) [(wS cI gt (tSetEds t (va_up (tEds t) (ixE p2) u7)))] rfl rfl rfl ?_
      exact z_iret C rfl (r6, (tSetEds t (va_up (tEds t) (ixE p2) u7))) rfl hw rfl dX5_answer_97
    replace hw := hw.2 c5
    by_cases c8 : p1 = 100
    · refine z_lookupAt C dX5_answer_17 (by decide) 100 c8 68 (by decide) 85 (by decide) ?_
      replace hw := hw.1 c8
      refine z_aload C dX5_answer_85 rfl ?_
      refine z_iload_n C dX5_answer_87 rfl ?_
      refine z_focus 0 (ixE_lt _) [(wF cI gt t (ixE p2) (tEd t (ixE p2)))] rfl rfl ?_
      refine z_open 0 [(wSo gt), (wE cI (gE gt (ixE p2)) (tEd t (ixE p2))), (wN cI (gt 22) (gt 23) (tLog t)), (wN cI (gt 24) (gt 25) (tText t)), (wN cI (gt 26) (gt 27) (tWrs t)), (wR cI gt t (ixE p2))] [(wSo gt), (wE cI (gE gt (ixE p2)) (tEd t (ixE p2))), (wN cI (gt 22) (gt 23) (tLog t)), (wN cI (gt 24) (gt 25) (tText t)), (wN cI (gt 26) (gt 27) (tWrs t)), (wR cI gt t (ixE p2))] rfl rfl rfl ?_
      refine z_callV0 C [(wE cI (gE gt (ixE p2)) (tEd t (ixE p2)))] [(wSo gt), (wN cI (gt 22) (gt 23) (tLog t)), (wN cI (gt 24) (gt 25) (tText t)), (wN cI (gt 26) (gt 27) (tWrs t)), (wR cI gt t (ixE p2))] rfl rfl (met_X2_takeOut l D cI (gE gt (ixE p2)) (tEd t (ixE p2)) p3 _ hw) y_X2_takeOut mw_9_2 dX5_answer_88 rfl n_X2_takeOut rfl (by decide) ⟨rfl, rfl, Nat.le_of_ble_eq_true rfl, Nat.le_of_ble_eq_true rfl⟩ (Nat.le_of_ble_eq_true rfl) (z_pm [1, 0, 2, 3, 4, 5] 6 rfl (by decide) rfl) ?_
      intro ⟨r9, u10⟩ hw
      try dsimp only at hw
      refine z_bs [(wE cI (gE gt (ixE p2)) u10), (wSo gt), (wN cI (gt 22) (gt 23) (tLog t)), (wN cI (gt 24) (gt 25) (tText t)), (wN cI (gt 26) (gt 27) (tWrs t)), (wR cI gt t (ixE p2))] [.int r9] rfl rfl ?_
      refine z_perm C [(wSo gt), (wE cI (gE gt (ixE p2)) u10), (wN cI (gt 22) (gt 23) (tLog t)), (wN cI (gt 24) (gt 25) (tText t)), (wN cI (gt 26) (gt 27) (tWrs t)), (wR cI gt t (ixE p2))] (z_pm [1, 0, 2, 3, 4, 5] 6 rfl (by decide) rfl) ?_
      refine z_shut 0 [(wSo gt), (wE cI (gE gt (ixE p2)) u10), (wN cI (gt 22) (gt 23) (tLog t)), (wN cI (gt 24) (gt 25) (tText t)), (wN cI (gt 26) (gt 27) (tWrs t)), (wR cI gt t (ixE p2))] [(wF cI gt t (ixE p2) u10)] rfl rfl rfl ?_
      refine z_unfocus 0 (ixE_lt _) (tSetEds t (va_up (tEds t) (ixE p2) u10)) [(wS cI gt (tSetEds t (va_up (tEds t) (ixE p2) u10)))] rfl rfl rfl ?_
      exact z_iret C rfl (r9, (tSetEds t (va_up (tEds t) (ixE p2) u10))) rfl hw rfl dX5_answer_91
    replace hw := hw.2 c8
    by_cases c11 : p1 = 104
    · refine z_lookupAt C dX5_answer_17 (by decide) 104 c11 95 (by decide) 112 (by decide) ?_
      replace hw := hw.1 c11
      refine z_aload C dX5_answer_112 rfl ?_
      refine z_aload_n C dX5_answer_114 rfl ?_
      refine z_get C inlX5 rfl 3 (by decide) mw_2_16 dX5_answer_115 0 0 rfl rfl rfl ?_
      refine z_focus 0 (ixE_lt _) [(wF cI gt t (ixE p2) (tEd t (ixE p2)))] rfl rfl ?_
      refine z_open 0 [(wSo gt), (wE cI (gE gt (ixE p2)) (tEd t (ixE p2))), (wN cI (gt 22) (gt 23) (tLog t)), (wN cI (gt 24) (gt 25) (tText t)), (wN cI (gt 26) (gt 27) (tWrs t)), (wR cI gt t (ixE p2))] [(wSo gt), (wE cI (gE gt (ixE p2)) (tEd t (ixE p2))), (wN cI (gt 22) (gt 23) (tLog t)), (wN cI (gt 24) (gt 25) (tText t)), (wN cI (gt 26) (gt 27) (tWrs t)), (wR cI gt t (ixE p2))] rfl rfl rfl ?_
      refine z_callV0 C [(wE cI (gE gt (ixE p2)) (tEd t (ixE p2))), (wN cI (gt 22) (gt 23) (tLog t))] [(wSo gt), (wN cI (gt 24) (gt 25) (tText t)), (wN cI (gt 26) (gt 27) (tWrs t)), (wR cI gt t (ixE p2))] rfl rfl (met_X2_hearNext l D cI (gE gt (ixE p2)) (gt 22) (gt 23) (tEd t (ixE p2)) (tLog t) _ hw) y_X2_hearNext mw_10_16 dX5_answer_118 rfl n_X2_hearNext rfl (by decide) ⟨rfl, rfl, Nat.le_of_ble_eq_true rfl, Nat.le_of_ble_eq_true rfl⟩ (Nat.le_of_ble_eq_true rfl) (z_pm [1, 2, 0, 3, 4, 5] 6 rfl (by decide) rfl) ?_
      intro ⟨r12, u13⟩ hw
      try dsimp only at hw
      refine z_bs [(wE cI (gE gt (ixE p2)) u13), (wN cI (gt 22) (gt 23) (tLog t)), (wSo gt), (wN cI (gt 24) (gt 25) (tText t)), (wN cI (gt 26) (gt 27) (tWrs t)), (wR cI gt t (ixE p2))] [.int r12] rfl rfl ?_
      refine z_perm C [(wSo gt), (wE cI (gE gt (ixE p2)) u13), (wN cI (gt 22) (gt 23) (tLog t)), (wN cI (gt 24) (gt 25) (tText t)), (wN cI (gt 26) (gt 27) (tWrs t)), (wR cI gt t (ixE p2))] (z_pm [2, 0, 1, 3, 4, 5] 6 rfl (by decide) rfl) ?_
      refine z_shut 0 [(wSo gt), (wE cI (gE gt (ixE p2)) u13), (wN cI (gt 22) (gt 23) (tLog t)), (wN cI (gt 24) (gt 25) (tText t)), (wN cI (gt 26) (gt 27) (tWrs t)), (wR cI gt t (ixE p2))] [(wF cI gt t (ixE p2) u13)] rfl rfl rfl ?_
      refine z_unfocus 0 (ixE_lt _) (tSetEds t (va_up (tEds t) (ixE p2) u13)) [(wS cI gt (tSetEds t (va_up (tEds t) (ixE p2) u13)))] rfl rfl rfl ?_
      exact z_iret C rfl (r12, (tSetEds t (va_up (tEds t) (ixE p2) u13))) rfl hw rfl dX5_answer_121
    replace hw := hw.2 c11
    by_cases c14 : p1 = 105
    · refine z_lookupAt C dX5_answer_17 (by decide) 105 c14 59 (by decide) 76 (by decide) ?_
      replace hw := hw.1 c14
      refine z_aload C dX5_answer_76 rfl ?_
      refine z_iload_n C dX5_answer_78 rfl ?_
      refine z_iload C dX5_answer_79 rfl ?_
      refine z_focus 0 (ixE_lt _) [(wF cI gt t (ixE p2) (tEd t (ixE p2)))] rfl rfl ?_
      refine z_open 0 [(wSo gt), (wE cI (gE gt (ixE p2)) (tEd t (ixE p2))), (wN cI (gt 22) (gt 23) (tLog t)), (wN cI (gt 24) (gt 25) (tText t)), (wN cI (gt 26) (gt 27) (tWrs t)), (wR cI gt t (ixE p2))] [(wSo gt), (wE cI (gE gt (ixE p2)) (tEd t (ixE p2))), (wN cI (gt 22) (gt 23) (tLog t)), (wN cI (gt 24) (gt 25) (tText t)), (wN cI (gt 26) (gt 27) (tWrs t)), (wR cI gt t (ixE p2))] rfl rfl rfl ?_
      refine z_callV0 C [(wE cI (gE gt (ixE p2)) (tEd t (ixE p2)))] [(wSo gt), (wN cI (gt 22) (gt 23) (tLog t)), (wN cI (gt 24) (gt 25) (tText t)), (wN cI (gt 26) (gt 27) (tWrs t)), (wR cI gt t (ixE p2))] rfl rfl (met_X2_putIn l D cI (gE gt (ixE p2)) (tEd t (ixE p2)) p3 p4 _ hw) y_X2_putIn mw_6_17 dX5_answer_81 rfl n_X2_putIn rfl (by decide) ⟨rfl, rfl, Nat.le_of_ble_eq_true rfl, Nat.le_of_ble_eq_true rfl⟩ (Nat.le_of_ble_eq_true rfl) (z_pm [1, 0, 2, 3, 4, 5] 6 rfl (by decide) rfl) ?_
      intro ⟨r15, u16⟩ hw
      try dsimp only at hw
      refine z_bs [(wE cI (gE gt (ixE p2)) u16), (wSo gt), (wN cI (gt 22) (gt 23) (tLog t)), (wN cI (gt 24) (gt 25) (tText t)), (wN cI (gt 26) (gt 27) (tWrs t)), (wR cI gt t (ixE p2))] [.int r15] rfl rfl ?_
      refine z_perm C [(wSo gt), (wE cI (gE gt (ixE p2)) u16), (wN cI (gt 22) (gt 23) (tLog t)), (wN cI (gt 24) (gt 25) (tText t)), (wN cI (gt 26) (gt 27) (tWrs t)), (wR cI gt t (ixE p2))] (z_pm [1, 0, 2, 3, 4, 5] 6 rfl (by decide) rfl) ?_
      refine z_shut 0 [(wSo gt), (wE cI (gE gt (ixE p2)) u16), (wN cI (gt 22) (gt 23) (tLog t)), (wN cI (gt 24) (gt 25) (tText t)), (wN cI (gt 26) (gt 27) (tWrs t)), (wR cI gt t (ixE p2))] [(wF cI gt t (ixE p2) u16)] rfl rfl rfl ?_
      refine z_unfocus 0 (ixE_lt _) (tSetEds t (va_up (tEds t) (ixE p2) u16)) [(wS cI gt (tSetEds t (va_up (tEds t) (ixE p2) u16)))] rfl rfl rfl ?_
      exact z_iret C rfl (r15, (tSetEds t (va_up (tEds t) (ixE p2) u16))) rfl hw rfl dX5_answer_84
    replace hw := hw.2 c14
    by_cases c17 : p1 = 115
    · refine z_lookupAt C dX5_answer_17 (by decide) 115 c17 88 (by decide) 105 (by decide) ?_
      replace hw := hw.1 c17
      refine z_aload_n C dX5_answer_105 rfl ?_
      refine z_aload C dX5_answer_106 rfl ?_
      refine z_callV0 C [(wS cI gt t)] [] rfl rfl (met_X5_pass l D cI gt (ixE p2) t (ixE_lt _) _ hw) y_X5_pass mw_9_14 dX5_answer_108 rfl n_X5_pass rfl (by decide) ⟨rfl, rfl, Nat.le_of_ble_eq_true rfl, Nat.le_of_ble_eq_true rfl⟩ (Nat.le_of_ble_eq_true rfl) (z_pm [0] 1 rfl (by decide) rfl) ?_
      intro ⟨r18, u19⟩ hw
      try dsimp only at hw
      refine z_bs [(wS cI gt u19)] [.int r18] rfl rfl ?_
      exact z_iret C rfl (r18, u19) rfl hw rfl dX5_answer_111
    replace hw := hw.2 c17
    refine z_lookup C dX5_answer_17 (by decide) 105 ((lv_osw c2 rfl).trans ((lv_osw c5 rfl).trans ((lv_osw c8 rfl).trans ((lv_osw c11 rfl).trans ((lv_osw c14 rfl).trans ((lv_osw c17 rfl).trans rfl)))))) 122 (by decide) ?_
    refine z_aload C dX5_answer_122 rfl ?_
    refine z_aload_n C dX5_answer_124 rfl ?_
    refine z_get C inlX5 rfl 3 (by decide) mw_2_16 dX5_answer_125 0 0 rfl rfl rfl ?_
    refine z_focus 0 (ixE_lt _) [(wF cI gt t (ixE p2) (tEd t (ixE p2)))] rfl rfl ?_
    refine z_open 0 [(wSo gt), (wE cI (gE gt (ixE p2)) (tEd t (ixE p2))), (wN cI (gt 22) (gt 23) (tLog t)), (wN cI (gt 24) (gt 25) (tText t)), (wN cI (gt 26) (gt 27) (tWrs t)), (wR cI gt t (ixE p2))] [(wSo gt), (wE cI (gE gt (ixE p2)) (tEd t (ixE p2))), (wN cI (gt 22) (gt 23) (tLog t)), (wN cI (gt 24) (gt 25) (tText t)), (wN cI (gt 26) (gt 27) (tWrs t)), (wR cI gt t (ixE p2))] rfl rfl rfl ?_
    refine z_callV0 C [(wE cI (gE gt (ixE p2)) (tEd t (ixE p2))), (wN cI (gt 22) (gt 23) (tLog t))] [(wSo gt), (wN cI (gt 24) (gt 25) (tText t)), (wN cI (gt 26) (gt 27) (tWrs t)), (wR cI gt t (ixE p2))] rfl rfl (met_X2_hearRest l D cI (gE gt (ixE p2)) (gt 22) (gt 23) (tEd t (ixE p2)) (tLog t) _ hw) y_X2_hearRest mw_11_4 dX5_answer_128 rfl n_X2_hearRest rfl (by decide) ⟨rfl, rfl, Nat.le_of_ble_eq_true rfl, Nat.le_of_ble_eq_true rfl⟩ (Nat.le_of_ble_eq_true rfl) (z_pm [1, 2, 0, 3, 4, 5] 6 rfl (by decide) rfl) ?_
    intro ⟨r20, u21⟩ hw
    try dsimp only at hw
    refine z_bs [(wE cI (gE gt (ixE p2)) u21), (wN cI (gt 22) (gt 23) (tLog t)), (wSo gt), (wN cI (gt 24) (gt 25) (tText t)), (wN cI (gt 26) (gt 27) (tWrs t)), (wR cI gt t (ixE p2))] [.int r20] rfl rfl ?_
    refine z_perm C [(wSo gt), (wE cI (gE gt (ixE p2)) u21), (wN cI (gt 22) (gt 23) (tLog t)), (wN cI (gt 24) (gt 25) (tText t)), (wN cI (gt 26) (gt 27) (tWrs t)), (wR cI gt t (ixE p2))] (z_pm [2, 0, 1, 3, 4, 5] 6 rfl (by decide) rfl) ?_
    refine z_shut 0 [(wSo gt), (wE cI (gE gt (ixE p2)) u21), (wN cI (gt 22) (gt 23) (tLog t)), (wN cI (gt 24) (gt 25) (tText t)), (wN cI (gt 26) (gt 27) (tWrs t)), (wR cI gt t (ixE p2))] [(wF cI gt t (ixE p2) u21)] rfl rfl rfl ?_
    refine z_unfocus 0 (ixE_lt _) (tSetEds t (va_up (tEds t) (ixE p2) u21)) [(wS cI gt (tSetEds t (va_up (tEds t) (ixE p2) u21)))] rfl rfl rfl ?_
    exact z_iret C rfl (r20, (tSetEds t (va_up (tEds t) (ixE p2) u21))) rfl hw rfl dX5_answer_131
  · replace hw := hw.2 c1
    refine z_iconst C dX5_answer_7 (-1) (by decide +kernel) ?_
    exact z_iret C rfl ((-1), t) rfl hw rfl dX5_answer_8
def rmX5_nothingsInLog : Room := { frames := 1, cells := 0, slots := 0, locals := 21 }
def lb_X5_nothingsInLog_4 (t : zT)   (Q : Int32 → Prop)  (K4 : (Int32) → (Int32) → Prop) (v1 : Int32) (v2 : Int32) : Prop := (((f_X4_size (tLog t)) ≤ v2 → (Q v1)) ∧ (¬ (f_X4_size (tLog t)) ≤ v2 → (wp_X4_at (tLog t) v2 (fun r2 => ((¬ (f_X0_kind r2) = 0 → (∀ x4 : Int32, x4 = (v1 + 0) → (K4 x4 (v2 + 1)))) ∧ ((f_X0_kind r2) = 0 → (∀ x5 : Int32, x5 = (v1 + 1) → (K4 x5 (v2 + 1)))))))))
set_option maxHeartbeats 4000000 in
set_option maxRecDepth 100000 in
theorem wk_X5_nothingsInLog_4 {p : Program} {l : Launch} {e : Env} {s : State} {m : MethodId} {args : Array Value} {below : List Frame} {meth : Method} {c : Code} {D : va_G} {cI : ClassId} {A : Nat → Prop} (C : ZC p s m args meth c RX5 cX5_nothingsInLog 3 (some .int) D cI A) (gt : Nat → Nat) (t : zT)   (v1 : Int32) (v2 : Int32) (Q : Int32 → Prop)  (hw : zLoop2 (lb_X5_nothingsInLog_4 t   Q ) v1 v2) : ZZ p l e rmX5_nothingsInLog s m args below meth c D A 3 0 0 (MQ below (ZQ D A (fun u : Int32 => some (.int u)) (fun u : Int32 => [(wS cI gt t)]) (fun u : Int32 => Q u)) args s rmX5_nothingsInLog.cells rmX5_nothingsInLog.slots A) [(wS cI gt t)] 4 [some (.ref (gt 0)), some (.int v1), some (.int v2)] [] := by
  refine zLoop2_w (fun (v1 : Int32) (v2 : Int32) => ZZ p l e rmX5_nothingsInLog s m args below meth c D A 3 0 0 (MQ below (ZQ D A (fun u : Int32 => some (.int u)) (fun u : Int32 => [(wS cI gt t)]) (fun u : Int32 => Q u)) args s rmX5_nothingsInLog.cells rmX5_nothingsInLog.slots A) [(wS cI gt t)] 4 [some (.ref (gt 0)), some (.int v1), some (.int v2)] []) ?_ _ _ hw
  clear hw
  intro K4 hK4 v1 v2 hw
  unfold lb_X5_nothingsInLog_4 at hw
  refine z_iload_n C dX5_nothingsInLog_4 rfl ?_
  refine z_aload_n C dX5_nothingsInLog_5 rfl ?_
  refine z_get C inlX5 rfl 3 (by decide) mw_2_16 dX5_nothingsInLog_6 0 0 rfl rfl rfl ?_
  refine z_open 0 [(wSo gt), (wE cI (gE gt 0) (tEd t 0)), (wE cI (gE gt 1) (tEd t 1)), (wE cI (gE gt 2) (tEd t 2)), (wN cI (gt 22) (gt 23) (tLog t)), (wN cI (gt 24) (gt 25) (tText t)), (wN cI (gt 26) (gt 27) (tWrs t))] [(wSo gt), (wE cI (gE gt 0) (tEd t 0)), (wE cI (gE gt 1) (tEd t 1)), (wE cI (gE gt 2) (tEd t 2)), (wN cI (gt 22) (gt 23) (tLog t)), (wN cI (gt 24) (gt 25) (tText t)), (wN cI (gt 26) (gt 27) (tWrs t))] rfl rfl rfl ?_
  refine z_callFV C [(wN cI (gt 22) (gt 23) (tLog t))] [(wSo gt), (wE cI (gE gt 0) (tEd t 0)), (wE cI (gE gt 1) (tEd t 1)), (wE cI (gE gt 2) (tEd t 2)), (wN cI (gt 24) (gt 25) (tText t)), (wN cI (gt 26) (gt 27) (tWrs t))] rfl rfl (met_X4_size l D cI (gt 22) (gt 23) (tLog t)) y_X4_size mw_9_22 dX5_nothingsInLog_9 rfl n_X4_size rfl (by decide) ⟨rfl, rfl, Nat.le_of_ble_eq_true rfl, Nat.le_of_ble_eq_true rfl⟩ (Nat.le_of_ble_eq_true rfl) (z_pm [4, 0, 1, 2, 3, 5, 6] 7 rfl (by decide) rfl) ?_
  refine z_shut 0 [(wSo gt), (wE cI (gE gt 0) (tEd t 0)), (wE cI (gE gt 1) (tEd t 1)), (wE cI (gE gt 2) (tEd t 2)), (wN cI (gt 22) (gt 23) (tLog t)), (wN cI (gt 24) (gt 25) (tText t)), (wN cI (gt 26) (gt 27) (tWrs t))] [(wS cI gt t)] rfl rfl rfl ?_
  refine z_icmp_ge C dX5_nothingsInLog_12 43 (by decide) (fun c1 => ?_) (fun c1 => ?_)
  · replace hw := hw.1 c1
    refine z_iload_n C dX5_nothingsInLog_43 rfl ?_
    exact z_iret C rfl (v1) rfl hw rfl dX5_nothingsInLog_44
  · replace hw := hw.2 c1
    refine z_iload_n C dX5_nothingsInLog_15 rfl ?_
    refine z_aload_n C dX5_nothingsInLog_16 rfl ?_
    refine z_get C inlX5 rfl 3 (by decide) mw_2_16 dX5_nothingsInLog_17 0 0 rfl rfl rfl ?_
    refine z_iload_n C dX5_nothingsInLog_20 rfl ?_
    refine z_open 0 [(wSo gt), (wE cI (gE gt 0) (tEd t 0)), (wE cI (gE gt 1) (tEd t 1)), (wE cI (gE gt 2) (tEd t 2)), (wN cI (gt 22) (gt 23) (tLog t)), (wN cI (gt 24) (gt 25) (tText t)), (wN cI (gt 26) (gt 27) (tWrs t))] [(wSo gt), (wE cI (gE gt 0) (tEd t 0)), (wE cI (gE gt 1) (tEd t 1)), (wE cI (gE gt 2) (tEd t 2)), (wN cI (gt 22) (gt 23) (tLog t)), (wN cI (gt 24) (gt 25) (tText t)), (wN cI (gt 26) (gt 27) (tWrs t))] rfl rfl rfl ?_
    refine z_callV0 C [(wN cI (gt 22) (gt 23) (tLog t))] [(wSo gt), (wE cI (gE gt 0) (tEd t 0)), (wE cI (gE gt 1) (tEd t 1)), (wE cI (gE gt 2) (tEd t 2)), (wN cI (gt 24) (gt 25) (tText t)), (wN cI (gt 26) (gt 27) (tWrs t))] rfl rfl (met_X4_at l D cI (gt 22) (gt 23) (tLog t) v2 _ hw) y_X4_at mw_21_23 dX5_nothingsInLog_21 rfl n_X4_at rfl (by decide) ⟨rfl, rfl, Nat.le_of_ble_eq_true rfl, Nat.le_of_ble_eq_true rfl⟩ (Nat.le_of_ble_eq_true rfl) (z_pm [4, 0, 1, 2, 3, 5, 6] 7 rfl (by decide) rfl) ?_
    intro r2 hw
    try dsimp only at hw
    refine z_bs [(wN cI (gt 22) (gt 23) (tLog t)), (wSo gt), (wE cI (gE gt 0) (tEd t 0)), (wE cI (gE gt 1) (tEd t 1)), (wE cI (gE gt 2) (tEd t 2)), (wN cI (gt 24) (gt 25) (tText t)), (wN cI (gt 26) (gt 27) (tWrs t))] [.int r2, .int v1] rfl rfl ?_
    refine z_perm C [(wSo gt), (wE cI (gE gt 0) (tEd t 0)), (wE cI (gE gt 1) (tEd t 1)), (wE cI (gE gt 2) (tEd t 2)), (wN cI (gt 22) (gt 23) (tLog t)), (wN cI (gt 24) (gt 25) (tText t)), (wN cI (gt 26) (gt 27) (tWrs t))] (z_pm [1, 2, 3, 4, 0, 5, 6] 7 rfl (by decide) rfl) ?_
    refine z_shut 0 [(wSo gt), (wE cI (gE gt 0) (tEd t 0)), (wE cI (gE gt 1) (tEd t 1)), (wE cI (gE gt 2) (tEd t 2)), (wN cI (gt 22) (gt 23) (tLog t)), (wN cI (gt 24) (gt 25) (tText t)), (wN cI (gt 26) (gt 27) (tWrs t))] [(wS cI gt t)] rfl rfl rfl ?_
    refine z_callFS C [] [(wS cI gt t)] (met_X0_kind l D cI r2) y_X0_kind mw_10_8 dX5_nothingsInLog_24 rfl n_X0_kind rfl (by decide) ⟨rfl, rfl, Nat.le_of_ble_eq_true rfl, Nat.le_of_ble_eq_true rfl⟩ (Nat.le_of_ble_eq_true rfl) (z_pm [0] 1 rfl (by decide) rfl) ?_
    refine z_if_ne C dX5_nothingsInLog_27 34 (by decide) (fun c3 => ?_) (fun c3 => ?_)
    · replace hw := hw.1 c3
      refine z_iconst C dX5_nothingsInLog_34 0 (by decide +kernel) ?_
      refine z_iadd C dX5_nothingsInLog_35 ?_
      refine z_name C (fun x4 ex4 => ?_)
      replace hw := hw x4 ex4
      refine z_istore_n C dX5_nothingsInLog_36 [some (.ref (gt 0)), some (.int x4), some (.int v2)] (by decide) rfl ?_
      refine z_iinc C dX5_nothingsInLog_37 rfl (v2 + 1) (by rfl) [some (.ref (gt 0)), some (.int x4), some (.int (v2 + 1))] (by decide) rfl ?_
      refine z_goto C dX5_nothingsInLog_40 4 (by decide) ?_
      exact hK4 _ _ hw
    · replace hw := hw.2 c3
      refine z_iconst C dX5_nothingsInLog_30 1 (by decide +kernel) ?_
      refine z_goto C dX5_nothingsInLog_31 35 (by decide) ?_
      refine z_iadd C dX5_nothingsInLog_35 ?_
      refine z_name C (fun x5 ex5 => ?_)
      replace hw := hw x5 ex5
      refine z_istore_n C dX5_nothingsInLog_36 [some (.ref (gt 0)), some (.int x5), some (.int v2)] (by decide) rfl ?_
      refine z_iinc C dX5_nothingsInLog_37 rfl (v2 + 1) (by rfl) [some (.ref (gt 0)), some (.int x5), some (.int (v2 + 1))] (by decide) rfl ?_
      refine z_goto C dX5_nothingsInLog_40 4 (by decide) ?_
      exact hK4 _ _ hw
def wp_X5_nothingsInLog (t : zT)  (Q : Int32 → Prop) : Prop := (zLoop2 (lb_X5_nothingsInLog_4 t   Q ) 0 0)
set_option maxHeartbeats 4000000 in
set_option maxRecDepth 100000 in
theorem met_X5_nothingsInLog (l : Launch) (D : va_G) (cI : ClassId) (gt : Nat → Nat) (t : zT)  (Q : Int32 → Prop) (hw : wp_X5_nothingsInLog t Q) : ZM l D cI yX5_nothingsInLog cX5_nothingsInLog 3 (some .int) rmX5_nothingsInLog [.ref (gt 0)] [(wS cI gt t)] (fun u : Int32 => some (.int u)) (fun u : Int32 => [(wS cI gt t)]) (fun u : Int32 => Q u) := by
  refine z_body [some (.ref (gt 0)), none, none] (by decide +kernel) rfl (Nat.le_of_ble_eq_true rfl) rfl ?_
  intro p e s m args below meth c A C hin
  unfold wp_X5_nothingsInLog at hw
  refine z_iconst C dX5_nothingsInLog_0 0 (by decide +kernel) ?_
  refine z_istore_n C dX5_nothingsInLog_1 [some (.ref (gt 0)), some (.int 0), none] (by decide) rfl ?_
  refine z_iconst C dX5_nothingsInLog_2 0 (by decide +kernel) ?_
  refine z_istore_n C dX5_nothingsInLog_3 [some (.ref (gt 0)), some (.int 0), some (.int 0)] (by decide) rfl ?_
  exact wk_X5_nothingsInLog_4 C gt t   0 0 _  hw
def rmX5_waitingOfAll : Room := { frames := 1, cells := 0, slots := 0, locals := 20 }
def f_X5_waitingOfAll (t : zT)  : Int32 := (((f_X4_size (eWait (tEd t 0))) + (f_X4_size (eWait (tEd t 1)))) + (f_X4_size (eWait (tEd t 2))))
set_option maxHeartbeats 4000000 in
set_option maxRecDepth 100000 in
theorem met_X5_waitingOfAll (l : Launch) (D : va_G) (cI : ClassId) (gt : Nat → Nat) (t : zT)  : ZM l D cI yX5_waitingOfAll cX5_waitingOfAll 1 (some .int) rmX5_waitingOfAll [.ref (gt 0)] [(wS cI gt t)] (fun _ : Unit => some (.int (f_X5_waitingOfAll t))) (fun _ : Unit => [(wS cI gt t)]) (fun _ : Unit => True) := by
  refine z_body [some (.ref (gt 0))] (by decide +kernel) rfl (Nat.le_of_ble_eq_true rfl) rfl ?_
  intro p e s m args below meth c A C hin
  refine z_aload_n C dX5_waitingOfAll_0 rfl ?_
  refine z_get C inlX5 rfl 0 (by decide) mw_2_10 dX5_waitingOfAll_1 0 0 rfl rfl rfl ?_
  refine z_getN C inlX2 rfl 2 (by decide) (List.mem_of_getElem? (i := 17) rfl) dX5_waitingOfAll_4 0 1 rfl rfl rfl ?_
  refine z_open 0 [(wSo gt), (wE cI (gE gt 0) (tEd t 0)), (wE cI (gE gt 1) (tEd t 1)), (wE cI (gE gt 2) (tEd t 2)), (wN cI (gt 22) (gt 23) (tLog t)), (wN cI (gt 24) (gt 25) (tText t)), (wN cI (gt 26) (gt 27) (tWrs t))] [(wSo gt), (wE cI (gE gt 0) (tEd t 0)), (wE cI (gE gt 1) (tEd t 1)), (wE cI (gE gt 2) (tEd t 2)), (wN cI (gt 22) (gt 23) (tLog t)), (wN cI (gt 24) (gt 25) (tText t)), (wN cI (gt 26) (gt 27) (tWrs t))] rfl rfl rfl ?_
  refine z_open 1 [(wEo (gE gt 0) (tEd t 0)), (wN cI (gt 2) (gt 3) (eCopy (tEd t 0))), (wN cI (gt 4) (gt 5) (eWait (tEd t 0))), (wN cI (gt 6) (gt 7) (eBacks (tEd t 0)))] [(wSo gt), (wEo (gE gt 0) (tEd t 0)), (wN cI (gt 2) (gt 3) (eCopy (tEd t 0))), (wN cI (gt 4) (gt 5) (eWait (tEd t 0))), (wN cI (gt 6) (gt 7) (eBacks (tEd t 0))), (wE cI (gE gt 1) (tEd t 1)), (wE cI (gE gt 2) (tEd t 2)), (wN cI (gt 22) (gt 23) (tLog t)), (wN cI (gt 24) (gt 25) (tText t)), (wN cI (gt 26) (gt 27) (tWrs t))] rfl rfl rfl ?_
  refine z_callFV C [(wN cI (gt 4) (gt 5) (eWait (tEd t 0)))] [(wSo gt), (wEo (gE gt 0) (tEd t 0)), (wN cI (gt 2) (gt 3) (eCopy (tEd t 0))), (wN cI (gt 6) (gt 7) (eBacks (tEd t 0))), (wE cI (gE gt 1) (tEd t 1)), (wE cI (gE gt 2) (tEd t 2)), (wN cI (gt 22) (gt 23) (tLog t)), (wN cI (gt 24) (gt 25) (tText t)), (wN cI (gt 26) (gt 27) (tWrs t))] rfl rfl (met_X4_size l D cI (gt 4) (gt 5) (eWait (tEd t 0))) y_X4_size mw_9_22 dX5_waitingOfAll_7 rfl n_X4_size rfl (by decide) ⟨rfl, rfl, Nat.le_of_ble_eq_true rfl, Nat.le_of_ble_eq_true rfl⟩ (Nat.le_of_ble_eq_true rfl) (z_pm [3, 0, 1, 2, 4, 5, 6, 7, 8, 9] 10 rfl (by decide) rfl) ?_
  refine z_shut 1 [(wEo (gE gt 0) (tEd t 0)), (wN cI (gt 2) (gt 3) (eCopy (tEd t 0))), (wN cI (gt 4) (gt 5) (eWait (tEd t 0))), (wN cI (gt 6) (gt 7) (eBacks (tEd t 0)))] [(wSo gt), (wE cI (gE gt 0) (tEd t 0)), (wE cI (gE gt 1) (tEd t 1)), (wE cI (gE gt 2) (tEd t 2)), (wN cI (gt 22) (gt 23) (tLog t)), (wN cI (gt 24) (gt 25) (tText t)), (wN cI (gt 26) (gt 27) (tWrs t))] rfl rfl rfl ?_
  refine z_shut 0 [(wSo gt), (wE cI (gE gt 0) (tEd t 0)), (wE cI (gE gt 1) (tEd t 1)), (wE cI (gE gt 2) (tEd t 2)), (wN cI (gt 22) (gt 23) (tLog t)), (wN cI (gt 24) (gt 25) (tText t)), (wN cI (gt 26) (gt 27) (tWrs t))] [(wS cI gt t)] rfl rfl rfl ?_
  refine z_aload_n C dX5_waitingOfAll_10 rfl ?_
  refine z_get C inlX5 rfl 1 (by decide) mw_2_11 dX5_waitingOfAll_11 0 0 rfl rfl rfl ?_
  refine z_getN C inlX2 rfl 2 (by decide) (List.mem_of_getElem? (i := 17) rfl) dX5_waitingOfAll_14 0 8 rfl rfl rfl ?_
  refine z_open 0 [(wSo gt), (wE cI (gE gt 0) (tEd t 0)), (wE cI (gE gt 1) (tEd t 1)), (wE cI (gE gt 2) (tEd t 2)), (wN cI (gt 22) (gt 23) (tLog t)), (wN cI (gt 24) (gt 25) (tText t)), (wN cI (gt 26) (gt 27) (tWrs t))] [(wSo gt), (wE cI (gE gt 0) (tEd t 0)), (wE cI (gE gt 1) (tEd t 1)), (wE cI (gE gt 2) (tEd t 2)), (wN cI (gt 22) (gt 23) (tLog t)), (wN cI (gt 24) (gt 25) (tText t)), (wN cI (gt 26) (gt 27) (tWrs t))] rfl rfl rfl ?_
  refine z_open 2 [(wEo (gE gt 1) (tEd t 1)), (wN cI (gt 9) (gt 10) (eCopy (tEd t 1))), (wN cI (gt 11) (gt 12) (eWait (tEd t 1))), (wN cI (gt 13) (gt 14) (eBacks (tEd t 1)))] [(wSo gt), (wE cI (gE gt 0) (tEd t 0)), (wEo (gE gt 1) (tEd t 1)), (wN cI (gt 9) (gt 10) (eCopy (tEd t 1))), (wN cI (gt 11) (gt 12) (eWait (tEd t 1))), (wN cI (gt 13) (gt 14) (eBacks (tEd t 1))), (wE cI (gE gt 2) (tEd t 2)), (wN cI (gt 22) (gt 23) (tLog t)), (wN cI (gt 24) (gt 25) (tText t)), (wN cI (gt 26) (gt 27) (tWrs t))] rfl rfl rfl ?_
  refine z_callFV C [(wN cI (gt 11) (gt 12) (eWait (tEd t 1)))] [(wSo gt), (wE cI (gE gt 0) (tEd t 0)), (wEo (gE gt 1) (tEd t 1)), (wN cI (gt 9) (gt 10) (eCopy (tEd t 1))), (wN cI (gt 13) (gt 14) (eBacks (tEd t 1))), (wE cI (gE gt 2) (tEd t 2)), (wN cI (gt 22) (gt 23) (tLog t)), (wN cI (gt 24) (gt 25) (tText t)), (wN cI (gt 26) (gt 27) (tWrs t))] rfl rfl (met_X4_size l D cI (gt 11) (gt 12) (eWait (tEd t 1))) y_X4_size mw_9_22 dX5_waitingOfAll_17 rfl n_X4_size rfl (by decide) ⟨rfl, rfl, Nat.le_of_ble_eq_true rfl, Nat.le_of_ble_eq_true rfl⟩ (Nat.le_of_ble_eq_true rfl) (z_pm [4, 0, 1, 2, 3, 5, 6, 7, 8, 9] 10 rfl (by decide) rfl) ?_
  refine z_shut 2 [(wEo (gE gt 1) (tEd t 1)), (wN cI (gt 9) (gt 10) (eCopy (tEd t 1))), (wN cI (gt 11) (gt 12) (eWait (tEd t 1))), (wN cI (gt 13) (gt 14) (eBacks (tEd t 1)))] [(wSo gt), (wE cI (gE gt 0) (tEd t 0)), (wE cI (gE gt 1) (tEd t 1)), (wE cI (gE gt 2) (tEd t 2)), (wN cI (gt 22) (gt 23) (tLog t)), (wN cI (gt 24) (gt 25) (tText t)), (wN cI (gt 26) (gt 27) (tWrs t))] rfl rfl rfl ?_
  refine z_shut 0 [(wSo gt), (wE cI (gE gt 0) (tEd t 0)), (wE cI (gE gt 1) (tEd t 1)), (wE cI (gE gt 2) (tEd t 2)), (wN cI (gt 22) (gt 23) (tLog t)), (wN cI (gt 24) (gt 25) (tText t)), (wN cI (gt 26) (gt 27) (tWrs t))] [(wS cI gt t)] rfl rfl rfl ?_
  refine z_iadd C dX5_waitingOfAll_20 ?_
  refine z_aload_n C dX5_waitingOfAll_21 rfl ?_
  refine z_get C inlX5 rfl 2 (by decide) mw_2_12 dX5_waitingOfAll_22 0 0 rfl rfl rfl ?_
  refine z_getN C inlX2 rfl 2 (by decide) (List.mem_of_getElem? (i := 17) rfl) dX5_waitingOfAll_25 0 15 rfl rfl rfl ?_
  refine z_open 0 [(wSo gt), (wE cI (gE gt 0) (tEd t 0)), (wE cI (gE gt 1) (tEd t 1)), (wE cI (gE gt 2) (tEd t 2)), (wN cI (gt 22) (gt 23) (tLog t)), (wN cI (gt 24) (gt 25) (tText t)), (wN cI (gt 26) (gt 27) (tWrs t))] [(wSo gt), (wE cI (gE gt 0) (tEd t 0)), (wE cI (gE gt 1) (tEd t 1)), (wE cI (gE gt 2) (tEd t 2)), (wN cI (gt 22) (gt 23) (tLog t)), (wN cI (gt 24) (gt 25) (tText t)), (wN cI (gt 26) (gt 27) (tWrs t))] rfl rfl rfl ?_
  refine z_open 3 [(wEo (gE gt 2) (tEd t 2)), (wN cI (gt 16) (gt 17) (eCopy (tEd t 2))), (wN cI (gt 18) (gt 19) (eWait (tEd t 2))), (wN cI (gt 20) (gt 21) (eBacks (tEd t 2)))] [(wSo gt), (wE cI (gE gt 0) (tEd t 0)), (wE cI (gE gt 1) (tEd t 1)), (wEo (gE gt 2) (tEd t 2)), (wN cI (gt 16) (gt 17) (eCopy (tEd t 2))), (wN cI (gt 18) (gt 19) (eWait (tEd t 2))), (wN cI (gt 20) (gt 21) (eBacks (tEd t 2))), (wN cI (gt 22) (gt 23) (tLog t)), (wN cI (gt 24) (gt 25) (tText t)), (wN cI (gt 26) (gt 27) (tWrs t))] rfl rfl rfl ?_
  refine z_callFV C [(wN cI (gt 18) (gt 19) (eWait (tEd t 2)))] [(wSo gt), (wE cI (gE gt 0) (tEd t 0)), (wE cI (gE gt 1) (tEd t 1)), (wEo (gE gt 2) (tEd t 2)), (wN cI (gt 16) (gt 17) (eCopy (tEd t 2))), (wN cI (gt 20) (gt 21) (eBacks (tEd t 2))), (wN cI (gt 22) (gt 23) (tLog t)), (wN cI (gt 24) (gt 25) (tText t)), (wN cI (gt 26) (gt 27) (tWrs t))] rfl rfl (met_X4_size l D cI (gt 18) (gt 19) (eWait (tEd t 2))) y_X4_size mw_9_22 dX5_waitingOfAll_28 rfl n_X4_size rfl (by decide) ⟨rfl, rfl, Nat.le_of_ble_eq_true rfl, Nat.le_of_ble_eq_true rfl⟩ (Nat.le_of_ble_eq_true rfl) (z_pm [5, 0, 1, 2, 3, 4, 6, 7, 8, 9] 10 rfl (by decide) rfl) ?_
  refine z_shut 3 [(wEo (gE gt 2) (tEd t 2)), (wN cI (gt 16) (gt 17) (eCopy (tEd t 2))), (wN cI (gt 18) (gt 19) (eWait (tEd t 2))), (wN cI (gt 20) (gt 21) (eBacks (tEd t 2)))] [(wSo gt), (wE cI (gE gt 0) (tEd t 0)), (wE cI (gE gt 1) (tEd t 1)), (wE cI (gE gt 2) (tEd t 2)), (wN cI (gt 22) (gt 23) (tLog t)), (wN cI (gt 24) (gt 25) (tText t)), (wN cI (gt 26) (gt 27) (tWrs t))] rfl rfl rfl ?_
  refine z_shut 0 [(wSo gt), (wE cI (gE gt 0) (tEd t 0)), (wE cI (gE gt 1) (tEd t 1)), (wE cI (gE gt 2) (tEd t 2)), (wN cI (gt 22) (gt 23) (tLog t)), (wN cI (gt 24) (gt 25) (tText t)), (wN cI (gt 26) (gt 27) (tWrs t))] [(wS cI gt t)] rfl rfl rfl ?_
  refine z_iadd C dX5_waitingOfAll_31 ?_
  exact z_iret C rfl () (by rw [f_X5_waitingOfAll]) trivial rfl dX5_waitingOfAll_32
def rmX5_settledEditors : Room := { frames := 2, cells := 0, slots := 0, locals := 41 }
def lb_X5_settledEditors_4 (t : zT)   (Q : Int32 → Prop)  (K4 : (Int32) → (Int32) → Prop) (v1 : Int32) (v2 : Int32) : Prop := ((3 ≤ v2 → (Q v1)) ∧ (¬ 3 ≤ v2 → (((f_X2_isSettled (tEd t (ixE v2)) (tLog t)) = 0 → (∀ x3 : Int32, x3 = (v1 + 0) → (K4 x3 (v2 + 1)))) ∧ (¬ (f_X2_isSettled (tEd t (ixE v2)) (tLog t)) = 0 → (∀ x4 : Int32, x4 = (v1 + 1) → (K4 x4 (v2 + 1)))))))
set_option maxHeartbeats 4000000 in
set_option maxRecDepth 100000 in
theorem wk_X5_settledEditors_4 {p : Program} {l : Launch} {e : Env} {s : State} {m : MethodId} {args : Array Value} {below : List Frame} {meth : Method} {c : Code} {D : va_G} {cI : ClassId} {A : Nat → Prop} (C : ZC p s m args meth c RX5 cX5_settledEditors 3 (some .int) D cI A) (gt : Nat → Nat) (t : zT)   (v1 : Int32) (v2 : Int32) (Q : Int32 → Prop)  (hw : zLoop2 (lb_X5_settledEditors_4 t   Q ) v1 v2) : ZZ p l e rmX5_settledEditors s m args below meth c D A 3 0 0 (MQ below (ZQ D A (fun u : Int32 => some (.int u)) (fun u : Int32 => [(wS cI gt t)]) (fun u : Int32 => Q u)) args s rmX5_settledEditors.cells rmX5_settledEditors.slots A) [(wS cI gt t)] 4 [some (.ref (gt 0)), some (.int v1), some (.int v2)] [] := by
  refine zLoop2_w (fun (v1 : Int32) (v2 : Int32) => ZZ p l e rmX5_settledEditors s m args below meth c D A 3 0 0 (MQ below (ZQ D A (fun u : Int32 => some (.int u)) (fun u : Int32 => [(wS cI gt t)]) (fun u : Int32 => Q u)) args s rmX5_settledEditors.cells rmX5_settledEditors.slots A) [(wS cI gt t)] 4 [some (.ref (gt 0)), some (.int v1), some (.int v2)] []) ?_ _ _ hw
  clear hw
  intro K4 hK4 v1 v2 hw
  unfold lb_X5_settledEditors_4 at hw
  refine z_iload_n C dX5_settledEditors_4 rfl ?_
  refine z_iconst C dX5_settledEditors_5 3 (by decide +kernel) ?_
  refine z_icmp_ge C dX5_settledEditors_6 38 (by decide) (fun c1 => ?_) (fun c1 => ?_)
  · replace hw := hw.1 c1
    refine z_iload_n C dX5_settledEditors_38 rfl ?_
    exact z_iret C rfl (v1) rfl hw rfl dX5_settledEditors_39
  · replace hw := hw.2 c1
    refine z_iload_n C dX5_settledEditors_9 rfl ?_
    refine z_aload_n C dX5_settledEditors_10 rfl ?_
    refine z_iload_n C dX5_settledEditors_11 rfl ?_
    refine z_callFV C [(wS cI gt t)] [] rfl rfl (met_X5_editor l D cI gt t v2) y_X5_editor mw_6_13 dX5_settledEditors_12 rfl n_X5_editor rfl (by decide) ⟨rfl, rfl, Nat.le_of_ble_eq_true rfl, Nat.le_of_ble_eq_true rfl⟩ (Nat.le_of_ble_eq_true rfl) (z_pm [0] 1 rfl (by decide) rfl) ?_
    refine z_aload_n C dX5_settledEditors_15 rfl ?_
    refine z_get C inlX5 rfl 3 (by decide) mw_2_16 dX5_settledEditors_16 0 0 rfl rfl rfl ?_
    refine z_focus 0 (ixE_lt _) [(wF cI gt t (ixE v2) (tEd t (ixE v2)))] rfl rfl ?_
    refine z_open 0 [(wSo gt), (wE cI (gE gt (ixE v2)) (tEd t (ixE v2))), (wN cI (gt 22) (gt 23) (tLog t)), (wN cI (gt 24) (gt 25) (tText t)), (wN cI (gt 26) (gt 27) (tWrs t)), (wR cI gt t (ixE v2))] [(wSo gt), (wE cI (gE gt (ixE v2)) (tEd t (ixE v2))), (wN cI (gt 22) (gt 23) (tLog t)), (wN cI (gt 24) (gt 25) (tText t)), (wN cI (gt 26) (gt 27) (tWrs t)), (wR cI gt t (ixE v2))] rfl rfl rfl ?_
    refine z_callFV C [(wE cI (gE gt (ixE v2)) (tEd t (ixE v2))), (wN cI (gt 22) (gt 23) (tLog t))] [(wSo gt), (wN cI (gt 24) (gt 25) (tText t)), (wN cI (gt 26) (gt 27) (tWrs t)), (wR cI gt t (ixE v2))] rfl rfl (met_X2_isSettled l D cI (gE gt (ixE v2)) (gt 22) (gt 23) (tEd t (ixE v2)) (tLog t)) y_X2_isSettled mw_22_8 dX5_settledEditors_19 rfl n_X2_isSettled rfl (by decide) ⟨rfl, rfl, Nat.le_of_ble_eq_true rfl, Nat.le_of_ble_eq_true rfl⟩ (Nat.le_of_ble_eq_true rfl) (z_pm [1, 2, 0, 3, 4, 5] 6 rfl (by decide) rfl) ?_
    refine z_shut 0 [(wSo gt), (wE cI (gE gt (ixE v2)) (tEd t (ixE v2))), (wN cI (gt 22) (gt 23) (tLog t)), (wN cI (gt 24) (gt 25) (tText t)), (wN cI (gt 26) (gt 27) (tWrs t)), (wR cI gt t (ixE v2))] [(wF cI gt t (ixE v2) (tEd t (ixE v2)))] rfl rfl rfl ?_
    refine z_if_eq C dX5_settledEditors_22 29 (by decide) (fun c2 => ?_) (fun c2 => ?_)
    · replace hw := hw.1 c2
      refine z_iconst C dX5_settledEditors_29 0 (by decide +kernel) ?_
      refine z_iadd C dX5_settledEditors_30 ?_
      refine z_name C (fun x3 ex3 => ?_)
      replace hw := hw x3 ex3
      refine z_istore_n C dX5_settledEditors_31 [some (.ref (gt 0)), some (.int x3), some (.int v2)] (by decide) rfl ?_
      refine z_iinc C dX5_settledEditors_32 rfl (v2 + 1) (by rfl) [some (.ref (gt 0)), some (.int x3), some (.int (v2 + 1))] (by decide) rfl ?_
      refine z_goto C dX5_settledEditors_35 4 (by decide) ?_
      refine z_unfocus 0 (ixE_lt _) t [(wS cI gt t)] (tSetEd_same _ _) rfl rfl ?_
      exact hK4 _ _ hw
    · replace hw := hw.2 c2
      refine z_iconst C dX5_settledEditors_25 1 (by decide +kernel) ?_
      refine z_goto C dX5_settledEditors_26 30 (by decide) ?_
      refine z_iadd C dX5_settledEditors_30 ?_
      refine z_name C (fun x4 ex4 => ?_)
      replace hw := hw x4 ex4
      refine z_istore_n C dX5_settledEditors_31 [some (.ref (gt 0)), some (.int x4), some (.int v2)] (by decide) rfl ?_
      refine z_iinc C dX5_settledEditors_32 rfl (v2 + 1) (by rfl) [some (.ref (gt 0)), some (.int x4), some (.int (v2 + 1))] (by decide) rfl ?_
      refine z_goto C dX5_settledEditors_35 4 (by decide) ?_
      refine z_unfocus 0 (ixE_lt _) t [(wS cI gt t)] (tSetEd_same _ _) rfl rfl ?_
      exact hK4 _ _ hw
def wp_X5_settledEditors (t : zT)  (Q : Int32 → Prop) : Prop := (zLoop2 (lb_X5_settledEditors_4 t   Q ) 0 0)
set_option maxHeartbeats 4000000 in
set_option maxRecDepth 100000 in
theorem met_X5_settledEditors (l : Launch) (D : va_G) (cI : ClassId) (gt : Nat → Nat) (t : zT)  (Q : Int32 → Prop) (hw : wp_X5_settledEditors t Q) : ZM l D cI yX5_settledEditors cX5_settledEditors 3 (some .int) rmX5_settledEditors [.ref (gt 0)] [(wS cI gt t)] (fun u : Int32 => some (.int u)) (fun u : Int32 => [(wS cI gt t)]) (fun u : Int32 => Q u) := by
  refine z_body [some (.ref (gt 0)), none, none] (by decide +kernel) rfl (Nat.le_of_ble_eq_true rfl) rfl ?_
  intro p e s m args below meth c A C hin
  unfold wp_X5_settledEditors at hw
  refine z_iconst C dX5_settledEditors_0 0 (by decide +kernel) ?_
  refine z_istore_n C dX5_settledEditors_1 [some (.ref (gt 0)), some (.int 0), none] (by decide) rfl ?_
  refine z_iconst C dX5_settledEditors_2 0 (by decide +kernel) ?_
  refine z_istore_n C dX5_settledEditors_3 [some (.ref (gt 0)), some (.int 0), some (.int 0)] (by decide) rfl ?_
  exact wk_X5_settledEditors_4 C gt t   0 0 _  hw
def rmX5_isOneText : Room := { frames := 2, cells := 0, slots := 0, locals := 43 }
def wp_X5_isOneText (t : zT)  (Q : Int32 → Prop) : Prop := (wp_X4_isSameAs (eCopy (tEd t 0)) (tText t) (fun r1 => ((r1 = 0 → (Q 0)) ∧ (¬ r1 = 0 → (wp_X4_isSameAs (eCopy (tEd t 1)) (tText t) (fun r3 => ((r3 = 0 → (Q 0)) ∧ (¬ r3 = 0 → (wp_X4_isSameAs (eCopy (tEd t 2)) (tText t) (fun r5 => ((r5 = 0 → (Q 0)) ∧ (¬ r5 = 0 → (Q 1)))))))))))))
set_option maxHeartbeats 4000000 in
set_option maxRecDepth 100000 in
theorem met_X5_isOneText (l : Launch) (D : va_G) (cI : ClassId) (gt : Nat → Nat) (t : zT)  (Q : Int32 → Prop) (hw : wp_X5_isOneText t Q) : ZM l D cI yX5_isOneText cX5_isOneText 1 (some .boolean) rmX5_isOneText [.ref (gt 0)] [(wS cI gt t)] (fun u : Int32 => some (.int u)) (fun u : Int32 => [(wS cI gt t)]) (fun u : Int32 => Q u) := by
  refine z_body [some (.ref (gt 0))] (by decide +kernel) rfl (Nat.le_of_ble_eq_true rfl) rfl ?_
  intro p e s m args below meth c A C hin
  unfold wp_X5_isOneText at hw
  refine z_aload_n C dX5_isOneText_0 rfl ?_
  refine z_get C inlX5 rfl 0 (by decide) mw_2_10 dX5_isOneText_1 0 0 rfl rfl rfl ?_
  refine z_getN C inlX2 rfl 1 (by decide) (List.mem_of_getElem? (i := 18) rfl) dX5_isOneText_4 0 1 rfl rfl rfl ?_
  refine z_aload_n C dX5_isOneText_7 rfl ?_
  refine z_get C inlX5 rfl 4 (by decide) mw_2_17 dX5_isOneText_8 0 0 rfl rfl rfl ?_
  refine z_open 0 [(wSo gt), (wE cI (gE gt 0) (tEd t 0)), (wE cI (gE gt 1) (tEd t 1)), (wE cI (gE gt 2) (tEd t 2)), (wN cI (gt 22) (gt 23) (tLog t)), (wN cI (gt 24) (gt 25) (tText t)), (wN cI (gt 26) (gt 27) (tWrs t))] [(wSo gt), (wE cI (gE gt 0) (tEd t 0)), (wE cI (gE gt 1) (tEd t 1)), (wE cI (gE gt 2) (tEd t 2)), (wN cI (gt 22) (gt 23) (tLog t)), (wN cI (gt 24) (gt 25) (tText t)), (wN cI (gt 26) (gt 27) (tWrs t))] rfl rfl rfl ?_
  refine z_open 1 [(wEo (gE gt 0) (tEd t 0)), (wN cI (gt 2) (gt 3) (eCopy (tEd t 0))), (wN cI (gt 4) (gt 5) (eWait (tEd t 0))), (wN cI (gt 6) (gt 7) (eBacks (tEd t 0)))] [(wSo gt), (wEo (gE gt 0) (tEd t 0)), (wN cI (gt 2) (gt 3) (eCopy (tEd t 0))), (wN cI (gt 4) (gt 5) (eWait (tEd t 0))), (wN cI (gt 6) (gt 7) (eBacks (tEd t 0))), (wE cI (gE gt 1) (tEd t 1)), (wE cI (gE gt 2) (tEd t 2)), (wN cI (gt 22) (gt 23) (tLog t)), (wN cI (gt 24) (gt 25) (tText t)), (wN cI (gt 26) (gt 27) (tWrs t))] rfl rfl rfl ?_
  refine z_callV0 C [(wN cI (gt 2) (gt 3) (eCopy (tEd t 0))), (wN cI (gt 24) (gt 25) (tText t))] [(wSo gt), (wEo (gE gt 0) (tEd t 0)), (wN cI (gt 4) (gt 5) (eWait (tEd t 0))), (wN cI (gt 6) (gt 7) (eBacks (tEd t 0))), (wE cI (gE gt 1) (tEd t 1)), (wE cI (gE gt 2) (tEd t 2)), (wN cI (gt 22) (gt 23) (tLog t)), (wN cI (gt 26) (gt 27) (tWrs t))] rfl rfl (met_X4_isSameAs l D cI (gt 2) (gt 3) (gt 24) (gt 25) (eCopy (tEd t 0)) (tText t) _ hw) y_X4_isSameAs mw_24_7 dX5_isOneText_11 rfl n_X4_isSameAs rfl (by decide) ⟨rfl, rfl, Nat.le_of_ble_eq_true rfl, Nat.le_of_ble_eq_true rfl⟩ (Nat.le_of_ble_eq_true rfl) (z_pm [2, 8, 0, 1, 3, 4, 5, 6, 7, 9] 10 rfl (by decide) rfl) ?_
  intro r1 hw
  try dsimp only at hw
  refine z_bs [(wN cI (gt 2) (gt 3) (eCopy (tEd t 0))), (wN cI (gt 24) (gt 25) (tText t)), (wSo gt), (wEo (gE gt 0) (tEd t 0)), (wN cI (gt 4) (gt 5) (eWait (tEd t 0))), (wN cI (gt 6) (gt 7) (eBacks (tEd t 0))), (wE cI (gE gt 1) (tEd t 1)), (wE cI (gE gt 2) (tEd t 2)), (wN cI (gt 22) (gt 23) (tLog t)), (wN cI (gt 26) (gt 27) (tWrs t))] [.int r1] rfl rfl ?_
  refine z_perm C [(wSo gt), (wEo (gE gt 0) (tEd t 0)), (wN cI (gt 2) (gt 3) (eCopy (tEd t 0))), (wN cI (gt 4) (gt 5) (eWait (tEd t 0))), (wN cI (gt 6) (gt 7) (eBacks (tEd t 0))), (wE cI (gE gt 1) (tEd t 1)), (wE cI (gE gt 2) (tEd t 2)), (wN cI (gt 22) (gt 23) (tLog t)), (wN cI (gt 24) (gt 25) (tText t)), (wN cI (gt 26) (gt 27) (tWrs t))] (z_pm [2, 3, 0, 4, 5, 6, 7, 8, 1, 9] 10 rfl (by decide) rfl) ?_
  refine z_shut 1 [(wEo (gE gt 0) (tEd t 0)), (wN cI (gt 2) (gt 3) (eCopy (tEd t 0))), (wN cI (gt 4) (gt 5) (eWait (tEd t 0))), (wN cI (gt 6) (gt 7) (eBacks (tEd t 0)))] [(wSo gt), (wE cI (gE gt 0) (tEd t 0)), (wE cI (gE gt 1) (tEd t 1)), (wE cI (gE gt 2) (tEd t 2)), (wN cI (gt 22) (gt 23) (tLog t)), (wN cI (gt 24) (gt 25) (tText t)), (wN cI (gt 26) (gt 27) (tWrs t))] rfl rfl rfl ?_
  refine z_shut 0 [(wSo gt), (wE cI (gE gt 0) (tEd t 0)), (wE cI (gE gt 1) (tEd t 1)), (wE cI (gE gt 2) (tEd t 2)), (wN cI (gt 22) (gt 23) (tLog t)), (wN cI (gt 24) (gt 25) (tText t)), (wN cI (gt 26) (gt 27) (tWrs t))] [(wS cI gt t)] rfl rfl rfl ?_
  refine z_if_eq C dX5_isOneText_14 55 (by decide) (fun c2 => ?_) (fun c2 => ?_)
  · replace hw := hw.1 c2
    refine z_iconst C dX5_isOneText_55 0 (by decide +kernel) ?_
    exact z_zret C rfl (by decide) (0 : Int32) rfl hw rfl dX5_isOneText_56
  · replace hw := hw.2 c2
    refine z_aload_n C dX5_isOneText_17 rfl ?_
    refine z_get C inlX5 rfl 1 (by decide) mw_2_11 dX5_isOneText_18 0 0 rfl rfl rfl ?_
    refine z_getN C inlX2 rfl 1 (by decide) (List.mem_of_getElem? (i := 18) rfl) dX5_isOneText_21 0 8 rfl rfl rfl ?_
    refine z_aload_n C dX5_isOneText_24 rfl ?_
    refine z_get C inlX5 rfl 4 (by decide) mw_2_17 dX5_isOneText_25 0 0 rfl rfl rfl ?_
    refine z_open 0 [(wSo gt), (wE cI (gE gt 0) (tEd t 0)), (wE cI (gE gt 1) (tEd t 1)), (wE cI (gE gt 2) (tEd t 2)), (wN cI (gt 22) (gt 23) (tLog t)), (wN cI (gt 24) (gt 25) (tText t)), (wN cI (gt 26) (gt 27) (tWrs t))] [(wSo gt), (wE cI (gE gt 0) (tEd t 0)), (wE cI (gE gt 1) (tEd t 1)), (wE cI (gE gt 2) (tEd t 2)), (wN cI (gt 22) (gt 23) (tLog t)), (wN cI (gt 24) (gt 25) (tText t)), (wN cI (gt 26) (gt 27) (tWrs t))] rfl rfl rfl ?_
    refine z_open 2 [(wEo (gE gt 1) (tEd t 1)), (wN cI (gt 9) (gt 10) (eCopy (tEd t 1))), (wN cI (gt 11) (gt 12) (eWait (tEd t 1))), (wN cI (gt 13) (gt 14) (eBacks (tEd t 1)))] [(wSo gt), (wE cI (gE gt 0) (tEd t 0)), (wEo (gE gt 1) (tEd t 1)), (wN cI (gt 9) (gt 10) (eCopy (tEd t 1))), (wN cI (gt 11) (gt 12) (eWait (tEd t 1))), (wN cI (gt 13) (gt 14) (eBacks (tEd t 1))), (wE cI (gE gt 2) (tEd t 2)), (wN cI (gt 22) (gt 23) (tLog t)), (wN cI (gt 24) (gt 25) (tText t)), (wN cI (gt 26) (gt 27) (tWrs t))] rfl rfl rfl ?_
    refine z_callV0 C [(wN cI (gt 9) (gt 10) (eCopy (tEd t 1))), (wN cI (gt 24) (gt 25) (tText t))] [(wSo gt), (wE cI (gE gt 0) (tEd t 0)), (wEo (gE gt 1) (tEd t 1)), (wN cI (gt 11) (gt 12) (eWait (tEd t 1))), (wN cI (gt 13) (gt 14) (eBacks (tEd t 1))), (wE cI (gE gt 2) (tEd t 2)), (wN cI (gt 22) (gt 23) (tLog t)), (wN cI (gt 26) (gt 27) (tWrs t))] rfl rfl (met_X4_isSameAs l D cI (gt 9) (gt 10) (gt 24) (gt 25) (eCopy (tEd t 1)) (tText t) _ hw) y_X4_isSameAs mw_24_7 dX5_isOneText_28 rfl n_X4_isSameAs rfl (by decide) ⟨rfl, rfl, Nat.le_of_ble_eq_true rfl, Nat.le_of_ble_eq_true rfl⟩ (Nat.le_of_ble_eq_true rfl) (z_pm [3, 8, 0, 1, 2, 4, 5, 6, 7, 9] 10 rfl (by decide) rfl) ?_
    intro r3 hw
    try dsimp only at hw
    refine z_bs [(wN cI (gt 9) (gt 10) (eCopy (tEd t 1))), (wN cI (gt 24) (gt 25) (tText t)), (wSo gt), (wE cI (gE gt 0) (tEd t 0)), (wEo (gE gt 1) (tEd t 1)), (wN cI (gt 11) (gt 12) (eWait (tEd t 1))), (wN cI (gt 13) (gt 14) (eBacks (tEd t 1))), (wE cI (gE gt 2) (tEd t 2)), (wN cI (gt 22) (gt 23) (tLog t)), (wN cI (gt 26) (gt 27) (tWrs t))] [.int r3] rfl rfl ?_
    refine z_perm C [(wSo gt), (wE cI (gE gt 0) (tEd t 0)), (wEo (gE gt 1) (tEd t 1)), (wN cI (gt 9) (gt 10) (eCopy (tEd t 1))), (wN cI (gt 11) (gt 12) (eWait (tEd t 1))), (wN cI (gt 13) (gt 14) (eBacks (tEd t 1))), (wE cI (gE gt 2) (tEd t 2)), (wN cI (gt 22) (gt 23) (tLog t)), (wN cI (gt 24) (gt 25) (tText t)), (wN cI (gt 26) (gt 27) (tWrs t))] (z_pm [2, 3, 4, 0, 5, 6, 7, 8, 1, 9] 10 rfl (by decide) rfl) ?_
    refine z_shut 2 [(wEo (gE gt 1) (tEd t 1)), (wN cI (gt 9) (gt 10) (eCopy (tEd t 1))), (wN cI (gt 11) (gt 12) (eWait (tEd t 1))), (wN cI (gt 13) (gt 14) (eBacks (tEd t 1)))] [(wSo gt), (wE cI (gE gt 0) (tEd t 0)), (wE cI (gE gt 1) (tEd t 1)), (wE cI (gE gt 2) (tEd t 2)), (wN cI (gt 22) (gt 23) (tLog t)), (wN cI (gt 24) (gt 25) (tText t)), (wN cI (gt 26) (gt 27) (tWrs t))] rfl rfl rfl ?_
    refine z_shut 0 [(wSo gt), (wE cI (gE gt 0) (tEd t 0)), (wE cI (gE gt 1) (tEd t 1)), (wE cI (gE gt 2) (tEd t 2)), (wN cI (gt 22) (gt 23) (tLog t)), (wN cI (gt 24) (gt 25) (tText t)), (wN cI (gt 26) (gt 27) (tWrs t))] [(wS cI gt t)] rfl rfl rfl ?_
    refine z_if_eq C dX5_isOneText_31 55 (by decide) (fun c4 => ?_) (fun c4 => ?_)
    · replace hw := hw.1 c4
      refine z_iconst C dX5_isOneText_55 0 (by decide +kernel) ?_
      exact z_zret C rfl (by decide) (0 : Int32) rfl hw rfl dX5_isOneText_56
    · replace hw := hw.2 c4
      refine z_aload_n C dX5_isOneText_34 rfl ?_
      refine z_get C inlX5 rfl 2 (by decide) mw_2_12 dX5_isOneText_35 0 0 rfl rfl rfl ?_
      refine z_getN C inlX2 rfl 1 (by decide) (List.mem_of_getElem? (i := 18) rfl) dX5_isOneText_38 0 15 rfl rfl rfl ?_
      refine z_aload_n C dX5_isOneText_41 rfl ?_
      refine z_get C inlX5 rfl 4 (by decide) mw_2_17 dX5_isOneText_42 0 0 rfl rfl rfl ?_
      refine z_open 0 [(wSo gt), (wE cI (gE gt 0) (tEd t 0)), (wE cI (gE gt 1) (tEd t 1)), (wE cI (gE gt 2) (tEd t 2)), (wN cI (gt 22) (gt 23) (tLog t)), (wN cI (gt 24) (gt 25) (tText t)), (wN cI (gt 26) (gt 27) (tWrs t))] [(wSo gt), (wE cI (gE gt 0) (tEd t 0)), (wE cI (gE gt 1) (tEd t 1)), (wE cI (gE gt 2) (tEd t 2)), (wN cI (gt 22) (gt 23) (tLog t)), (wN cI (gt 24) (gt 25) (tText t)), (wN cI (gt 26) (gt 27) (tWrs t))] rfl rfl rfl ?_
      refine z_open 3 [(wEo (gE gt 2) (tEd t 2)), (wN cI (gt 16) (gt 17) (eCopy (tEd t 2))), (wN cI (gt 18) (gt 19) (eWait (tEd t 2))), (wN cI (gt 20) (gt 21) (eBacks (tEd t 2)))] [(wSo gt), (wE cI (gE gt 0) (tEd t 0)), (wE cI (gE gt 1) (tEd t 1)), (wEo (gE gt 2) (tEd t 2)), (wN cI (gt 16) (gt 17) (eCopy (tEd t 2))), (wN cI (gt 18) (gt 19) (eWait (tEd t 2))), (wN cI (gt 20) (gt 21) (eBacks (tEd t 2))), (wN cI (gt 22) (gt 23) (tLog t)), (wN cI (gt 24) (gt 25) (tText t)), (wN cI (gt 26) (gt 27) (tWrs t))] rfl rfl rfl ?_
      refine z_callV0 C [(wN cI (gt 16) (gt 17) (eCopy (tEd t 2))), (wN cI (gt 24) (gt 25) (tText t))] [(wSo gt), (wE cI (gE gt 0) (tEd t 0)), (wE cI (gE gt 1) (tEd t 1)), (wEo (gE gt 2) (tEd t 2)), (wN cI (gt 18) (gt 19) (eWait (tEd t 2))), (wN cI (gt 20) (gt 21) (eBacks (tEd t 2))), (wN cI (gt 22) (gt 23) (tLog t)), (wN cI (gt 26) (gt 27) (tWrs t))] rfl rfl (met_X4_isSameAs l D cI (gt 16) (gt 17) (gt 24) (gt 25) (eCopy (tEd t 2)) (tText t) _ hw) y_X4_isSameAs mw_24_7 dX5_isOneText_45 rfl n_X4_isSameAs rfl (by decide) ⟨rfl, rfl, Nat.le_of_ble_eq_true rfl, Nat.le_of_ble_eq_true rfl⟩ (Nat.le_of_ble_eq_true rfl) (z_pm [4, 8, 0, 1, 2, 3, 5, 6, 7, 9] 10 rfl (by decide) rfl) ?_
      intro r5 hw
      try dsimp only at hw
      refine z_bs [(wN cI (gt 16) (gt 17) (eCopy (tEd t 2))), (wN cI (gt 24) (gt 25) (tText t)), (wSo gt), (wE cI (gE gt 0) (tEd t 0)), (wE cI (gE gt 1) (tEd t 1)), (wEo (gE gt 2) (tEd t 2)), (wN cI (gt 18) (gt 19) (eWait (tEd t 2))), (wN cI (gt 20) (gt 21) (eBacks (tEd t 2))), (wN cI (gt 22) (gt 23) (tLog t)), (wN cI (gt 26) (gt 27) (tWrs t))] [.int r5] rfl rfl ?_
      refine z_perm C [(wSo gt), (wE cI (gE gt 0) (tEd t 0)), (wE cI (gE gt 1) (tEd t 1)), (wEo (gE gt 2) (tEd t 2)), (wN cI (gt 16) (gt 17) (eCopy (tEd t 2))), (wN cI (gt 18) (gt 19) (eWait (tEd t 2))), (wN cI (gt 20) (gt 21) (eBacks (tEd t 2))), (wN cI (gt 22) (gt 23) (tLog t)), (wN cI (gt 24) (gt 25) (tText t)), (wN cI (gt 26) (gt 27) (tWrs t))] (z_pm [2, 3, 4, 5, 0, 6, 7, 8, 1, 9] 10 rfl (by decide) rfl) ?_
      refine z_shut 3 [(wEo (gE gt 2) (tEd t 2)), (wN cI (gt 16) (gt 17) (eCopy (tEd t 2))), (wN cI (gt 18) (gt 19) (eWait (tEd t 2))), (wN cI (gt 20) (gt 21) (eBacks (tEd t 2)))] [(wSo gt), (wE cI (gE gt 0) (tEd t 0)), (wE cI (gE gt 1) (tEd t 1)), (wE cI (gE gt 2) (tEd t 2)), (wN cI (gt 22) (gt 23) (tLog t)), (wN cI (gt 24) (gt 25) (tText t)), (wN cI (gt 26) (gt 27) (tWrs t))] rfl rfl rfl ?_
      refine z_shut 0 [(wSo gt), (wE cI (gE gt 0) (tEd t 0)), (wE cI (gE gt 1) (tEd t 1)), (wE cI (gE gt 2) (tEd t 2)), (wN cI (gt 22) (gt 23) (tLog t)), (wN cI (gt 24) (gt 25) (tText t)), (wN cI (gt 26) (gt 27) (tWrs t))] [(wS cI gt t)] rfl rfl rfl ?_
      refine z_if_eq C dX5_isOneText_48 55 (by decide) (fun c6 => ?_) (fun c6 => ?_)
      · replace hw := hw.1 c6
        refine z_iconst C dX5_isOneText_55 0 (by decide +kernel) ?_
        exact z_zret C rfl (by decide) (0 : Int32) rfl hw rfl dX5_isOneText_56
      · replace hw := hw.2 c6
        refine z_iconst C dX5_isOneText_51 1 (by decide +kernel) ?_
        refine z_goto C dX5_isOneText_52 56 (by decide) ?_
        exact z_zret C rfl (by decide) (1 : Int32) rfl hw rfl dX5_isOneText_56
def rmX5_begin : Room := { frames := 2, cells := 0, slots := 0, locals := 40 }
def wp_X5_begin (t : zT)  (Q : zT → Prop) : Prop := (wp_X2_forget (tEd t 0) (fun u1 => (wp_X2_forget (tEd (tSetEds t (z3 u1 (tEd t 1) (tEd t 2))) 1) (fun u2 => (wp_X2_forget (tEd (tSetEds t (z3 (tEd (tSetEds t (z3 u1 (tEd t 1) (tEd t 2))) 0) u2 (tEd (tSetEds t (z3 u1 (tEd t 1) (tEd t 2))) 2))) 2) (fun u3 => (wp_X4_empty (tLog t) (fun u4 => (wp_X4_empty (tText t) (fun u5 => (wp_X4_empty (tWrs t) (fun u6 => (Q (tSetWrs (tSetText (tSetLog (tSetEds t (z3 (tEd (tSetEds t (z3 (tEd (tSetEds t (z3 u1 (tEd t 1) (tEd t 2))) 0) u2 (tEd (tSetEds t (z3 u1 (tEd t 1) (tEd t 2))) 2))) 0) (tEd (tSetEds t (z3 (tEd (tSetEds t (z3 u1 (tEd t 1) (tEd t 2))) 0) u2 (tEd (tSetEds t (z3 u1 (tEd t 1) (tEd t 2))) 2))) 1) u3)) u4) u5) u6))))))))))))))
set_option maxHeartbeats 4000000 in
set_option maxRecDepth 100000 in
theorem met_X5_begin (l : Launch) (D : va_G) (cI : ClassId) (gt : Nat → Nat) (t : zT)  (Q : zT → Prop) (hw : wp_X5_begin t Q) : ZM l D cI yX5_begin cX5_begin 1 none rmX5_begin [.ref (gt 0)] [(wS cI gt t)] (fun _ : zT => none) (fun u : zT => [(wS cI gt u)]) (fun u : zT => Q u) := by
  refine z_body [some (.ref (gt 0))] (by decide +kernel) rfl (Nat.le_of_ble_eq_true rfl) rfl ?_
  intro p e s m args below meth c A C hin
  unfold wp_X5_begin at hw
  refine z_aload_n C dX5_begin_0 rfl ?_
  refine z_get C inlX5 rfl 0 (by decide) mw_2_10 dX5_begin_1 0 0 rfl rfl rfl ?_
  refine z_open 0 [(wSo gt), (wE cI (gE gt 0) (tEd t 0)), (wE cI (gE gt 1) (tEd t 1)), (wE cI (gE gt 2) (tEd t 2)), (wN cI (gt 22) (gt 23) (tLog t)), (wN cI (gt 24) (gt 25) (tText t)), (wN cI (gt 26) (gt 27) (tWrs t))] [(wSo gt), (wE cI (gE gt 0) (tEd t 0)), (wE cI (gE gt 1) (tEd t 1)), (wE cI (gE gt 2) (tEd t 2)), (wN cI (gt 22) (gt 23) (tLog t)), (wN cI (gt 24) (gt 25) (tText t)), (wN cI (gt 26) (gt 27) (tWrs t))] rfl rfl rfl ?_
  refine z_callV0 C [(wE cI (gE gt 0) (tEd t 0))] [(wSo gt), (wE cI (gE gt 1) (tEd t 1)), (wE cI (gE gt 2) (tEd t 2)), (wN cI (gt 22) (gt 23) (tLog t)), (wN cI (gt 24) (gt 25) (tText t)), (wN cI (gt 26) (gt 27) (tWrs t))] rfl rfl (met_X2_forget l D cI (gE gt 0) (tEd t 0) _ hw) y_X2_forget mw_18_4 dX5_begin_4 rfl n_X2_forget rfl (by decide) ⟨rfl, rfl, Nat.le_of_ble_eq_true rfl, Nat.le_of_ble_eq_true rfl⟩ (Nat.le_of_ble_eq_true rfl) (z_pm [1, 0, 2, 3, 4, 5, 6] 7 rfl (by decide) rfl) ?_
  intro u1 hw
  try dsimp only at hw
  refine z_bs [(wE cI (gE gt 0) u1), (wSo gt), (wE cI (gE gt 1) (tEd t 1)), (wE cI (gE gt 2) (tEd t 2)), (wN cI (gt 22) (gt 23) (tLog t)), (wN cI (gt 24) (gt 25) (tText t)), (wN cI (gt 26) (gt 27) (tWrs t))] [] rfl rfl ?_
  refine z_perm C [(wSo gt), (wE cI (gE gt 0) u1), (wE cI (gE gt 1) (tEd t 1)), (wE cI (gE gt 2) (tEd t 2)), (wN cI (gt 22) (gt 23) (tLog t)), (wN cI (gt 24) (gt 25) (tText t)), (wN cI (gt 26) (gt 27) (tWrs t))] (z_pm [1, 0, 2, 3, 4, 5, 6] 7 rfl (by decide) rfl) ?_
  refine z_shut 0 [(wSo gt), (wE cI (gE gt 0) u1), (wE cI (gE gt 1) (tEd t 1)), (wE cI (gE gt 2) (tEd t 2)), (wN cI (gt 22) (gt 23) (tLog t)), (wN cI (gt 24) (gt 25) (tText t)), (wN cI (gt 26) (gt 27) (tWrs t))] [(wS cI gt (tSetEds t (z3 u1 (tEd t 1) (tEd t 2))))] rfl rfl rfl ?_
  refine z_aload_n C dX5_begin_7 rfl ?_
  refine z_get C inlX5 rfl 1 (by decide) mw_2_11 dX5_begin_8 0 0 rfl rfl rfl ?_
  refine z_open 0 [(wSo gt), (wE cI (gE gt 0) (tEd (tSetEds t (z3 u1 (tEd t 1) (tEd t 2))) 0)), (wE cI (gE gt 1) (tEd (tSetEds t (z3 u1 (tEd t 1) (tEd t 2))) 1)), (wE cI (gE gt 2) (tEd (tSetEds t (z3 u1 (tEd t 1) (tEd t 2))) 2)), (wN cI (gt 22) (gt 23) (tLog t)), (wN cI (gt 24) (gt 25) (tText t)), (wN cI (gt 26) (gt 27) (tWrs t))] [(wSo gt), (wE cI (gE gt 0) (tEd (tSetEds t (z3 u1 (tEd t 1) (tEd t 2))) 0)), (wE cI (gE gt 1) (tEd (tSetEds t (z3 u1 (tEd t 1) (tEd t 2))) 1)), (wE cI (gE gt 2) (tEd (tSetEds t (z3 u1 (tEd t 1) (tEd t 2))) 2)), (wN cI (gt 22) (gt 23) (tLog t)), (wN cI (gt 24) (gt 25) (tText t)), (wN cI (gt 26) (gt 27) (tWrs t))] rfl rfl rfl ?_
  refine z_callV0 C [(wE cI (gE gt 1) (tEd (tSetEds t (z3 u1 (tEd t 1) (tEd t 2))) 1))] [(wSo gt), (wE cI (gE gt 0) (tEd (tSetEds t (z3 u1 (tEd t 1) (tEd t 2))) 0)), (wE cI (gE gt 2) (tEd (tSetEds t (z3 u1 (tEd t 1) (tEd t 2))) 2)), (wN cI (gt 22) (gt 23) (tLog t)), (wN cI (gt 24) (gt 25) (tText t)), (wN cI (gt 26) (gt 27) (tWrs t))] rfl rfl (met_X2_forget l D cI (gE gt 1) (tEd (tSetEds t (z3 u1 (tEd t 1) (tEd t 2))) 1) _ hw) y_X2_forget mw_18_4 dX5_begin_11 rfl n_X2_forget rfl (by decide) ⟨rfl, rfl, Nat.le_of_ble_eq_true rfl, Nat.le_of_ble_eq_true rfl⟩ (Nat.le_of_ble_eq_true rfl) (z_pm [2, 0, 1, 3, 4, 5, 6] 7 rfl (by decide) rfl) ?_
  intro u2 hw
  try dsimp only at hw
  refine z_bs [(wE cI (gE gt 1) u2), (wSo gt), (wE cI (gE gt 0) (tEd (tSetEds t (z3 u1 (tEd t 1) (tEd t 2))) 0)), (wE cI (gE gt 2) (tEd (tSetEds t (z3 u1 (tEd t 1) (tEd t 2))) 2)), (wN cI (gt 22) (gt 23) (tLog t)), (wN cI (gt 24) (gt 25) (tText t)), (wN cI (gt 26) (gt 27) (tWrs t))] [] rfl rfl ?_
  refine z_perm C [(wSo gt), (wE cI (gE gt 0) (tEd (tSetEds t (z3 u1 (tEd t 1) (tEd t 2))) 0)), (wE cI (gE gt 1) u2), (wE cI (gE gt 2) (tEd (tSetEds t (z3 u1 (tEd t 1) (tEd t 2))) 2)), (wN cI (gt 22) (gt 23) (tLog t)), (wN cI (gt 24) (gt 25) (tText t)), (wN cI (gt 26) (gt 27) (tWrs t))] (z_pm [1, 2, 0, 3, 4, 5, 6] 7 rfl (by decide) rfl) ?_
  refine z_shut 0 [(wSo gt), (wE cI (gE gt 0) (tEd (tSetEds t (z3 u1 (tEd t 1) (tEd t 2))) 0)), (wE cI (gE gt 1) u2), (wE cI (gE gt 2) (tEd (tSetEds t (z3 u1 (tEd t 1) (tEd t 2))) 2)), (wN cI (gt 22) (gt 23) (tLog t)), (wN cI (gt 24) (gt 25) (tText t)), (wN cI (gt 26) (gt 27) (tWrs t))] [(wS cI gt (tSetEds t (z3 (tEd (tSetEds t (z3 u1 (tEd t 1) (tEd t 2))) 0) u2 (tEd (tSetEds t (z3 u1 (tEd t 1) (tEd t 2))) 2))))] rfl rfl rfl ?_
  refine z_aload_n C dX5_begin_14 rfl ?_
  refine z_get C inlX5 rfl 2 (by decide) mw_2_12 dX5_begin_15 0 0 rfl rfl rfl ?_
  refine z_open 0 [(wSo gt), (wE cI (gE gt 0) (tEd (tSetEds t (z3 (tEd (tSetEds t (z3 u1 (tEd t 1) (tEd t 2))) 0) u2 (tEd (tSetEds t (z3 u1 (tEd t 1) (tEd t 2))) 2))) 0)), (wE cI (gE gt 1) (tEd (tSetEds t (z3 (tEd (tSetEds t (z3 u1 (tEd t 1) (tEd t 2))) 0) u2 (tEd (tSetEds t (z3 u1 (tEd t 1) (tEd t 2))) 2))) 1)), (wE cI (gE gt 2) (tEd (tSetEds t (z3 (tEd (tSetEds t (z3 u1 (tEd t 1) (tEd t 2))) 0) u2 (tEd (tSetEds t (z3 u1 (tEd t 1) (tEd t 2))) 2))) 2)), (wN cI (gt 22) (gt 23) (tLog t)), (wN cI (gt 24) (gt 25) (tText t)), (wN cI (gt 26) (gt 27) (tWrs t))] [(wSo gt), (wE cI (gE gt 0) (tEd (tSetEds t (z3 (tEd (tSetEds t (z3 u1 (tEd t 1) (tEd t 2))) 0) u2 (tEd (tSetEds t (z3 u1 (tEd t 1) (tEd t 2))) 2))) 0)), (wE cI (gE gt 1) (tEd (tSetEds t (z3 (tEd (tSetEds t (z3 u1 (tEd t 1) (tEd t 2))) 0) u2 (tEd (tSetEds t (z3 u1 (tEd t 1) (tEd t 2))) 2))) 1)), (wE cI (gE gt 2) (tEd (tSetEds t (z3 (tEd (tSetEds t (z3 u1 (tEd t 1) (tEd t 2))) 0) u2 (tEd (tSetEds t (z3 u1 (tEd t 1) (tEd t 2))) 2))) 2)), (wN cI (gt 22) (gt 23) (tLog t)), (wN cI (gt 24) (gt 25) (tText t)), (wN cI (gt 26) (gt 27) (tWrs t))] rfl rfl rfl ?_
  refine z_callV0 C [(wE cI (gE gt 2) (tEd (tSetEds t (z3 (tEd (tSetEds t (z3 u1 (tEd t 1) (tEd t 2))) 0) u2 (tEd (tSetEds t (z3 u1 (tEd t 1) (tEd t 2))) 2))) 2))] [(wSo gt), (wE cI (gE gt 0) (tEd (tSetEds t (z3 (tEd (tSetEds t (z3 u1 (tEd t 1) (tEd t 2))) 0) u2 (tEd (tSetEds t (z3 u1 (tEd t 1) (tEd t 2))) 2))) 0)), (wE cI (gE gt 1) (tEd (tSetEds t (z3 (tEd (tSetEds t (z3 u1 (tEd t 1) (tEd t 2))) 0) u2 (tEd (tSetEds t (z3 u1 (tEd t 1) (tEd t 2))) 2))) 1)), (wN cI (gt 22) (gt 23) (tLog t)), (wN cI (gt 24) (gt 25) (tText t)), (wN cI (gt 26) (gt 27) (tWrs t))] rfl rfl (met_X2_forget l D cI (gE gt 2) (tEd (tSetEds t (z3 (tEd (tSetEds t (z3 u1 (tEd t 1) (tEd t 2))) 0) u2 (tEd (tSetEds t (z3 u1 (tEd t 1) (tEd t 2))) 2))) 2) _ hw) y_X2_forget mw_18_4 dX5_begin_18 rfl n_X2_forget rfl (by decide) ⟨rfl, rfl, Nat.le_of_ble_eq_true rfl, Nat.le_of_ble_eq_true rfl⟩ (Nat.le_of_ble_eq_true rfl) (z_pm [3, 0, 1, 2, 4, 5, 6] 7 rfl (by decide) rfl) ?_
  intro u3 hw
  try dsimp only at hw
  refine z_bs [(wE cI (gE gt 2) u3), (wSo gt), (wE cI (gE gt 0) (tEd (tSetEds t (z3 (tEd (tSetEds t (z3 u1 (tEd t 1) (tEd t 2))) 0) u2 (tEd (tSetEds t (z3 u1 (tEd t 1) (tEd t 2))) 2))) 0)), (wE cI (gE gt 1) (tEd (tSetEds t (z3 (tEd (tSetEds t (z3 u1 (tEd t 1) (tEd t 2))) 0) u2 (tEd (tSetEds t (z3 u1 (tEd t 1) (tEd t 2))) 2))) 1)), (wN cI (gt 22) (gt 23) (tLog t)), (wN cI (gt 24) (gt 25) (tText t)), (wN cI (gt 26) (gt 27) (tWrs t))] [] rfl rfl ?_
  refine z_perm C [(wSo gt), (wE cI (gE gt 0) (tEd (tSetEds t (z3 (tEd (tSetEds t (z3 u1 (tEd t 1) (tEd t 2))) 0) u2 (tEd (tSetEds t (z3 u1 (tEd t 1) (tEd t 2))) 2))) 0)), (wE cI (gE gt 1) (tEd (tSetEds t (z3 (tEd (tSetEds t (z3 u1 (tEd t 1) (tEd t 2))) 0) u2 (tEd (tSetEds t (z3 u1 (tEd t 1) (tEd t 2))) 2))) 1)), (wE cI (gE gt 2) u3), (wN cI (gt 22) (gt 23) (tLog t)), (wN cI (gt 24) (gt 25) (tText t)), (wN cI (gt 26) (gt 27) (tWrs t))] (z_pm [1, 2, 3, 0, 4, 5, 6] 7 rfl (by decide) rfl) ?_
  refine z_shut 0 [(wSo gt), (wE cI (gE gt 0) (tEd (tSetEds t (z3 (tEd (tSetEds t (z3 u1 (tEd t 1) (tEd t 2))) 0) u2 (tEd (tSetEds t (z3 u1 (tEd t 1) (tEd t 2))) 2))) 0)), (wE cI (gE gt 1) (tEd (tSetEds t (z3 (tEd (tSetEds t (z3 u1 (tEd t 1) (tEd t 2))) 0) u2 (tEd (tSetEds t (z3 u1 (tEd t 1) (tEd t 2))) 2))) 1)), (wE cI (gE gt 2) u3), (wN cI (gt 22) (gt 23) (tLog t)), (wN cI (gt 24) (gt 25) (tText t)), (wN cI (gt 26) (gt 27) (tWrs t))] [(wS cI gt (tSetEds t (z3 (tEd (tSetEds t (z3 (tEd (tSetEds t (z3 u1 (tEd t 1) (tEd t 2))) 0) u2 (tEd (tSetEds t (z3 u1 (tEd t 1) (tEd t 2))) 2))) 0) (tEd (tSetEds t (z3 (tEd (tSetEds t (z3 u1 (tEd t 1) (tEd t 2))) 0) u2 (tEd (tSetEds t (z3 u1 (tEd t 1) (tEd t 2))) 2))) 1) u3)))] rfl rfl rfl ?_
  refine z_aload_n C dX5_begin_21 rfl ?_
  refine z_get C inlX5 rfl 3 (by decide) mw_2_16 dX5_begin_22 0 0 rfl rfl rfl ?_
  refine z_open 0 [(wSo gt), (wE cI (gE gt 0) (tEd (tSetEds t (z3 (tEd (tSetEds t (z3 (tEd (tSetEds t (z3 u1 (tEd t 1) (tEd t 2))) 0) u2 (tEd (tSetEds t (z3 u1 (tEd t 1) (tEd t 2))) 2))) 0) (tEd (tSetEds t (z3 (tEd (tSetEds t (z3 u1 (tEd t 1) (tEd t 2))) 0) u2 (tEd (tSetEds t (z3 u1 (tEd t 1) (tEd t 2))) 2))) 1) u3)) 0)), (wE cI (gE gt 1) (tEd (tSetEds t (z3 (tEd (tSetEds t (z3 (tEd (tSetEds t (z3 u1 (tEd t 1) (tEd t 2))) 0) u2 (tEd (tSetEds t (z3 u1 (tEd t 1) (tEd t 2))) 2))) 0) (tEd (tSetEds t (z3 (tEd (tSetEds t (z3 u1 (tEd t 1) (tEd t 2))) 0) u2 (tEd (tSetEds t (z3 u1 (tEd t 1) (tEd t 2))) 2))) 1) u3)) 1)), (wE cI (gE gt 2) (tEd (tSetEds t (z3 (tEd (tSetEds t (z3 (tEd (tSetEds t (z3 u1 (tEd t 1) (tEd t 2))) 0) u2 (tEd (tSetEds t (z3 u1 (tEd t 1) (tEd t 2))) 2))) 0) (tEd (tSetEds t (z3 (tEd (tSetEds t (z3 u1 (tEd t 1) (tEd t 2))) 0) u2 (tEd (tSetEds t (z3 u1 (tEd t 1) (tEd t 2))) 2))) 1) u3)) 2)), (wN cI (gt 22) (gt 23) (tLog t)), (wN cI (gt 24) (gt 25) (tText t)), (wN cI (gt 26) (gt 27) (tWrs t))] [(wSo gt), (wE cI (gE gt 0) (tEd (tSetEds t (z3 (tEd (tSetEds t (z3 (tEd (tSetEds t (z3 u1 (tEd t 1) (tEd t 2))) 0) u2 (tEd (tSetEds t (z3 u1 (tEd t 1) (tEd t 2))) 2))) 0) (tEd (tSetEds t (z3 (tEd (tSetEds t (z3 u1 (tEd t 1) (tEd t 2))) 0) u2 (tEd (tSetEds t (z3 u1 (tEd t 1) (tEd t 2))) 2))) 1) u3)) 0)), (wE cI (gE gt 1) (tEd (tSetEds t (z3 (tEd (tSetEds t (z3 (tEd (tSetEds t (z3 u1 (tEd t 1) (tEd t 2))) 0) u2 (tEd (tSetEds t (z3 u1 (tEd t 1) (tEd t 2))) 2))) 0) (tEd (tSetEds t (z3 (tEd (tSetEds t (z3 u1 (tEd t 1) (tEd t 2))) 0) u2 (tEd (tSetEds t (z3 u1 (tEd t 1) (tEd t 2))) 2))) 1) u3)) 1)), (wE cI (gE gt 2) (tEd (tSetEds t (z3 (tEd (tSetEds t (z3 (tEd (tSetEds t (z3 u1 (tEd t 1) (tEd t 2))) 0) u2 (tEd (tSetEds t (z3 u1 (tEd t 1) (tEd t 2))) 2))) 0) (tEd (tSetEds t (z3 (tEd (tSetEds t (z3 u1 (tEd t 1) (tEd t 2))) 0) u2 (tEd (tSetEds t (z3 u1 (tEd t 1) (tEd t 2))) 2))) 1) u3)) 2)), (wN cI (gt 22) (gt 23) (tLog t)), (wN cI (gt 24) (gt 25) (tText t)), (wN cI (gt 26) (gt 27) (tWrs t))] rfl rfl rfl ?_
  refine z_callV0 C [(wN cI (gt 22) (gt 23) (tLog t))] [(wSo gt), (wE cI (gE gt 0) (tEd (tSetEds t (z3 (tEd (tSetEds t (z3 (tEd (tSetEds t (z3 u1 (tEd t 1) (tEd t 2))) 0) u2 (tEd (tSetEds t (z3 u1 (tEd t 1) (tEd t 2))) 2))) 0) (tEd (tSetEds t (z3 (tEd (tSetEds t (z3 u1 (tEd t 1) (tEd t 2))) 0) u2 (tEd (tSetEds t (z3 u1 (tEd t 1) (tEd t 2))) 2))) 1) u3)) 0)), (wE cI (gE gt 1) (tEd (tSetEds t (z3 (tEd (tSetEds t (z3 (tEd (tSetEds t (z3 u1 (tEd t 1) (tEd t 2))) 0) u2 (tEd (tSetEds t (z3 u1 (tEd t 1) (tEd t 2))) 2))) 0) (tEd (tSetEds t (z3 (tEd (tSetEds t (z3 u1 (tEd t 1) (tEd t 2))) 0) u2 (tEd (tSetEds t (z3 u1 (tEd t 1) (tEd t 2))) 2))) 1) u3)) 1)), (wE cI (gE gt 2) (tEd (tSetEds t (z3 (tEd (tSetEds t (z3 (tEd (tSetEds t (z3 u1 (tEd t 1) (tEd t 2))) 0) u2 (tEd (tSetEds t (z3 u1 (tEd t 1) (tEd t 2))) 2))) 0) (tEd (tSetEds t (z3 (tEd (tSetEds t (z3 u1 (tEd t 1) (tEd t 2))) 0) u2 (tEd (tSetEds t (z3 u1 (tEd t 1) (tEd t 2))) 2))) 1) u3)) 2)), (wN cI (gt 24) (gt 25) (tText t)), (wN cI (gt 26) (gt 27) (tWrs t))] rfl rfl (met_X4_empty l D cI (gt 22) (gt 23) (tLog t) _ hw) y_X4_empty mw_18_12 dX5_begin_25 rfl n_X4_empty rfl (by decide) ⟨rfl, rfl, Nat.le_of_ble_eq_true rfl, Nat.le_of_ble_eq_true rfl⟩ (Nat.le_of_ble_eq_true rfl) (z_pm [4, 0, 1, 2, 3, 5, 6] 7 rfl (by decide) rfl) ?_
  intro u4 hw
  try dsimp only at hw
  refine z_bs [(wN cI (gt 22) (gt 23) u4), (wSo gt), (wE cI (gE gt 0) (tEd (tSetEds t (z3 (tEd (tSetEds t (z3 (tEd (tSetEds t (z3 u1 (tEd t 1) (tEd t 2))) 0) u2 (tEd (tSetEds t (z3 u1 (tEd t 1) (tEd t 2))) 2))) 0) (tEd (tSetEds t (z3 (tEd (tSetEds t (z3 u1 (tEd t 1) (tEd t 2))) 0) u2 (tEd (tSetEds t (z3 u1 (tEd t 1) (tEd t 2))) 2))) 1) u3)) 0)), (wE cI (gE gt 1) (tEd (tSetEds t (z3 (tEd (tSetEds t (z3 (tEd (tSetEds t (z3 u1 (tEd t 1) (tEd t 2))) 0) u2 (tEd (tSetEds t (z3 u1 (tEd t 1) (tEd t 2))) 2))) 0) (tEd (tSetEds t (z3 (tEd (tSetEds t (z3 u1 (tEd t 1) (tEd t 2))) 0) u2 (tEd (tSetEds t (z3 u1 (tEd t 1) (tEd t 2))) 2))) 1) u3)) 1)), (wE cI (gE gt 2) (tEd (tSetEds t (z3 (tEd (tSetEds t (z3 (tEd (tSetEds t (z3 u1 (tEd t 1) (tEd t 2))) 0) u2 (tEd (tSetEds t (z3 u1 (tEd t 1) (tEd t 2))) 2))) 0) (tEd (tSetEds t (z3 (tEd (tSetEds t (z3 u1 (tEd t 1) (tEd t 2))) 0) u2 (tEd (tSetEds t (z3 u1 (tEd t 1) (tEd t 2))) 2))) 1) u3)) 2)), (wN cI (gt 24) (gt 25) (tText t)), (wN cI (gt 26) (gt 27) (tWrs t))] [] rfl rfl ?_
  refine z_perm C [(wSo gt), (wE cI (gE gt 0) (tEd (tSetEds t (z3 (tEd (tSetEds t (z3 (tEd (tSetEds t (z3 u1 (tEd t 1) (tEd t 2))) 0) u2 (tEd (tSetEds t (z3 u1 (tEd t 1) (tEd t 2))) 2))) 0) (tEd (tSetEds t (z3 (tEd (tSetEds t (z3 u1 (tEd t 1) (tEd t 2))) 0) u2 (tEd (tSetEds t (z3 u1 (tEd t 1) (tEd t 2))) 2))) 1) u3)) 0)), (wE cI (gE gt 1) (tEd (tSetEds t (z3 (tEd (tSetEds t (z3 (tEd (tSetEds t (z3 u1 (tEd t 1) (tEd t 2))) 0) u2 (tEd (tSetEds t (z3 u1 (tEd t 1) (tEd t 2))) 2))) 0) (tEd (tSetEds t (z3 (tEd (tSetEds t (z3 u1 (tEd t 1) (tEd t 2))) 0) u2 (tEd (tSetEds t (z3 u1 (tEd t 1) (tEd t 2))) 2))) 1) u3)) 1)), (wE cI (gE gt 2) (tEd (tSetEds t (z3 (tEd (tSetEds t (z3 (tEd (tSetEds t (z3 u1 (tEd t 1) (tEd t 2))) 0) u2 (tEd (tSetEds t (z3 u1 (tEd t 1) (tEd t 2))) 2))) 0) (tEd (tSetEds t (z3 (tEd (tSetEds t (z3 u1 (tEd t 1) (tEd t 2))) 0) u2 (tEd (tSetEds t (z3 u1 (tEd t 1) (tEd t 2))) 2))) 1) u3)) 2)), (wN cI (gt 22) (gt 23) u4), (wN cI (gt 24) (gt 25) (tText t)), (wN cI (gt 26) (gt 27) (tWrs t))] (z_pm [1, 2, 3, 4, 0, 5, 6] 7 rfl (by decide) rfl) ?_
  refine z_shut 0 [(wSo gt), (wE cI (gE gt 0) (tEd (tSetEds t (z3 (tEd (tSetEds t (z3 (tEd (tSetEds t (z3 u1 (tEd t 1) (tEd t 2))) 0) u2 (tEd (tSetEds t (z3 u1 (tEd t 1) (tEd t 2))) 2))) 0) (tEd (tSetEds t (z3 (tEd (tSetEds t (z3 u1 (tEd t 1) (tEd t 2))) 0) u2 (tEd (tSetEds t (z3 u1 (tEd t 1) (tEd t 2))) 2))) 1) u3)) 0)), (wE cI (gE gt 1) (tEd (tSetEds t (z3 (tEd (tSetEds t (z3 (tEd (tSetEds t (z3 u1 (tEd t 1) (tEd t 2))) 0) u2 (tEd (tSetEds t (z3 u1 (tEd t 1) (tEd t 2))) 2))) 0) (tEd (tSetEds t (z3 (tEd (tSetEds t (z3 u1 (tEd t 1) (tEd t 2))) 0) u2 (tEd (tSetEds t (z3 u1 (tEd t 1) (tEd t 2))) 2))) 1) u3)) 1)), (wE cI (gE gt 2) (tEd (tSetEds t (z3 (tEd (tSetEds t (z3 (tEd (tSetEds t (z3 u1 (tEd t 1) (tEd t 2))) 0) u2 (tEd (tSetEds t (z3 u1 (tEd t 1) (tEd t 2))) 2))) 0) (tEd (tSetEds t (z3 (tEd (tSetEds t (z3 u1 (tEd t 1) (tEd t 2))) 0) u2 (tEd (tSetEds t (z3 u1 (tEd t 1) (tEd t 2))) 2))) 1) u3)) 2)), (wN cI (gt 22) (gt 23) u4), (wN cI (gt 24) (gt 25) (tText t)), (wN cI (gt 26) (gt 27) (tWrs t))] [(wS cI gt (tSetLog (tSetEds t (z3 (tEd (tSetEds t (z3 (tEd (tSetEds t (z3 u1 (tEd t 1) (tEd t 2))) 0) u2 (tEd (tSetEds t (z3 u1 (tEd t 1) (tEd t 2))) 2))) 0) (tEd (tSetEds t (z3 (tEd (tSetEds t (z3 u1 (tEd t 1) (tEd t 2))) 0) u2 (tEd (tSetEds t (z3 u1 (tEd t 1) (tEd t 2))) 2))) 1) u3)) u4))] rfl rfl rfl ?_
  refine z_aload_n C dX5_begin_28 rfl ?_
  refine z_get C inlX5 rfl 4 (by decide) mw_2_17 dX5_begin_29 0 0 rfl rfl rfl ?_
  refine z_open 0 [(wSo gt), (wE cI (gE gt 0) (tEd (tSetLog (tSetEds t (z3 (tEd (tSetEds t (z3 (tEd (tSetEds t (z3 u1 (tEd t 1) (tEd t 2))) 0) u2 (tEd (tSetEds t (z3 u1 (tEd t 1) (tEd t 2))) 2))) 0) (tEd (tSetEds t (z3 (tEd (tSetEds t (z3 u1 (tEd t 1) (tEd t 2))) 0) u2 (tEd (tSetEds t (z3 u1 (tEd t 1) (tEd t 2))) 2))) 1) u3)) u4) 0)), (wE cI (gE gt 1) (tEd (tSetLog (tSetEds t (z3 (tEd (tSetEds t (z3 (tEd (tSetEds t (z3 u1 (tEd t 1) (tEd t 2))) 0) u2 (tEd (tSetEds t (z3 u1 (tEd t 1) (tEd t 2))) 2))) 0) (tEd (tSetEds t (z3 (tEd (tSetEds t (z3 u1 (tEd t 1) (tEd t 2))) 0) u2 (tEd (tSetEds t (z3 u1 (tEd t 1) (tEd t 2))) 2))) 1) u3)) u4) 1)), (wE cI (gE gt 2) (tEd (tSetLog (tSetEds t (z3 (tEd (tSetEds t (z3 (tEd (tSetEds t (z3 u1 (tEd t 1) (tEd t 2))) 0) u2 (tEd (tSetEds t (z3 u1 (tEd t 1) (tEd t 2))) 2))) 0) (tEd (tSetEds t (z3 (tEd (tSetEds t (z3 u1 (tEd t 1) (tEd t 2))) 0) u2 (tEd (tSetEds t (z3 u1 (tEd t 1) (tEd t 2))) 2))) 1) u3)) u4) 2)), (wN cI (gt 22) (gt 23) u4), (wN cI (gt 24) (gt 25) (tText t)), (wN cI (gt 26) (gt 27) (tWrs t))] [(wSo gt), (wE cI (gE gt 0) (tEd (tSetLog (tSetEds t (z3 (tEd (tSetEds t (z3 (tEd (tSetEds t (z3 u1 (tEd t 1) (tEd t 2))) 0) u2 (tEd (tSetEds t (z3 u1 (tEd t 1) (tEd t 2))) 2))) 0) (tEd (tSetEds t (z3 (tEd (tSetEds t (z3 u1 (tEd t 1) (tEd t 2))) 0) u2 (tEd (tSetEds t (z3 u1 (tEd t 1) (tEd t 2))) 2))) 1) u3)) u4) 0)), (wE cI (gE gt 1) (tEd (tSetLog (tSetEds t (z3 (tEd (tSetEds t (z3 (tEd (tSetEds t (z3 u1 (tEd t 1) (tEd t 2))) 0) u2 (tEd (tSetEds t (z3 u1 (tEd t 1) (tEd t 2))) 2))) 0) (tEd (tSetEds t (z3 (tEd (tSetEds t (z3 u1 (tEd t 1) (tEd t 2))) 0) u2 (tEd (tSetEds t (z3 u1 (tEd t 1) (tEd t 2))) 2))) 1) u3)) u4) 1)), (wE cI (gE gt 2) (tEd (tSetLog (tSetEds t (z3 (tEd (tSetEds t (z3 (tEd (tSetEds t (z3 u1 (tEd t 1) (tEd t 2))) 0) u2 (tEd (tSetEds t (z3 u1 (tEd t 1) (tEd t 2))) 2))) 0) (tEd (tSetEds t (z3 (tEd (tSetEds t (z3 u1 (tEd t 1) (tEd t 2))) 0) u2 (tEd (tSetEds t (z3 u1 (tEd t 1) (tEd t 2))) 2))) 1) u3)) u4) 2)), (wN cI (gt 22) (gt 23) u4), (wN cI (gt 24) (gt 25) (tText t)), (wN cI (gt 26) (gt 27) (tWrs t))] rfl rfl rfl ?_
  refine z_callV0 C [(wN cI (gt 24) (gt 25) (tText t))] [(wSo gt), (wE cI (gE gt 0) (tEd (tSetLog (tSetEds t (z3 (tEd (tSetEds t (z3 (tEd (tSetEds t (z3 u1 (tEd t 1) (tEd t 2))) 0) u2 (tEd (tSetEds t (z3 u1 (tEd t 1) (tEd t 2))) 2))) 0) (tEd (tSetEds t (z3 (tEd (tSetEds t (z3 u1 (tEd t 1) (tEd t 2))) 0) u2 (tEd (tSetEds t (z3 u1 (tEd t 1) (tEd t 2))) 2))) 1) u3)) u4) 0)), (wE cI (gE gt 1) (tEd (tSetLog (tSetEds t (z3 (tEd (tSetEds t (z3 (tEd (tSetEds t (z3 u1 (tEd t 1) (tEd t 2))) 0) u2 (tEd (tSetEds t (z3 u1 (tEd t 1) (tEd t 2))) 2))) 0) (tEd (tSetEds t (z3 (tEd (tSetEds t (z3 u1 (tEd t 1) (tEd t 2))) 0) u2 (tEd (tSetEds t (z3 u1 (tEd t 1) (tEd t 2))) 2))) 1) u3)) u4) 1)), (wE cI (gE gt 2) (tEd (tSetLog (tSetEds t (z3 (tEd (tSetEds t (z3 (tEd (tSetEds t (z3 u1 (tEd t 1) (tEd t 2))) 0) u2 (tEd (tSetEds t (z3 u1 (tEd t 1) (tEd t 2))) 2))) 0) (tEd (tSetEds t (z3 (tEd (tSetEds t (z3 u1 (tEd t 1) (tEd t 2))) 0) u2 (tEd (tSetEds t (z3 u1 (tEd t 1) (tEd t 2))) 2))) 1) u3)) u4) 2)), (wN cI (gt 22) (gt 23) u4), (wN cI (gt 26) (gt 27) (tWrs t))] rfl rfl (met_X4_empty l D cI (gt 24) (gt 25) (tText t) _ hw) y_X4_empty mw_18_12 dX5_begin_32 rfl n_X4_empty rfl (by decide) ⟨rfl, rfl, Nat.le_of_ble_eq_true rfl, Nat.le_of_ble_eq_true rfl⟩ (Nat.le_of_ble_eq_true rfl) (z_pm [5, 0, 1, 2, 3, 4, 6] 7 rfl (by decide) rfl) ?_
  intro u5 hw
  try dsimp only at hw
  refine z_bs [(wN cI (gt 24) (gt 25) u5), (wSo gt), (wE cI (gE gt 0) (tEd (tSetLog (tSetEds t (z3 (tEd (tSetEds t (z3 (tEd (tSetEds t (z3 u1 (tEd t 1) (tEd t 2))) 0) u2 (tEd (tSetEds t (z3 u1 (tEd t 1) (tEd t 2))) 2))) 0) (tEd (tSetEds t (z3 (tEd (tSetEds t (z3 u1 (tEd t 1) (tEd t 2))) 0) u2 (tEd (tSetEds t (z3 u1 (tEd t 1) (tEd t 2))) 2))) 1) u3)) u4) 0)), (wE cI (gE gt 1) (tEd (tSetLog (tSetEds t (z3 (tEd (tSetEds t (z3 (tEd (tSetEds t (z3 u1 (tEd t 1) (tEd t 2))) 0) u2 (tEd (tSetEds t (z3 u1 (tEd t 1) (tEd t 2))) 2))) 0) (tEd (tSetEds t (z3 (tEd (tSetEds t (z3 u1 (tEd t 1) (tEd t 2))) 0) u2 (tEd (tSetEds t (z3 u1 (tEd t 1) (tEd t 2))) 2))) 1) u3)) u4) 1)), (wE cI (gE gt 2) (tEd (tSetLog (tSetEds t (z3 (tEd (tSetEds t (z3 (tEd (tSetEds t (z3 u1 (tEd t 1) (tEd t 2))) 0) u2 (tEd (tSetEds t (z3 u1 (tEd t 1) (tEd t 2))) 2))) 0) (tEd (tSetEds t (z3 (tEd (tSetEds t (z3 u1 (tEd t 1) (tEd t 2))) 0) u2 (tEd (tSetEds t (z3 u1 (tEd t 1) (tEd t 2))) 2))) 1) u3)) u4) 2)), (wN cI (gt 22) (gt 23) u4), (wN cI (gt 26) (gt 27) (tWrs t))] [] rfl rfl ?_
  refine z_perm C [(wSo gt), (wE cI (gE gt 0) (tEd (tSetLog (tSetEds t (z3 (tEd (tSetEds t (z3 (tEd (tSetEds t (z3 u1 (tEd t 1) (tEd t 2))) 0) u2 (tEd (tSetEds t (z3 u1 (tEd t 1) (tEd t 2))) 2))) 0) (tEd (tSetEds t (z3 (tEd (tSetEds t (z3 u1 (tEd t 1) (tEd t 2))) 0) u2 (tEd (tSetEds t (z3 u1 (tEd t 1) (tEd t 2))) 2))) 1) u3)) u4) 0)), (wE cI (gE gt 1) (tEd (tSetLog (tSetEds t (z3 (tEd (tSetEds t (z3 (tEd (tSetEds t (z3 u1 (tEd t 1) (tEd t 2))) 0) u2 (tEd (tSetEds t (z3 u1 (tEd t 1) (tEd t 2))) 2))) 0) (tEd (tSetEds t (z3 (tEd (tSetEds t (z3 u1 (tEd t 1) (tEd t 2))) 0) u2 (tEd (tSetEds t (z3 u1 (tEd t 1) (tEd t 2))) 2))) 1) u3)) u4) 1)), (wE cI (gE gt 2) (tEd (tSetLog (tSetEds t (z3 (tEd (tSetEds t (z3 (tEd (tSetEds t (z3 u1 (tEd t 1) (tEd t 2))) 0) u2 (tEd (tSetEds t (z3 u1 (tEd t 1) (tEd t 2))) 2))) 0) (tEd (tSetEds t (z3 (tEd (tSetEds t (z3 u1 (tEd t 1) (tEd t 2))) 0) u2 (tEd (tSetEds t (z3 u1 (tEd t 1) (tEd t 2))) 2))) 1) u3)) u4) 2)), (wN cI (gt 22) (gt 23) u4), (wN cI (gt 24) (gt 25) u5), (wN cI (gt 26) (gt 27) (tWrs t))] (z_pm [1, 2, 3, 4, 5, 0, 6] 7 rfl (by decide) rfl) ?_
  refine z_shut 0 [(wSo gt), (wE cI (gE gt 0) (tEd (tSetLog (tSetEds t (z3 (tEd (tSetEds t (z3 (tEd (tSetEds t (z3 u1 (tEd t 1) (tEd t 2))) 0) u2 (tEd (tSetEds t (z3 u1 (tEd t 1) (tEd t 2))) 2))) 0) (tEd (tSetEds t (z3 (tEd (tSetEds t (z3 u1 (tEd t 1) (tEd t 2))) 0) u2 (tEd (tSetEds t (z3 u1 (tEd t 1) (tEd t 2))) 2))) 1) u3)) u4) 0)), (wE cI (gE gt 1) (tEd (tSetLog (tSetEds t (z3 (tEd (tSetEds t (z3 (tEd (tSetEds t (z3 u1 (tEd t 1) (tEd t 2))) 0) u2 (tEd (tSetEds t (z3 u1 (tEd t 1) (tEd t 2))) 2))) 0) (tEd (tSetEds t (z3 (tEd (tSetEds t (z3 u1 (tEd t 1) (tEd t 2))) 0) u2 (tEd (tSetEds t (z3 u1 (tEd t 1) (tEd t 2))) 2))) 1) u3)) u4) 1)), (wE cI (gE gt 2) (tEd (tSetLog (tSetEds t (z3 (tEd (tSetEds t (z3 (tEd (tSetEds t (z3 u1 (tEd t 1) (tEd t 2))) 0) u2 (tEd (tSetEds t (z3 u1 (tEd t 1) (tEd t 2))) 2))) 0) (tEd (tSetEds t (z3 (tEd (tSetEds t (z3 u1 (tEd t 1) (tEd t 2))) 0) u2 (tEd (tSetEds t (z3 u1 (tEd t 1) (tEd t 2))) 2))) 1) u3)) u4) 2)), (wN cI (gt 22) (gt 23) u4), (wN cI (gt 24) (gt 25) u5), (wN cI (gt 26) (gt 27) (tWrs t))] [(wS cI gt (tSetText (tSetLog (tSetEds t (z3 (tEd (tSetEds t (z3 (tEd (tSetEds t (z3 u1 (tEd t 1) (tEd t 2))) 0) u2 (tEd (tSetEds t (z3 u1 (tEd t 1) (tEd t 2))) 2))) 0) (tEd (tSetEds t (z3 (tEd (tSetEds t (z3 u1 (tEd t 1) (tEd t 2))) 0) u2 (tEd (tSetEds t (z3 u1 (tEd t 1) (tEd t 2))) 2))) 1) u3)) u4) u5))] rfl rfl rfl ?_
  refine z_aload_n C dX5_begin_35 rfl ?_
  refine z_get C inlX5 rfl 5 (by decide) mw_2_18 dX5_begin_36 0 0 rfl rfl rfl ?_
  refine z_open 0 [(wSo gt), (wE cI (gE gt 0) (tEd (tSetText (tSetLog (tSetEds t (z3 (tEd (tSetEds t (z3 (tEd (tSetEds t (z3 u1 (tEd t 1) (tEd t 2))) 0) u2 (tEd (tSetEds t (z3 u1 (tEd t 1) (tEd t 2))) 2))) 0) (tEd (tSetEds t (z3 (tEd (tSetEds t (z3 u1 (tEd t 1) (tEd t 2))) 0) u2 (tEd (tSetEds t (z3 u1 (tEd t 1) (tEd t 2))) 2))) 1) u3)) u4) u5) 0)), (wE cI (gE gt 1) (tEd (tSetText (tSetLog (tSetEds t (z3 (tEd (tSetEds t (z3 (tEd (tSetEds t (z3 u1 (tEd t 1) (tEd t 2))) 0) u2 (tEd (tSetEds t (z3 u1 (tEd t 1) (tEd t 2))) 2))) 0) (tEd (tSetEds t (z3 (tEd (tSetEds t (z3 u1 (tEd t 1) (tEd t 2))) 0) u2 (tEd (tSetEds t (z3 u1 (tEd t 1) (tEd t 2))) 2))) 1) u3)) u4) u5) 1)), (wE cI (gE gt 2) (tEd (tSetText (tSetLog (tSetEds t (z3 (tEd (tSetEds t (z3 (tEd (tSetEds t (z3 u1 (tEd t 1) (tEd t 2))) 0) u2 (tEd (tSetEds t (z3 u1 (tEd t 1) (tEd t 2))) 2))) 0) (tEd (tSetEds t (z3 (tEd (tSetEds t (z3 u1 (tEd t 1) (tEd t 2))) 0) u2 (tEd (tSetEds t (z3 u1 (tEd t 1) (tEd t 2))) 2))) 1) u3)) u4) u5) 2)), (wN cI (gt 22) (gt 23) u4), (wN cI (gt 24) (gt 25) u5), (wN cI (gt 26) (gt 27) (tWrs t))] [(wSo gt), (wE cI (gE gt 0) (tEd (tSetText (tSetLog (tSetEds t (z3 (tEd (tSetEds t (z3 (tEd (tSetEds t (z3 u1 (tEd t 1) (tEd t 2))) 0) u2 (tEd (tSetEds t (z3 u1 (tEd t 1) (tEd t 2))) 2))) 0) (tEd (tSetEds t (z3 (tEd (tSetEds t (z3 u1 (tEd t 1) (tEd t 2))) 0) u2 (tEd (tSetEds t (z3 u1 (tEd t 1) (tEd t 2))) 2))) 1) u3)) u4) u5) 0)), (wE cI (gE gt 1) (tEd (tSetText (tSetLog (tSetEds t (z3 (tEd (tSetEds t (z3 (tEd (tSetEds t (z3 u1 (tEd t 1) (tEd t 2))) 0) u2 (tEd (tSetEds t (z3 u1 (tEd t 1) (tEd t 2))) 2))) 0) (tEd (tSetEds t (z3 (tEd (tSetEds t (z3 u1 (tEd t 1) (tEd t 2))) 0) u2 (tEd (tSetEds t (z3 u1 (tEd t 1) (tEd t 2))) 2))) 1) u3)) u4) u5) 1)), (wE cI (gE gt 2) (tEd (tSetText (tSetLog (tSetEds t (z3 (tEd (tSetEds t (z3 (tEd (tSetEds t (z3 u1 (tEd t 1) (tEd t 2))) 0) u2 (tEd (tSetEds t (z3 u1 (tEd t 1) (tEd t 2))) 2))) 0) (tEd (tSetEds t (z3 (tEd (tSetEds t (z3 u1 (tEd t 1) (tEd t 2))) 0) u2 (tEd (tSetEds t (z3 u1 (tEd t 1) (tEd t 2))) 2))) 1) u3)) u4) u5) 2)), (wN cI (gt 22) (gt 23) u4), (wN cI (gt 24) (gt 25) u5), (wN cI (gt 26) (gt 27) (tWrs t))] rfl rfl rfl ?_
  refine z_callV0 C [(wN cI (gt 26) (gt 27) (tWrs t))] [(wSo gt), (wE cI (gE gt 0) (tEd (tSetText (tSetLog (tSetEds t (z3 (tEd (tSetEds t (z3 (tEd (tSetEds t (z3 u1 (tEd t 1) (tEd t 2))) 0) u2 (tEd (tSetEds t (z3 u1 (tEd t 1) (tEd t 2))) 2))) 0) (tEd (tSetEds t (z3 (tEd (tSetEds t (z3 u1 (tEd t 1) (tEd t 2))) 0) u2 (tEd (tSetEds t (z3 u1 (tEd t 1) (tEd t 2))) 2))) 1) u3)) u4) u5) 0)), (wE cI (gE gt 1) (tEd (tSetText (tSetLog (tSetEds t (z3 (tEd (tSetEds t (z3 (tEd (tSetEds t (z3 u1 (tEd t 1) (tEd t 2))) 0) u2 (tEd (tSetEds t (z3 u1 (tEd t 1) (tEd t 2))) 2))) 0) (tEd (tSetEds t (z3 (tEd (tSetEds t (z3 u1 (tEd t 1) (tEd t 2))) 0) u2 (tEd (tSetEds t (z3 u1 (tEd t 1) (tEd t 2))) 2))) 1) u3)) u4) u5) 1)), (wE cI (gE gt 2) (tEd (tSetText (tSetLog (tSetEds t (z3 (tEd (tSetEds t (z3 (tEd (tSetEds t (z3 u1 (tEd t 1) (tEd t 2))) 0) u2 (tEd (tSetEds t (z3 u1 (tEd t 1) (tEd t 2))) 2))) 0) (tEd (tSetEds t (z3 (tEd (tSetEds t (z3 u1 (tEd t 1) (tEd t 2))) 0) u2 (tEd (tSetEds t (z3 u1 (tEd t 1) (tEd t 2))) 2))) 1) u3)) u4) u5) 2)), (wN cI (gt 22) (gt 23) u4), (wN cI (gt 24) (gt 25) u5)] rfl rfl (met_X4_empty l D cI (gt 26) (gt 27) (tWrs t) _ hw) y_X4_empty mw_18_12 dX5_begin_39 rfl n_X4_empty rfl (by decide) ⟨rfl, rfl, Nat.le_of_ble_eq_true rfl, Nat.le_of_ble_eq_true rfl⟩ (Nat.le_of_ble_eq_true rfl) (z_pm [6, 0, 1, 2, 3, 4, 5] 7 rfl (by decide) rfl) ?_
  intro u6 hw
  try dsimp only at hw
  refine z_bs [(wN cI (gt 26) (gt 27) u6), (wSo gt), (wE cI (gE gt 0) (tEd (tSetText (tSetLog (tSetEds t (z3 (tEd (tSetEds t (z3 (tEd (tSetEds t (z3 u1 (tEd t 1) (tEd t 2))) 0) u2 (tEd (tSetEds t (z3 u1 (tEd t 1) (tEd t 2))) 2))) 0) (tEd (tSetEds t (z3 (tEd (tSetEds t (z3 u1 (tEd t 1) (tEd t 2))) 0) u2 (tEd (tSetEds t (z3 u1 (tEd t 1) (tEd t 2))) 2))) 1) u3)) u4) u5) 0)), (wE cI (gE gt 1) (tEd (tSetText (tSetLog (tSetEds t (z3 (tEd (tSetEds t (z3 (tEd (tSetEds t (z3 u1 (tEd t 1) (tEd t 2))) 0) u2 (tEd (tSetEds t (z3 u1 (tEd t 1) (tEd t 2))) 2))) 0) (tEd (tSetEds t (z3 (tEd (tSetEds t (z3 u1 (tEd t 1) (tEd t 2))) 0) u2 (tEd (tSetEds t (z3 u1 (tEd t 1) (tEd t 2))) 2))) 1) u3)) u4) u5) 1)), (wE cI (gE gt 2) (tEd (tSetText (tSetLog (tSetEds t (z3 (tEd (tSetEds t (z3 (tEd (tSetEds t (z3 u1 (tEd t 1) (tEd t 2))) 0) u2 (tEd (tSetEds t (z3 u1 (tEd t 1) (tEd t 2))) 2))) 0) (tEd (tSetEds t (z3 (tEd (tSetEds t (z3 u1 (tEd t 1) (tEd t 2))) 0) u2 (tEd (tSetEds t (z3 u1 (tEd t 1) (tEd t 2))) 2))) 1) u3)) u4) u5) 2)), (wN cI (gt 22) (gt 23) u4), (wN cI (gt 24) (gt 25) u5)] [] rfl rfl ?_
  refine z_perm C [(wSo gt), (wE cI (gE gt 0) (tEd (tSetText (tSetLog (tSetEds t (z3 (tEd (tSetEds t (z3 (tEd (tSetEds t (z3 u1 (tEd t 1) (tEd t 2))) 0) u2 (tEd (tSetEds t (z3 u1 (tEd t 1) (tEd t 2))) 2))) 0) (tEd (tSetEds t (z3 (tEd (tSetEds t (z3 u1 (tEd t 1) (tEd t 2))) 0) u2 (tEd (tSetEds t (z3 u1 (tEd t 1) (tEd t 2))) 2))) 1) u3)) u4) u5) 0)), (wE cI (gE gt 1) (tEd (tSetText (tSetLog (tSetEds t (z3 (tEd (tSetEds t (z3 (tEd (tSetEds t (z3 u1 (tEd t 1) (tEd t 2))) 0) u2 (tEd (tSetEds t (z3 u1 (tEd t 1) (tEd t 2))) 2))) 0) (tEd (tSetEds t (z3 (tEd (tSetEds t (z3 u1 (tEd t 1) (tEd t 2))) 0) u2 (tEd (tSetEds t (z3 u1 (tEd t 1) (tEd t 2))) 2))) 1) u3)) u4) u5) 1)), (wE cI (gE gt 2) (tEd (tSetText (tSetLog (tSetEds t (z3 (tEd (tSetEds t (z3 (tEd (tSetEds t (z3 u1 (tEd t 1) (tEd t 2))) 0) u2 (tEd (tSetEds t (z3 u1 (tEd t 1) (tEd t 2))) 2))) 0) (tEd (tSetEds t (z3 (tEd (tSetEds t (z3 u1 (tEd t 1) (tEd t 2))) 0) u2 (tEd (tSetEds t (z3 u1 (tEd t 1) (tEd t 2))) 2))) 1) u3)) u4) u5) 2)), (wN cI (gt 22) (gt 23) u4), (wN cI (gt 24) (gt 25) u5), (wN cI (gt 26) (gt 27) u6)] (z_pm [1, 2, 3, 4, 5, 6, 0] 7 rfl (by decide) rfl) ?_
  refine z_shut 0 [(wSo gt), (wE cI (gE gt 0) (tEd (tSetText (tSetLog (tSetEds t (z3 (tEd (tSetEds t (z3 (tEd (tSetEds t (z3 u1 (tEd t 1) (tEd t 2))) 0) u2 (tEd (tSetEds t (z3 u1 (tEd t 1) (tEd t 2))) 2))) 0) (tEd (tSetEds t (z3 (tEd (tSetEds t (z3 u1 (tEd t 1) (tEd t 2))) 0) u2 (tEd (tSetEds t (z3 u1 (tEd t 1) (tEd t 2))) 2))) 1) u3)) u4) u5) 0)), (wE cI (gE gt 1) (tEd (tSetText (tSetLog (tSetEds t (z3 (tEd (tSetEds t (z3 (tEd (tSetEds t (z3 u1 (tEd t 1) (tEd t 2))) 0) u2 (tEd (tSetEds t (z3 u1 (tEd t 1) (tEd t 2))) 2))) 0) (tEd (tSetEds t (z3 (tEd (tSetEds t (z3 u1 (tEd t 1) (tEd t 2))) 0) u2 (tEd (tSetEds t (z3 u1 (tEd t 1) (tEd t 2))) 2))) 1) u3)) u4) u5) 1)), (wE cI (gE gt 2) (tEd (tSetText (tSetLog (tSetEds t (z3 (tEd (tSetEds t (z3 (tEd (tSetEds t (z3 u1 (tEd t 1) (tEd t 2))) 0) u2 (tEd (tSetEds t (z3 u1 (tEd t 1) (tEd t 2))) 2))) 0) (tEd (tSetEds t (z3 (tEd (tSetEds t (z3 u1 (tEd t 1) (tEd t 2))) 0) u2 (tEd (tSetEds t (z3 u1 (tEd t 1) (tEd t 2))) 2))) 1) u3)) u4) u5) 2)), (wN cI (gt 22) (gt 23) u4), (wN cI (gt 24) (gt 25) u5), (wN cI (gt 26) (gt 27) u6)] [(wS cI gt (tSetWrs (tSetText (tSetLog (tSetEds t (z3 (tEd (tSetEds t (z3 (tEd (tSetEds t (z3 u1 (tEd t 1) (tEd t 2))) 0) u2 (tEd (tSetEds t (z3 u1 (tEd t 1) (tEd t 2))) 2))) 0) (tEd (tSetEds t (z3 (tEd (tSetEds t (z3 u1 (tEd t 1) (tEd t 2))) 0) u2 (tEd (tSetEds t (z3 u1 (tEd t 1) (tEd t 2))) 2))) 1) u3)) u4) u5) u6))] rfl rfl rfl ?_
  exact z_vret C rfl ((tSetWrs (tSetText (tSetLog (tSetEds t (z3 (tEd (tSetEds t (z3 (tEd (tSetEds t (z3 u1 (tEd t 1) (tEd t 2))) 0) u2 (tEd (tSetEds t (z3 u1 (tEd t 1) (tEd t 2))) 2))) 0) (tEd (tSetEds t (z3 (tEd (tSetEds t (z3 u1 (tEd t 1) (tEd t 2))) 0) u2 (tEd (tSetEds t (z3 u1 (tEd t 1) (tEd t 2))) 2))) 1) u3)) u4) u5) u6)) rfl hw rfl dX5_begin_42
def rmX5_copyState : Room := { frames := 3, cells := 0, slots := 0, locals := 68 }
def wp_X5_copyState (t : zT) (o : zT)  (Q : zT → Prop) : Prop := (wp_X2_copyEditor (tEd t 0) (tEd o 0) (fun u1 => (wp_X2_copyEditor (tEd (tSetEds t (z3 u1 (tEd t 1) (tEd t 2))) 1) (tEd o 1) (fun u2 => (wp_X2_copyEditor (tEd (tSetEds t (z3 (tEd (tSetEds t (z3 u1 (tEd t 1) (tEd t 2))) 0) u2 (tEd (tSetEds t (z3 u1 (tEd t 1) (tEd t 2))) 2))) 2) (tEd o 2) (fun u3 => (wp_X4_copyNumbers (tLog t) (tLog o) (fun u4 => (wp_X4_copyNumbers (tText t) (tText o) (fun u5 => (wp_X4_copyNumbers (tWrs t) (tWrs o) (fun u6 => (Q (tSetWrs (tSetText (tSetLog (tSetEds t (z3 (tEd (tSetEds t (z3 (tEd (tSetEds t (z3 u1 (tEd t 1) (tEd t 2))) 0) u2 (tEd (tSetEds t (z3 u1 (tEd t 1) (tEd t 2))) 2))) 0) (tEd (tSetEds t (z3 (tEd (tSetEds t (z3 u1 (tEd t 1) (tEd t 2))) 0) u2 (tEd (tSetEds t (z3 u1 (tEd t 1) (tEd t 2))) 2))) 1) u3)) u4) u5) u6))))))))))))))
set_option maxHeartbeats 4000000 in
set_option maxRecDepth 100000 in
theorem met_X5_copyState (l : Launch) (D : va_G) (cI : ClassId) (gt : Nat → Nat) (go : Nat → Nat) (t : zT) (o : zT)  (Q : zT → Prop) (hw : wp_X5_copyState t o Q) : ZM l D cI yX5_copyState cX5_copyState 2 none rmX5_copyState [.ref (gt 0), .ref (go 0)] [(wS cI gt t), (wS cI go o)] (fun _ : zT => none) (fun u : zT => [(wS cI gt u), (wS cI go o)]) (fun u : zT => Q u) := by
  refine z_body [some (.ref (gt 0)), some (.ref (go 0))] (by decide +kernel) rfl (Nat.le_of_ble_eq_true rfl) rfl ?_
  intro p e s m args below meth c A C hin
  unfold wp_X5_copyState at hw
  refine z_aload_n C dX5_copyState_0 rfl ?_
  refine z_get C inlX5 rfl 0 (by decide) mw_2_10 dX5_copyState_1 0 0 rfl rfl rfl ?_
  refine z_aload_n C dX5_copyState_4 rfl ?_
  refine z_get C inlX5 rfl 0 (by decide) mw_2_10 dX5_copyState_5 1 0 rfl rfl rfl ?_
  refine z_open 0 [(wSo gt), (wE cI (gE gt 0) (tEd t 0)), (wE cI (gE gt 1) (tEd t 1)), (wE cI (gE gt 2) (tEd t 2)), (wN cI (gt 22) (gt 23) (tLog t)), (wN cI (gt 24) (gt 25) (tText t)), (wN cI (gt 26) (gt 27) (tWrs t))] [(wSo gt), (wE cI (gE gt 0) (tEd t 0)), (wE cI (gE gt 1) (tEd t 1)), (wE cI (gE gt 2) (tEd t 2)), (wN cI (gt 22) (gt 23) (tLog t)), (wN cI (gt 24) (gt 25) (tText t)), (wN cI (gt 26) (gt 27) (tWrs t)), (wS cI go o)] rfl rfl rfl ?_
  refine z_open 7 [(wSo go), (wE cI (gE go 0) (tEd o 0)), (wE cI (gE go 1) (tEd o 1)), (wE cI (gE go 2) (tEd o 2)), (wN cI (go 22) (go 23) (tLog o)), (wN cI (go 24) (go 25) (tText o)), (wN cI (go 26) (go 27) (tWrs o))] [(wSo gt), (wE cI (gE gt 0) (tEd t 0)), (wE cI (gE gt 1) (tEd t 1)), (wE cI (gE gt 2) (tEd t 2)), (wN cI (gt 22) (gt 23) (tLog t)), (wN cI (gt 24) (gt 25) (tText t)), (wN cI (gt 26) (gt 27) (tWrs t)), (wSo go), (wE cI (gE go 0) (tEd o 0)), (wE cI (gE go 1) (tEd o 1)), (wE cI (gE go 2) (tEd o 2)), (wN cI (go 22) (go 23) (tLog o)), (wN cI (go 24) (go 25) (tText o)), (wN cI (go 26) (go 27) (tWrs o))] rfl rfl rfl ?_
  refine z_callV0 C [(wE cI (gE gt 0) (tEd t 0)), (wE cI (gE go 0) (tEd o 0))] [(wSo gt), (wE cI (gE gt 1) (tEd t 1)), (wE cI (gE gt 2) (tEd t 2)), (wN cI (gt 22) (gt 23) (tLog t)), (wN cI (gt 24) (gt 25) (tText t)), (wN cI (gt 26) (gt 27) (tWrs t)), (wSo go), (wE cI (gE go 1) (tEd o 1)), (wE cI (gE go 2) (tEd o 2)), (wN cI (go 22) (go 23) (tLog o)), (wN cI (go 24) (go 25) (tText o)), (wN cI (go 26) (go 27) (tWrs o))] rfl rfl (met_X2_copyEditor l D cI (gE gt 0) (gE go 0) (tEd t 0) (tEd o 0) _ hw) y_X2_copyEditor mw_5_15 dX5_copyState_8 rfl n_X2_copyEditor rfl (by decide) ⟨rfl, rfl, Nat.le_of_ble_eq_true rfl, Nat.le_of_ble_eq_true rfl⟩ (Nat.le_of_ble_eq_true rfl) (z_pm [1, 8, 0, 2, 3, 4, 5, 6, 7, 9, 10, 11, 12, 13] 14 rfl (by decide) rfl) ?_
  intro u1 hw
  try dsimp only at hw
  refine z_bs [(wE cI (gE gt 0) u1), (wE cI (gE go 0) (tEd o 0)), (wSo gt), (wE cI (gE gt 1) (tEd t 1)), (wE cI (gE gt 2) (tEd t 2)), (wN cI (gt 22) (gt 23) (tLog t)), (wN cI (gt 24) (gt 25) (tText t)), (wN cI (gt 26) (gt 27) (tWrs t)), (wSo go), (wE cI (gE go 1) (tEd o 1)), (wE cI (gE go 2) (tEd o 2)), (wN cI (go 22) (go 23) (tLog o)), (wN cI (go 24) (go 25) (tText o)), (wN cI (go 26) (go 27) (tWrs o))] [] rfl rfl ?_
  refine z_perm C [(wSo gt), (wE cI (gE gt 0) u1), (wE cI (gE gt 1) (tEd t 1)), (wE cI (gE gt 2) (tEd t 2)), (wN cI (gt 22) (gt 23) (tLog t)), (wN cI (gt 24) (gt 25) (tText t)), (wN cI (gt 26) (gt 27) (tWrs t)), (wSo go), (wE cI (gE go 0) (tEd o 0)), (wE cI (gE go 1) (tEd o 1)), (wE cI (gE go 2) (tEd o 2)), (wN cI (go 22) (go 23) (tLog o)), (wN cI (go 24) (go 25) (tText o)), (wN cI (go 26) (go 27) (tWrs o))] (z_pm [2, 0, 3, 4, 5, 6, 7, 8, 1, 9, 10, 11, 12, 13] 14 rfl (by decide) rfl) ?_
  refine z_shut 7 [(wSo go), (wE cI (gE go 0) (tEd o 0)), (wE cI (gE go 1) (tEd o 1)), (wE cI (gE go 2) (tEd o 2)), (wN cI (go 22) (go 23) (tLog o)), (wN cI (go 24) (go 25) (tText o)), (wN cI (go 26) (go 27) (tWrs o))] [(wSo gt), (wE cI (gE gt 0) u1), (wE cI (gE gt 1) (tEd t 1)), (wE cI (gE gt 2) (tEd t 2)), (wN cI (gt 22) (gt 23) (tLog t)), (wN cI (gt 24) (gt 25) (tText t)), (wN cI (gt 26) (gt 27) (tWrs t)), (wS cI go o)] rfl rfl rfl ?_
  refine z_shut 0 [(wSo gt), (wE cI (gE gt 0) u1), (wE cI (gE gt 1) (tEd t 1)), (wE cI (gE gt 2) (tEd t 2)), (wN cI (gt 22) (gt 23) (tLog t)), (wN cI (gt 24) (gt 25) (tText t)), (wN cI (gt 26) (gt 27) (tWrs t))] [(wS cI gt (tSetEds t (z3 u1 (tEd t 1) (tEd t 2)))), (wS cI go o)] rfl rfl rfl ?_
  refine z_aload_n C dX5_copyState_11 rfl ?_
  refine z_get C inlX5 rfl 1 (by decide) mw_2_11 dX5_copyState_12 0 0 rfl rfl rfl ?_
  refine z_aload_n C dX5_copyState_15 rfl ?_
  refine z_get C inlX5 rfl 1 (by decide) mw_2_11 dX5_copyState_16 1 0 rfl rfl rfl ?_
  refine z_open 0 [(wSo gt), (wE cI (gE gt 0) (tEd (tSetEds t (z3 u1 (tEd t 1) (tEd t 2))) 0)), (wE cI (gE gt 1) (tEd (tSetEds t (z3 u1 (tEd t 1) (tEd t 2))) 1)), (wE cI (gE gt 2) (tEd (tSetEds t (z3 u1 (tEd t 1) (tEd t 2))) 2)), (wN cI (gt 22) (gt 23) (tLog t)), (wN cI (gt 24) (gt 25) (tText t)), (wN cI (gt 26) (gt 27) (tWrs t))] [(wSo gt), (wE cI (gE gt 0) (tEd (tSetEds t (z3 u1 (tEd t 1) (tEd t 2))) 0)), (wE cI (gE gt 1) (tEd (tSetEds t (z3 u1 (tEd t 1) (tEd t 2))) 1)), (wE cI (gE gt 2) (tEd (tSetEds t (z3 u1 (tEd t 1) (tEd t 2))) 2)), (wN cI (gt 22) (gt 23) (tLog t)), (wN cI (gt 24) (gt 25) (tText t)), (wN cI (gt 26) (gt 27) (tWrs t)), (wS cI go o)] rfl rfl rfl ?_
  refine z_open 7 [(wSo go), (wE cI (gE go 0) (tEd o 0)), (wE cI (gE go 1) (tEd o 1)), (wE cI (gE go 2) (tEd o 2)), (wN cI (go 22) (go 23) (tLog o)), (wN cI (go 24) (go 25) (tText o)), (wN cI (go 26) (go 27) (tWrs o))] [(wSo gt), (wE cI (gE gt 0) (tEd (tSetEds t (z3 u1 (tEd t 1) (tEd t 2))) 0)), (wE cI (gE gt 1) (tEd (tSetEds t (z3 u1 (tEd t 1) (tEd t 2))) 1)), (wE cI (gE gt 2) (tEd (tSetEds t (z3 u1 (tEd t 1) (tEd t 2))) 2)), (wN cI (gt 22) (gt 23) (tLog t)), (wN cI (gt 24) (gt 25) (tText t)), (wN cI (gt 26) (gt 27) (tWrs t)), (wSo go), (wE cI (gE go 0) (tEd o 0)), (wE cI (gE go 1) (tEd o 1)), (wE cI (gE go 2) (tEd o 2)), (wN cI (go 22) (go 23) (tLog o)), (wN cI (go 24) (go 25) (tText o)), (wN cI (go 26) (go 27) (tWrs o))] rfl rfl rfl ?_
  refine z_callV0 C [(wE cI (gE gt 1) (tEd (tSetEds t (z3 u1 (tEd t 1) (tEd t 2))) 1)), (wE cI (gE go 1) (tEd o 1))] [(wSo gt), (wE cI (gE gt 0) (tEd (tSetEds t (z3 u1 (tEd t 1) (tEd t 2))) 0)), (wE cI (gE gt 2) (tEd (tSetEds t (z3 u1 (tEd t 1) (tEd t 2))) 2)), (wN cI (gt 22) (gt 23) (tLog t)), (wN cI (gt 24) (gt 25) (tText t)), (wN cI (gt 26) (gt 27) (tWrs t)), (wSo go), (wE cI (gE go 0) (tEd o 0)), (wE cI (gE go 2) (tEd o 2)), (wN cI (go 22) (go 23) (tLog o)), (wN cI (go 24) (go 25) (tText o)), (wN cI (go 26) (go 27) (tWrs o))] rfl rfl (met_X2_copyEditor l D cI (gE gt 1) (gE go 1) (tEd (tSetEds t (z3 u1 (tEd t 1) (tEd t 2))) 1) (tEd o 1) _ hw) y_X2_copyEditor mw_5_15 dX5_copyState_19 rfl n_X2_copyEditor rfl (by decide) ⟨rfl, rfl, Nat.le_of_ble_eq_true rfl, Nat.le_of_ble_eq_true rfl⟩ (Nat.le_of_ble_eq_true rfl) (z_pm [2, 9, 0, 1, 3, 4, 5, 6, 7, 8, 10, 11, 12, 13] 14 rfl (by decide) rfl) ?_
  intro u2 hw
  try dsimp only at hw
  refine z_bs [(wE cI (gE gt 1) u2), (wE cI (gE go 1) (tEd o 1)), (wSo gt), (wE cI (gE gt 0) (tEd (tSetEds t (z3 u1 (tEd t 1) (tEd t 2))) 0)), (wE cI (gE gt 2) (tEd (tSetEds t (z3 u1 (tEd t 1) (tEd t 2))) 2)), (wN cI (gt 22) (gt 23) (tLog t)), (wN cI (gt 24) (gt 25) (tText t)), (wN cI (gt 26) (gt 27) (tWrs t)), (wSo go), (wE cI (gE go 0) (tEd o 0)), (wE cI (gE go 2) (tEd o 2)), (wN cI (go 22) (go 23) (tLog o)), (wN cI (go 24) (go 25) (tText o)), (wN cI (go 26) (go 27) (tWrs o))] [] rfl rfl ?_
  refine z_perm C [(wSo gt), (wE cI (gE gt 0) (tEd (tSetEds t (z3 u1 (tEd t 1) (tEd t 2))) 0)), (wE cI (gE gt 1) u2), (wE cI (gE gt 2) (tEd (tSetEds t (z3 u1 (tEd t 1) (tEd t 2))) 2)), (wN cI (gt 22) (gt 23) (tLog t)), (wN cI (gt 24) (gt 25) (tText t)), (wN cI (gt 26) (gt 27) (tWrs t)), (wSo go), (wE cI (gE go 0) (tEd o 0)), (wE cI (gE go 1) (tEd o 1)), (wE cI (gE go 2) (tEd o 2)), (wN cI (go 22) (go 23) (tLog o)), (wN cI (go 24) (go 25) (tText o)), (wN cI (go 26) (go 27) (tWrs o))] (z_pm [2, 3, 0, 4, 5, 6, 7, 8, 9, 1, 10, 11, 12, 13] 14 rfl (by decide) rfl) ?_
  refine z_shut 7 [(wSo go), (wE cI (gE go 0) (tEd o 0)), (wE cI (gE go 1) (tEd o 1)), (wE cI (gE go 2) (tEd o 2)), (wN cI (go 22) (go 23) (tLog o)), (wN cI (go 24) (go 25) (tText o)), (wN cI (go 26) (go 27) (tWrs o))] [(wSo gt), (wE cI (gE gt 0) (tEd (tSetEds t (z3 u1 (tEd t 1) (tEd t 2))) 0)), (wE cI (gE gt 1) u2), (wE cI (gE gt 2) (tEd (tSetEds t (z3 u1 (tEd t 1) (tEd t 2))) 2)), (wN cI (gt 22) (gt 23) (tLog t)), (wN cI (gt 24) (gt 25) (tText t)), (wN cI (gt 26) (gt 27) (tWrs t)), (wS cI go o)] rfl rfl rfl ?_
  refine z_shut 0 [(wSo gt), (wE cI (gE gt 0) (tEd (tSetEds t (z3 u1 (tEd t 1) (tEd t 2))) 0)), (wE cI (gE gt 1) u2), (wE cI (gE gt 2) (tEd (tSetEds t (z3 u1 (tEd t 1) (tEd t 2))) 2)), (wN cI (gt 22) (gt 23) (tLog t)), (wN cI (gt 24) (gt 25) (tText t)), (wN cI (gt 26) (gt 27) (tWrs t))] [(wS cI gt (tSetEds t (z3 (tEd (tSetEds t (z3 u1 (tEd t 1) (tEd t 2))) 0) u2 (tEd (tSetEds t (z3 u1 (tEd t 1) (tEd t 2))) 2)))), (wS cI go o)] rfl rfl rfl ?_
  refine z_aload_n C dX5_copyState_22 rfl ?_
  refine z_get C inlX5 rfl 2 (by decide) mw_2_12 dX5_copyState_23 0 0 rfl rfl rfl ?_
  refine z_aload_n C dX5_copyState_26 rfl ?_
  refine z_get C inlX5 rfl 2 (by decide) mw_2_12 dX5_copyState_27 1 0 rfl rfl rfl ?_
  refine z_open 0 [(wSo gt), (wE cI (gE gt 0) (tEd (tSetEds t (z3 (tEd (tSetEds t (z3 u1 (tEd t 1) (tEd t 2))) 0) u2 (tEd (tSetEds t (z3 u1 (tEd t 1) (tEd t 2))) 2))) 0)), (wE cI (gE gt 1) (tEd (tSetEds t (z3 (tEd (tSetEds t (z3 u1 (tEd t 1) (tEd t 2))) 0) u2 (tEd (tSetEds t (z3 u1 (tEd t 1) (tEd t 2))) 2))) 1)), (wE cI (gE gt 2) (tEd (tSetEds t (z3 (tEd (tSetEds t (z3 u1 (tEd t 1) (tEd t 2))) 0) u2 (tEd (tSetEds t (z3 u1 (tEd t 1) (tEd t 2))) 2))) 2)), (wN cI (gt 22) (gt 23) (tLog t)), (wN cI (gt 24) (gt 25) (tText t)), (wN cI (gt 26) (gt 27) (tWrs t))] [(wSo gt), (wE cI (gE gt 0) (tEd (tSetEds t (z3 (tEd (tSetEds t (z3 u1 (tEd t 1) (tEd t 2))) 0) u2 (tEd (tSetEds t (z3 u1 (tEd t 1) (tEd t 2))) 2))) 0)), (wE cI (gE gt 1) (tEd (tSetEds t (z3 (tEd (tSetEds t (z3 u1 (tEd t 1) (tEd t 2))) 0) u2 (tEd (tSetEds t (z3 u1 (tEd t 1) (tEd t 2))) 2))) 1)), (wE cI (gE gt 2) (tEd (tSetEds t (z3 (tEd (tSetEds t (z3 u1 (tEd t 1) (tEd t 2))) 0) u2 (tEd (tSetEds t (z3 u1 (tEd t 1) (tEd t 2))) 2))) 2)), (wN cI (gt 22) (gt 23) (tLog t)), (wN cI (gt 24) (gt 25) (tText t)), (wN cI (gt 26) (gt 27) (tWrs t)), (wS cI go o)] rfl rfl rfl ?_
  refine z_open 7 [(wSo go), (wE cI (gE go 0) (tEd o 0)), (wE cI (gE go 1) (tEd o 1)), (wE cI (gE go 2) (tEd o 2)), (wN cI (go 22) (go 23) (tLog o)), (wN cI (go 24) (go 25) (tText o)), (wN cI (go 26) (go 27) (tWrs o))] [(wSo gt), (wE cI (gE gt 0) (tEd (tSetEds t (z3 (tEd (tSetEds t (z3 u1 (tEd t 1) (tEd t 2))) 0) u2 (tEd (tSetEds t (z3 u1 (tEd t 1) (tEd t 2))) 2))) 0)), (wE cI (gE gt 1) (tEd (tSetEds t (z3 (tEd (tSetEds t (z3 u1 (tEd t 1) (tEd t 2))) 0) u2 (tEd (tSetEds t (z3 u1 (tEd t 1) (tEd t 2))) 2))) 1)), (wE cI (gE gt 2) (tEd (tSetEds t (z3 (tEd (tSetEds t (z3 u1 (tEd t 1) (tEd t 2))) 0) u2 (tEd (tSetEds t (z3 u1 (tEd t 1) (tEd t 2))) 2))) 2)), (wN cI (gt 22) (gt 23) (tLog t)), (wN cI (gt 24) (gt 25) (tText t)), (wN cI (gt 26) (gt 27) (tWrs t)), (wSo go), (wE cI (gE go 0) (tEd o 0)), (wE cI (gE go 1) (tEd o 1)), (wE cI (gE go 2) (tEd o 2)), (wN cI (go 22) (go 23) (tLog o)), (wN cI (go 24) (go 25) (tText o)), (wN cI (go 26) (go 27) (tWrs o))] rfl rfl rfl ?_
  refine z_callV0 C [(wE cI (gE gt 2) (tEd (tSetEds t (z3 (tEd (tSetEds t (z3 u1 (tEd t 1) (tEd t 2))) 0) u2 (tEd (tSetEds t (z3 u1 (tEd t 1) (tEd t 2))) 2))) 2)), (wE cI (gE go 2) (tEd o 2))] [(wSo gt), (wE cI (gE gt 0) (tEd (tSetEds t (z3 (tEd (tSetEds t (z3 u1 (tEd t 1) (tEd t 2))) 0) u2 (tEd (tSetEds t (z3 u1 (tEd t 1) (tEd t 2))) 2))) 0)), (wE cI (gE gt 1) (tEd (tSetEds t (z3 (tEd (tSetEds t (z3 u1 (tEd t 1) (tEd t 2))) 0) u2 (tEd (tSetEds t (z3 u1 (tEd t 1) (tEd t 2))) 2))) 1)), (wN cI (gt 22) (gt 23) (tLog t)), (wN cI (gt 24) (gt 25) (tText t)), (wN cI (gt 26) (gt 27) (tWrs t)), (wSo go), (wE cI (gE go 0) (tEd o 0)), (wE cI (gE go 1) (tEd o 1)), (wN cI (go 22) (go 23) (tLog o)), (wN cI (go 24) (go 25) (tText o)), (wN cI (go 26) (go 27) (tWrs o))] rfl rfl (met_X2_copyEditor l D cI (gE gt 2) (gE go 2) (tEd (tSetEds t (z3 (tEd (tSetEds t (z3 u1 (tEd t 1) (tEd t 2))) 0) u2 (tEd (tSetEds t (z3 u1 (tEd t 1) (tEd t 2))) 2))) 2) (tEd o 2) _ hw) y_X2_copyEditor mw_5_15 dX5_copyState_30 rfl n_X2_copyEditor rfl (by decide) ⟨rfl, rfl, Nat.le_of_ble_eq_true rfl, Nat.le_of_ble_eq_true rfl⟩ (Nat.le_of_ble_eq_true rfl) (z_pm [3, 10, 0, 1, 2, 4, 5, 6, 7, 8, 9, 11, 12, 13] 14 rfl (by decide) rfl) ?_
  intro u3 hw
  try dsimp only at hw
  refine z_bs [(wE cI (gE gt 2) u3), (wE cI (gE go 2) (tEd o 2)), (wSo gt), (wE cI (gE gt 0) (tEd (tSetEds t (z3 (tEd (tSetEds t (z3 u1 (tEd t 1) (tEd t 2))) 0) u2 (tEd (tSetEds t (z3 u1 (tEd t 1) (tEd t 2))) 2))) 0)), (wE cI (gE gt 1) (tEd (tSetEds t (z3 (tEd (tSetEds t (z3 u1 (tEd t 1) (tEd t 2))) 0) u2 (tEd (tSetEds t (z3 u1 (tEd t 1) (tEd t 2))) 2))) 1)), (wN cI (gt 22) (gt 23) (tLog t)), (wN cI (gt 24) (gt 25) (tText t)), (wN cI (gt 26) (gt 27) (tWrs t)), (wSo go), (wE cI (gE go 0) (tEd o 0)), (wE cI (gE go 1) (tEd o 1)), (wN cI (go 22) (go 23) (tLog o)), (wN cI (go 24) (go 25) (tText o)), (wN cI (go 26) (go 27) (tWrs o))] [] rfl rfl ?_
  refine z_perm C [(wSo gt), (wE cI (gE gt 0) (tEd (tSetEds t (z3 (tEd (tSetEds t (z3 u1 (tEd t 1) (tEd t 2))) 0) u2 (tEd (tSetEds t (z3 u1 (tEd t 1) (tEd t 2))) 2))) 0)), (wE cI (gE gt 1) (tEd (tSetEds t (z3 (tEd (tSetEds t (z3 u1 (tEd t 1) (tEd t 2))) 0) u2 (tEd (tSetEds t (z3 u1 (tEd t 1) (tEd t 2))) 2))) 1)), (wE cI (gE gt 2) u3), (wN cI (gt 22) (gt 23) (tLog t)), (wN cI (gt 24) (gt 25) (tText t)), (wN cI (gt 26) (gt 27) (tWrs t)), (wSo go), (wE cI (gE go 0) (tEd o 0)), (wE cI (gE go 1) (tEd o 1)), (wE cI (gE go 2) (tEd o 2)), (wN cI (go 22) (go 23) (tLog o)), (wN cI (go 24) (go 25) (tText o)), (wN cI (go 26) (go 27) (tWrs o))] (z_pm [2, 3, 4, 0, 5, 6, 7, 8, 9, 10, 1, 11, 12, 13] 14 rfl (by decide) rfl) ?_
  refine z_shut 7 [(wSo go), (wE cI (gE go 0) (tEd o 0)), (wE cI (gE go 1) (tEd o 1)), (wE cI (gE go 2) (tEd o 2)), (wN cI (go 22) (go 23) (tLog o)), (wN cI (go 24) (go 25) (tText o)), (wN cI (go 26) (go 27) (tWrs o))] [(wSo gt), (wE cI (gE gt 0) (tEd (tSetEds t (z3 (tEd (tSetEds t (z3 u1 (tEd t 1) (tEd t 2))) 0) u2 (tEd (tSetEds t (z3 u1 (tEd t 1) (tEd t 2))) 2))) 0)), (wE cI (gE gt 1) (tEd (tSetEds t (z3 (tEd (tSetEds t (z3 u1 (tEd t 1) (tEd t 2))) 0) u2 (tEd (tSetEds t (z3 u1 (tEd t 1) (tEd t 2))) 2))) 1)), (wE cI (gE gt 2) u3), (wN cI (gt 22) (gt 23) (tLog t)), (wN cI (gt 24) (gt 25) (tText t)), (wN cI (gt 26) (gt 27) (tWrs t)), (wS cI go o)] rfl rfl rfl ?_
  refine z_shut 0 [(wSo gt), (wE cI (gE gt 0) (tEd (tSetEds t (z3 (tEd (tSetEds t (z3 u1 (tEd t 1) (tEd t 2))) 0) u2 (tEd (tSetEds t (z3 u1 (tEd t 1) (tEd t 2))) 2))) 0)), (wE cI (gE gt 1) (tEd (tSetEds t (z3 (tEd (tSetEds t (z3 u1 (tEd t 1) (tEd t 2))) 0) u2 (tEd (tSetEds t (z3 u1 (tEd t 1) (tEd t 2))) 2))) 1)), (wE cI (gE gt 2) u3), (wN cI (gt 22) (gt 23) (tLog t)), (wN cI (gt 24) (gt 25) (tText t)), (wN cI (gt 26) (gt 27) (tWrs t))] [(wS cI gt (tSetEds t (z3 (tEd (tSetEds t (z3 (tEd (tSetEds t (z3 u1 (tEd t 1) (tEd t 2))) 0) u2 (tEd (tSetEds t (z3 u1 (tEd t 1) (tEd t 2))) 2))) 0) (tEd (tSetEds t (z3 (tEd (tSetEds t (z3 u1 (tEd t 1) (tEd t 2))) 0) u2 (tEd (tSetEds t (z3 u1 (tEd t 1) (tEd t 2))) 2))) 1) u3))), (wS cI go o)] rfl rfl rfl ?_
  refine z_aload_n C dX5_copyState_33 rfl ?_
  refine z_get C inlX5 rfl 3 (by decide) mw_2_16 dX5_copyState_34 0 0 rfl rfl rfl ?_
  refine z_aload_n C dX5_copyState_37 rfl ?_
  refine z_get C inlX5 rfl 3 (by decide) mw_2_16 dX5_copyState_38 1 0 rfl rfl rfl ?_
  refine z_open 0 [(wSo gt), (wE cI (gE gt 0) (tEd (tSetEds t (z3 (tEd (tSetEds t (z3 (tEd (tSetEds t (z3 u1 (tEd t 1) (tEd t 2))) 0) u2 (tEd (tSetEds t (z3 u1 (tEd t 1) (tEd t 2))) 2))) 0) (tEd (tSetEds t (z3 (tEd (tSetEds t (z3 u1 (tEd t 1) (tEd t 2))) 0) u2 (tEd (tSetEds t (z3 u1 (tEd t 1) (tEd t 2))) 2))) 1) u3)) 0)), (wE cI (gE gt 1) (tEd (tSetEds t (z3 (tEd (tSetEds t (z3 (tEd (tSetEds t (z3 u1 (tEd t 1) (tEd t 2))) 0) u2 (tEd (tSetEds t (z3 u1 (tEd t 1) (tEd t 2))) 2))) 0) (tEd (tSetEds t (z3 (tEd (tSetEds t (z3 u1 (tEd t 1) (tEd t 2))) 0) u2 (tEd (tSetEds t (z3 u1 (tEd t 1) (tEd t 2))) 2))) 1) u3)) 1)), (wE cI (gE gt 2) (tEd (tSetEds t (z3 (tEd (tSetEds t (z3 (tEd (tSetEds t (z3 u1 (tEd t 1) (tEd t 2))) 0) u2 (tEd (tSetEds t (z3 u1 (tEd t 1) (tEd t 2))) 2))) 0) (tEd (tSetEds t (z3 (tEd (tSetEds t (z3 u1 (tEd t 1) (tEd t 2))) 0) u2 (tEd (tSetEds t (z3 u1 (tEd t 1) (tEd t 2))) 2))) 1) u3)) 2)), (wN cI (gt 22) (gt 23) (tLog t)), (wN cI (gt 24) (gt 25) (tText t)), (wN cI (gt 26) (gt 27) (tWrs t))] [(wSo gt), (wE cI (gE gt 0) (tEd (tSetEds t (z3 (tEd (tSetEds t (z3 (tEd (tSetEds t (z3 u1 (tEd t 1) (tEd t 2))) 0) u2 (tEd (tSetEds t (z3 u1 (tEd t 1) (tEd t 2))) 2))) 0) (tEd (tSetEds t (z3 (tEd (tSetEds t (z3 u1 (tEd t 1) (tEd t 2))) 0) u2 (tEd (tSetEds t (z3 u1 (tEd t 1) (tEd t 2))) 2))) 1) u3)) 0)), (wE cI (gE gt 1) (tEd (tSetEds t (z3 (tEd (tSetEds t (z3 (tEd (tSetEds t (z3 u1 (tEd t 1) (tEd t 2))) 0) u2 (tEd (tSetEds t (z3 u1 (tEd t 1) (tEd t 2))) 2))) 0) (tEd (tSetEds t (z3 (tEd (tSetEds t (z3 u1 (tEd t 1) (tEd t 2))) 0) u2 (tEd (tSetEds t (z3 u1 (tEd t 1) (tEd t 2))) 2))) 1) u3)) 1)), (wE cI (gE gt 2) (tEd (tSetEds t (z3 (tEd (tSetEds t (z3 (tEd (tSetEds t (z3 u1 (tEd t 1) (tEd t 2))) 0) u2 (tEd (tSetEds t (z3 u1 (tEd t 1) (tEd t 2))) 2))) 0) (tEd (tSetEds t (z3 (tEd (tSetEds t (z3 u1 (tEd t 1) (tEd t 2))) 0) u2 (tEd (tSetEds t (z3 u1 (tEd t 1) (tEd t 2))) 2))) 1) u3)) 2)), (wN cI (gt 22) (gt 23) (tLog t)), (wN cI (gt 24) (gt 25) (tText t)), (wN cI (gt 26) (gt 27) (tWrs t)), (wS cI go o)] rfl rfl rfl ?_
  refine z_open 7 [(wSo go), (wE cI (gE go 0) (tEd o 0)), (wE cI (gE go 1) (tEd o 1)), (wE cI (gE go 2) (tEd o 2)), (wN cI (go 22) (go 23) (tLog o)), (wN cI (go 24) (go 25) (tText o)), (wN cI (go 26) (go 27) (tWrs o))] [(wSo gt), (wE cI (gE gt 0) (tEd (tSetEds t (z3 (tEd (tSetEds t (z3 (tEd (tSetEds t (z3 u1 (tEd t 1) (tEd t 2))) 0) u2 (tEd (tSetEds t (z3 u1 (tEd t 1) (tEd t 2))) 2))) 0) (tEd (tSetEds t (z3 (tEd (tSetEds t (z3 u1 (tEd t 1) (tEd t 2))) 0) u2 (tEd (tSetEds t (z3 u1 (tEd t 1) (tEd t 2))) 2))) 1) u3)) 0)), (wE cI (gE gt 1) (tEd (tSetEds t (z3 (tEd (tSetEds t (z3 (tEd (tSetEds t (z3 u1 (tEd t 1) (tEd t 2))) 0) u2 (tEd (tSetEds t (z3 u1 (tEd t 1) (tEd t 2))) 2))) 0) (tEd (tSetEds t (z3 (tEd (tSetEds t (z3 u1 (tEd t 1) (tEd t 2))) 0) u2 (tEd (tSetEds t (z3 u1 (tEd t 1) (tEd t 2))) 2))) 1) u3)) 1)), (wE cI (gE gt 2) (tEd (tSetEds t (z3 (tEd (tSetEds t (z3 (tEd (tSetEds t (z3 u1 (tEd t 1) (tEd t 2))) 0) u2 (tEd (tSetEds t (z3 u1 (tEd t 1) (tEd t 2))) 2))) 0) (tEd (tSetEds t (z3 (tEd (tSetEds t (z3 u1 (tEd t 1) (tEd t 2))) 0) u2 (tEd (tSetEds t (z3 u1 (tEd t 1) (tEd t 2))) 2))) 1) u3)) 2)), (wN cI (gt 22) (gt 23) (tLog t)), (wN cI (gt 24) (gt 25) (tText t)), (wN cI (gt 26) (gt 27) (tWrs t)), (wSo go), (wE cI (gE go 0) (tEd o 0)), (wE cI (gE go 1) (tEd o 1)), (wE cI (gE go 2) (tEd o 2)), (wN cI (go 22) (go 23) (tLog o)), (wN cI (go 24) (go 25) (tText o)), (wN cI (go 26) (go 27) (tWrs o))] rfl rfl rfl ?_
  refine z_callV0 C [(wN cI (gt 22) (gt 23) (tLog t)), (wN cI (go 22) (go 23) (tLog o))] [(wSo gt), (wE cI (gE gt 0) (tEd (tSetEds t (z3 (tEd (tSetEds t (z3 (tEd (tSetEds t (z3 u1 (tEd t 1) (tEd t 2))) 0) u2 (tEd (tSetEds t (z3 u1 (tEd t 1) (tEd t 2))) 2))) 0) (tEd (tSetEds t (z3 (tEd (tSetEds t (z3 u1 (tEd t 1) (tEd t 2))) 0) u2 (tEd (tSetEds t (z3 u1 (tEd t 1) (tEd t 2))) 2))) 1) u3)) 0)), (wE cI (gE gt 1) (tEd (tSetEds t (z3 (tEd (tSetEds t (z3 (tEd (tSetEds t (z3 u1 (tEd t 1) (tEd t 2))) 0) u2 (tEd (tSetEds t (z3 u1 (tEd t 1) (tEd t 2))) 2))) 0) (tEd (tSetEds t (z3 (tEd (tSetEds t (z3 u1 (tEd t 1) (tEd t 2))) 0) u2 (tEd (tSetEds t (z3 u1 (tEd t 1) (tEd t 2))) 2))) 1) u3)) 1)), (wE cI (gE gt 2) (tEd (tSetEds t (z3 (tEd (tSetEds t (z3 (tEd (tSetEds t (z3 u1 (tEd t 1) (tEd t 2))) 0) u2 (tEd (tSetEds t (z3 u1 (tEd t 1) (tEd t 2))) 2))) 0) (tEd (tSetEds t (z3 (tEd (tSetEds t (z3 u1 (tEd t 1) (tEd t 2))) 0) u2 (tEd (tSetEds t (z3 u1 (tEd t 1) (tEd t 2))) 2))) 1) u3)) 2)), (wN cI (gt 24) (gt 25) (tText t)), (wN cI (gt 26) (gt 27) (tWrs t)), (wSo go), (wE cI (gE go 0) (tEd o 0)), (wE cI (gE go 1) (tEd o 1)), (wE cI (gE go 2) (tEd o 2)), (wN cI (go 24) (go 25) (tText o)), (wN cI (go 26) (go 27) (tWrs o))] rfl rfl (met_X4_copyNumbers l D cI (gt 22) (gt 23) (go 22) (go 23) (tLog t) (tLog o) _ hw) y_X4_copyNumbers mw_6_6 dX5_copyState_41 rfl n_X4_copyNumbers rfl (by decide) ⟨rfl, rfl, Nat.le_of_ble_eq_true rfl, Nat.le_of_ble_eq_true rfl⟩ (Nat.le_of_ble_eq_true rfl) (z_pm [4, 11, 0, 1, 2, 3, 5, 6, 7, 8, 9, 10, 12, 13] 14 rfl (by decide) rfl) ?_
  intro u4 hw
  try dsimp only at hw
  refine z_bs [(wN cI (gt 22) (gt 23) u4), (wN cI (go 22) (go 23) (tLog o)), (wSo gt), (wE cI (gE gt 0) (tEd (tSetEds t (z3 (tEd (tSetEds t (z3 (tEd (tSetEds t (z3 u1 (tEd t 1) (tEd t 2))) 0) u2 (tEd (tSetEds t (z3 u1 (tEd t 1) (tEd t 2))) 2))) 0) (tEd (tSetEds t (z3 (tEd (tSetEds t (z3 u1 (tEd t 1) (tEd t 2))) 0) u2 (tEd (tSetEds t (z3 u1 (tEd t 1) (tEd t 2))) 2))) 1) u3)) 0)), (wE cI (gE gt 1) (tEd (tSetEds t (z3 (tEd (tSetEds t (z3 (tEd (tSetEds t (z3 u1 (tEd t 1) (tEd t 2))) 0) u2 (tEd (tSetEds t (z3 u1 (tEd t 1) (tEd t 2))) 2))) 0) (tEd (tSetEds t (z3 (tEd (tSetEds t (z3 u1 (tEd t 1) (tEd t 2))) 0) u2 (tEd (tSetEds t (z3 u1 (tEd t 1) (tEd t 2))) 2))) 1) u3)) 1)), (wE cI (gE gt 2) (tEd (tSetEds t (z3 (tEd (tSetEds t (z3 (tEd (tSetEds t (z3 u1 (tEd t 1) (tEd t 2))) 0) u2 (tEd (tSetEds t (z3 u1 (tEd t 1) (tEd t 2))) 2))) 0) (tEd (tSetEds t (z3 (tEd (tSetEds t (z3 u1 (tEd t 1) (tEd t 2))) 0) u2 (tEd (tSetEds t (z3 u1 (tEd t 1) (tEd t 2))) 2))) 1) u3)) 2)), (wN cI (gt 24) (gt 25) (tText t)), (wN cI (gt 26) (gt 27) (tWrs t)), (wSo go), (wE cI (gE go 0) (tEd o 0)), (wE cI (gE go 1) (tEd o 1)), (wE cI (gE go 2) (tEd o 2)), (wN cI (go 24) (go 25) (tText o)), (wN cI (go 26) (go 27) (tWrs o))] [] rfl rfl ?_
  refine z_perm C [(wSo gt), (wE cI (gE gt 0) (tEd (tSetEds t (z3 (tEd (tSetEds t (z3 (tEd (tSetEds t (z3 u1 (tEd t 1) (tEd t 2))) 0) u2 (tEd (tSetEds t (z3 u1 (tEd t 1) (tEd t 2))) 2))) 0) (tEd (tSetEds t (z3 (tEd (tSetEds t (z3 u1 (tEd t 1) (tEd t 2))) 0) u2 (tEd (tSetEds t (z3 u1 (tEd t 1) (tEd t 2))) 2))) 1) u3)) 0)), (wE cI (gE gt 1) (tEd (tSetEds t (z3 (tEd (tSetEds t (z3 (tEd (tSetEds t (z3 u1 (tEd t 1) (tEd t 2))) 0) u2 (tEd (tSetEds t (z3 u1 (tEd t 1) (tEd t 2))) 2))) 0) (tEd (tSetEds t (z3 (tEd (tSetEds t (z3 u1 (tEd t 1) (tEd t 2))) 0) u2 (tEd (tSetEds t (z3 u1 (tEd t 1) (tEd t 2))) 2))) 1) u3)) 1)), (wE cI (gE gt 2) (tEd (tSetEds t (z3 (tEd (tSetEds t (z3 (tEd (tSetEds t (z3 u1 (tEd t 1) (tEd t 2))) 0) u2 (tEd (tSetEds t (z3 u1 (tEd t 1) (tEd t 2))) 2))) 0) (tEd (tSetEds t (z3 (tEd (tSetEds t (z3 u1 (tEd t 1) (tEd t 2))) 0) u2 (tEd (tSetEds t (z3 u1 (tEd t 1) (tEd t 2))) 2))) 1) u3)) 2)), (wN cI (gt 22) (gt 23) u4), (wN cI (gt 24) (gt 25) (tText t)), (wN cI (gt 26) (gt 27) (tWrs t)), (wSo go), (wE cI (gE go 0) (tEd o 0)), (wE cI (gE go 1) (tEd o 1)), (wE cI (gE go 2) (tEd o 2)), (wN cI (go 22) (go 23) (tLog o)), (wN cI (go 24) (go 25) (tText o)), (wN cI (go 26) (go 27) (tWrs o))] (z_pm [2, 3, 4, 5, 0, 6, 7, 8, 9, 10, 11, 1, 12, 13] 14 rfl (by decide) rfl) ?_
  refine z_shut 7 [(wSo go), (wE cI (gE go 0) (tEd o 0)), (wE cI (gE go 1) (tEd o 1)), (wE cI (gE go 2) (tEd o 2)), (wN cI (go 22) (go 23) (tLog o)), (wN cI (go 24) (go 25) (tText o)), (wN cI (go 26) (go 27) (tWrs o))] [(wSo gt), (wE cI (gE gt 0) (tEd (tSetEds t (z3 (tEd (tSetEds t (z3 (tEd (tSetEds t (z3 u1 (tEd t 1) (tEd t 2))) 0) u2 (tEd (tSetEds t (z3 u1 (tEd t 1) (tEd t 2))) 2))) 0) (tEd (tSetEds t (z3 (tEd (tSetEds t (z3 u1 (tEd t 1) (tEd t 2))) 0) u2 (tEd (tSetEds t (z3 u1 (tEd t 1) (tEd t 2))) 2))) 1) u3)) 0)), (wE cI (gE gt 1) (tEd (tSetEds t (z3 (tEd (tSetEds t (z3 (tEd (tSetEds t (z3 u1 (tEd t 1) (tEd t 2))) 0) u2 (tEd (tSetEds t (z3 u1 (tEd t 1) (tEd t 2))) 2))) 0) (tEd (tSetEds t (z3 (tEd (tSetEds t (z3 u1 (tEd t 1) (tEd t 2))) 0) u2 (tEd (tSetEds t (z3 u1 (tEd t 1) (tEd t 2))) 2))) 1) u3)) 1)), (wE cI (gE gt 2) (tEd (tSetEds t (z3 (tEd (tSetEds t (z3 (tEd (tSetEds t (z3 u1 (tEd t 1) (tEd t 2))) 0) u2 (tEd (tSetEds t (z3 u1 (tEd t 1) (tEd t 2))) 2))) 0) (tEd (tSetEds t (z3 (tEd (tSetEds t (z3 u1 (tEd t 1) (tEd t 2))) 0) u2 (tEd (tSetEds t (z3 u1 (tEd t 1) (tEd t 2))) 2))) 1) u3)) 2)), (wN cI (gt 22) (gt 23) u4), (wN cI (gt 24) (gt 25) (tText t)), (wN cI (gt 26) (gt 27) (tWrs t)), (wS cI go o)] rfl rfl rfl ?_
  refine z_shut 0 [(wSo gt), (wE cI (gE gt 0) (tEd (tSetEds t (z3 (tEd (tSetEds t (z3 (tEd (tSetEds t (z3 u1 (tEd t 1) (tEd t 2))) 0) u2 (tEd (tSetEds t (z3 u1 (tEd t 1) (tEd t 2))) 2))) 0) (tEd (tSetEds t (z3 (tEd (tSetEds t (z3 u1 (tEd t 1) (tEd t 2))) 0) u2 (tEd (tSetEds t (z3 u1 (tEd t 1) (tEd t 2))) 2))) 1) u3)) 0)), (wE cI (gE gt 1) (tEd (tSetEds t (z3 (tEd (tSetEds t (z3 (tEd (tSetEds t (z3 u1 (tEd t 1) (tEd t 2))) 0) u2 (tEd (tSetEds t (z3 u1 (tEd t 1) (tEd t 2))) 2))) 0) (tEd (tSetEds t (z3 (tEd (tSetEds t (z3 u1 (tEd t 1) (tEd t 2))) 0) u2 (tEd (tSetEds t (z3 u1 (tEd t 1) (tEd t 2))) 2))) 1) u3)) 1)), (wE cI (gE gt 2) (tEd (tSetEds t (z3 (tEd (tSetEds t (z3 (tEd (tSetEds t (z3 u1 (tEd t 1) (tEd t 2))) 0) u2 (tEd (tSetEds t (z3 u1 (tEd t 1) (tEd t 2))) 2))) 0) (tEd (tSetEds t (z3 (tEd (tSetEds t (z3 u1 (tEd t 1) (tEd t 2))) 0) u2 (tEd (tSetEds t (z3 u1 (tEd t 1) (tEd t 2))) 2))) 1) u3)) 2)), (wN cI (gt 22) (gt 23) u4), (wN cI (gt 24) (gt 25) (tText t)), (wN cI (gt 26) (gt 27) (tWrs t))] [(wS cI gt (tSetLog (tSetEds t (z3 (tEd (tSetEds t (z3 (tEd (tSetEds t (z3 u1 (tEd t 1) (tEd t 2))) 0) u2 (tEd (tSetEds t (z3 u1 (tEd t 1) (tEd t 2))) 2))) 0) (tEd (tSetEds t (z3 (tEd (tSetEds t (z3 u1 (tEd t 1) (tEd t 2))) 0) u2 (tEd (tSetEds t (z3 u1 (tEd t 1) (tEd t 2))) 2))) 1) u3)) u4)), (wS cI go o)] rfl rfl rfl ?_
  refine z_aload_n C dX5_copyState_44 rfl ?_
  refine z_get C inlX5 rfl 4 (by decide) mw_2_17 dX5_copyState_45 0 0 rfl rfl rfl ?_
  refine z_aload_n C dX5_copyState_48 rfl ?_
  refine z_get C inlX5 rfl 4 (by decide) mw_2_17 dX5_copyState_49 1 0 rfl rfl rfl ?_
  refine z_open 0 [(wSo gt), (wE cI (gE gt 0) (tEd (tSetLog (tSetEds t (z3 (tEd (tSetEds t (z3 (tEd (tSetEds t (z3 u1 (tEd t 1) (tEd t 2))) 0) u2 (tEd (tSetEds t (z3 u1 (tEd t 1) (tEd t 2))) 2))) 0) (tEd (tSetEds t (z3 (tEd (tSetEds t (z3 u1 (tEd t 1) (tEd t 2))) 0) u2 (tEd (tSetEds t (z3 u1 (tEd t 1) (tEd t 2))) 2))) 1) u3)) u4) 0)), (wE cI (gE gt 1) (tEd (tSetLog (tSetEds t (z3 (tEd (tSetEds t (z3 (tEd (tSetEds t (z3 u1 (tEd t 1) (tEd t 2))) 0) u2 (tEd (tSetEds t (z3 u1 (tEd t 1) (tEd t 2))) 2))) 0) (tEd (tSetEds t (z3 (tEd (tSetEds t (z3 u1 (tEd t 1) (tEd t 2))) 0) u2 (tEd (tSetEds t (z3 u1 (tEd t 1) (tEd t 2))) 2))) 1) u3)) u4) 1)), (wE cI (gE gt 2) (tEd (tSetLog (tSetEds t (z3 (tEd (tSetEds t (z3 (tEd (tSetEds t (z3 u1 (tEd t 1) (tEd t 2))) 0) u2 (tEd (tSetEds t (z3 u1 (tEd t 1) (tEd t 2))) 2))) 0) (tEd (tSetEds t (z3 (tEd (tSetEds t (z3 u1 (tEd t 1) (tEd t 2))) 0) u2 (tEd (tSetEds t (z3 u1 (tEd t 1) (tEd t 2))) 2))) 1) u3)) u4) 2)), (wN cI (gt 22) (gt 23) u4), (wN cI (gt 24) (gt 25) (tText t)), (wN cI (gt 26) (gt 27) (tWrs t))] [(wSo gt), (wE cI (gE gt 0) (tEd (tSetLog (tSetEds t (z3 (tEd (tSetEds t (z3 (tEd (tSetEds t (z3 u1 (tEd t 1) (tEd t 2))) 0) u2 (tEd (tSetEds t (z3 u1 (tEd t 1) (tEd t 2))) 2))) 0) (tEd (tSetEds t (z3 (tEd (tSetEds t (z3 u1 (tEd t 1) (tEd t 2))) 0) u2 (tEd (tSetEds t (z3 u1 (tEd t 1) (tEd t 2))) 2))) 1) u3)) u4) 0)), (wE cI (gE gt 1) (tEd (tSetLog (tSetEds t (z3 (tEd (tSetEds t (z3 (tEd (tSetEds t (z3 u1 (tEd t 1) (tEd t 2))) 0) u2 (tEd (tSetEds t (z3 u1 (tEd t 1) (tEd t 2))) 2))) 0) (tEd (tSetEds t (z3 (tEd (tSetEds t (z3 u1 (tEd t 1) (tEd t 2))) 0) u2 (tEd (tSetEds t (z3 u1 (tEd t 1) (tEd t 2))) 2))) 1) u3)) u4) 1)), (wE cI (gE gt 2) (tEd (tSetLog (tSetEds t (z3 (tEd (tSetEds t (z3 (tEd (tSetEds t (z3 u1 (tEd t 1) (tEd t 2))) 0) u2 (tEd (tSetEds t (z3 u1 (tEd t 1) (tEd t 2))) 2))) 0) (tEd (tSetEds t (z3 (tEd (tSetEds t (z3 u1 (tEd t 1) (tEd t 2))) 0) u2 (tEd (tSetEds t (z3 u1 (tEd t 1) (tEd t 2))) 2))) 1) u3)) u4) 2)), (wN cI (gt 22) (gt 23) u4), (wN cI (gt 24) (gt 25) (tText t)), (wN cI (gt 26) (gt 27) (tWrs t)), (wS cI go o)] rfl rfl rfl ?_
  refine z_open 7 [(wSo go), (wE cI (gE go 0) (tEd o 0)), (wE cI (gE go 1) (tEd o 1)), (wE cI (gE go 2) (tEd o 2)), (wN cI (go 22) (go 23) (tLog o)), (wN cI (go 24) (go 25) (tText o)), (wN cI (go 26) (go 27) (tWrs o))] [(wSo gt), (wE cI (gE gt 0) (tEd (tSetLog (tSetEds t (z3 (tEd (tSetEds t (z3 (tEd (tSetEds t (z3 u1 (tEd t 1) (tEd t 2))) 0) u2 (tEd (tSetEds t (z3 u1 (tEd t 1) (tEd t 2))) 2))) 0) (tEd (tSetEds t (z3 (tEd (tSetEds t (z3 u1 (tEd t 1) (tEd t 2))) 0) u2 (tEd (tSetEds t (z3 u1 (tEd t 1) (tEd t 2))) 2))) 1) u3)) u4) 0)), (wE cI (gE gt 1) (tEd (tSetLog (tSetEds t (z3 (tEd (tSetEds t (z3 (tEd (tSetEds t (z3 u1 (tEd t 1) (tEd t 2))) 0) u2 (tEd (tSetEds t (z3 u1 (tEd t 1) (tEd t 2))) 2))) 0) (tEd (tSetEds t (z3 (tEd (tSetEds t (z3 u1 (tEd t 1) (tEd t 2))) 0) u2 (tEd (tSetEds t (z3 u1 (tEd t 1) (tEd t 2))) 2))) 1) u3)) u4) 1)), (wE cI (gE gt 2) (tEd (tSetLog (tSetEds t (z3 (tEd (tSetEds t (z3 (tEd (tSetEds t (z3 u1 (tEd t 1) (tEd t 2))) 0) u2 (tEd (tSetEds t (z3 u1 (tEd t 1) (tEd t 2))) 2))) 0) (tEd (tSetEds t (z3 (tEd (tSetEds t (z3 u1 (tEd t 1) (tEd t 2))) 0) u2 (tEd (tSetEds t (z3 u1 (tEd t 1) (tEd t 2))) 2))) 1) u3)) u4) 2)), (wN cI (gt 22) (gt 23) u4), (wN cI (gt 24) (gt 25) (tText t)), (wN cI (gt 26) (gt 27) (tWrs t)), (wSo go), (wE cI (gE go 0) (tEd o 0)), (wE cI (gE go 1) (tEd o 1)), (wE cI (gE go 2) (tEd o 2)), (wN cI (go 22) (go 23) (tLog o)), (wN cI (go 24) (go 25) (tText o)), (wN cI (go 26) (go 27) (tWrs o))] rfl rfl rfl ?_
  refine z_callV0 C [(wN cI (gt 24) (gt 25) (tText t)), (wN cI (go 24) (go 25) (tText o))] [(wSo gt), (wE cI (gE gt 0) (tEd (tSetLog (tSetEds t (z3 (tEd (tSetEds t (z3 (tEd (tSetEds t (z3 u1 (tEd t 1) (tEd t 2))) 0) u2 (tEd (tSetEds t (z3 u1 (tEd t 1) (tEd t 2))) 2))) 0) (tEd (tSetEds t (z3 (tEd (tSetEds t (z3 u1 (tEd t 1) (tEd t 2))) 0) u2 (tEd (tSetEds t (z3 u1 (tEd t 1) (tEd t 2))) 2))) 1) u3)) u4) 0)), (wE cI (gE gt 1) (tEd (tSetLog (tSetEds t (z3 (tEd (tSetEds t (z3 (tEd (tSetEds t (z3 u1 (tEd t 1) (tEd t 2))) 0) u2 (tEd (tSetEds t (z3 u1 (tEd t 1) (tEd t 2))) 2))) 0) (tEd (tSetEds t (z3 (tEd (tSetEds t (z3 u1 (tEd t 1) (tEd t 2))) 0) u2 (tEd (tSetEds t (z3 u1 (tEd t 1) (tEd t 2))) 2))) 1) u3)) u4) 1)), (wE cI (gE gt 2) (tEd (tSetLog (tSetEds t (z3 (tEd (tSetEds t (z3 (tEd (tSetEds t (z3 u1 (tEd t 1) (tEd t 2))) 0) u2 (tEd (tSetEds t (z3 u1 (tEd t 1) (tEd t 2))) 2))) 0) (tEd (tSetEds t (z3 (tEd (tSetEds t (z3 u1 (tEd t 1) (tEd t 2))) 0) u2 (tEd (tSetEds t (z3 u1 (tEd t 1) (tEd t 2))) 2))) 1) u3)) u4) 2)), (wN cI (gt 22) (gt 23) u4), (wN cI (gt 26) (gt 27) (tWrs t)), (wSo go), (wE cI (gE go 0) (tEd o 0)), (wE cI (gE go 1) (tEd o 1)), (wE cI (gE go 2) (tEd o 2)), (wN cI (go 22) (go 23) (tLog o)), (wN cI (go 26) (go 27) (tWrs o))] rfl rfl (met_X4_copyNumbers l D cI (gt 24) (gt 25) (go 24) (go 25) (tText t) (tText o) _ hw) y_X4_copyNumbers mw_6_6 dX5_copyState_52 rfl n_X4_copyNumbers rfl (by decide) ⟨rfl, rfl, Nat.le_of_ble_eq_true rfl, Nat.le_of_ble_eq_true rfl⟩ (Nat.le_of_ble_eq_true rfl) (z_pm [5, 12, 0, 1, 2, 3, 4, 6, 7, 8, 9, 10, 11, 13] 14 rfl (by decide) rfl) ?_
  intro u5 hw
  try dsimp only at hw
  refine z_bs [(wN cI (gt 24) (gt 25) u5), (wN cI (go 24) (go 25) (tText o)), (wSo gt), (wE cI (gE gt 0) (tEd (tSetLog (tSetEds t (z3 (tEd (tSetEds t (z3 (tEd (tSetEds t (z3 u1 (tEd t 1) (tEd t 2))) 0) u2 (tEd (tSetEds t (z3 u1 (tEd t 1) (tEd t 2))) 2))) 0) (tEd (tSetEds t (z3 (tEd (tSetEds t (z3 u1 (tEd t 1) (tEd t 2))) 0) u2 (tEd (tSetEds t (z3 u1 (tEd t 1) (tEd t 2))) 2))) 1) u3)) u4) 0)), (wE cI (gE gt 1) (tEd (tSetLog (tSetEds t (z3 (tEd (tSetEds t (z3 (tEd (tSetEds t (z3 u1 (tEd t 1) (tEd t 2))) 0) u2 (tEd (tSetEds t (z3 u1 (tEd t 1) (tEd t 2))) 2))) 0) (tEd (tSetEds t (z3 (tEd (tSetEds t (z3 u1 (tEd t 1) (tEd t 2))) 0) u2 (tEd (tSetEds t (z3 u1 (tEd t 1) (tEd t 2))) 2))) 1) u3)) u4) 1)), (wE cI (gE gt 2) (tEd (tSetLog (tSetEds t (z3 (tEd (tSetEds t (z3 (tEd (tSetEds t (z3 u1 (tEd t 1) (tEd t 2))) 0) u2 (tEd (tSetEds t (z3 u1 (tEd t 1) (tEd t 2))) 2))) 0) (tEd (tSetEds t (z3 (tEd (tSetEds t (z3 u1 (tEd t 1) (tEd t 2))) 0) u2 (tEd (tSetEds t (z3 u1 (tEd t 1) (tEd t 2))) 2))) 1) u3)) u4) 2)), (wN cI (gt 22) (gt 23) u4), (wN cI (gt 26) (gt 27) (tWrs t)), (wSo go), (wE cI (gE go 0) (tEd o 0)), (wE cI (gE go 1) (tEd o 1)), (wE cI (gE go 2) (tEd o 2)), (wN cI (go 22) (go 23) (tLog o)), (wN cI (go 26) (go 27) (tWrs o))] [] rfl rfl ?_
  refine z_perm C [(wSo gt), (wE cI (gE gt 0) (tEd (tSetLog (tSetEds t (z3 (tEd (tSetEds t (z3 (tEd (tSetEds t (z3 u1 (tEd t 1) (tEd t 2))) 0) u2 (tEd (tSetEds t (z3 u1 (tEd t 1) (tEd t 2))) 2))) 0) (tEd (tSetEds t (z3 (tEd (tSetEds t (z3 u1 (tEd t 1) (tEd t 2))) 0) u2 (tEd (tSetEds t (z3 u1 (tEd t 1) (tEd t 2))) 2))) 1) u3)) u4) 0)), (wE cI (gE gt 1) (tEd (tSetLog (tSetEds t (z3 (tEd (tSetEds t (z3 (tEd (tSetEds t (z3 u1 (tEd t 1) (tEd t 2))) 0) u2 (tEd (tSetEds t (z3 u1 (tEd t 1) (tEd t 2))) 2))) 0) (tEd (tSetEds t (z3 (tEd (tSetEds t (z3 u1 (tEd t 1) (tEd t 2))) 0) u2 (tEd (tSetEds t (z3 u1 (tEd t 1) (tEd t 2))) 2))) 1) u3)) u4) 1)), (wE cI (gE gt 2) (tEd (tSetLog (tSetEds t (z3 (tEd (tSetEds t (z3 (tEd (tSetEds t (z3 u1 (tEd t 1) (tEd t 2))) 0) u2 (tEd (tSetEds t (z3 u1 (tEd t 1) (tEd t 2))) 2))) 0) (tEd (tSetEds t (z3 (tEd (tSetEds t (z3 u1 (tEd t 1) (tEd t 2))) 0) u2 (tEd (tSetEds t (z3 u1 (tEd t 1) (tEd t 2))) 2))) 1) u3)) u4) 2)), (wN cI (gt 22) (gt 23) u4), (wN cI (gt 24) (gt 25) u5), (wN cI (gt 26) (gt 27) (tWrs t)), (wSo go), (wE cI (gE go 0) (tEd o 0)), (wE cI (gE go 1) (tEd o 1)), (wE cI (gE go 2) (tEd o 2)), (wN cI (go 22) (go 23) (tLog o)), (wN cI (go 24) (go 25) (tText o)), (wN cI (go 26) (go 27) (tWrs o))] (z_pm [2, 3, 4, 5, 6, 0, 7, 8, 9, 10, 11, 12, 1, 13] 14 rfl (by decide) rfl) ?_
  refine z_shut 7 [(wSo go), (wE cI (gE go 0) (tEd o 0)), (wE cI (gE go 1) (tEd o 1)), (wE cI (gE go 2) (tEd o 2)), (wN cI (go 22) (go 23) (tLog o)), (wN cI (go 24) (go 25) (tText o)), (wN cI (go 26) (go 27) (tWrs o))] [(wSo gt), (wE cI (gE gt 0) (tEd (tSetLog (tSetEds t (z3 (tEd (tSetEds t (z3 (tEd (tSetEds t (z3 u1 (tEd t 1) (tEd t 2))) 0) u2 (tEd (tSetEds t (z3 u1 (tEd t 1) (tEd t 2))) 2))) 0) (tEd (tSetEds t (z3 (tEd (tSetEds t (z3 u1 (tEd t 1) (tEd t 2))) 0) u2 (tEd (tSetEds t (z3 u1 (tEd t 1) (tEd t 2))) 2))) 1) u3)) u4) 0)), (wE cI (gE gt 1) (tEd (tSetLog (tSetEds t (z3 (tEd (tSetEds t (z3 (tEd (tSetEds t (z3 u1 (tEd t 1) (tEd t 2))) 0) u2 (tEd (tSetEds t (z3 u1 (tEd t 1) (tEd t 2))) 2))) 0) (tEd (tSetEds t (z3 (tEd (tSetEds t (z3 u1 (tEd t 1) (tEd t 2))) 0) u2 (tEd (tSetEds t (z3 u1 (tEd t 1) (tEd t 2))) 2))) 1) u3)) u4) 1)), (wE cI (gE gt 2) (tEd (tSetLog (tSetEds t (z3 (tEd (tSetEds t (z3 (tEd (tSetEds t (z3 u1 (tEd t 1) (tEd t 2))) 0) u2 (tEd (tSetEds t (z3 u1 (tEd t 1) (tEd t 2))) 2))) 0) (tEd (tSetEds t (z3 (tEd (tSetEds t (z3 u1 (tEd t 1) (tEd t 2))) 0) u2 (tEd (tSetEds t (z3 u1 (tEd t 1) (tEd t 2))) 2))) 1) u3)) u4) 2)), (wN cI (gt 22) (gt 23) u4), (wN cI (gt 24) (gt 25) u5), (wN cI (gt 26) (gt 27) (tWrs t)), (wS cI go o)] rfl rfl rfl ?_
  refine z_shut 0 [(wSo gt), (wE cI (gE gt 0) (tEd (tSetLog (tSetEds t (z3 (tEd (tSetEds t (z3 (tEd (tSetEds t (z3 u1 (tEd t 1) (tEd t 2))) 0) u2 (tEd (tSetEds t (z3 u1 (tEd t 1) (tEd t 2))) 2))) 0) (tEd (tSetEds t (z3 (tEd (tSetEds t (z3 u1 (tEd t 1) (tEd t 2))) 0) u2 (tEd (tSetEds t (z3 u1 (tEd t 1) (tEd t 2))) 2))) 1) u3)) u4) 0)), (wE cI (gE gt 1) (tEd (tSetLog (tSetEds t (z3 (tEd (tSetEds t (z3 (tEd (tSetEds t (z3 u1 (tEd t 1) (tEd t 2))) 0) u2 (tEd (tSetEds t (z3 u1 (tEd t 1) (tEd t 2))) 2))) 0) (tEd (tSetEds t (z3 (tEd (tSetEds t (z3 u1 (tEd t 1) (tEd t 2))) 0) u2 (tEd (tSetEds t (z3 u1 (tEd t 1) (tEd t 2))) 2))) 1) u3)) u4) 1)), (wE cI (gE gt 2) (tEd (tSetLog (tSetEds t (z3 (tEd (tSetEds t (z3 (tEd (tSetEds t (z3 u1 (tEd t 1) (tEd t 2))) 0) u2 (tEd (tSetEds t (z3 u1 (tEd t 1) (tEd t 2))) 2))) 0) (tEd (tSetEds t (z3 (tEd (tSetEds t (z3 u1 (tEd t 1) (tEd t 2))) 0) u2 (tEd (tSetEds t (z3 u1 (tEd t 1) (tEd t 2))) 2))) 1) u3)) u4) 2)), (wN cI (gt 22) (gt 23) u4), (wN cI (gt 24) (gt 25) u5), (wN cI (gt 26) (gt 27) (tWrs t))] [(wS cI gt (tSetText (tSetLog (tSetEds t (z3 (tEd (tSetEds t (z3 (tEd (tSetEds t (z3 u1 (tEd t 1) (tEd t 2))) 0) u2 (tEd (tSetEds t (z3 u1 (tEd t 1) (tEd t 2))) 2))) 0) (tEd (tSetEds t (z3 (tEd (tSetEds t (z3 u1 (tEd t 1) (tEd t 2))) 0) u2 (tEd (tSetEds t (z3 u1 (tEd t 1) (tEd t 2))) 2))) 1) u3)) u4) u5)), (wS cI go o)] rfl rfl rfl ?_
  refine z_aload_n C dX5_copyState_55 rfl ?_
  refine z_get C inlX5 rfl 5 (by decide) mw_2_18 dX5_copyState_56 0 0 rfl rfl rfl ?_
  refine z_aload_n C dX5_copyState_59 rfl ?_
  refine z_get C inlX5 rfl 5 (by decide) mw_2_18 dX5_copyState_60 1 0 rfl rfl rfl ?_
  refine z_open 0 [(wSo gt), (wE cI (gE gt 0) (tEd (tSetText (tSetLog (tSetEds t (z3 (tEd (tSetEds t (z3 (tEd (tSetEds t (z3 u1 (tEd t 1) (tEd t 2))) 0) u2 (tEd (tSetEds t (z3 u1 (tEd t 1) (tEd t 2))) 2))) 0) (tEd (tSetEds t (z3 (tEd (tSetEds t (z3 u1 (tEd t 1) (tEd t 2))) 0) u2 (tEd (tSetEds t (z3 u1 (tEd t 1) (tEd t 2))) 2))) 1) u3)) u4) u5) 0)), (wE cI (gE gt 1) (tEd (tSetText (tSetLog (tSetEds t (z3 (tEd (tSetEds t (z3 (tEd (tSetEds t (z3 u1 (tEd t 1) (tEd t 2))) 0) u2 (tEd (tSetEds t (z3 u1 (tEd t 1) (tEd t 2))) 2))) 0) (tEd (tSetEds t (z3 (tEd (tSetEds t (z3 u1 (tEd t 1) (tEd t 2))) 0) u2 (tEd (tSetEds t (z3 u1 (tEd t 1) (tEd t 2))) 2))) 1) u3)) u4) u5) 1)), (wE cI (gE gt 2) (tEd (tSetText (tSetLog (tSetEds t (z3 (tEd (tSetEds t (z3 (tEd (tSetEds t (z3 u1 (tEd t 1) (tEd t 2))) 0) u2 (tEd (tSetEds t (z3 u1 (tEd t 1) (tEd t 2))) 2))) 0) (tEd (tSetEds t (z3 (tEd (tSetEds t (z3 u1 (tEd t 1) (tEd t 2))) 0) u2 (tEd (tSetEds t (z3 u1 (tEd t 1) (tEd t 2))) 2))) 1) u3)) u4) u5) 2)), (wN cI (gt 22) (gt 23) u4), (wN cI (gt 24) (gt 25) u5), (wN cI (gt 26) (gt 27) (tWrs t))] [(wSo gt), (wE cI (gE gt 0) (tEd (tSetText (tSetLog (tSetEds t (z3 (tEd (tSetEds t (z3 (tEd (tSetEds t (z3 u1 (tEd t 1) (tEd t 2))) 0) u2 (tEd (tSetEds t (z3 u1 (tEd t 1) (tEd t 2))) 2))) 0) (tEd (tSetEds t (z3 (tEd (tSetEds t (z3 u1 (tEd t 1) (tEd t 2))) 0) u2 (tEd (tSetEds t (z3 u1 (tEd t 1) (tEd t 2))) 2))) 1) u3)) u4) u5) 0)), (wE cI (gE gt 1) (tEd (tSetText (tSetLog (tSetEds t (z3 (tEd (tSetEds t (z3 (tEd (tSetEds t (z3 u1 (tEd t 1) (tEd t 2))) 0) u2 (tEd (tSetEds t (z3 u1 (tEd t 1) (tEd t 2))) 2))) 0) (tEd (tSetEds t (z3 (tEd (tSetEds t (z3 u1 (tEd t 1) (tEd t 2))) 0) u2 (tEd (tSetEds t (z3 u1 (tEd t 1) (tEd t 2))) 2))) 1) u3)) u4) u5) 1)), (wE cI (gE gt 2) (tEd (tSetText (tSetLog (tSetEds t (z3 (tEd (tSetEds t (z3 (tEd (tSetEds t (z3 u1 (tEd t 1) (tEd t 2))) 0) u2 (tEd (tSetEds t (z3 u1 (tEd t 1) (tEd t 2))) 2))) 0) (tEd (tSetEds t (z3 (tEd (tSetEds t (z3 u1 (tEd t 1) (tEd t 2))) 0) u2 (tEd (tSetEds t (z3 u1 (tEd t 1) (tEd t 2))) 2))) 1) u3)) u4) u5) 2)), (wN cI (gt 22) (gt 23) u4), (wN cI (gt 24) (gt 25) u5), (wN cI (gt 26) (gt 27) (tWrs t)), (wS cI go o)] rfl rfl rfl ?_
  refine z_open 7 [(wSo go), (wE cI (gE go 0) (tEd o 0)), (wE cI (gE go 1) (tEd o 1)), (wE cI (gE go 2) (tEd o 2)), (wN cI (go 22) (go 23) (tLog o)), (wN cI (go 24) (go 25) (tText o)), (wN cI (go 26) (go 27) (tWrs o))] [(wSo gt), (wE cI (gE gt 0) (tEd (tSetText (tSetLog (tSetEds t (z3 (tEd (tSetEds t (z3 (tEd (tSetEds t (z3 u1 (tEd t 1) (tEd t 2))) 0) u2 (tEd (tSetEds t (z3 u1 (tEd t 1) (tEd t 2))) 2))) 0) (tEd (tSetEds t (z3 (tEd (tSetEds t (z3 u1 (tEd t 1) (tEd t 2))) 0) u2 (tEd (tSetEds t (z3 u1 (tEd t 1) (tEd t 2))) 2))) 1) u3)) u4) u5) 0)), (wE cI (gE gt 1) (tEd (tSetText (tSetLog (tSetEds t (z3 (tEd (tSetEds t (z3 (tEd (tSetEds t (z3 u1 (tEd t 1) (tEd t 2))) 0) u2 (tEd (tSetEds t (z3 u1 (tEd t 1) (tEd t 2))) 2))) 0) (tEd (tSetEds t (z3 (tEd (tSetEds t (z3 u1 (tEd t 1) (tEd t 2))) 0) u2 (tEd (tSetEds t (z3 u1 (tEd t 1) (tEd t 2))) 2))) 1) u3)) u4) u5) 1)), (wE cI (gE gt 2) (tEd (tSetText (tSetLog (tSetEds t (z3 (tEd (tSetEds t (z3 (tEd (tSetEds t (z3 u1 (tEd t 1) (tEd t 2))) 0) u2 (tEd (tSetEds t (z3 u1 (tEd t 1) (tEd t 2))) 2))) 0) (tEd (tSetEds t (z3 (tEd (tSetEds t (z3 u1 (tEd t 1) (tEd t 2))) 0) u2 (tEd (tSetEds t (z3 u1 (tEd t 1) (tEd t 2))) 2))) 1) u3)) u4) u5) 2)), (wN cI (gt 22) (gt 23) u4), (wN cI (gt 24) (gt 25) u5), (wN cI (gt 26) (gt 27) (tWrs t)), (wSo go), (wE cI (gE go 0) (tEd o 0)), (wE cI (gE go 1) (tEd o 1)), (wE cI (gE go 2) (tEd o 2)), (wN cI (go 22) (go 23) (tLog o)), (wN cI (go 24) (go 25) (tText o)), (wN cI (go 26) (go 27) (tWrs o))] rfl rfl rfl ?_
  refine z_callV0 C [(wN cI (gt 26) (gt 27) (tWrs t)), (wN cI (go 26) (go 27) (tWrs o))] [(wSo gt), (wE cI (gE gt 0) (tEd (tSetText (tSetLog (tSetEds t (z3 (tEd (tSetEds t (z3 (tEd (tSetEds t (z3 u1 (tEd t 1) (tEd t 2))) 0) u2 (tEd (tSetEds t (z3 u1 (tEd t 1) (tEd t 2))) 2))) 0) (tEd (tSetEds t (z3 (tEd (tSetEds t (z3 u1 (tEd t 1) (tEd t 2))) 0) u2 (tEd (tSetEds t (z3 u1 (tEd t 1) (tEd t 2))) 2))) 1) u3)) u4) u5) 0)), (wE cI (gE gt 1) (tEd (tSetText (tSetLog (tSetEds t (z3 (tEd (tSetEds t (z3 (tEd (tSetEds t (z3 u1 (tEd t 1) (tEd t 2))) 0) u2 (tEd (tSetEds t (z3 u1 (tEd t 1) (tEd t 2))) 2))) 0) (tEd (tSetEds t (z3 (tEd (tSetEds t (z3 u1 (tEd t 1) (tEd t 2))) 0) u2 (tEd (tSetEds t (z3 u1 (tEd t 1) (tEd t 2))) 2))) 1) u3)) u4) u5) 1)), (wE cI (gE gt 2) (tEd (tSetText (tSetLog (tSetEds t (z3 (tEd (tSetEds t (z3 (tEd (tSetEds t (z3 u1 (tEd t 1) (tEd t 2))) 0) u2 (tEd (tSetEds t (z3 u1 (tEd t 1) (tEd t 2))) 2))) 0) (tEd (tSetEds t (z3 (tEd (tSetEds t (z3 u1 (tEd t 1) (tEd t 2))) 0) u2 (tEd (tSetEds t (z3 u1 (tEd t 1) (tEd t 2))) 2))) 1) u3)) u4) u5) 2)), (wN cI (gt 22) (gt 23) u4), (wN cI (gt 24) (gt 25) u5), (wSo go), (wE cI (gE go 0) (tEd o 0)), (wE cI (gE go 1) (tEd o 1)), (wE cI (gE go 2) (tEd o 2)), (wN cI (go 22) (go 23) (tLog o)), (wN cI (go 24) (go 25) (tText o))] rfl rfl (met_X4_copyNumbers l D cI (gt 26) (gt 27) (go 26) (go 27) (tWrs t) (tWrs o) _ hw) y_X4_copyNumbers mw_6_6 dX5_copyState_63 rfl n_X4_copyNumbers rfl (by decide) ⟨rfl, rfl, Nat.le_of_ble_eq_true rfl, Nat.le_of_ble_eq_true rfl⟩ (Nat.le_of_ble_eq_true rfl) (z_pm [6, 13, 0, 1, 2, 3, 4, 5, 7, 8, 9, 10, 11, 12] 14 rfl (by decide) rfl) ?_
  intro u6 hw
  try dsimp only at hw
  refine z_bs [(wN cI (gt 26) (gt 27) u6), (wN cI (go 26) (go 27) (tWrs o)), (wSo gt), (wE cI (gE gt 0) (tEd (tSetText (tSetLog (tSetEds t (z3 (tEd (tSetEds t (z3 (tEd (tSetEds t (z3 u1 (tEd t 1) (tEd t 2))) 0) u2 (tEd (tSetEds t (z3 u1 (tEd t 1) (tEd t 2))) 2))) 0) (tEd (tSetEds t (z3 (tEd (tSetEds t (z3 u1 (tEd t 1) (tEd t 2))) 0) u2 (tEd (tSetEds t (z3 u1 (tEd t 1) (tEd t 2))) 2))) 1) u3)) u4) u5) 0)), (wE cI (gE gt 1) (tEd (tSetText (tSetLog (tSetEds t (z3 (tEd (tSetEds t (z3 (tEd (tSetEds t (z3 u1 (tEd t 1) (tEd t 2))) 0) u2 (tEd (tSetEds t (z3 u1 (tEd t 1) (tEd t 2))) 2))) 0) (tEd (tSetEds t (z3 (tEd (tSetEds t (z3 u1 (tEd t 1) (tEd t 2))) 0) u2 (tEd (tSetEds t (z3 u1 (tEd t 1) (tEd t 2))) 2))) 1) u3)) u4) u5) 1)), (wE cI (gE gt 2) (tEd (tSetText (tSetLog (tSetEds t (z3 (tEd (tSetEds t (z3 (tEd (tSetEds t (z3 u1 (tEd t 1) (tEd t 2))) 0) u2 (tEd (tSetEds t (z3 u1 (tEd t 1) (tEd t 2))) 2))) 0) (tEd (tSetEds t (z3 (tEd (tSetEds t (z3 u1 (tEd t 1) (tEd t 2))) 0) u2 (tEd (tSetEds t (z3 u1 (tEd t 1) (tEd t 2))) 2))) 1) u3)) u4) u5) 2)), (wN cI (gt 22) (gt 23) u4), (wN cI (gt 24) (gt 25) u5), (wSo go), (wE cI (gE go 0) (tEd o 0)), (wE cI (gE go 1) (tEd o 1)), (wE cI (gE go 2) (tEd o 2)), (wN cI (go 22) (go 23) (tLog o)), (wN cI (go 24) (go 25) (tText o))] [] rfl rfl ?_
  refine z_perm C [(wSo gt), (wE cI (gE gt 0) (tEd (tSetText (tSetLog (tSetEds t (z3 (tEd (tSetEds t (z3 (tEd (tSetEds t (z3 u1 (tEd t 1) (tEd t 2))) 0) u2 (tEd (tSetEds t (z3 u1 (tEd t 1) (tEd t 2))) 2))) 0) (tEd (tSetEds t (z3 (tEd (tSetEds t (z3 u1 (tEd t 1) (tEd t 2))) 0) u2 (tEd (tSetEds t (z3 u1 (tEd t 1) (tEd t 2))) 2))) 1) u3)) u4) u5) 0)), (wE cI (gE gt 1) (tEd (tSetText (tSetLog (tSetEds t (z3 (tEd (tSetEds t (z3 (tEd (tSetEds t (z3 u1 (tEd t 1) (tEd t 2))) 0) u2 (tEd (tSetEds t (z3 u1 (tEd t 1) (tEd t 2))) 2))) 0) (tEd (tSetEds t (z3 (tEd (tSetEds t (z3 u1 (tEd t 1) (tEd t 2))) 0) u2 (tEd (tSetEds t (z3 u1 (tEd t 1) (tEd t 2))) 2))) 1) u3)) u4) u5) 1)), (wE cI (gE gt 2) (tEd (tSetText (tSetLog (tSetEds t (z3 (tEd (tSetEds t (z3 (tEd (tSetEds t (z3 u1 (tEd t 1) (tEd t 2))) 0) u2 (tEd (tSetEds t (z3 u1 (tEd t 1) (tEd t 2))) 2))) 0) (tEd (tSetEds t (z3 (tEd (tSetEds t (z3 u1 (tEd t 1) (tEd t 2))) 0) u2 (tEd (tSetEds t (z3 u1 (tEd t 1) (tEd t 2))) 2))) 1) u3)) u4) u5) 2)), (wN cI (gt 22) (gt 23) u4), (wN cI (gt 24) (gt 25) u5), (wN cI (gt 26) (gt 27) u6), (wSo go), (wE cI (gE go 0) (tEd o 0)), (wE cI (gE go 1) (tEd o 1)), (wE cI (gE go 2) (tEd o 2)), (wN cI (go 22) (go 23) (tLog o)), (wN cI (go 24) (go 25) (tText o)), (wN cI (go 26) (go 27) (tWrs o))] (z_pm [2, 3, 4, 5, 6, 7, 0, 8, 9, 10, 11, 12, 13, 1] 14 rfl (by decide) rfl) ?_
  refine z_shut 7 [(wSo go), (wE cI (gE go 0) (tEd o 0)), (wE cI (gE go 1) (tEd o 1)), (wE cI (gE go 2) (tEd o 2)), (wN cI (go 22) (go 23) (tLog o)), (wN cI (go 24) (go 25) (tText o)), (wN cI (go 26) (go 27) (tWrs o))] [(wSo gt), (wE cI (gE gt 0) (tEd (tSetText (tSetLog (tSetEds t (z3 (tEd (tSetEds t (z3 (tEd (tSetEds t (z3 u1 (tEd t 1) (tEd t 2))) 0) u2 (tEd (tSetEds t (z3 u1 (tEd t 1) (tEd t 2))) 2))) 0) (tEd (tSetEds t (z3 (tEd (tSetEds t (z3 u1 (tEd t 1) (tEd t 2))) 0) u2 (tEd (tSetEds t (z3 u1 (tEd t 1) (tEd t 2))) 2))) 1) u3)) u4) u5) 0)), (wE cI (gE gt 1) (tEd (tSetText (tSetLog (tSetEds t (z3 (tEd (tSetEds t (z3 (tEd (tSetEds t (z3 u1 (tEd t 1) (tEd t 2))) 0) u2 (tEd (tSetEds t (z3 u1 (tEd t 1) (tEd t 2))) 2))) 0) (tEd (tSetEds t (z3 (tEd (tSetEds t (z3 u1 (tEd t 1) (tEd t 2))) 0) u2 (tEd (tSetEds t (z3 u1 (tEd t 1) (tEd t 2))) 2))) 1) u3)) u4) u5) 1)), (wE cI (gE gt 2) (tEd (tSetText (tSetLog (tSetEds t (z3 (tEd (tSetEds t (z3 (tEd (tSetEds t (z3 u1 (tEd t 1) (tEd t 2))) 0) u2 (tEd (tSetEds t (z3 u1 (tEd t 1) (tEd t 2))) 2))) 0) (tEd (tSetEds t (z3 (tEd (tSetEds t (z3 u1 (tEd t 1) (tEd t 2))) 0) u2 (tEd (tSetEds t (z3 u1 (tEd t 1) (tEd t 2))) 2))) 1) u3)) u4) u5) 2)), (wN cI (gt 22) (gt 23) u4), (wN cI (gt 24) (gt 25) u5), (wN cI (gt 26) (gt 27) u6), (wS cI go o)] rfl rfl rfl ?_
  refine z_shut 0 [(wSo gt), (wE cI (gE gt 0) (tEd (tSetText (tSetLog (tSetEds t (z3 (tEd (tSetEds t (z3 (tEd (tSetEds t (z3 u1 (tEd t 1) (tEd t 2))) 0) u2 (tEd (tSetEds t (z3 u1 (tEd t 1) (tEd t 2))) 2))) 0) (tEd (tSetEds t (z3 (tEd (tSetEds t (z3 u1 (tEd t 1) (tEd t 2))) 0) u2 (tEd (tSetEds t (z3 u1 (tEd t 1) (tEd t 2))) 2))) 1) u3)) u4) u5) 0)), (wE cI (gE gt 1) (tEd (tSetText (tSetLog (tSetEds t (z3 (tEd (tSetEds t (z3 (tEd (tSetEds t (z3 u1 (tEd t 1) (tEd t 2))) 0) u2 (tEd (tSetEds t (z3 u1 (tEd t 1) (tEd t 2))) 2))) 0) (tEd (tSetEds t (z3 (tEd (tSetEds t (z3 u1 (tEd t 1) (tEd t 2))) 0) u2 (tEd (tSetEds t (z3 u1 (tEd t 1) (tEd t 2))) 2))) 1) u3)) u4) u5) 1)), (wE cI (gE gt 2) (tEd (tSetText (tSetLog (tSetEds t (z3 (tEd (tSetEds t (z3 (tEd (tSetEds t (z3 u1 (tEd t 1) (tEd t 2))) 0) u2 (tEd (tSetEds t (z3 u1 (tEd t 1) (tEd t 2))) 2))) 0) (tEd (tSetEds t (z3 (tEd (tSetEds t (z3 u1 (tEd t 1) (tEd t 2))) 0) u2 (tEd (tSetEds t (z3 u1 (tEd t 1) (tEd t 2))) 2))) 1) u3)) u4) u5) 2)), (wN cI (gt 22) (gt 23) u4), (wN cI (gt 24) (gt 25) u5), (wN cI (gt 26) (gt 27) u6)] [(wS cI gt (tSetWrs (tSetText (tSetLog (tSetEds t (z3 (tEd (tSetEds t (z3 (tEd (tSetEds t (z3 u1 (tEd t 1) (tEd t 2))) 0) u2 (tEd (tSetEds t (z3 u1 (tEd t 1) (tEd t 2))) 2))) 0) (tEd (tSetEds t (z3 (tEd (tSetEds t (z3 u1 (tEd t 1) (tEd t 2))) 0) u2 (tEd (tSetEds t (z3 u1 (tEd t 1) (tEd t 2))) 2))) 1) u3)) u4) u5) u6)), (wS cI go o)] rfl rfl rfl ?_
  exact z_vret C rfl ((tSetWrs (tSetText (tSetLog (tSetEds t (z3 (tEd (tSetEds t (z3 (tEd (tSetEds t (z3 u1 (tEd t 1) (tEd t 2))) 0) u2 (tEd (tSetEds t (z3 u1 (tEd t 1) (tEd t 2))) 2))) 0) (tEd (tSetEds t (z3 (tEd (tSetEds t (z3 u1 (tEd t 1) (tEd t 2))) 0) u2 (tEd (tSetEds t (z3 u1 (tEd t 1) (tEd t 2))) 2))) 1) u3)) u4) u5) u6)) rfl hw rfl dX5_copyState_66
def rmX5_copyEndOf : Room := { frames := 4, cells := 0, slots := 0, locals := 98 }
def lb_X5_copyEndOf_89 (t : zT) (o : zT) (p2 : Int32)   (Q : zT → Prop)  (K89 : (Int32) → (zT) → Prop) (v3 : Int32) (w0 : zT) : Prop := ((3 ≤ v3 → (Q w0)) ∧ (¬ 3 ≤ v3 → (wp_X2_hearRest (tEd w0 (ixE v3)) (tLog w0) (fun r4 u5 => (K89 (v3 + 1) (tSetEds w0 (va_up (tEds w0) (ixE v3) u5)))))))
set_option maxHeartbeats 4000000 in
set_option maxRecDepth 100000 in
theorem wk_X5_copyEndOf_89 {p : Program} {l : Launch} {e : Env} {s : State} {m : MethodId} {args : Array Value} {below : List Frame} {meth : Method} {c : Code} {D : va_G} {cI : ClassId} {A : Nat → Prop} (C : ZC p s m args meth c RX5 cX5_copyEndOf 6 none D cI A) (gt : Nat → Nat) (go : Nat → Nat) (t : zT) (o : zT) (p2 : Int32)   (v3 : Int32) (w0 : zT) (Q : zT → Prop)  (hw : zLoop2 (lb_X5_copyEndOf_89 t o p2   Q ) v3 w0) : ZZ p l e rmX5_copyEndOf s m args below meth c D A 6 0 0 (MQ below (ZQ D A (fun _ : zT => none) (fun u : zT => [(wS cI gt u), (wS cI go o)]) (fun u : zT => Q u)) args s rmX5_copyEndOf.cells rmX5_copyEndOf.slots A) [(wS cI gt w0), (wS cI go o)] 89 [some (.ref (gt 0)), none, none, some (.int v3), none, none] [] := by
  refine zLoop2_w (fun (v3 : Int32) (w0 : zT) => ZZ p l e rmX5_copyEndOf s m args below meth c D A 6 0 0 (MQ below (ZQ D A (fun _ : zT => none) (fun u : zT => [(wS cI gt u), (wS cI go o)]) (fun u : zT => Q u)) args s rmX5_copyEndOf.cells rmX5_copyEndOf.slots A) [(wS cI gt w0), (wS cI go o)] 89 [some (.ref (gt 0)), none, none, some (.int v3), none, none] []) ?_ _ _ hw
  clear hw
  intro K89 hK89 v3 w0 hw
  unfold lb_X5_copyEndOf_89 at hw
  refine z_iload_n C dX5_copyEndOf_89 rfl ?_
  refine z_iconst C dX5_copyEndOf_90 3 (by decide +kernel) ?_
  refine z_icmp_ge C dX5_copyEndOf_91 113 (by decide) (fun c3 => ?_) (fun c3 => ?_)
  · replace hw := hw.1 c3
    exact z_vret C rfl (w0) rfl hw rfl dX5_copyEndOf_113
  · replace hw := hw.2 c3
    refine z_aload_n C dX5_copyEndOf_94 rfl ?_
    refine z_iload_n C dX5_copyEndOf_95 rfl ?_
    refine z_callFV C [(wS cI gt w0)] [(wS cI go o)] rfl rfl (met_X5_editor l D cI gt w0 v3) y_X5_editor mw_6_13 dX5_copyEndOf_96 rfl n_X5_editor rfl (by decide) ⟨rfl, rfl, Nat.le_of_ble_eq_true rfl, Nat.le_of_ble_eq_true rfl⟩ (Nat.le_of_ble_eq_true rfl) (z_pm [0, 1] 2 rfl (by decide) rfl) ?_
    refine z_aload_n C dX5_copyEndOf_99 rfl ?_
    refine z_get C inlX5 rfl 3 (by decide) mw_2_16 dX5_copyEndOf_100 0 0 rfl rfl rfl ?_
    refine z_focus 0 (ixE_lt _) [(wF cI gt w0 (ixE v3) (tEd w0 (ixE v3))), (wS cI go o)] rfl rfl ?_
    refine z_open 0 [(wSo gt), (wE cI (gE gt (ixE v3)) (tEd w0 (ixE v3))), (wN cI (gt 22) (gt 23) (tLog w0)), (wN cI (gt 24) (gt 25) (tText w0)), (wN cI (gt 26) (gt 27) (tWrs w0)), (wR cI gt w0 (ixE v3))] [(wSo gt), (wE cI (gE gt (ixE v3)) (tEd w0 (ixE v3))), (wN cI (gt 22) (gt 23) (tLog w0)), (wN cI (gt 24) (gt 25) (tText w0)), (wN cI (gt 26) (gt 27) (tWrs w0)), (wR cI gt w0 (ixE v3)), (wS cI go o)] rfl rfl rfl ?_
    refine z_callV0 C [(wE cI (gE gt (ixE v3)) (tEd w0 (ixE v3))), (wN cI (gt 22) (gt 23) (tLog w0))] [(wSo gt), (wN cI (gt 24) (gt 25) (tText w0)), (wN cI (gt 26) (gt 27) (tWrs w0)), (wR cI gt w0 (ixE v3)), (wS cI go o)] rfl rfl (met_X2_hearRest l D cI (gE gt (ixE v3)) (gt 22) (gt 23) (tEd w0 (ixE v3)) (tLog w0) _ hw) y_X2_hearRest mw_11_4 dX5_copyEndOf_103 rfl n_X2_hearRest rfl (by decide) ⟨rfl, rfl, Nat.le_of_ble_eq_true rfl, Nat.le_of_ble_eq_true rfl⟩ (Nat.le_of_ble_eq_true rfl) (z_pm [1, 2, 0, 3, 4, 5, 6] 7 rfl (by decide) rfl) ?_
    intro ⟨r4, u5⟩ hw
    try dsimp only at hw
    refine z_bs [(wE cI (gE gt (ixE v3)) u5), (wN cI (gt 22) (gt 23) (tLog w0)), (wSo gt), (wN cI (gt 24) (gt 25) (tText w0)), (wN cI (gt 26) (gt 27) (tWrs w0)), (wR cI gt w0 (ixE v3)), (wS cI go o)] [.int r4] rfl rfl ?_
    refine z_perm C [(wSo gt), (wE cI (gE gt (ixE v3)) u5), (wN cI (gt 22) (gt 23) (tLog w0)), (wN cI (gt 24) (gt 25) (tText w0)), (wN cI (gt 26) (gt 27) (tWrs w0)), (wR cI gt w0 (ixE v3)), (wS cI go o)] (z_pm [2, 0, 1, 3, 4, 5, 6] 7 rfl (by decide) rfl) ?_
    refine z_shut 0 [(wSo gt), (wE cI (gE gt (ixE v3)) u5), (wN cI (gt 22) (gt 23) (tLog w0)), (wN cI (gt 24) (gt 25) (tText w0)), (wN cI (gt 26) (gt 27) (tWrs w0)), (wR cI gt w0 (ixE v3))] [(wF cI gt w0 (ixE v3) u5), (wS cI go o)] rfl rfl rfl ?_
    refine z_pop C dX5_copyEndOf_106 rfl ?_
    refine z_iinc C dX5_copyEndOf_107 rfl (v3 + 1) (by rfl) [some (.ref (gt 0)), none, none, some (.int (v3 + 1)), none, none] (by decide) rfl ?_
    refine z_goto C dX5_copyEndOf_110 89 (by decide) ?_
    refine z_unfocus 0 (ixE_lt _) (tSetEds w0 (va_up (tEds w0) (ixE v3) u5)) [(wS cI gt (tSetEds w0 (va_up (tEds w0) (ixE v3) u5))), (wS cI go o)] rfl rfl rfl ?_
    exact hK89 _ _ hw
def lb_X5_copyEndOf_32 (t : zT) (o : zT) (p2 : Int32) (v3 : Int32) (s24_0 : Int32) (Q : zT → Prop) (K7 : (Int32) → (zT) → Prop) (K32 : (Int32) → (zT) → Prop) (v5 : Int32) (w0 : zT) : Prop := ((6 < v5 → (K7 (v3 + 1) w0)) ∧ (¬ 6 < v5 → ((¬ (f_X2_isSettled (tEd w0 (ixE s24_0)) (tLog w0)) = 0 → (K7 (v3 + 1) w0)) ∧ ((f_X2_isSettled (tEd w0 (ixE s24_0)) (tLog w0)) = 0 → (((f_X2_canSend (tEd w0 (ixE s24_0))) = 0 → (wp_X2_hearRest (tEd w0 (ixE s24_0)) (tLog w0) (fun r10 u11 => (K32 (v5 + 1) (tSetEds w0 (va_up (tEds w0) (ixE s24_0) u11)))))) ∧ (¬ (f_X2_canSend (tEd w0 (ixE s24_0))) = 0 → (wp_X5_append (ixE s24_0) w0 (fun u12 => (wp_X2_hearRest (tEd u12 (ixE s24_0)) (tLog u12) (fun r13 u14 => (K32 (v5 + 1) (tSetEds u12 (va_up (tEds u12) (ixE s24_0) u14)))))))))))))
set_option maxHeartbeats 4000000 in
set_option maxRecDepth 100000 in
theorem wk_X5_copyEndOf_32 {p : Program} {l : Launch} {e : Env} {s : State} {m : MethodId} {args : Array Value} {below : List Frame} {meth : Method} {c : Code} {D : va_G} {cI : ClassId} {A : Nat → Prop} (C : ZC p s m args meth c RX5 cX5_copyEndOf 6 none D cI A) (gt : Nat → Nat) (go : Nat → Nat) (t : zT) (o : zT) (p2 : Int32) (v3 : Int32) (s24_0 : Int32) (v5 : Int32) (w0 : zT) (Q : zT → Prop) (K7 : (Int32) → (zT) → Prop) (hK7 : ∀ (v3 : Int32) (w0 : zT), K7 v3 w0 → ZZ p l e rmX5_copyEndOf s m args below meth c D A 6 0 0 (MQ below (ZQ D A (fun _ : zT => none) (fun u : zT => [(wS cI gt u), (wS cI go o)]) (fun u : zT => Q u)) args s rmX5_copyEndOf.cells rmX5_copyEndOf.slots A) [(wS cI gt w0), (wS cI go o)] 7 [some (.ref (gt 0)), none, some (.int p2), some (.int v3), none, none] []) (hw : zLoop2 (lb_X5_copyEndOf_32 t o p2 v3 s24_0 Q K7) v5 w0) : ZZ p l e rmX5_copyEndOf s m args below meth c D A 6 0 0 (MQ below (ZQ D A (fun _ : zT => none) (fun u : zT => [(wS cI gt u), (wS cI go o)]) (fun u : zT => Q u)) args s rmX5_copyEndOf.cells rmX5_copyEndOf.slots A) [(wS cI gt w0), (wS cI go o)] 32 [some (.ref (gt 0)), none, some (.int p2), some (.int v3), some (.ref ((gE gt (ixE s24_0)) 0)), some (.int v5)] [] := by
  refine zLoop2_w (fun (v5 : Int32) (w0 : zT) => ZZ p l e rmX5_copyEndOf s m args below meth c D A 6 0 0 (MQ below (ZQ D A (fun _ : zT => none) (fun u : zT => [(wS cI gt u), (wS cI go o)]) (fun u : zT => Q u)) args s rmX5_copyEndOf.cells rmX5_copyEndOf.slots A) [(wS cI gt w0), (wS cI go o)] 32 [some (.ref (gt 0)), none, some (.int p2), some (.int v3), some (.ref ((gE gt (ixE s24_0)) 0)), some (.int v5)] []) ?_ _ _ hw
  clear hw
  intro K32 hK32 v5 w0 hw
  unfold lb_X5_copyEndOf_32 at hw
  refine z_iload C dX5_copyEndOf_32 rfl ?_
  refine z_bipush C dX5_copyEndOf_34 6 (by decide +kernel) ?_
  refine z_icmp_gt C dX5_copyEndOf_36 81 (by decide) (fun c7 => ?_) (fun c7 => ?_)
  · replace hw := hw.1 c7
    refine z_iinc C dX5_copyEndOf_81 rfl (v3 + 1) (by rfl) [some (.ref (gt 0)), none, some (.int p2), some (.int (v3 + 1)), some (.ref ((gE gt (ixE s24_0)) 0)), some (.int v5)] (by decide) rfl ?_
    refine z_goto C dX5_copyEndOf_84 7 (by decide) ?_
    refine z_ls C [true, false, true, true, false, false] [some (.ref (gt 0)), none, some (.int p2), some (.int (v3 + 1)), none, none] rfl ?_
    exact hK7 _ _ hw
  · replace hw := hw.2 c7
    refine z_aload C dX5_copyEndOf_39 rfl ?_
    refine z_aload_n C dX5_copyEndOf_41 rfl ?_
    refine z_get C inlX5 rfl 3 (by decide) mw_2_16 dX5_copyEndOf_42 0 0 rfl rfl rfl ?_
    refine z_focus 0 (ixE_lt _) [(wF cI gt w0 (ixE s24_0) (tEd w0 (ixE s24_0))), (wS cI go o)] rfl rfl ?_
    refine z_open 0 [(wSo gt), (wE cI (gE gt (ixE s24_0)) (tEd w0 (ixE s24_0))), (wN cI (gt 22) (gt 23) (tLog w0)), (wN cI (gt 24) (gt 25) (tText w0)), (wN cI (gt 26) (gt 27) (tWrs w0)), (wR cI gt w0 (ixE s24_0))] [(wSo gt), (wE cI (gE gt (ixE s24_0)) (tEd w0 (ixE s24_0))), (wN cI (gt 22) (gt 23) (tLog w0)), (wN cI (gt 24) (gt 25) (tText w0)), (wN cI (gt 26) (gt 27) (tWrs w0)), (wR cI gt w0 (ixE s24_0)), (wS cI go o)] rfl rfl rfl ?_
    refine z_callFV C [(wE cI (gE gt (ixE s24_0)) (tEd w0 (ixE s24_0))), (wN cI (gt 22) (gt 23) (tLog w0))] [(wSo gt), (wN cI (gt 24) (gt 25) (tText w0)), (wN cI (gt 26) (gt 27) (tWrs w0)), (wR cI gt w0 (ixE s24_0)), (wS cI go o)] rfl rfl (met_X2_isSettled l D cI (gE gt (ixE s24_0)) (gt 22) (gt 23) (tEd w0 (ixE s24_0)) (tLog w0)) y_X2_isSettled mw_22_8 dX5_copyEndOf_45 rfl n_X2_isSettled rfl (by decide) ⟨rfl, rfl, Nat.le_of_ble_eq_true rfl, Nat.le_of_ble_eq_true rfl⟩ (Nat.le_of_ble_eq_true rfl) (z_pm [1, 2, 0, 3, 4, 5, 6] 7 rfl (by decide) rfl) ?_
    refine z_shut 0 [(wSo gt), (wE cI (gE gt (ixE s24_0)) (tEd w0 (ixE s24_0))), (wN cI (gt 22) (gt 23) (tLog w0)), (wN cI (gt 24) (gt 25) (tText w0)), (wN cI (gt 26) (gt 27) (tWrs w0)), (wR cI gt w0 (ixE s24_0))] [(wF cI gt w0 (ixE s24_0) (tEd w0 (ixE s24_0))), (wS cI go o)] rfl rfl rfl ?_
    refine z_if_ne C dX5_copyEndOf_48 81 (by decide) (fun c8 => ?_) (fun c8 => ?_)
    · replace hw := hw.1 c8
      refine z_iinc C dX5_copyEndOf_81 rfl (v3 + 1) (by rfl) [some (.ref (gt 0)), none, some (.int p2), some (.int (v3 + 1)), some (.ref ((gE gt (ixE s24_0)) 0)), some (.int v5)] (by decide) rfl ?_
      refine z_goto C dX5_copyEndOf_84 7 (by decide) ?_
      refine z_unfocus 0 (ixE_lt _) w0 [(wS cI gt w0), (wS cI go o)] (tSetEd_same _ _) rfl rfl ?_
      refine z_ls C [true, false, true, true, false, false] [some (.ref (gt 0)), none, some (.int p2), some (.int (v3 + 1)), none, none] rfl ?_
      exact hK7 _ _ hw
    · replace hw := hw.2 c8
      refine z_aload C dX5_copyEndOf_51 rfl ?_
      refine z_open 0 [(wSo gt), (wE cI (gE gt (ixE s24_0)) (tEd w0 (ixE s24_0))), (wN cI (gt 22) (gt 23) (tLog w0)), (wN cI (gt 24) (gt 25) (tText w0)), (wN cI (gt 26) (gt 27) (tWrs w0)), (wR cI gt w0 (ixE s24_0))] [(wSo gt), (wE cI (gE gt (ixE s24_0)) (tEd w0 (ixE s24_0))), (wN cI (gt 22) (gt 23) (tLog w0)), (wN cI (gt 24) (gt 25) (tText w0)), (wN cI (gt 26) (gt 27) (tWrs w0)), (wR cI gt w0 (ixE s24_0)), (wS cI go o)] rfl rfl rfl ?_
      refine z_callFV C [(wE cI (gE gt (ixE s24_0)) (tEd w0 (ixE s24_0)))] [(wSo gt), (wN cI (gt 22) (gt 23) (tLog w0)), (wN cI (gt 24) (gt 25) (tText w0)), (wN cI (gt 26) (gt 27) (tWrs w0)), (wR cI gt w0 (ixE s24_0)), (wS cI go o)] rfl rfl (met_X2_canSend l D cI (gE gt (ixE s24_0)) (tEd w0 (ixE s24_0))) y_X2_canSend mw_9_18 dX5_copyEndOf_53 rfl n_X2_canSend rfl (by decide) ⟨rfl, rfl, Nat.le_of_ble_eq_true rfl, Nat.le_of_ble_eq_true rfl⟩ (Nat.le_of_ble_eq_true rfl) (z_pm [1, 0, 2, 3, 4, 5, 6] 7 rfl (by decide) rfl) ?_
      refine z_shut 0 [(wSo gt), (wE cI (gE gt (ixE s24_0)) (tEd w0 (ixE s24_0))), (wN cI (gt 22) (gt 23) (tLog w0)), (wN cI (gt 24) (gt 25) (tText w0)), (wN cI (gt 26) (gt 27) (tWrs w0)), (wR cI gt w0 (ixE s24_0))] [(wF cI gt w0 (ixE s24_0) (tEd w0 (ixE s24_0))), (wS cI go o)] rfl rfl rfl ?_
      refine z_if_eq C dX5_copyEndOf_56 65 (by decide) (fun c9 => ?_) (fun c9 => ?_)
      · replace hw := hw.1 c9
        refine z_aload C dX5_copyEndOf_65 rfl ?_
        refine z_aload_n C dX5_copyEndOf_67 rfl ?_
        refine z_get C inlX5 rfl 3 (by decide) mw_2_16 dX5_copyEndOf_68 0 0 rfl rfl rfl ?_
        refine z_open 0 [(wSo gt), (wE cI (gE gt (ixE s24_0)) (tEd w0 (ixE s24_0))), (wN cI (gt 22) (gt 23) (tLog w0)), (wN cI (gt 24) (gt 25) (tText w0)), (wN cI (gt 26) (gt 27) (tWrs w0)), (wR cI gt w0 (ixE s24_0))] [(wSo gt), (wE cI (gE gt (ixE s24_0)) (tEd w0 (ixE s24_0))), (wN cI (gt 22) (gt 23) (tLog w0)), (wN cI (gt 24) (gt 25) (tText w0)), (wN cI (gt 26) (gt 27) (tWrs w0)), (wR cI gt w0 (ixE s24_0)), (wS cI go o)] rfl rfl rfl ?_
        refine z_callV0 C [(wE cI (gE gt (ixE s24_0)) (tEd w0 (ixE s24_0))), (wN cI (gt 22) (gt 23) (tLog w0))] [(wSo gt), (wN cI (gt 24) (gt 25) (tText w0)), (wN cI (gt 26) (gt 27) (tWrs w0)), (wR cI gt w0 (ixE s24_0)), (wS cI go o)] rfl rfl (met_X2_hearRest l D cI (gE gt (ixE s24_0)) (gt 22) (gt 23) (tEd w0 (ixE s24_0)) (tLog w0) _ hw) y_X2_hearRest mw_11_4 dX5_copyEndOf_71 rfl n_X2_hearRest rfl (by decide) ⟨rfl, rfl, Nat.le_of_ble_eq_true rfl, Nat.le_of_ble_eq_true rfl⟩ (Nat.le_of_ble_eq_true rfl) (z_pm [1, 2, 0, 3, 4, 5, 6] 7 rfl (by decide) rfl) ?_
        intro ⟨r10, u11⟩ hw
        try dsimp only at hw
        refine z_bs [(wE cI (gE gt (ixE s24_0)) u11), (wN cI (gt 22) (gt 23) (tLog w0)), (wSo gt), (wN cI (gt 24) (gt 25) (tText w0)), (wN cI (gt 26) (gt 27) (tWrs w0)), (wR cI gt w0 (ixE s24_0)), (wS cI go o)] [.int r10] rfl rfl ?_
        refine z_perm C [(wSo gt), (wE cI (gE gt (ixE s24_0)) u11), (wN cI (gt 22) (gt 23) (tLog w0)), (wN cI (gt 24) (gt 25) (tText w0)), (wN cI (gt 26) (gt 27) (tWrs w0)), (wR cI gt w0 (ixE s24_0)), (wS cI go o)] (z_pm [2, 0, 1, 3, 4, 5, 6] 7 rfl (by decide) rfl) ?_
        refine z_shut 0 [(wSo gt), (wE cI (gE gt (ixE s24_0)) u11), (wN cI (gt 22) (gt 23) (tLog w0)), (wN cI (gt 24) (gt 25) (tText w0)), (wN cI (gt 26) (gt 27) (tWrs w0)), (wR cI gt w0 (ixE s24_0))] [(wF cI gt w0 (ixE s24_0) u11), (wS cI go o)] rfl rfl rfl ?_
        refine z_pop C dX5_copyEndOf_74 rfl ?_
        refine z_iinc C dX5_copyEndOf_75 rfl (v5 + 1) (by rfl) [some (.ref (gt 0)), none, some (.int p2), some (.int v3), some (.ref ((gE gt (ixE s24_0)) 0)), some (.int (v5 + 1))] (by decide) rfl ?_
        refine z_goto C dX5_copyEndOf_78 32 (by decide) ?_
        refine z_unfocus 0 (ixE_lt _) (tSetEds w0 (va_up (tEds w0) (ixE s24_0) u11)) [(wS cI gt (tSetEds w0 (va_up (tEds w0) (ixE s24_0) u11))), (wS cI go o)] rfl rfl rfl ?_
        exact hK32 _ _ hw
      · replace hw := hw.2 c9
        refine z_aload_n C dX5_copyEndOf_59 rfl ?_
        refine z_aload C dX5_copyEndOf_60 rfl ?_
        refine z_unfocus 0 (ixE_lt _) w0 [(wS cI gt w0), (wS cI go o)] (tSetEd_same _ _) rfl rfl ?_
        refine z_callV0 C [(wS cI gt w0)] [(wS cI go o)] rfl rfl (met_X5_append l D cI gt (ixE s24_0) w0 (ixE_lt _) _ hw) y_X5_append mw_9_23 dX5_copyEndOf_62 rfl n_X5_append rfl (by decide) ⟨rfl, rfl, Nat.le_of_ble_eq_true rfl, Nat.le_of_ble_eq_true rfl⟩ (Nat.le_of_ble_eq_true rfl) (z_pm [0, 1] 2 rfl (by decide) rfl) ?_
        intro u12 hw
        try dsimp only at hw
        refine z_bs [(wS cI gt u12), (wS cI go o)] [] rfl rfl ?_
        refine z_aload C dX5_copyEndOf_65 rfl ?_
        refine z_aload_n C dX5_copyEndOf_67 rfl ?_
        refine z_get C inlX5 rfl 3 (by decide) mw_2_16 dX5_copyEndOf_68 0 0 rfl rfl rfl ?_
        refine z_focus 0 (ixE_lt _) [(wF cI gt u12 (ixE s24_0) (tEd u12 (ixE s24_0))), (wS cI go o)] rfl rfl ?_
        refine z_open 0 [(wSo gt), (wE cI (gE gt (ixE s24_0)) (tEd u12 (ixE s24_0))), (wN cI (gt 22) (gt 23) (tLog u12)), (wN cI (gt 24) (gt 25) (tText u12)), (wN cI (gt 26) (gt 27) (tWrs u12)), (wR cI gt u12 (ixE s24_0))] [(wSo gt), (wE cI (gE gt (ixE s24_0)) (tEd u12 (ixE s24_0))), (wN cI (gt 22) (gt 23) (tLog u12)), (wN cI (gt 24) (gt 25) (tText u12)), (wN cI (gt 26) (gt 27) (tWrs u12)), (wR cI gt u12 (ixE s24_0)), (wS cI go o)] rfl rfl rfl ?_
        refine z_callV0 C [(wE cI (gE gt (ixE s24_0)) (tEd u12 (ixE s24_0))), (wN cI (gt 22) (gt 23) (tLog u12))] [(wSo gt), (wN cI (gt 24) (gt 25) (tText u12)), (wN cI (gt 26) (gt 27) (tWrs u12)), (wR cI gt u12 (ixE s24_0)), (wS cI go o)] rfl rfl (met_X2_hearRest l D cI (gE gt (ixE s24_0)) (gt 22) (gt 23) (tEd u12 (ixE s24_0)) (tLog u12) _ hw) y_X2_hearRest mw_11_4 dX5_copyEndOf_71 rfl n_X2_hearRest rfl (by decide) ⟨rfl, rfl, Nat.le_of_ble_eq_true rfl, Nat.le_of_ble_eq_true rfl⟩ (Nat.le_of_ble_eq_true rfl) (z_pm [1, 2, 0, 3, 4, 5, 6] 7 rfl (by decide) rfl) ?_
        intro ⟨r13, u14⟩ hw
        try dsimp only at hw
        refine z_bs [(wE cI (gE gt (ixE s24_0)) u14), (wN cI (gt 22) (gt 23) (tLog u12)), (wSo gt), (wN cI (gt 24) (gt 25) (tText u12)), (wN cI (gt 26) (gt 27) (tWrs u12)), (wR cI gt u12 (ixE s24_0)), (wS cI go o)] [.int r13] rfl rfl ?_
        refine z_perm C [(wSo gt), (wE cI (gE gt (ixE s24_0)) u14), (wN cI (gt 22) (gt 23) (tLog u12)), (wN cI (gt 24) (gt 25) (tText u12)), (wN cI (gt 26) (gt 27) (tWrs u12)), (wR cI gt u12 (ixE s24_0)), (wS cI go o)] (z_pm [2, 0, 1, 3, 4, 5, 6] 7 rfl (by decide) rfl) ?_
        refine z_shut 0 [(wSo gt), (wE cI (gE gt (ixE s24_0)) u14), (wN cI (gt 22) (gt 23) (tLog u12)), (wN cI (gt 24) (gt 25) (tText u12)), (wN cI (gt 26) (gt 27) (tWrs u12)), (wR cI gt u12 (ixE s24_0))] [(wF cI gt u12 (ixE s24_0) u14), (wS cI go o)] rfl rfl rfl ?_
        refine z_pop C dX5_copyEndOf_74 rfl ?_
        refine z_iinc C dX5_copyEndOf_75 rfl (v5 + 1) (by rfl) [some (.ref (gt 0)), none, some (.int p2), some (.int v3), some (.ref ((gE gt (ixE s24_0)) 0)), some (.int (v5 + 1))] (by decide) rfl ?_
        refine z_goto C dX5_copyEndOf_78 32 (by decide) ?_
        refine z_unfocus 0 (ixE_lt _) (tSetEds u12 (va_up (tEds u12) (ixE s24_0) u14)) [(wS cI gt (tSetEds u12 (va_up (tEds u12) (ixE s24_0) u14))), (wS cI go o)] rfl rfl rfl ?_
        exact hK32 _ _ hw
def jn_X5_copyEndOf_24 (t : zT) (o : zT) (p2 : Int32) (v3 : Int32) (w0 : zT) (s24_0 : Int32) (Q : zT → Prop) (K7 : (Int32) → (zT) → Prop) : Prop := (zLoop2 (lb_X5_copyEndOf_32 t o p2 v3 s24_0 Q K7) 0 w0)
set_option maxHeartbeats 4000000 in
set_option maxRecDepth 100000 in
theorem wk_X5_copyEndOf_24 {p : Program} {l : Launch} {e : Env} {s : State} {m : MethodId} {args : Array Value} {below : List Frame} {meth : Method} {c : Code} {D : va_G} {cI : ClassId} {A : Nat → Prop} (C : ZC p s m args meth c RX5 cX5_copyEndOf 6 none D cI A) (gt : Nat → Nat) (go : Nat → Nat) (t : zT) (o : zT) (p2 : Int32) (v3 : Int32) (w0 : zT) (s24_0 : Int32) (Q : zT → Prop) (K7 : (Int32) → (zT) → Prop) (hK7 : ∀ (v3 : Int32) (w0 : zT), K7 v3 w0 → ZZ p l e rmX5_copyEndOf s m args below meth c D A 6 0 0 (MQ below (ZQ D A (fun _ : zT => none) (fun u : zT => [(wS cI gt u), (wS cI go o)]) (fun u : zT => Q u)) args s rmX5_copyEndOf.cells rmX5_copyEndOf.slots A) [(wS cI gt w0), (wS cI go o)] 7 [some (.ref (gt 0)), none, some (.int p2), some (.int v3), none, none] []) (hw : jn_X5_copyEndOf_24 t o p2 v3 w0 s24_0 Q K7) : ZZ p l e rmX5_copyEndOf s m args below meth c D A 6 0 0 (MQ below (ZQ D A (fun _ : zT => none) (fun u : zT => [(wS cI gt u), (wS cI go o)]) (fun u : zT => Q u)) args s rmX5_copyEndOf.cells rmX5_copyEndOf.slots A) [(wS cI gt w0), (wS cI go o)] 24 [some (.ref (gt 0)), none, some (.int p2), some (.int v3), none, none] [.int s24_0, .ref (gt 0)] := by
  unfold jn_X5_copyEndOf_24 at hw
  refine z_callFV C [(wS cI gt w0)] [(wS cI go o)] rfl rfl (met_X5_editor l D cI gt w0 s24_0) y_X5_editor mw_6_13 dX5_copyEndOf_24 rfl n_X5_editor rfl (by decide) ⟨rfl, rfl, Nat.le_of_ble_eq_true rfl, Nat.le_of_ble_eq_true rfl⟩ (Nat.le_of_ble_eq_true rfl) (z_pm [0, 1] 2 rfl (by decide) rfl) ?_
  refine z_astore C dX5_copyEndOf_27 [some (.ref (gt 0)), none, some (.int p2), some (.int v3), some (.ref ((gE gt (ixE s24_0)) 0)), none] (by decide) rfl ?_
  refine z_iconst C dX5_copyEndOf_29 0 (by decide +kernel) ?_
  refine z_istore C dX5_copyEndOf_30 [some (.ref (gt 0)), none, some (.int p2), some (.int v3), some (.ref ((gE gt (ixE s24_0)) 0)), some (.int 0)] (by decide) rfl ?_
  exact wk_X5_copyEndOf_32 C gt go t o p2 v3 s24_0 0 w0 _ K7 hK7 hw
def lb_X5_copyEndOf_7 (t : zT) (o : zT) (p2 : Int32)   (Q : zT → Prop)  (K7 : (Int32) → (zT) → Prop) (v3 : Int32) (w0 : zT) : Prop := ((3 ≤ v3 → (zLoop2 (lb_X5_copyEndOf_89 t o p2   Q ) 0 w0)) ∧ (¬ 3 ≤ v3 → ((p2 = 0 → (jn_X5_copyEndOf_24 t o p2 v3 w0 v3 Q K7)) ∧ (¬ p2 = 0 → (jn_X5_copyEndOf_24 t o p2 v3 w0 (2 - v3) Q K7)))))
set_option maxHeartbeats 4000000 in
set_option maxRecDepth 100000 in
theorem wk_X5_copyEndOf_7 {p : Program} {l : Launch} {e : Env} {s : State} {m : MethodId} {args : Array Value} {below : List Frame} {meth : Method} {c : Code} {D : va_G} {cI : ClassId} {A : Nat → Prop} (C : ZC p s m args meth c RX5 cX5_copyEndOf 6 none D cI A) (gt : Nat → Nat) (go : Nat → Nat) (t : zT) (o : zT) (p2 : Int32)   (v3 : Int32) (w0 : zT) (Q : zT → Prop)  (hw : zLoop2 (lb_X5_copyEndOf_7 t o p2   Q ) v3 w0) : ZZ p l e rmX5_copyEndOf s m args below meth c D A 6 0 0 (MQ below (ZQ D A (fun _ : zT => none) (fun u : zT => [(wS cI gt u), (wS cI go o)]) (fun u : zT => Q u)) args s rmX5_copyEndOf.cells rmX5_copyEndOf.slots A) [(wS cI gt w0), (wS cI go o)] 7 [some (.ref (gt 0)), none, some (.int p2), some (.int v3), none, none] [] := by
  refine zLoop2_w (fun (v3 : Int32) (w0 : zT) => ZZ p l e rmX5_copyEndOf s m args below meth c D A 6 0 0 (MQ below (ZQ D A (fun _ : zT => none) (fun u : zT => [(wS cI gt u), (wS cI go o)]) (fun u : zT => Q u)) args s rmX5_copyEndOf.cells rmX5_copyEndOf.slots A) [(wS cI gt w0), (wS cI go o)] 7 [some (.ref (gt 0)), none, some (.int p2), some (.int v3), none, none] []) ?_ _ _ hw
  clear hw
  intro K7 hK7 v3 w0 hw
  unfold lb_X5_copyEndOf_7 at hw
  refine z_iload_n C dX5_copyEndOf_7 rfl ?_
  refine z_iconst C dX5_copyEndOf_8 3 (by decide +kernel) ?_
  refine z_icmp_ge C dX5_copyEndOf_9 87 (by decide) (fun c2 => ?_) (fun c2 => ?_)
  · replace hw := hw.1 c2
    refine z_iconst C dX5_copyEndOf_87 0 (by decide +kernel) ?_
    refine z_istore_n C dX5_copyEndOf_88 [some (.ref (gt 0)), none, some (.int p2), some (.int 0), none, none] (by decide) rfl ?_
    refine z_ls C [true, false, false, true, false, false] [some (.ref (gt 0)), none, none, some (.int 0), none, none] rfl ?_
    exact wk_X5_copyEndOf_89 C gt go t o p2   0 w0 _  hw
  · replace hw := hw.2 c2
    refine z_aload_n C dX5_copyEndOf_12 rfl ?_
    refine z_iload_n C dX5_copyEndOf_13 rfl ?_
    refine z_if_eq C dX5_copyEndOf_14 23 (by decide) (fun c6 => ?_) (fun c6 => ?_)
    · replace hw := hw.1 c6
      refine z_iload_n C dX5_copyEndOf_23 rfl ?_
      exact wk_X5_copyEndOf_24 C gt go t o p2 v3 w0 v3 _ K7 hK7 hw
    · replace hw := hw.2 c6
      refine z_iconst C dX5_copyEndOf_17 2 (by decide +kernel) ?_
      refine z_iload_n C dX5_copyEndOf_18 rfl ?_
      refine z_isub C dX5_copyEndOf_19 ?_
      refine z_goto C dX5_copyEndOf_20 24 (by decide) ?_
      exact wk_X5_copyEndOf_24 C gt go t o p2 v3 w0 (2 - v3) _ K7 hK7 hw
def wp_X5_copyEndOf (t : zT) (o : zT) (p2 : Int32) (Q : zT → Prop) : Prop := (wp_X5_copyState t o (fun u1 => (zLoop2 (lb_X5_copyEndOf_7 t o p2   Q ) 0 u1)))
set_option maxHeartbeats 4000000 in
set_option maxRecDepth 100000 in
theorem met_X5_copyEndOf (l : Launch) (D : va_G) (cI : ClassId) (gt : Nat → Nat) (go : Nat → Nat) (t : zT) (o : zT) (p2 : Int32) (Q : zT → Prop) (hw : wp_X5_copyEndOf t o p2 Q) : ZM l D cI yX5_copyEndOf cX5_copyEndOf 6 none rmX5_copyEndOf [.ref (gt 0), .ref (go 0), .int p2] [(wS cI gt t), (wS cI go o)] (fun _ : zT => none) (fun u : zT => [(wS cI gt u), (wS cI go o)]) (fun u : zT => Q u) := by
  refine z_body [some (.ref (gt 0)), some (.ref (go 0)), some (.int p2), none, none, none] (by decide +kernel) rfl (Nat.le_of_ble_eq_true rfl) rfl ?_
  intro p e s m args below meth c A C hin
  unfold wp_X5_copyEndOf at hw
  refine z_aload_n C dX5_copyEndOf_0 rfl ?_
  refine z_aload_n C dX5_copyEndOf_1 rfl ?_
  refine z_callV0 C [(wS cI gt t), (wS cI go o)] [] rfl rfl (met_X5_copyState l D cI gt go t o _ hw) y_X5_copyState mw_23_5 dX5_copyEndOf_2 rfl n_X5_copyState rfl (by decide) ⟨rfl, rfl, Nat.le_of_ble_eq_true rfl, Nat.le_of_ble_eq_true rfl⟩ (Nat.le_of_ble_eq_true rfl) (z_pm [0, 1] 2 rfl (by decide) rfl) ?_
  intro u1 hw
  try dsimp only at hw
  refine z_bs [(wS cI gt u1), (wS cI go o)] [] rfl rfl ?_
  refine z_iconst C dX5_copyEndOf_5 0 (by decide +kernel) ?_
  refine z_istore_n C dX5_copyEndOf_6 [some (.ref (gt 0)), some (.ref (go 0)), some (.int p2), some (.int 0), none, none] (by decide) rfl ?_
  refine z_ls C [true, false, true, true, false, false] [some (.ref (gt 0)), none, some (.int p2), some (.int 0), none, none] rfl ?_
  exact wk_X5_copyEndOf_7 C gt go t o p2   0 u1 _  hw
def rmX3_prepare : Room := { frames := 4, cells := 0, slots := 0, locals := 89 }
def wp_X3_prepare (hs : Int32) (t : zT) (o : zT)  (Q : zT → Prop) : Prop := (wp_X5_copyState t o (fun u1 => (Q u1)))
set_option maxHeartbeats 4000000 in
set_option maxRecDepth 100000 in
theorem met_X3_prepare (l : Launch) (D : va_G) (cI : ClassId) (ah : Nat) (h0 : Nat) (h1 : Nat) (h2 : Nat) (h3 : Nat) (gt : Nat → Nat) (go : Nat → Nat) (hs : Int32) (t : zT) (o : zT)  (Q : zT → Prop) (hw : wp_X3_prepare hs t o Q) : ZM l D cI yX3_prepare cX3_prepare 2 none rmX3_prepare [.ref ah, .ref (go 0)] [(wHo ah h0 h1 h2 h3 (gt 0) hs), (wS cI gt t), (wS cI go o)] (fun _ : zT => none) (fun u : zT => [(wHo ah h0 h1 h2 h3 (gt 0) hs), (wS cI gt u), (wS cI go o)]) (fun u : zT => Q u) := by
  refine z_body [some (.ref ah), some (.ref (go 0))] (by decide +kernel) rfl (Nat.le_of_ble_eq_true rfl) rfl ?_
  intro p e s m args below meth c A C hin
  unfold wp_X3_prepare at hw
  refine z_aload_n C dX3_prepare_0 rfl ?_
  refine z_get C inlX3 rfl 4 (by decide) mw_4_1 dX3_prepare_1 0 0 rfl rfl rfl ?_
  refine z_aload_n C dX3_prepare_4 rfl ?_
  refine z_callV0 C [(wS cI gt t), (wS cI go o)] [(wHo ah h0 h1 h2 h3 (gt 0) hs)] rfl rfl (met_X5_copyState l D cI gt go t o _ hw) y_X5_copyState mw_5_11 dX3_prepare_5 rfl n_X5_copyState rfl (by decide) ⟨rfl, rfl, Nat.le_of_ble_eq_true rfl, Nat.le_of_ble_eq_true rfl⟩ (Nat.le_of_ble_eq_true rfl) (z_pm [1, 2, 0] 3 rfl (by decide) rfl) ?_
  intro u1 hw
  try dsimp only at hw
  refine z_bs [(wS cI gt u1), (wS cI go o), (wHo ah h0 h1 h2 h3 (gt 0) hs)] [] rfl rfl ?_
  refine z_perm C [(wHo ah h0 h1 h2 h3 (gt 0) hs), (wS cI gt u1), (wS cI go o)] (z_pm [2, 0, 1] 3 rfl (by decide) rfl) ?_
  exact z_vret C rfl (u1) rfl hw rfl dX3_prepare_8
def rmX3_keep : Room := { frames := 1, cells := 0, slots := 0, locals := 24 }
def wp_X3_keep (hs : Int32)  (Q : Int32 → Prop) : Prop := (Q (if 4 < (hs + 1) then 4 else (hs + 1)))
set_option maxHeartbeats 4000000 in
set_option maxRecDepth 100000 in
theorem met_X3_keep (l : Launch) (D : va_G) (cI : ClassId) (ah : Nat) (h0 : Nat) (h1 : Nat) (h2 : Nat) (h3 : Nat) (h4 : Nat) (hs : Int32)  (Q : Int32 → Prop) (hw : wp_X3_keep hs Q) : ZM l D cI yX3_keep cX3_keep 2 none rmX3_keep [.ref ah] [(wHo ah h0 h1 h2 h3 h4 hs)] (fun _ : Int32 => none) (fun u : Int32 => [(wHo ah h4 h0 h1 h2 h3 u)]) (fun u : Int32 => Q u) := by
  refine z_body [some (.ref ah), none] (by decide +kernel) rfl (Nat.le_of_ble_eq_true rfl) rfl ?_
  intro p e s m args below meth c A C hin
  unfold wp_X3_keep at hw
  refine z_aload_n C dX3_keep_0 rfl ?_
  refine z_get C inlX3 rfl 3 (by decide) mw_4_0 dX3_keep_1 0 0 rfl rfl rfl ?_
  refine z_astore_n C dX3_keep_4 [some (.ref ah), some (.ref h3)] (by decide) rfl ?_
  refine z_aload_n C dX3_keep_5 rfl ?_
  refine z_aload_n C dX3_keep_6 rfl ?_
  refine z_get C inlX3 rfl 2 (by decide) mw_3_23 dX3_keep_7 0 0 rfl rfl rfl ?_
  refine z_put C inlX3 rfl tyX3 tyX3_ok nmX3 3 (by decide) mw_4_0 rfl rfl rfl rfl dX3_keep_10 0 0 rfl rfl (Nat.le_of_ble_eq_true rfl) [(wHo ah h0 h1 h2 h2 h4 hs)] rfl ?_
  refine z_aload_n C dX3_keep_13 rfl ?_
  refine z_aload_n C dX3_keep_14 rfl ?_
  refine z_get C inlX3 rfl 1 (by decide) mw_3_22 dX3_keep_15 0 0 rfl rfl rfl ?_
  refine z_put C inlX3 rfl tyX3 tyX3_ok nmX3 2 (by decide) mw_3_23 rfl rfl rfl rfl dX3_keep_18 0 0 rfl rfl (Nat.le_of_ble_eq_true rfl) [(wHo ah h0 h1 h1 h2 h4 hs)] rfl ?_
  refine z_aload_n C dX3_keep_21 rfl ?_
  refine z_aload_n C dX3_keep_22 rfl ?_
  refine z_get C inlX3 rfl 0 (by decide) mw_3_21 dX3_keep_23 0 0 rfl rfl rfl ?_
  refine z_put C inlX3 rfl tyX3 tyX3_ok nmX3 1 (by decide) mw_3_22 rfl rfl rfl rfl dX3_keep_26 0 0 rfl rfl (Nat.le_of_ble_eq_true rfl) [(wHo ah h0 h0 h1 h2 h4 hs)] rfl ?_
  refine z_aload_n C dX3_keep_29 rfl ?_
  refine z_aload_n C dX3_keep_30 rfl ?_
  refine z_get C inlX3 rfl 4 (by decide) mw_4_1 dX3_keep_31 0 0 rfl rfl rfl ?_
  refine z_put C inlX3 rfl tyX3 tyX3_ok nmX3 0 (by decide) mw_3_21 rfl rfl rfl rfl dX3_keep_34 0 0 rfl rfl (Nat.le_of_ble_eq_true rfl) [(wHo ah h4 h0 h1 h2 h4 hs)] rfl ?_
  refine z_aload_n C dX3_keep_37 rfl ?_
  refine z_aload_n C dX3_keep_38 rfl ?_
  refine z_put C inlX3 rfl tyX3 tyX3_ok nmX3 4 (by decide) mw_4_1 rfl rfl rfl rfl dX3_keep_39 0 0 rfl rfl (Nat.le_of_ble_eq_true rfl) [(wHo ah h4 h0 h1 h2 h3 hs)] rfl ?_
  refine z_aload_n C dX3_keep_42 rfl ?_
  refine z_aload_n C dX3_keep_43 rfl ?_
  refine z_get C inlX3 rfl 5 (by decide) mw_11_13 dX3_keep_44 0 0 rfl rfl rfl ?_
  refine z_iconst C dX3_keep_47 1 (by decide +kernel) ?_
  refine z_iadd C dX3_keep_48 ?_
  refine z_iconst C dX3_keep_49 4 (by decide +kernel) ?_
  refine z_mmin C mw_11_14 mw_6_4 mw_3_10 mw_6_5 (Nat.le_of_ble_eq_true rfl) (Nat.le_of_ble_eq_true rfl) ⟨Nat.le_of_ble_eq_true rfl, Nat.le_of_ble_eq_true rfl⟩ dX3_keep_50 ?_
  refine z_put C inlX3 rfl tyX3 tyX3_ok nmX3 5 (by decide) mw_11_13 rfl rfl rfl rfl dX3_keep_53 0 0 rfl rfl (Nat.le_of_ble_eq_true rfl) [(wHo ah h4 h0 h1 h2 h3 (if 4 < (hs + 1) then 4 else (hs + 1)))] rfl ?_
  exact z_vret C rfl ((if 4 < (hs + 1) then 4 else (hs + 1))) rfl hw rfl dX3_keep_56
def rmX3_restore : Room := { frames := 4, cells := 0, slots := 0, locals := 89 }
def wp_X3_restore (hs : Int32) (t : zT) (o : zT)  (Q : Int32 → zT → Prop) : Prop := (wp_X5_copyState o t (fun u1 => (Q (if (hs - 1) < 0 then 0 else (hs - 1)) u1)))
set_option maxHeartbeats 4000000 in
set_option maxRecDepth 100000 in
theorem met_X3_restore (l : Launch) (D : va_G) (cI : ClassId) (ah : Nat) (h1 : Nat) (h2 : Nat) (h3 : Nat) (h4 : Nat) (gt : Nat → Nat) (go : Nat → Nat) (hs : Int32) (t : zT) (o : zT)  (Q : Int32 → zT → Prop) (hw : wp_X3_restore hs t o Q) : ZM l D cI yX3_restore cX3_restore 3 none rmX3_restore [.ref ah, .ref (go 0)] [(wHo ah (gt 0) h1 h2 h3 h4 hs), (wS cI gt t), (wS cI go o)] (fun _ : Int32 × zT => none) (fun u : Int32 × zT => [(wHo ah h1 h2 h3 (gt 0) h4 u.1), (wS cI gt t), (wS cI go (u.2))]) (fun u : Int32 × zT => Q u.1 u.2) := by
  refine z_body [some (.ref ah), some (.ref (go 0)), none] (by decide +kernel) rfl (Nat.le_of_ble_eq_true rfl) rfl ?_
  intro p e s m args below meth c A C hin
  unfold wp_X3_restore at hw
  refine z_aload_n C dX3_restore_0 rfl ?_
  refine z_get C inlX3 rfl 0 (by decide) mw_3_21 dX3_restore_1 0 0 rfl rfl rfl ?_
  refine z_astore_n C dX3_restore_4 [some (.ref ah), some (.ref (go 0)), some (.ref (gt 0))] (by decide) rfl ?_
  refine z_aload_n C dX3_restore_5 rfl ?_
  refine z_aload_n C dX3_restore_6 rfl ?_
  refine z_callV0 C [(wS cI go o), (wS cI gt t)] [(wHo ah (gt 0) h1 h2 h3 h4 hs)] rfl rfl (met_X5_copyState l D cI go gt o t _ hw) y_X5_copyState mw_5_11 dX3_restore_7 rfl n_X5_copyState rfl (by decide) ⟨rfl, rfl, Nat.le_of_ble_eq_true rfl, Nat.le_of_ble_eq_true rfl⟩ (Nat.le_of_ble_eq_true rfl) (z_pm [2, 1, 0] 3 rfl (by decide) rfl) ?_
  intro u1 hw
  try dsimp only at hw
  refine z_bs [(wS cI go u1), (wS cI gt t), (wHo ah (gt 0) h1 h2 h3 h4 hs)] [] rfl rfl ?_
  refine z_perm C [(wHo ah (gt 0) h1 h2 h3 h4 hs), (wS cI gt t), (wS cI go u1)] (z_pm [2, 1, 0] 3 rfl (by decide) rfl) ?_
  refine z_aload_n C dX3_restore_10 rfl ?_
  refine z_aload_n C dX3_restore_11 rfl ?_
  refine z_get C inlX3 rfl 1 (by decide) mw_3_22 dX3_restore_12 0 0 rfl rfl rfl ?_
  refine z_put C inlX3 rfl tyX3 tyX3_ok nmX3 0 (by decide) mw_3_21 rfl rfl rfl rfl dX3_restore_15 0 0 rfl rfl (Nat.le_of_ble_eq_true rfl) [(wHo ah h1 h1 h2 h3 h4 hs), (wS cI gt t), (wS cI go u1)] rfl ?_
  refine z_aload_n C dX3_restore_18 rfl ?_
  refine z_aload_n C dX3_restore_19 rfl ?_
  refine z_get C inlX3 rfl 2 (by decide) mw_3_23 dX3_restore_20 0 0 rfl rfl rfl ?_
  refine z_put C inlX3 rfl tyX3 tyX3_ok nmX3 1 (by decide) mw_3_22 rfl rfl rfl rfl dX3_restore_23 0 0 rfl rfl (Nat.le_of_ble_eq_true rfl) [(wHo ah h1 h2 h2 h3 h4 hs), (wS cI gt t), (wS cI go u1)] rfl ?_
  refine z_aload_n C dX3_restore_26 rfl ?_
  refine z_aload_n C dX3_restore_27 rfl ?_
  refine z_get C inlX3 rfl 3 (by decide) mw_4_0 dX3_restore_28 0 0 rfl rfl rfl ?_
  refine z_put C inlX3 rfl tyX3 tyX3_ok nmX3 2 (by decide) mw_3_23 rfl rfl rfl rfl dX3_restore_31 0 0 rfl rfl (Nat.le_of_ble_eq_true rfl) [(wHo ah h1 h2 h3 h3 h4 hs), (wS cI gt t), (wS cI go u1)] rfl ?_
  refine z_aload_n C dX3_restore_34 rfl ?_
  refine z_aload_n C dX3_restore_35 rfl ?_
  refine z_put C inlX3 rfl tyX3 tyX3_ok nmX3 3 (by decide) mw_4_0 rfl rfl rfl rfl dX3_restore_36 0 0 rfl rfl (Nat.le_of_ble_eq_true rfl) [(wHo ah h1 h2 h3 (gt 0) h4 hs), (wS cI gt t), (wS cI go u1)] rfl ?_
  refine z_aload_n C dX3_restore_39 rfl ?_
  refine z_aload_n C dX3_restore_40 rfl ?_
  refine z_get C inlX3 rfl 5 (by decide) mw_11_13 dX3_restore_41 0 0 rfl rfl rfl ?_
  refine z_iconst C dX3_restore_44 1 (by decide +kernel) ?_
  refine z_isub C dX3_restore_45 ?_
  refine z_iconst C dX3_restore_46 0 (by decide +kernel) ?_
  refine z_mmax C mw_25_6 mw_3_9 mw_3_10 mw_3_11 (Nat.le_of_ble_eq_true rfl) (Nat.le_of_ble_eq_true rfl) ⟨Nat.le_of_ble_eq_true rfl, Nat.le_of_ble_eq_true rfl⟩ dX3_restore_47 ?_
  refine z_put C inlX3 rfl tyX3 tyX3_ok nmX3 5 (by decide) mw_11_13 rfl rfl rfl rfl dX3_restore_50 0 0 rfl rfl (Nat.le_of_ble_eq_true rfl) [(wHo ah h1 h2 h3 (gt 0) h4 (if (hs - 1) < 0 then 0 else (hs - 1))), (wS cI gt t), (wS cI go u1)] rfl ?_
  exact z_vret C rfl ((if (hs - 1) < 0 then 0 else (hs - 1)), u1) rfl hw rfl dX3_restore_53
def rmX1_numbersOf : Room := { frames := 0, cells := 0, slots := 0, locals := 0 }
def f_X1_numbersOf  (p1 : Int32) : Int32 := (if p1 = 98 then 1 else (if p1 = 100 then 2 else (if p1 = 104 then 1 else (if p1 = 105 then 3 else (if p1 = 115 then 1 else 0)))))
set_option maxHeartbeats 4000000 in
set_option maxRecDepth 100000 in
theorem met_X1_numbersOf (l : Launch) (D : va_G) (cI : ClassId)   (p1 : Int32) : ZM l D cI yX1_numbersOf cX1_numbersOf 1 (some .int) rmX1_numbersOf [.int p1] [] (fun _ : Unit => some (.int (f_X1_numbersOf p1))) (fun _ : Unit => []) (fun _ : Unit => True) := by
  refine z_body [some (.int p1)] (by decide +kernel) rfl (Nat.le_of_ble_eq_true rfl) rfl ?_
  intro p e s m args below meth c A C hin
  refine z_iload_n C dX1_numbersOf_0 rfl ?_
  by_cases c1 : p1 = 98
  · refine z_lookupAt C dX1_numbersOf_1 (by decide) 98 c1 55 (by decide) 56 (by decide) ?_
    refine z_iconst C dX1_numbersOf_56 1 (by decide +kernel) ?_
    exact z_iret C rfl () (by rw [f_X1_numbersOf, if_pos c1]) trivial rfl dX1_numbersOf_57
  by_cases c2 : p1 = 100
  · refine z_lookupAt C dX1_numbersOf_1 (by decide) 100 c2 53 (by decide) 54 (by decide) ?_
    refine z_iconst C dX1_numbersOf_54 2 (by decide +kernel) ?_
    exact z_iret C rfl () (by rw [f_X1_numbersOf, if_neg c1, if_pos c2]) trivial rfl dX1_numbersOf_55
  by_cases c3 : p1 = 104
  · refine z_lookupAt C dX1_numbersOf_1 (by decide) 104 c3 55 (by decide) 56 (by decide) ?_
    refine z_iconst C dX1_numbersOf_56 1 (by decide +kernel) ?_
    exact z_iret C rfl () (by rw [f_X1_numbersOf, if_neg c1, if_neg c2, if_pos c3]) trivial rfl dX1_numbersOf_57
  by_cases c4 : p1 = 105
  · refine z_lookupAt C dX1_numbersOf_1 (by decide) 105 c4 51 (by decide) 52 (by decide) ?_
    refine z_iconst C dX1_numbersOf_52 3 (by decide +kernel) ?_
    exact z_iret C rfl () (by rw [f_X1_numbersOf, if_neg c1, if_neg c2, if_neg c3, if_pos c4]) trivial rfl dX1_numbersOf_53
  by_cases c5 : p1 = 115
  · refine z_lookupAt C dX1_numbersOf_1 (by decide) 115 c5 55 (by decide) 56 (by decide) ?_
    refine z_iconst C dX1_numbersOf_56 1 (by decide +kernel) ?_
    exact z_iret C rfl () (by rw [f_X1_numbersOf, if_neg c1, if_neg c2, if_neg c3, if_neg c4, if_pos c5]) trivial rfl dX1_numbersOf_57
  refine z_lookup C dX1_numbersOf_1 (by decide) 57 ((lv_osw c1 rfl).trans ((lv_osw c2 rfl).trans ((lv_osw c3 rfl).trans ((lv_osw c4 rfl).trans ((lv_osw c5 rfl).trans rfl))))) 58 (by decide) ?_
  refine z_iconst C dX1_numbersOf_58 0 (by decide +kernel) ?_
  exact z_iret C rfl () (by rw [f_X1_numbersOf, if_neg c1, if_neg c2, if_neg c3, if_neg c4, if_neg c5]) trivial rfl dX1_numbersOf_59
def rmX1_isDigit : Room := { frames := 0, cells := 0, slots := 0, locals := 0 }
def f_X1_isDigit  (p1 : Int32) : Int32 := (if p1 < 48 then 0 else (if 57 < p1 then 0 else 1))
set_option maxHeartbeats 4000000 in
set_option maxRecDepth 100000 in
theorem met_X1_isDigit (l : Launch) (D : va_G) (cI : ClassId)   (p1 : Int32) : ZM l D cI yX1_isDigit cX1_isDigit 1 (some .boolean) rmX1_isDigit [.int p1] [] (fun _ : Unit => some (.int (f_X1_isDigit p1))) (fun _ : Unit => []) (fun _ : Unit => True) := by
  refine z_body [some (.int p1)] (by decide +kernel) rfl (Nat.le_of_ble_eq_true rfl) rfl ?_
  intro p e s m args below meth c A C hin
  refine z_iload_n C dX1_isDigit_0 rfl ?_
  refine z_bipush C dX1_isDigit_1 48 (by decide +kernel) ?_
  refine z_icmp_lt C dX1_isDigit_3 16 (by decide) (fun c1 => ?_) (fun c1 => ?_)
  · refine z_iconst C dX1_isDigit_16 0 (by decide +kernel) ?_
    exact z_zret C rfl (by decide) () (by rw [f_X1_isDigit, if_pos c1]) trivial rfl dX1_isDigit_17
  · refine z_iload_n C dX1_isDigit_6 rfl ?_
    refine z_bipush C dX1_isDigit_7 57 (by decide +kernel) ?_
    refine z_icmp_gt C dX1_isDigit_9 16 (by decide) (fun c2 => ?_) (fun c2 => ?_)
    · refine z_iconst C dX1_isDigit_16 0 (by decide +kernel) ?_
      exact z_zret C rfl (by decide) () (by rw [f_X1_isDigit, if_neg c1, if_pos c2]) trivial rfl dX1_isDigit_17
    · refine z_iconst C dX1_isDigit_12 1 (by decide +kernel) ?_
      refine z_goto C dX1_isDigit_13 17 (by decide) ?_
      exact z_zret C rfl (by decide) () (by rw [f_X1_isDigit, if_neg c1, if_neg c2]) trivial rfl dX1_isDigit_17
theorem b_X1_isDigit  (p1 : Int32) : zB (f_X1_isDigit p1) := by
  unfold f_X1_isDigit
  (repeat' split) <;> exact ⟨by decide, by decide⟩
def rmX1_digitsAt : Room := { frames := 1, cells := 0, slots := 0, locals := 21 }
def wp_X1_digitsAt (v : zC) (p1 : Int32) (Q : Int32 → Prop) : Prop := (wp_X4_at (cSigns v) p1 (fun r1 => ((¬ (f_X1_isDigit r1) = 0 → (wp_X4_at (cSigns v) (p1 + 1) (fun r3 => (((f_X1_isDigit r3) = 0 → (Q 1)) ∧ (¬ (f_X1_isDigit r3) = 0 → (Q 2)))))) ∧ ((f_X1_isDigit r1) = 0 → (Q 0)))))
set_option maxHeartbeats 4000000 in
set_option maxRecDepth 100000 in
theorem met_X1_digitsAt (l : Launch) (D : va_G) (cI : ClassId) (gv : Nat → Nat) (v : zC) (p1 : Int32) (Q : Int32 → Prop) (hw : wp_X1_digitsAt v p1 Q) : ZM l D cI yX1_digitsAt cX1_digitsAt 2 (some .int) rmX1_digitsAt [.ref (gv 0), .int p1] [(wC cI gv v)] (fun u : Int32 => some (.int u)) (fun u : Int32 => [(wC cI gv v)]) (fun u : Int32 => Q u) := by
  refine z_body [some (.ref (gv 0)), some (.int p1)] (by decide +kernel) rfl (Nat.le_of_ble_eq_true rfl) rfl ?_
  intro p e s m args below meth c A C hin
  unfold wp_X1_digitsAt at hw
  refine z_aload_n C dX1_digitsAt_0 rfl ?_
  refine z_get C inlX1 rfl 0 (by decide) mw_4_8 dX1_digitsAt_1 0 0 rfl rfl rfl ?_
  refine z_iload_n C dX1_digitsAt_4 rfl ?_
  refine z_open 0 [(wCo gv v), (wN cI (gv 1) (gv 2) (cSigns v)), (wN cI (gv 3) (gv 4) (cNums v))] [(wCo gv v), (wN cI (gv 1) (gv 2) (cSigns v)), (wN cI (gv 3) (gv 4) (cNums v))] rfl rfl rfl ?_
  refine z_callV0 C [(wN cI (gv 1) (gv 2) (cSigns v))] [(wCo gv v), (wN cI (gv 3) (gv 4) (cNums v))] rfl rfl (met_X4_at l D cI (gv 1) (gv 2) (cSigns v) p1 _ hw) y_X4_at mw_26_23 dX1_digitsAt_5 rfl n_X4_at rfl (by decide) ⟨rfl, rfl, Nat.le_of_ble_eq_true rfl, Nat.le_of_ble_eq_true rfl⟩ (Nat.le_of_ble_eq_true rfl) (z_pm [1, 0, 2] 3 rfl (by decide) rfl) ?_
  intro r1 hw
  try dsimp only at hw
  refine z_bs [(wN cI (gv 1) (gv 2) (cSigns v)), (wCo gv v), (wN cI (gv 3) (gv 4) (cNums v))] [.int r1] rfl rfl ?_
  refine z_perm C [(wCo gv v), (wN cI (gv 1) (gv 2) (cSigns v)), (wN cI (gv 3) (gv 4) (cNums v))] (z_pm [1, 0, 2] 3 rfl (by decide) rfl) ?_
  refine z_shut 0 [(wCo gv v), (wN cI (gv 1) (gv 2) (cSigns v)), (wN cI (gv 3) (gv 4) (cNums v))] [(wC cI gv v)] rfl rfl rfl ?_
  refine z_callFS C [] [(wC cI gv v)] (met_X1_isDigit l D cI r1) y_X1_isDigit mw_27_8 dX1_digitsAt_8 rfl n_X1_isDigit rfl (by decide) ⟨rfl, rfl, Nat.le_of_ble_eq_true rfl, Nat.le_of_ble_eq_true rfl⟩ (Nat.le_of_ble_eq_true rfl) (z_pm [0] 1 rfl (by decide) rfl) ?_
  refine z_if_ne C dX1_digitsAt_11 16 (by decide) (fun c2 => ?_) (fun c2 => ?_)
  · replace hw := hw.1 c2
    refine z_aload_n C dX1_digitsAt_16 rfl ?_
    refine z_get C inlX1 rfl 0 (by decide) mw_4_8 dX1_digitsAt_17 0 0 rfl rfl rfl ?_
    refine z_iload_n C dX1_digitsAt_20 rfl ?_
    refine z_iconst C dX1_digitsAt_21 1 (by decide +kernel) ?_
    refine z_iadd C dX1_digitsAt_22 ?_
    refine z_open 0 [(wCo gv v), (wN cI (gv 1) (gv 2) (cSigns v)), (wN cI (gv 3) (gv 4) (cNums v))] [(wCo gv v), (wN cI (gv 1) (gv 2) (cSigns v)), (wN cI (gv 3) (gv 4) (cNums v))] rfl rfl rfl ?_
    refine z_callV0 C [(wN cI (gv 1) (gv 2) (cSigns v))] [(wCo gv v), (wN cI (gv 3) (gv 4) (cNums v))] rfl rfl (met_X4_at l D cI (gv 1) (gv 2) (cSigns v) (p1 + 1) _ hw) y_X4_at mw_26_23 dX1_digitsAt_23 rfl n_X4_at rfl (by decide) ⟨rfl, rfl, Nat.le_of_ble_eq_true rfl, Nat.le_of_ble_eq_true rfl⟩ (Nat.le_of_ble_eq_true rfl) (z_pm [1, 0, 2] 3 rfl (by decide) rfl) ?_
    intro r3 hw
    try dsimp only at hw
    refine z_bs [(wN cI (gv 1) (gv 2) (cSigns v)), (wCo gv v), (wN cI (gv 3) (gv 4) (cNums v))] [.int r3] rfl rfl ?_
    refine z_perm C [(wCo gv v), (wN cI (gv 1) (gv 2) (cSigns v)), (wN cI (gv 3) (gv 4) (cNums v))] (z_pm [1, 0, 2] 3 rfl (by decide) rfl) ?_
    refine z_shut 0 [(wCo gv v), (wN cI (gv 1) (gv 2) (cSigns v)), (wN cI (gv 3) (gv 4) (cNums v))] [(wC cI gv v)] rfl rfl rfl ?_
    refine z_callFS C [] [(wC cI gv v)] (met_X1_isDigit l D cI r3) y_X1_isDigit mw_27_8 dX1_digitsAt_26 rfl n_X1_isDigit rfl (by decide) ⟨rfl, rfl, Nat.le_of_ble_eq_true rfl, Nat.le_of_ble_eq_true rfl⟩ (Nat.le_of_ble_eq_true rfl) (z_pm [0] 1 rfl (by decide) rfl) ?_
    refine z_if_eq C dX1_digitsAt_29 36 (by decide) (fun c4 => ?_) (fun c4 => ?_)
    · replace hw := hw.1 c4
      refine z_iconst C dX1_digitsAt_36 1 (by decide +kernel) ?_
      exact z_iret C rfl (1 : Int32) rfl hw rfl dX1_digitsAt_37
    · replace hw := hw.2 c4
      refine z_iconst C dX1_digitsAt_32 2 (by decide +kernel) ?_
      refine z_goto C dX1_digitsAt_33 37 (by decide) ?_
      exact z_iret C rfl (2 : Int32) rfl hw rfl dX1_digitsAt_37
  · replace hw := hw.2 c2
    refine z_iconst C dX1_digitsAt_14 0 (by decide +kernel) ?_
    exact z_iret C rfl (0 : Int32) rfl hw rfl dX1_digitsAt_15
def rmX1_numberAt : Room := { frames := 1, cells := 0, slots := 0, locals := 21 }
def wp_X1_numberAt (v : zC) (p1 : Int32) (p2 : Int32) (Q : Int32 → Prop) : Prop := (wp_X4_at (cSigns v) p1 (fun r1 => (∀ x2 : Int32, x2 = (r1 - 48) → ((¬ p2 = 2 → (Q x2)) ∧ (p2 = 2 → (wp_X4_at (cSigns v) (p1 + 1) (fun r4 => (Q (((x2 * 10) + r4) - 48)))))))))
set_option maxHeartbeats 4000000 in
set_option maxRecDepth 100000 in
theorem met_X1_numberAt (l : Launch) (D : va_G) (cI : ClassId) (gv : Nat → Nat) (v : zC) (p1 : Int32) (p2 : Int32) (Q : Int32 → Prop) (hw : wp_X1_numberAt v p1 p2 Q) : ZM l D cI yX1_numberAt cX1_numberAt 4 (some .int) rmX1_numberAt [.ref (gv 0), .int p1, .int p2] [(wC cI gv v)] (fun u : Int32 => some (.int u)) (fun u : Int32 => [(wC cI gv v)]) (fun u : Int32 => Q u) := by
  refine z_body [some (.ref (gv 0)), some (.int p1), some (.int p2), none] (by decide +kernel) rfl (Nat.le_of_ble_eq_true rfl) rfl ?_
  intro p e s m args below meth c A C hin
  unfold wp_X1_numberAt at hw
  refine z_aload_n C dX1_numberAt_0 rfl ?_
  refine z_get C inlX1 rfl 0 (by decide) mw_4_8 dX1_numberAt_1 0 0 rfl rfl rfl ?_
  refine z_iload_n C dX1_numberAt_4 rfl ?_
  refine z_open 0 [(wCo gv v), (wN cI (gv 1) (gv 2) (cSigns v)), (wN cI (gv 3) (gv 4) (cNums v))] [(wCo gv v), (wN cI (gv 1) (gv 2) (cSigns v)), (wN cI (gv 3) (gv 4) (cNums v))] rfl rfl rfl ?_
  refine z_callV0 C [(wN cI (gv 1) (gv 2) (cSigns v))] [(wCo gv v), (wN cI (gv 3) (gv 4) (cNums v))] rfl rfl (met_X4_at l D cI (gv 1) (gv 2) (cSigns v) p1 _ hw) y_X4_at mw_26_23 dX1_numberAt_5 rfl n_X4_at rfl (by decide) ⟨rfl, rfl, Nat.le_of_ble_eq_true rfl, Nat.le_of_ble_eq_true rfl⟩ (Nat.le_of_ble_eq_true rfl) (z_pm [1, 0, 2] 3 rfl (by decide) rfl) ?_
  intro r1 hw
  try dsimp only at hw
  refine z_bs [(wN cI (gv 1) (gv 2) (cSigns v)), (wCo gv v), (wN cI (gv 3) (gv 4) (cNums v))] [.int r1] rfl rfl ?_
  refine z_perm C [(wCo gv v), (wN cI (gv 1) (gv 2) (cSigns v)), (wN cI (gv 3) (gv 4) (cNums v))] (z_pm [1, 0, 2] 3 rfl (by decide) rfl) ?_
  refine z_shut 0 [(wCo gv v), (wN cI (gv 1) (gv 2) (cSigns v)), (wN cI (gv 3) (gv 4) (cNums v))] [(wC cI gv v)] rfl rfl rfl ?_
  refine z_bipush C dX1_numberAt_8 48 (by decide +kernel) ?_
  refine z_isub C dX1_numberAt_10 ?_
  refine z_name C (fun x2 ex2 => ?_)
  replace hw := hw x2 ex2
  refine z_istore_n C dX1_numberAt_11 [some (.ref (gv 0)), some (.int p1), some (.int p2), some (.int x2)] (by decide) rfl ?_
  refine z_iload_n C dX1_numberAt_12 rfl ?_
  refine z_iconst C dX1_numberAt_13 2 (by decide +kernel) ?_
  refine z_icmp_ne C dX1_numberAt_14 38 (by decide) (fun c3 => ?_) (fun c3 => ?_)
  · replace hw := hw.1 c3
    refine z_iload_n C dX1_numberAt_38 rfl ?_
    exact z_iret C rfl (x2) rfl hw rfl dX1_numberAt_39
  · replace hw := hw.2 c3
    refine z_iload_n C dX1_numberAt_17 rfl ?_
    refine z_bipush C dX1_numberAt_18 10 (by decide +kernel) ?_
    refine z_imul C dX1_numberAt_20 ?_
    refine z_aload_n C dX1_numberAt_21 rfl ?_
    refine z_get C inlX1 rfl 0 (by decide) mw_4_8 dX1_numberAt_22 0 0 rfl rfl rfl ?_
    refine z_iload_n C dX1_numberAt_25 rfl ?_
    refine z_iconst C dX1_numberAt_26 1 (by decide +kernel) ?_
    refine z_iadd C dX1_numberAt_27 ?_
    refine z_open 0 [(wCo gv v), (wN cI (gv 1) (gv 2) (cSigns v)), (wN cI (gv 3) (gv 4) (cNums v))] [(wCo gv v), (wN cI (gv 1) (gv 2) (cSigns v)), (wN cI (gv 3) (gv 4) (cNums v))] rfl rfl rfl ?_
    refine z_callV0 C [(wN cI (gv 1) (gv 2) (cSigns v))] [(wCo gv v), (wN cI (gv 3) (gv 4) (cNums v))] rfl rfl (met_X4_at l D cI (gv 1) (gv 2) (cSigns v) (p1 + 1) _ hw) y_X4_at mw_26_23 dX1_numberAt_28 rfl n_X4_at rfl (by decide) ⟨rfl, rfl, Nat.le_of_ble_eq_true rfl, Nat.le_of_ble_eq_true rfl⟩ (Nat.le_of_ble_eq_true rfl) (z_pm [1, 0, 2] 3 rfl (by decide) rfl) ?_
    intro r4 hw
    try dsimp only at hw
    refine z_bs [(wN cI (gv 1) (gv 2) (cSigns v)), (wCo gv v), (wN cI (gv 3) (gv 4) (cNums v))] [.int r4, .int (x2 * 10)] rfl rfl ?_
    refine z_perm C [(wCo gv v), (wN cI (gv 1) (gv 2) (cSigns v)), (wN cI (gv 3) (gv 4) (cNums v))] (z_pm [1, 0, 2] 3 rfl (by decide) rfl) ?_
    refine z_shut 0 [(wCo gv v), (wN cI (gv 1) (gv 2) (cSigns v)), (wN cI (gv 3) (gv 4) (cNums v))] [(wC cI gv v)] rfl rfl rfl ?_
    refine z_iadd C dX1_numberAt_31 ?_
    refine z_bipush C dX1_numberAt_32 48 (by decide +kernel) ?_
    refine z_isub C dX1_numberAt_34 ?_
    refine z_goto C dX1_numberAt_35 39 (by decide) ?_
    exact z_iret C rfl ((((x2 * 10) + r4) - 48)) rfl hw rfl dX1_numberAt_39
def rmX1_read : Room := { frames := 2, cells := 0, slots := 0, locals := 44 }
def jn_X1_read_74 (v : zC) (p1 : Int32) (v2 : Int32) (v3 : Int32) (v4 : Int32) (v5 : Int32) (v6 : Int32) (w0Nums : zN) (s74_0 : Int32) (s74_1 : Int32) (Q : Int32 → zC → Prop) (K26 : (Int32) → (Int32) → (zN) → Prop) : Prop := ((s74_1 = s74_0 → (wp_X1_numberAt (cSetNums v w0Nums) v3 v5 (fun r13 => (wp_X4_add w0Nums r13 (fun u14 => (∀ x15 : Int32, x15 = (v6 + 1) → (K26 x15 (v4 + 1) u14))))))) ∧ (¬ s74_1 = s74_0 → (Q 0 (cSetNums v w0Nums))))
set_option maxHeartbeats 4000000 in
set_option maxRecDepth 100000 in
theorem wk_X1_read_74 {p : Program} {l : Launch} {e : Env} {s : State} {m : MethodId} {args : Array Value} {below : List Frame} {meth : Method} {c : Code} {D : va_G} {cI : ClassId} {A : Nat → Prop} (C : ZC p s m args meth c RX1 cX1_read 7 (some .int) D cI A) (gv : Nat → Nat) (v : zC) (p1 : Int32) (v2 : Int32) (v3 : Int32) (v4 : Int32) (v5 : Int32) (v6 : Int32) (w0Nums : zN) (s74_0 : Int32) (s74_1 : Int32) (Q : Int32 → zC → Prop) (K26 : (Int32) → (Int32) → (zN) → Prop) (hK26 : ∀ (v3 : Int32) (v4 : Int32) (w0Nums : zN), K26 v3 v4 w0Nums → ZZ p l e rmX1_read s m args below meth c D A 7 0 0 (MQ below (ZQ D A (fun u : Int32 × zC => some (.int u.1)) (fun u : Int32 × zC => [(wC cI gv (u.2))]) (fun u : Int32 × zC => Q u.1 u.2)) args s rmX1_read.cells rmX1_read.slots A) [(wC cI gv (cSetNums v w0Nums))] 26 [some (.ref (gv 0)), none, some (.int v2), some (.int v3), some (.int v4), none, none] []) (hw : jn_X1_read_74 v p1 v2 v3 v4 v5 v6 w0Nums s74_0 s74_1 Q K26) : ZZ p l e rmX1_read s m args below meth c D A 7 0 0 (MQ below (ZQ D A (fun u : Int32 × zC => some (.int u.1)) (fun u : Int32 × zC => [(wC cI gv (u.2))]) (fun u : Int32 × zC => Q u.1 u.2)) args s rmX1_read.cells rmX1_read.slots A) [(wC cI gv (cSetNums v w0Nums))] 74 [some (.ref (gv 0)), none, some (.int v2), some (.int v3), some (.int v4), some (.int v5), some (.int v6)] [.int s74_0, .int s74_1] := by
  unfold jn_X1_read_74 at hw
  refine z_icmp_eq C dX1_read_74 79 (by decide) (fun c12 => ?_) (fun c12 => ?_)
  · replace hw := hw.1 c12
    refine z_aload_n C dX1_read_79 rfl ?_
    refine z_get C inlX1 rfl 1 (by decide) mw_4_9 dX1_read_80 0 0 rfl rfl rfl ?_
    refine z_aload_n C dX1_read_83 rfl ?_
    refine z_iload_n C dX1_read_84 rfl ?_
    refine z_iload C dX1_read_85 rfl ?_
    refine z_callV0 C [(wC cI gv (cSetNums v w0Nums))] [] rfl rfl (met_X1_numberAt l D cI gv (cSetNums v w0Nums) v3 v5 _ hw) y_X1_numberAt mw_27_11 dX1_read_87 rfl n_X1_numberAt rfl (by decide) ⟨rfl, rfl, Nat.le_of_ble_eq_true rfl, Nat.le_of_ble_eq_true rfl⟩ (Nat.le_of_ble_eq_true rfl) (z_pm [0] 1 rfl (by decide) rfl) ?_
    intro r13 hw
    try dsimp only at hw
    refine z_bs [(wC cI gv (cSetNums v w0Nums))] [.int r13, .ref (gv 3)] rfl rfl ?_
    refine z_open 0 [(wCo gv (cSetNums v w0Nums)), (wN cI (gv 1) (gv 2) (cSigns v)), (wN cI (gv 3) (gv 4) w0Nums)] [(wCo gv (cSetNums v w0Nums)), (wN cI (gv 1) (gv 2) (cSigns v)), (wN cI (gv 3) (gv 4) w0Nums)] rfl rfl rfl ?_
    refine z_callV0 C [(wN cI (gv 3) (gv 4) w0Nums)] [(wCo gv (cSetNums v w0Nums)), (wN cI (gv 1) (gv 2) (cSigns v))] rfl rfl (met_X4_add l D cI (gv 3) (gv 4) w0Nums r13 _ hw) y_X4_add mw_27_15 dX1_read_90 rfl n_X4_add rfl (by decide) ⟨rfl, rfl, Nat.le_of_ble_eq_true rfl, Nat.le_of_ble_eq_true rfl⟩ (Nat.le_of_ble_eq_true rfl) (z_pm [2, 0, 1] 3 rfl (by decide) rfl) ?_
    intro u14 hw
    try dsimp only at hw
    refine z_bs [(wN cI (gv 3) (gv 4) u14), (wCo gv (cSetNums v w0Nums)), (wN cI (gv 1) (gv 2) (cSigns v))] [] rfl rfl ?_
    refine z_perm C [(wCo gv (cSetNums v w0Nums)), (wN cI (gv 1) (gv 2) (cSigns v)), (wN cI (gv 3) (gv 4) u14)] (z_pm [1, 2, 0] 3 rfl (by decide) rfl) ?_
    refine z_shut 0 [(wCo gv (cSetNums v w0Nums)), (wN cI (gv 1) (gv 2) (cSigns v)), (wN cI (gv 3) (gv 4) u14)] [(wC cI gv (cSetNums v u14))] rfl rfl rfl ?_
    refine z_iload C dX1_read_93 rfl ?_
    refine z_iconst C dX1_read_95 1 (by decide +kernel) ?_
    refine z_iadd C dX1_read_96 ?_
    refine z_name C (fun x15 ex15 => ?_)
    replace hw := hw x15 ex15
    refine z_istore_n C dX1_read_97 [some (.ref (gv 0)), none, some (.int v2), some (.int x15), some (.int v4), some (.int v5), some (.int v6)] (by decide) rfl ?_
    refine z_iinc C dX1_read_98 rfl (v4 + 1) (by rfl) [some (.ref (gv 0)), none, some (.int v2), some (.int x15), some (.int (v4 + 1)), some (.int v5), some (.int v6)] (by decide) rfl ?_
    refine z_goto C dX1_read_101 26 (by decide) ?_
    refine z_ls C [true, false, true, true, true, false, false] [some (.ref (gv 0)), none, some (.int v2), some (.int x15), some (.int (v4 + 1)), none, none] rfl ?_
    exact hK26 _ _ _ hw
  · replace hw := hw.2 c12
    refine z_iconst C dX1_read_77 0 (by decide +kernel) ?_
    exact z_iret C rfl (0, (cSetNums v w0Nums)) rfl hw rfl dX1_read_78
def lb_X1_read_26 (v : zC) (p1 : Int32) (v2 : Int32)  (Q : Int32 → zC → Prop)  (K26 : (Int32) → (Int32) → (zN) → Prop) (v3 : Int32) (v4 : Int32) (w0Nums : zN) : Prop := ((v2 ≤ v4 → ((¬ v2 = 0 → (Q v3 (cSetNums v w0Nums))) ∧ (v2 = 0 → (Q 0 (cSetNums v w0Nums))))) ∧ (¬ v2 ≤ v4 → (wp_X1_digitsAt (cSetNums v w0Nums) v3 (fun r7 => (∀ x8 : Int32, x8 = (v3 + r7) → ((r7 = 0 → (Q 0 (cSetNums v w0Nums))) ∧ (¬ r7 = 0 → (wp_X4_at (cSigns v) x8 (fun r10 => (((v2 - 1) ≤ v4 → (jn_X1_read_74 v p1 v2 v3 v4 r7 x8 w0Nums 59 r10 Q K26)) ∧ (¬ (v2 - 1) ≤ v4 → (jn_X1_read_74 v p1 v2 v3 v4 r7 x8 w0Nums 44 r10 Q K26))))))))))))
set_option maxHeartbeats 4000000 in
set_option maxRecDepth 100000 in
theorem wk_X1_read_26 {p : Program} {l : Launch} {e : Env} {s : State} {m : MethodId} {args : Array Value} {below : List Frame} {meth : Method} {c : Code} {D : va_G} {cI : ClassId} {A : Nat → Prop} (C : ZC p s m args meth c RX1 cX1_read 7 (some .int) D cI A) (gv : Nat → Nat) (v : zC) (p1 : Int32) (v2 : Int32)  (v3 : Int32) (v4 : Int32) (w0Nums : zN) (Q : Int32 → zC → Prop)  (hw : zLoop3 (lb_X1_read_26 v p1 v2  Q ) v3 v4 w0Nums) : ZZ p l e rmX1_read s m args below meth c D A 7 0 0 (MQ below (ZQ D A (fun u : Int32 × zC => some (.int u.1)) (fun u : Int32 × zC => [(wC cI gv (u.2))]) (fun u : Int32 × zC => Q u.1 u.2)) args s rmX1_read.cells rmX1_read.slots A) [(wC cI gv (cSetNums v w0Nums))] 26 [some (.ref (gv 0)), none, some (.int v2), some (.int v3), some (.int v4), none, none] [] := by
  refine zLoop3_w (fun (v3 : Int32) (v4 : Int32) (w0Nums : zN) => ZZ p l e rmX1_read s m args below meth c D A 7 0 0 (MQ below (ZQ D A (fun u : Int32 × zC => some (.int u.1)) (fun u : Int32 × zC => [(wC cI gv (u.2))]) (fun u : Int32 × zC => Q u.1 u.2)) args s rmX1_read.cells rmX1_read.slots A) [(wC cI gv (cSetNums v w0Nums))] 26 [some (.ref (gv 0)), none, some (.int v2), some (.int v3), some (.int v4), none, none] []) ?_ _ _ _ hw
  clear hw
  intro K26 hK26 v3 v4 w0Nums hw
  unfold lb_X1_read_26 at hw
  refine z_iload C dX1_read_26 rfl ?_
  refine z_iload_n C dX1_read_28 rfl ?_
  refine z_icmp_ge C dX1_read_29 104 (by decide) (fun c5 => ?_) (fun c5 => ?_)
  · replace hw := hw.1 c5
    refine z_iload_n C dX1_read_104 rfl ?_
    refine z_if_ne C dX1_read_105 112 (by decide) (fun c6 => ?_) (fun c6 => ?_)
    · replace hw := hw.1 c6
      refine z_iload_n C dX1_read_112 rfl ?_
      exact z_iret C rfl (v3, (cSetNums v w0Nums)) rfl hw rfl dX1_read_113
    · replace hw := hw.2 c6
      refine z_iconst C dX1_read_108 0 (by decide +kernel) ?_
      refine z_goto C dX1_read_109 113 (by decide) ?_
      exact z_iret C rfl (0, (cSetNums v w0Nums)) rfl hw rfl dX1_read_113
  · replace hw := hw.2 c5
    refine z_aload_n C dX1_read_32 rfl ?_
    refine z_iload_n C dX1_read_33 rfl ?_
    refine z_callV0 C [(wC cI gv (cSetNums v w0Nums))] [] rfl rfl (met_X1_digitsAt l D cI gv (cSetNums v w0Nums) v3 _ hw) y_X1_digitsAt mw_27_4 dX1_read_34 rfl n_X1_digitsAt rfl (by decide) ⟨rfl, rfl, Nat.le_of_ble_eq_true rfl, Nat.le_of_ble_eq_true rfl⟩ (Nat.le_of_ble_eq_true rfl) (z_pm [0] 1 rfl (by decide) rfl) ?_
    intro r7 hw
    try dsimp only at hw
    refine z_bs [(wC cI gv (cSetNums v w0Nums))] [.int r7] rfl rfl ?_
    refine z_istore C dX1_read_37 [some (.ref (gv 0)), none, some (.int v2), some (.int v3), some (.int v4), some (.int r7), none] (by decide) rfl ?_
    refine z_iload_n C dX1_read_39 rfl ?_
    refine z_iload C dX1_read_40 rfl ?_
    refine z_iadd C dX1_read_42 ?_
    refine z_name C (fun x8 ex8 => ?_)
    replace hw := hw x8 ex8
    refine z_istore C dX1_read_43 [some (.ref (gv 0)), none, some (.int v2), some (.int v3), some (.int v4), some (.int r7), some (.int x8)] (by decide) rfl ?_
    refine z_iload C dX1_read_45 rfl ?_
    refine z_if_eq C dX1_read_47 77 (by decide) (fun c9 => ?_) (fun c9 => ?_)
    · replace hw := hw.1 c9
      refine z_iconst C dX1_read_77 0 (by decide +kernel) ?_
      exact z_iret C rfl (0, (cSetNums v w0Nums)) rfl hw rfl dX1_read_78
    · replace hw := hw.2 c9
      refine z_aload_n C dX1_read_50 rfl ?_
      refine z_get C inlX1 rfl 0 (by decide) mw_4_8 dX1_read_51 0 0 rfl rfl rfl ?_
      refine z_iload C dX1_read_54 rfl ?_
      refine z_open 0 [(wCo gv (cSetNums v w0Nums)), (wN cI (gv 1) (gv 2) (cSigns v)), (wN cI (gv 3) (gv 4) w0Nums)] [(wCo gv (cSetNums v w0Nums)), (wN cI (gv 1) (gv 2) (cSigns v)), (wN cI (gv 3) (gv 4) w0Nums)] rfl rfl rfl ?_
      refine z_callV0 C [(wN cI (gv 1) (gv 2) (cSigns v))] [(wCo gv (cSetNums v w0Nums)), (wN cI (gv 3) (gv 4) w0Nums)] rfl rfl (met_X4_at l D cI (gv 1) (gv 2) (cSigns v) x8 _ hw) y_X4_at mw_26_23 dX1_read_56 rfl n_X4_at rfl (by decide) ⟨rfl, rfl, Nat.le_of_ble_eq_true rfl, Nat.le_of_ble_eq_true rfl⟩ (Nat.le_of_ble_eq_true rfl) (z_pm [1, 0, 2] 3 rfl (by decide) rfl) ?_
      intro r10 hw
      try dsimp only at hw
      refine z_bs [(wN cI (gv 1) (gv 2) (cSigns v)), (wCo gv (cSetNums v w0Nums)), (wN cI (gv 3) (gv 4) w0Nums)] [.int r10] rfl rfl ?_
      refine z_perm C [(wCo gv (cSetNums v w0Nums)), (wN cI (gv 1) (gv 2) (cSigns v)), (wN cI (gv 3) (gv 4) w0Nums)] (z_pm [1, 0, 2] 3 rfl (by decide) rfl) ?_
      refine z_shut 0 [(wCo gv (cSetNums v w0Nums)), (wN cI (gv 1) (gv 2) (cSigns v)), (wN cI (gv 3) (gv 4) w0Nums)] [(wC cI gv (cSetNums v w0Nums))] rfl rfl rfl ?_
      refine z_iload C dX1_read_59 rfl ?_
      refine z_iload_n C dX1_read_61 rfl ?_
      refine z_iconst C dX1_read_62 1 (by decide +kernel) ?_
      refine z_isub C dX1_read_63 ?_
      refine z_icmp_ge C dX1_read_64 72 (by decide) (fun c11 => ?_) (fun c11 => ?_)
      · replace hw := hw.1 c11
        refine z_bipush C dX1_read_72 59 (by decide +kernel) ?_
        exact wk_X1_read_74 C gv v p1 v2 v3 v4 r7 x8 w0Nums 59 r10 _ K26 hK26 hw
      · replace hw := hw.2 c11
        refine z_bipush C dX1_read_67 44 (by decide +kernel) ?_
        refine z_goto C dX1_read_69 74 (by decide) ?_
        exact wk_X1_read_74 C gv v p1 v2 v3 v4 r7 x8 w0Nums 44 r10 _ K26 hK26 hw
def wp_X1_read (v : zC) (p1 : Int32) (Q : Int32 → zC → Prop) : Prop := (wp_X4_at (cSigns v) p1 (fun r1 => (∀ x2 : Int32, x2 = (f_X1_numbersOf r1) → (∀ x3 : Int32, x3 = (p1 + 1) → (wp_X4_empty (cNums v) (fun u4 => (zLoop3 (lb_X1_read_26 v p1 x2  Q ) x3 0 u4)))))))
set_option maxHeartbeats 4000000 in
set_option maxRecDepth 100000 in
theorem met_X1_read (l : Launch) (D : va_G) (cI : ClassId) (gv : Nat → Nat) (v : zC) (p1 : Int32) (Q : Int32 → zC → Prop) (hw : wp_X1_read v p1 Q) : ZM l D cI yX1_read cX1_read 7 (some .int) rmX1_read [.ref (gv 0), .int p1] [(wC cI gv v)] (fun u : Int32 × zC => some (.int u.1)) (fun u : Int32 × zC => [(wC cI gv (u.2))]) (fun u : Int32 × zC => Q u.1 u.2) := by
  refine z_body [some (.ref (gv 0)), some (.int p1), none, none, none, none, none] (by decide +kernel) rfl (Nat.le_of_ble_eq_true rfl) rfl ?_
  intro p e s m args below meth c A C hin
  unfold wp_X1_read at hw
  refine z_aload_n C dX1_read_0 rfl ?_
  refine z_get C inlX1 rfl 0 (by decide) mw_4_8 dX1_read_1 0 0 rfl rfl rfl ?_
  refine z_iload_n C dX1_read_4 rfl ?_
  refine z_open 0 [(wCo gv v), (wN cI (gv 1) (gv 2) (cSigns v)), (wN cI (gv 3) (gv 4) (cNums v))] [(wCo gv v), (wN cI (gv 1) (gv 2) (cSigns v)), (wN cI (gv 3) (gv 4) (cNums v))] rfl rfl rfl ?_
  refine z_callV0 C [(wN cI (gv 1) (gv 2) (cSigns v))] [(wCo gv v), (wN cI (gv 3) (gv 4) (cNums v))] rfl rfl (met_X4_at l D cI (gv 1) (gv 2) (cSigns v) p1 _ hw) y_X4_at mw_26_23 dX1_read_5 rfl n_X4_at rfl (by decide) ⟨rfl, rfl, Nat.le_of_ble_eq_true rfl, Nat.le_of_ble_eq_true rfl⟩ (Nat.le_of_ble_eq_true rfl) (z_pm [1, 0, 2] 3 rfl (by decide) rfl) ?_
  intro r1 hw
  try dsimp only at hw
  refine z_bs [(wN cI (gv 1) (gv 2) (cSigns v)), (wCo gv v), (wN cI (gv 3) (gv 4) (cNums v))] [.int r1] rfl rfl ?_
  refine z_perm C [(wCo gv v), (wN cI (gv 1) (gv 2) (cSigns v)), (wN cI (gv 3) (gv 4) (cNums v))] (z_pm [1, 0, 2] 3 rfl (by decide) rfl) ?_
  refine z_shut 0 [(wCo gv v), (wN cI (gv 1) (gv 2) (cSigns v)), (wN cI (gv 3) (gv 4) (cNums v))] [(wC cI gv v)] rfl rfl rfl ?_
  refine z_callFS C [] [(wC cI gv v)] (met_X1_numbersOf l D cI r1) y_X1_numbersOf mw_27_0 dX1_read_8 rfl n_X1_numbersOf rfl (by decide) ⟨rfl, rfl, Nat.le_of_ble_eq_true rfl, Nat.le_of_ble_eq_true rfl⟩ (Nat.le_of_ble_eq_true rfl) (z_pm [0] 1 rfl (by decide) rfl) ?_
  refine z_name C (fun x2 ex2 => ?_)
  replace hw := hw x2 ex2
  refine z_istore_n C dX1_read_11 [some (.ref (gv 0)), some (.int p1), some (.int x2), none, none, none, none] (by decide) rfl ?_
  refine z_iload_n C dX1_read_12 rfl ?_
  refine z_iconst C dX1_read_13 1 (by decide +kernel) ?_
  refine z_iadd C dX1_read_14 ?_
  refine z_name C (fun x3 ex3 => ?_)
  replace hw := hw x3 ex3
  refine z_istore_n C dX1_read_15 [some (.ref (gv 0)), some (.int p1), some (.int x2), some (.int x3), none, none, none] (by decide) rfl ?_
  refine z_aload_n C dX1_read_16 rfl ?_
  refine z_get C inlX1 rfl 1 (by decide) mw_4_9 dX1_read_17 0 0 rfl rfl rfl ?_
  refine z_open 0 [(wCo gv v), (wN cI (gv 1) (gv 2) (cSigns v)), (wN cI (gv 3) (gv 4) (cNums v))] [(wCo gv v), (wN cI (gv 1) (gv 2) (cSigns v)), (wN cI (gv 3) (gv 4) (cNums v))] rfl rfl rfl ?_
  refine z_callV0 C [(wN cI (gv 3) (gv 4) (cNums v))] [(wCo gv v), (wN cI (gv 1) (gv 2) (cSigns v))] rfl rfl (met_X4_empty l D cI (gv 3) (gv 4) (cNums v) _ hw) y_X4_empty mw_27_3 dX1_read_20 rfl n_X4_empty rfl (by decide) ⟨rfl, rfl, Nat.le_of_ble_eq_true rfl, Nat.le_of_ble_eq_true rfl⟩ (Nat.le_of_ble_eq_true rfl) (z_pm [2, 0, 1] 3 rfl (by decide) rfl) ?_
  intro u4 hw
  try dsimp only at hw
  refine z_bs [(wN cI (gv 3) (gv 4) u4), (wCo gv v), (wN cI (gv 1) (gv 2) (cSigns v))] [] rfl rfl ?_
  refine z_perm C [(wCo gv v), (wN cI (gv 1) (gv 2) (cSigns v)), (wN cI (gv 3) (gv 4) u4)] (z_pm [1, 2, 0] 3 rfl (by decide) rfl) ?_
  refine z_shut 0 [(wCo gv v), (wN cI (gv 1) (gv 2) (cSigns v)), (wN cI (gv 3) (gv 4) u4)] [(wC cI gv (cSetNums v u4))] rfl rfl rfl ?_
  refine z_iconst C dX1_read_23 0 (by decide +kernel) ?_
  refine z_istore C dX1_read_24 [some (.ref (gv 0)), some (.int p1), some (.int x2), some (.int x3), some (.int 0), none, none] (by decide) rfl ?_
  refine z_ls C [true, false, true, true, true, false, false] [some (.ref (gv 0)), none, some (.int x2), some (.int x3), some (.int 0), none, none] rfl ?_
  exact wk_X1_read_26 C gv v p1 x2  x3 0 u4 _  hw
def rmX1_runOn : Room := { frames := 5, cells := 0, slots := 0, locals := 123 }
def lb_X1_runOn_22 (v : zC) (t : zT)   (Q : zC → zT → Prop)  (K22 : (Int32) → (zC) → (zT) → Prop) (v2 : Int32) (w0 : zC) (w1 : zT) : Prop := ((60 ≤ v2 → (Q w0 w1)) ∧ (¬ 60 ≤ v2 → (((f_X4_size (cSigns w0)) ≤ (cPos w0) → (Q w0 w1)) ∧ (¬ (f_X4_size (cSigns w0)) ≤ (cPos w0) → (wp_X1_read w0 (cPos w0) (fun r3 u4 => ((¬ r3 = 0 → (wp_X4_at (cSigns u4) (cPos u4) (fun r6 => (wp_X4_at (cNums u4) 0 (fun r7 => (wp_X4_at (cNums u4) 1 (fun r8 => (wp_X4_at (cNums u4) 2 (fun r9 => (wp_X5_answer w1 r6 r7 r8 r9 (fun r10 u11 => ((0 ≤ r10 → (K22 (v2 + 1) (cSetDone (cSetPos u4 r3) ((cDone u4) + 1)) u11)) ∧ (¬ 0 ≤ r10 → (Q (cSetCause (cSetRsn u4 2) r10) u11)))))))))))))) ∧ (r3 = 0 → (Q (cSetRsn u4 1) w1)))))))))
set_option maxHeartbeats 4000000 in
set_option maxRecDepth 100000 in
theorem wk_X1_runOn_22 {p : Program} {l : Launch} {e : Env} {s : State} {m : MethodId} {args : Array Value} {below : List Frame} {meth : Method} {c : Code} {D : va_G} {cI : ClassId} {A : Nat → Prop} (C : ZC p s m args meth c RX1 cX1_runOn 5 none D cI A) (gv : Nat → Nat) (gt : Nat → Nat) (v : zC) (t : zT)   (v2 : Int32) (w0 : zC) (w1 : zT) (Q : zC → zT → Prop)  (hw : zLoop3 (lb_X1_runOn_22 v t   Q ) v2 w0 w1) : ZZ p l e rmX1_runOn s m args below meth c D A 5 0 0 (MQ below (ZQ D A (fun _ : zC × zT => none) (fun u : zC × zT => [(wC cI gv (u.1)), (wS cI gt (u.2))]) (fun u : zC × zT => Q u.1 u.2)) args s rmX1_runOn.cells rmX1_runOn.slots A) [(wC cI gv w0), (wS cI gt w1)] 22 [some (.ref (gv 0)), some (.ref (gt 0)), some (.int v2), none, none] [] := by
  refine zLoop3_w (fun (v2 : Int32) (w0 : zC) (w1 : zT) => ZZ p l e rmX1_runOn s m args below meth c D A 5 0 0 (MQ below (ZQ D A (fun _ : zC × zT => none) (fun u : zC × zT => [(wC cI gv (u.1)), (wS cI gt (u.2))]) (fun u : zC × zT => Q u.1 u.2)) args s rmX1_runOn.cells rmX1_runOn.slots A) [(wC cI gv w0), (wS cI gt w1)] 22 [some (.ref (gv 0)), some (.ref (gt 0)), some (.int v2), none, none] []) ?_ _ _ _ hw
  clear hw
  intro K22 hK22 v2 w0 w1 hw
  unfold lb_X1_runOn_22 at hw
  refine z_iload_n C dX1_runOn_22 rfl ?_
  refine z_bipush C dX1_runOn_23 60 (by decide +kernel) ?_
  refine z_icmp_ge C dX1_runOn_25 140 (by decide) (fun c1 => ?_) (fun c1 => ?_)
  · replace hw := hw.1 c1
    exact z_vret C rfl (w0, w1) rfl hw rfl dX1_runOn_140
  · replace hw := hw.2 c1
    refine z_aload_n C dX1_runOn_28 rfl ?_
    refine z_get C inlX1 rfl 2 (by decide) mw_26_14 dX1_runOn_29 0 0 rfl rfl rfl ?_
    refine z_aload_n C dX1_runOn_32 rfl ?_
    refine z_get C inlX1 rfl 0 (by decide) mw_4_8 dX1_runOn_33 0 0 rfl rfl rfl ?_
    refine z_open 0 [(wCo gv w0), (wN cI (gv 1) (gv 2) (cSigns w0)), (wN cI (gv 3) (gv 4) (cNums w0))] [(wCo gv w0), (wN cI (gv 1) (gv 2) (cSigns w0)), (wN cI (gv 3) (gv 4) (cNums w0)), (wS cI gt w1)] rfl rfl rfl ?_
    refine z_callFV C [(wN cI (gv 1) (gv 2) (cSigns w0))] [(wCo gv w0), (wN cI (gv 3) (gv 4) (cNums w0)), (wS cI gt w1)] rfl rfl (met_X4_size l D cI (gv 1) (gv 2) (cSigns w0)) y_X4_size mw_26_18 dX1_runOn_36 rfl n_X4_size rfl (by decide) ⟨rfl, rfl, Nat.le_of_ble_eq_true rfl, Nat.le_of_ble_eq_true rfl⟩ (Nat.le_of_ble_eq_true rfl) (z_pm [1, 0, 2, 3] 4 rfl (by decide) rfl) ?_
    refine z_shut 0 [(wCo gv w0), (wN cI (gv 1) (gv 2) (cSigns w0)), (wN cI (gv 3) (gv 4) (cNums w0))] [(wC cI gv w0), (wS cI gt w1)] rfl rfl rfl ?_
    refine z_icmp_ge C dX1_runOn_39 140 (by decide) (fun c2 => ?_) (fun c2 => ?_)
    · replace hw := hw.1 c2
      exact z_vret C rfl (w0, w1) rfl hw rfl dX1_runOn_140
    · replace hw := hw.2 c2
      refine z_aload_n C dX1_runOn_42 rfl ?_
      refine z_aload_n C dX1_runOn_43 rfl ?_
      refine z_get C inlX1 rfl 2 (by decide) mw_26_14 dX1_runOn_44 0 0 rfl rfl rfl ?_
      refine z_callV0 C [(wC cI gv w0)] [(wS cI gt w1)] rfl rfl (met_X1_read l D cI gv w0 (cPos w0) _ hw) y_X1_read mw_26_19 dX1_runOn_47 rfl n_X1_read rfl (by decide) ⟨rfl, rfl, Nat.le_of_ble_eq_true rfl, Nat.le_of_ble_eq_true rfl⟩ (Nat.le_of_ble_eq_true rfl) (z_pm [0, 1] 2 rfl (by decide) rfl) ?_
      intro ⟨r3, u4⟩ hw
      try dsimp only at hw
      refine z_bs [(wC cI gv u4), (wS cI gt w1)] [.int r3] rfl rfl ?_
      refine z_istore_n C dX1_runOn_50 [some (.ref (gv 0)), some (.ref (gt 0)), some (.int v2), some (.int r3), none] (by decide) rfl ?_
      refine z_iload_n C dX1_runOn_51 rfl ?_
      refine z_if_ne C dX1_runOn_52 61 (by decide) (fun c5 => ?_) (fun c5 => ?_)
      · replace hw := hw.1 c5
        refine z_aload_n C dX1_runOn_61 rfl ?_
        refine z_aload_n C dX1_runOn_62 rfl ?_
        refine z_get C inlX1 rfl 0 (by decide) mw_4_8 dX1_runOn_63 0 0 rfl rfl rfl ?_
        refine z_aload_n C dX1_runOn_66 rfl ?_
        refine z_get C inlX1 rfl 2 (by decide) mw_26_14 dX1_runOn_67 0 0 rfl rfl rfl ?_
        refine z_open 0 [(wCo gv u4), (wN cI (gv 1) (gv 2) (cSigns u4)), (wN cI (gv 3) (gv 4) (cNums u4))] [(wCo gv u4), (wN cI (gv 1) (gv 2) (cSigns u4)), (wN cI (gv 3) (gv 4) (cNums u4)), (wS cI gt w1)] rfl rfl rfl ?_
        refine z_callV0 C [(wN cI (gv 1) (gv 2) (cSigns u4))] [(wCo gv u4), (wN cI (gv 3) (gv 4) (cNums u4)), (wS cI gt w1)] rfl rfl (met_X4_at l D cI (gv 1) (gv 2) (cSigns u4) (cPos u4) _ hw) y_X4_at mw_26_23 dX1_runOn_70 rfl n_X4_at rfl (by decide) ⟨rfl, rfl, Nat.le_of_ble_eq_true rfl, Nat.le_of_ble_eq_true rfl⟩ (Nat.le_of_ble_eq_true rfl) (z_pm [1, 0, 2, 3] 4 rfl (by decide) rfl) ?_
        intro r6 hw
        try dsimp only at hw
        refine z_bs [(wN cI (gv 1) (gv 2) (cSigns u4)), (wCo gv u4), (wN cI (gv 3) (gv 4) (cNums u4)), (wS cI gt w1)] [.int r6, .ref (gt 0)] rfl rfl ?_
        refine z_perm C [(wCo gv u4), (wN cI (gv 1) (gv 2) (cSigns u4)), (wN cI (gv 3) (gv 4) (cNums u4)), (wS cI gt w1)] (z_pm [1, 0, 2, 3] 4 rfl (by decide) rfl) ?_
        refine z_shut 0 [(wCo gv u4), (wN cI (gv 1) (gv 2) (cSigns u4)), (wN cI (gv 3) (gv 4) (cNums u4))] [(wC cI gv u4), (wS cI gt w1)] rfl rfl rfl ?_
        refine z_aload_n C dX1_runOn_73 rfl ?_
        refine z_get C inlX1 rfl 1 (by decide) mw_4_9 dX1_runOn_74 0 0 rfl rfl rfl ?_
        refine z_iconst C dX1_runOn_77 0 (by decide +kernel) ?_
        refine z_open 0 [(wCo gv u4), (wN cI (gv 1) (gv 2) (cSigns u4)), (wN cI (gv 3) (gv 4) (cNums u4))] [(wCo gv u4), (wN cI (gv 1) (gv 2) (cSigns u4)), (wN cI (gv 3) (gv 4) (cNums u4)), (wS cI gt w1)] rfl rfl rfl ?_
        refine z_callV0 C [(wN cI (gv 3) (gv 4) (cNums u4))] [(wCo gv u4), (wN cI (gv 1) (gv 2) (cSigns u4)), (wS cI gt w1)] rfl rfl (met_X4_at l D cI (gv 3) (gv 4) (cNums u4) 0 _ hw) y_X4_at mw_26_23 dX1_runOn_78 rfl n_X4_at rfl (by decide) ⟨rfl, rfl, Nat.le_of_ble_eq_true rfl, Nat.le_of_ble_eq_true rfl⟩ (Nat.le_of_ble_eq_true rfl) (z_pm [2, 0, 1, 3] 4 rfl (by decide) rfl) ?_
        intro r7 hw
        try dsimp only at hw
        refine z_bs [(wN cI (gv 3) (gv 4) (cNums u4)), (wCo gv u4), (wN cI (gv 1) (gv 2) (cSigns u4)), (wS cI gt w1)] [.int r7, .int r6, .ref (gt 0)] rfl rfl ?_
        refine z_perm C [(wCo gv u4), (wN cI (gv 1) (gv 2) (cSigns u4)), (wN cI (gv 3) (gv 4) (cNums u4)), (wS cI gt w1)] (z_pm [1, 2, 0, 3] 4 rfl (by decide) rfl) ?_
        refine z_shut 0 [(wCo gv u4), (wN cI (gv 1) (gv 2) (cSigns u4)), (wN cI (gv 3) (gv 4) (cNums u4))] [(wC cI gv u4), (wS cI gt w1)] rfl rfl rfl ?_
        refine z_aload_n C dX1_runOn_81 rfl ?_
        refine z_get C inlX1 rfl 1 (by decide) mw_4_9 dX1_runOn_82 0 0 rfl rfl rfl ?_
        refine z_iconst C dX1_runOn_85 1 (by decide +kernel) ?_
        refine z_open 0 [(wCo gv u4), (wN cI (gv 1) (gv 2) (cSigns u4)), (wN cI (gv 3) (gv 4) (cNums u4))] [(wCo gv u4), (wN cI (gv 1) (gv 2) (cSigns u4)), (wN cI (gv 3) (gv 4) (cNums u4)), (wS cI gt w1)] rfl rfl rfl ?_
        refine z_callV0 C [(wN cI (gv 3) (gv 4) (cNums u4))] [(wCo gv u4), (wN cI (gv 1) (gv 2) (cSigns u4)), (wS cI gt w1)] rfl rfl (met_X4_at l D cI (gv 3) (gv 4) (cNums u4) 1 _ hw) y_X4_at mw_26_23 dX1_runOn_86 rfl n_X4_at rfl (by decide) ⟨rfl, rfl, Nat.le_of_ble_eq_true rfl, Nat.le_of_ble_eq_true rfl⟩ (Nat.le_of_ble_eq_true rfl) (z_pm [2, 0, 1, 3] 4 rfl (by decide) rfl) ?_
        intro r8 hw
        try dsimp only at hw
        refine z_bs [(wN cI (gv 3) (gv 4) (cNums u4)), (wCo gv u4), (wN cI (gv 1) (gv 2) (cSigns u4)), (wS cI gt w1)] [.int r8, .int r7, .int r6, .ref (gt 0)] rfl rfl ?_
        refine z_perm C [(wCo gv u4), (wN cI (gv 1) (gv 2) (cSigns u4)), (wN cI (gv 3) (gv 4) (cNums u4)), (wS cI gt w1)] (z_pm [1, 2, 0, 3] 4 rfl (by decide) rfl) ?_
        refine z_shut 0 [(wCo gv u4), (wN cI (gv 1) (gv 2) (cSigns u4)), (wN cI (gv 3) (gv 4) (cNums u4))] [(wC cI gv u4), (wS cI gt w1)] rfl rfl rfl ?_
        refine z_aload_n C dX1_runOn_89 rfl ?_
        refine z_get C inlX1 rfl 1 (by decide) mw_4_9 dX1_runOn_90 0 0 rfl rfl rfl ?_
        refine z_iconst C dX1_runOn_93 2 (by decide +kernel) ?_
        refine z_open 0 [(wCo gv u4), (wN cI (gv 1) (gv 2) (cSigns u4)), (wN cI (gv 3) (gv 4) (cNums u4))] [(wCo gv u4), (wN cI (gv 1) (gv 2) (cSigns u4)), (wN cI (gv 3) (gv 4) (cNums u4)), (wS cI gt w1)] rfl rfl rfl ?_
        refine z_callV0 C [(wN cI (gv 3) (gv 4) (cNums u4))] [(wCo gv u4), (wN cI (gv 1) (gv 2) (cSigns u4)), (wS cI gt w1)] rfl rfl (met_X4_at l D cI (gv 3) (gv 4) (cNums u4) 2 _ hw) y_X4_at mw_26_23 dX1_runOn_94 rfl n_X4_at rfl (by decide) ⟨rfl, rfl, Nat.le_of_ble_eq_true rfl, Nat.le_of_ble_eq_true rfl⟩ (Nat.le_of_ble_eq_true rfl) (z_pm [2, 0, 1, 3] 4 rfl (by decide) rfl) ?_
        intro r9 hw
        try dsimp only at hw
        refine z_bs [(wN cI (gv 3) (gv 4) (cNums u4)), (wCo gv u4), (wN cI (gv 1) (gv 2) (cSigns u4)), (wS cI gt w1)] [.int r9, .int r8, .int r7, .int r6, .ref (gt 0)] rfl rfl ?_
        refine z_perm C [(wCo gv u4), (wN cI (gv 1) (gv 2) (cSigns u4)), (wN cI (gv 3) (gv 4) (cNums u4)), (wS cI gt w1)] (z_pm [1, 2, 0, 3] 4 rfl (by decide) rfl) ?_
        refine z_shut 0 [(wCo gv u4), (wN cI (gv 1) (gv 2) (cSigns u4)), (wN cI (gv 3) (gv 4) (cNums u4))] [(wC cI gv u4), (wS cI gt w1)] rfl rfl rfl ?_
        refine z_callV0 C [(wS cI gt w1)] [(wC cI gv u4)] rfl rfl (met_X5_answer l D cI gt w1 r6 r7 r8 r9 _ hw) y_X5_answer mw_27_16 dX1_runOn_97 rfl n_X5_answer rfl (by decide) ⟨rfl, rfl, Nat.le_of_ble_eq_true rfl, Nat.le_of_ble_eq_true rfl⟩ (Nat.le_of_ble_eq_true rfl) (z_pm [1, 0] 2 rfl (by decide) rfl) ?_
        intro ⟨r10, u11⟩ hw
        try dsimp only at hw
        refine z_bs [(wS cI gt u11), (wC cI gv u4)] [.int r10] rfl rfl ?_
        refine z_perm C [(wC cI gv u4), (wS cI gt u11)] (z_pm [1, 0] 2 rfl (by decide) rfl) ?_
        refine z_istore C dX1_runOn_100 [some (.ref (gv 0)), some (.ref (gt 0)), some (.int v2), some (.int r3), some (.int r10)] (by decide) rfl ?_
        refine z_iload C dX1_runOn_102 rfl ?_
        refine z_if_ge C dX1_runOn_104 119 (by decide) (fun c12 => ?_) (fun c12 => ?_)
        · replace hw := hw.1 c12
          refine z_aload_n C dX1_runOn_119 rfl ?_
          refine z_iload_n C dX1_runOn_120 rfl ?_
          refine z_put C inlX1 rfl tyX1 tyX1_ok nmX1 2 (by decide) mw_26_14 rfl rfl rfl rfl dX1_runOn_121 0 0 rfl rfl (Nat.le_of_ble_eq_true rfl) [(wC cI gv (cSetPos u4 r3)), (wS cI gt u11)] rfl ?_
          refine z_aload_n C dX1_runOn_124 rfl ?_
          refine z_dup C dX1_runOn_125 rfl ?_
          refine z_get C inlX1 rfl 5 (by decide) mw_26_17 dX1_runOn_126 0 0 rfl rfl rfl ?_
          refine z_iconst C dX1_runOn_129 1 (by decide +kernel) ?_
          refine z_iadd C dX1_runOn_130 ?_
          refine z_put C inlX1 rfl tyX1 tyX1_ok nmX1 5 (by decide) mw_26_17 rfl rfl rfl rfl dX1_runOn_131 0 0 rfl rfl (Nat.le_of_ble_eq_true rfl) [(wC cI gv (cSetDone (cSetPos u4 r3) ((cDone u4) + 1))), (wS cI gt u11)] rfl ?_
          refine z_iinc C dX1_runOn_134 rfl (v2 + 1) (by rfl) [some (.ref (gv 0)), some (.ref (gt 0)), some (.int (v2 + 1)), some (.int r3), some (.int r10)] (by decide) rfl ?_
          refine z_goto C dX1_runOn_137 22 (by decide) ?_
          refine z_ls C [true, true, true, false, false] [some (.ref (gv 0)), some (.ref (gt 0)), some (.int (v2 + 1)), none, none] rfl ?_
          exact hK22 _ _ _ hw
        · replace hw := hw.2 c12
          refine z_aload_n C dX1_runOn_107 rfl ?_
          refine z_iconst C dX1_runOn_108 2 (by decide +kernel) ?_
          refine z_put C inlX1 rfl tyX1 tyX1_ok nmX1 3 (by decide) mw_26_15 rfl rfl rfl rfl dX1_runOn_109 0 0 rfl rfl (Nat.le_of_ble_eq_true rfl) [(wC cI gv (cSetRsn u4 2)), (wS cI gt u11)] rfl ?_
          refine z_aload_n C dX1_runOn_112 rfl ?_
          refine z_iload C dX1_runOn_113 rfl ?_
          refine z_put C inlX1 rfl tyX1 tyX1_ok nmX1 4 (by decide) mw_26_16 rfl rfl rfl rfl dX1_runOn_115 0 0 rfl rfl (Nat.le_of_ble_eq_true rfl) [(wC cI gv (cSetCause (cSetRsn u4 2) r10)), (wS cI gt u11)] rfl ?_
          exact z_vret C rfl ((cSetCause (cSetRsn u4 2) r10), u11) rfl hw rfl dX1_runOn_118
      · replace hw := hw.2 c5
        refine z_aload_n C dX1_runOn_55 rfl ?_
        refine z_iconst C dX1_runOn_56 1 (by decide +kernel) ?_
        refine z_put C inlX1 rfl tyX1 tyX1_ok nmX1 3 (by decide) mw_26_15 rfl rfl rfl rfl dX1_runOn_57 0 0 rfl rfl (Nat.le_of_ble_eq_true rfl) [(wC cI gv (cSetRsn u4 1)), (wS cI gt w1)] rfl ?_
        exact z_vret C rfl ((cSetRsn u4 1), w1) rfl hw rfl dX1_runOn_60
def wp_X1_runOn (v : zC) (t : zT)  (Q : zC → zT → Prop) : Prop := (zLoop3 (lb_X1_runOn_22 v t   Q ) 0 (cSetDone (cSetCause (cSetRsn (cSetPos v 0) 0) 0) 0) t)
set_option maxHeartbeats 4000000 in
set_option maxRecDepth 100000 in
theorem met_X1_runOn (l : Launch) (D : va_G) (cI : ClassId) (gv : Nat → Nat) (gt : Nat → Nat) (v : zC) (t : zT)  (Q : zC → zT → Prop) (hw : wp_X1_runOn v t Q) : ZM l D cI yX1_runOn cX1_runOn 5 none rmX1_runOn [.ref (gv 0), .ref (gt 0)] [(wC cI gv v), (wS cI gt t)] (fun _ : zC × zT => none) (fun u : zC × zT => [(wC cI gv (u.1)), (wS cI gt (u.2))]) (fun u : zC × zT => Q u.1 u.2) := by
  refine z_body [some (.ref (gv 0)), some (.ref (gt 0)), none, none, none] (by decide +kernel) rfl (Nat.le_of_ble_eq_true rfl) rfl ?_
  intro p e s m args below meth c A C hin
  unfold wp_X1_runOn at hw
  refine z_aload_n C dX1_runOn_0 rfl ?_
  refine z_iconst C dX1_runOn_1 0 (by decide +kernel) ?_
  refine z_put C inlX1 rfl tyX1 tyX1_ok nmX1 2 (by decide) mw_26_14 rfl rfl rfl rfl dX1_runOn_2 0 0 rfl rfl (Nat.le_of_ble_eq_true rfl) [(wC cI gv (cSetPos v 0)), (wS cI gt t)] rfl ?_
  refine z_aload_n C dX1_runOn_5 rfl ?_
  refine z_iconst C dX1_runOn_6 0 (by decide +kernel) ?_
  refine z_put C inlX1 rfl tyX1 tyX1_ok nmX1 3 (by decide) mw_26_15 rfl rfl rfl rfl dX1_runOn_7 0 0 rfl rfl (Nat.le_of_ble_eq_true rfl) [(wC cI gv (cSetRsn (cSetPos v 0) 0)), (wS cI gt t)] rfl ?_
  refine z_aload_n C dX1_runOn_10 rfl ?_
  refine z_iconst C dX1_runOn_11 0 (by decide +kernel) ?_
  refine z_put C inlX1 rfl tyX1 tyX1_ok nmX1 4 (by decide) mw_26_16 rfl rfl rfl rfl dX1_runOn_12 0 0 rfl rfl (Nat.le_of_ble_eq_true rfl) [(wC cI gv (cSetCause (cSetRsn (cSetPos v 0) 0) 0)), (wS cI gt t)] rfl ?_
  refine z_aload_n C dX1_runOn_15 rfl ?_
  refine z_iconst C dX1_runOn_16 0 (by decide +kernel) ?_
  refine z_put C inlX1 rfl tyX1 tyX1_ok nmX1 5 (by decide) mw_26_17 rfl rfl rfl rfl dX1_runOn_17 0 0 rfl rfl (Nat.le_of_ble_eq_true rfl) [(wC cI gv (cSetDone (cSetCause (cSetRsn (cSetPos v 0) 0) 0) 0)), (wS cI gt t)] rfl ?_
  refine z_iconst C dX1_runOn_20 0 (by decide +kernel) ?_
  refine z_istore_n C dX1_runOn_21 [some (.ref (gv 0)), some (.ref (gt 0)), some (.int 0), none, none] (by decide) rfl ?_
  exact wk_X1_runOn_22 C gv gt v t   0 (cSetDone (cSetCause (cSetRsn (cSetPos v 0) 0) 0) 0) t _  hw
