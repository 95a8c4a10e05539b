/-! printed by wip/p25/gen.py: what each method does, and that the machine does it -/
def rmX6_isNoEditor : Room := { frames := 0, cells := 0, slots := 0, locals := 0 }
def f_X6_isNoEditor  (p1 : Int32) : Int32 := (if p1 < 0 then 1 else (if p1 < 3 then 0 else 1))
set_option maxHeartbeats 4000000 in
set_option maxRecDepth 100000 in
theorem met_X6_isNoEditor (l : Launch) (D : va_G) (cI : ClassId)   (p1 : Int32) : ZM l D cI yX6_isNoEditor cX6_isNoEditor 1 (some .boolean) rmX6_isNoEditor [.int p1] [] (fun _ : Unit => some (.int (f_X6_isNoEditor p1))) (fun _ : Unit => []) (fun _ : Unit => True) := by
  refine z_body [some (.int p1)] (by decide +kernel) rfl (Nat.le_of_ble_eq_true rfl) rfl ?_
  intro p e s m args below meth c A C hin
  refine z_iload_n C dX6_isNoEditor_0 rfl ?_
  refine z_if_lt C dX6_isNoEditor_1 9 (by decide) (fun c1 => ?_) (fun c1 => ?_)
  · refine z_iconst C dX6_isNoEditor_9 1 (by decide +kernel) ?_
    refine z_goto C dX6_isNoEditor_10 14 (by decide) ?_
    exact z_zret C rfl (by decide) () (by rw [f_X6_isNoEditor, if_pos c1]) trivial rfl dX6_isNoEditor_14
  · refine z_iload_n C dX6_isNoEditor_4 rfl ?_
    refine z_iconst C dX6_isNoEditor_5 3 (by decide +kernel) ?_
    refine z_icmp_lt C dX6_isNoEditor_6 13 (by decide) (fun c2 => ?_) (fun c2 => ?_)
    · refine z_iconst C dX6_isNoEditor_13 0 (by decide +kernel) ?_
      exact z_zret C rfl (by decide) () (by rw [f_X6_isNoEditor, if_neg c1, if_pos c2]) trivial rfl dX6_isNoEditor_14
    · refine z_iconst C dX6_isNoEditor_9 1 (by decide +kernel) ?_
      refine z_goto C dX6_isNoEditor_10 14 (by decide) ?_
      exact z_zret C rfl (by decide) () (by rw [f_X6_isNoEditor, if_neg c1, if_neg c2]) trivial rfl dX6_isNoEditor_14
theorem b_X6_isNoEditor  (p1 : Int32) : zB (f_X6_isNoEditor p1) := by
  unfold f_X6_isNoEditor
  (repeat' split) <;> exact ⟨by decide, by decide⟩
def rmX5_editor : Room := { frames := 0, cells := 0, slots := 0, locals := 0 }
set_option maxHeartbeats 4000000 in
set_option maxRecDepth 100000 in
theorem met_X5_editor (l : Launch) (D : va_G) (cI : ClassId) (gt : Nat → Nat) (t : zT) (p1 : Int32) : ZM l D cI yX5_editor cX5_editor 2 (some (.object "ReshapedTexts$Editor")) rmX5_editor [.ref (gt 0), .int p1] [(wS cI gt t)] (fun _ : Unit => some (.ref ((gE gt (ixE p1)) 0))) (fun _ : Unit => [(wS cI gt t)]) (fun _ : Unit => True) := by
  refine z_body [some (.ref (gt 0)), some (.int p1)] (by decide +kernel) rfl (Nat.le_of_ble_eq_true rfl) rfl ?_
  intro p e s m args below meth c A C hin
  refine z_iload_n C dX5_editor_0 rfl ?_
  refine z_if_ne C dX5_editor_1 9 (by decide) (fun c1 => ?_) (fun c1 => ?_)
  · refine z_iload_n C dX5_editor_9 rfl ?_
    refine z_iconst C dX5_editor_10 1 (by decide +kernel) ?_
    refine z_icmp_ne C dX5_editor_11 21 (by decide) (fun c2 => ?_) (fun c2 => ?_)
    · refine z_aload_n C dX5_editor_21 rfl ?_
      refine z_get C inlX5 rfl 2 (by decide) mw_2_9 dX5_editor_22 0 0 rfl rfl rfl ?_
      exact z_aret C rfl () (by rw [show ixE p1 = 2 by unfold ixE; rw [if_neg c1, if_neg c2]]; rfl) trivial rfl dX5_editor_25
    · refine z_aload_n C dX5_editor_14 rfl ?_
      refine z_get C inlX5 rfl 1 (by decide) mw_2_8 dX5_editor_15 0 0 rfl rfl rfl ?_
      refine z_goto C dX5_editor_18 25 (by decide) ?_
      exact z_aret C rfl () (by rw [show ixE p1 = 1 by unfold ixE; rw [if_neg c1, if_pos c2]]; rfl) trivial rfl dX5_editor_25
  · refine z_aload_n C dX5_editor_4 rfl ?_
    refine z_get C inlX5 rfl 0 (by decide) mw_2_7 dX5_editor_5 0 0 rfl rfl rfl ?_
    exact z_aret C rfl () (by rw [show ixE p1 = 0 by unfold ixE; rw [if_pos c1]]; rfl) trivial rfl dX5_editor_8
def rmX5_append : Room := { frames := 2, cells := 0, slots := 0, locals := 51 }
def jn_X5_append_75 (k : Nat) (t : zT) (v2 : Int32) (w0Text : zN) (w0Wrs : zN)  (Q : zT → Prop)  : Prop := (wp_X4_add (tLog t) v2 (fun u6 => (Q (tSetWrs (tSetText (tSetLog (tSetEds t (va_up (tEds t) k (eSetUw (tEd (tSetWrs (tSetText (tSetLog t u6) w0Text) w0Wrs) k) 1))) u6) w0Text) w0Wrs))))
set_option maxHeartbeats 4000000 in
set_option maxRecDepth 100000 in
theorem wk_X5_append_75 {p : Program} {l : Launch} {e : Env} {s : State} {m : MethodId} {args : Array Value} {below : List Frame} {meth : Method} {c : Code} {D : va_G} {cI : ClassId} {A : Nat → Prop} (C : ZC p s m args meth c RX5 cX5_append 5 none D cI A) (gt : Nat → Nat) (k : Nat) (t : zT) (v2 : Int32) (w0Text : zN) (w0Wrs : zN)  (hk : k < 3) (Q : zT → Prop)  (hw : jn_X5_append_75 k t v2 w0Text w0Wrs  Q ) : ZZ p l e rmX5_append s m args below meth c D A 5 0 0 (MQ below (ZQ D A (fun _ : zT => none) (fun u : zT => [(wS cI gt u)]) (fun u : zT => Q u)) args s rmX5_append.cells rmX5_append.slots A) [(wS cI gt (tSetWrs (tSetText t w0Text) w0Wrs))] 75 [some (.ref (gt 0)), some (.ref ((gE gt k) 0)), some (.int v2), none, none] [] := by
  unfold jn_X5_append_75 at hw
  refine z_aload_n C dX5_append_75 rfl ?_
  refine z_get C inlX5 rfl 3 (by decide) mw_2_13 dX5_append_76 0 0 rfl rfl rfl ?_
  refine z_iload_n C dX5_append_79 rfl ?_
  refine z_open 0 [(wSo gt), (wE cI (gE gt 0) (tEd (tSetWrs (tSetText t w0Text) w0Wrs) 0)), (wE cI (gE gt 1) (tEd (tSetWrs (tSetText t w0Text) w0Wrs) 1)), (wE cI (gE gt 2) (tEd (tSetWrs (tSetText t w0Text) w0Wrs) 2)), (wN cI (gt 22) (gt 23) (tLog t)), (wN cI (gt 24) (gt 25) w0Text), (wN cI (gt 26) (gt 27) w0Wrs)] [(wSo gt), (wE cI (gE gt 0) (tEd (tSetWrs (tSetText t w0Text) w0Wrs) 0)), (wE cI (gE gt 1) (tEd (tSetWrs (tSetText t w0Text) w0Wrs) 1)), (wE cI (gE gt 2) (tEd (tSetWrs (tSetText t w0Text) w0Wrs) 2)), (wN cI (gt 22) (gt 23) (tLog t)), (wN cI (gt 24) (gt 25) w0Text), (wN cI (gt 26) (gt 27) w0Wrs)] rfl rfl rfl ?_
  refine z_callV0 C [(wN cI (gt 22) (gt 23) (tLog t))] [(wSo gt), (wE cI (gE gt 0) (tEd (tSetWrs (tSetText t w0Text) w0Wrs) 0)), (wE cI (gE gt 1) (tEd (tSetWrs (tSetText t w0Text) w0Wrs) 1)), (wE cI (gE gt 2) (tEd (tSetWrs (tSetText t w0Text) w0Wrs) 2)), (wN cI (gt 24) (gt 25) w0Text), (wN cI (gt 26) (gt 27) w0Wrs)] rfl rfl (met_X4_add l D cI (gt 22) (gt 23) (tLog t) v2 _ hw) y_X4_add mw_11_4 dX5_append_80 rfl n_X4_add rfl (by decide) ⟨rfl, rfl, Nat.le_of_ble_eq_true rfl, Nat.le_of_ble_eq_true rfl⟩ (Nat.le_of_ble_eq_true rfl) (z_pm [4, 0, 1, 2, 3, 5, 6] 7 rfl (by decide) rfl) ?_
  intro u6 hw
  try dsimp only at hw
  refine z_bs [(wN cI (gt 22) (gt 23) u6), (wSo gt), (wE cI (gE gt 0) (tEd (tSetWrs (tSetText t w0Text) w0Wrs) 0)), (wE cI (gE gt 1) (tEd (tSetWrs (tSetText t w0Text) w0Wrs) 1)), (wE cI (gE gt 2) (tEd (tSetWrs (tSetText t w0Text) w0Wrs) 2)), (wN cI (gt 24) (gt 25) w0Text), (wN cI (gt 26) (gt 27) w0Wrs)] [] rfl rfl ?_
  refine z_perm C [(wSo gt), (wE cI (gE gt 0) (tEd (tSetWrs (tSetText t w0Text) w0Wrs) 0)), (wE cI (gE gt 1) (tEd (tSetWrs (tSetText t w0Text) w0Wrs) 1)), (wE cI (gE gt 2) (tEd (tSetWrs (tSetText t w0Text) w0Wrs) 2)), (wN cI (gt 22) (gt 23) u6), (wN cI (gt 24) (gt 25) w0Text), (wN cI (gt 26) (gt 27) w0Wrs)] (z_pm [1, 2, 3, 4, 0, 5, 6] 7 rfl (by decide) rfl) ?_
  refine z_shut 0 [(wSo gt), (wE cI (gE gt 0) (tEd (tSetWrs (tSetText t w0Text) w0Wrs) 0)), (wE cI (gE gt 1) (tEd (tSetWrs (tSetText t w0Text) w0Wrs) 1)), (wE cI (gE gt 2) (tEd (tSetWrs (tSetText t w0Text) w0Wrs) 2)), (wN cI (gt 22) (gt 23) u6), (wN cI (gt 24) (gt 25) w0Text), (wN cI (gt 26) (gt 27) w0Wrs)] [(wS cI gt (tSetWrs (tSetText (tSetLog t u6) w0Text) w0Wrs))] rfl rfl rfl ?_
  refine z_aload_n C dX5_append_83 rfl ?_
  refine z_iconst C dX5_append_84 1 (by decide +kernel) ?_
  refine z_focus 0 hk [(wF cI gt (tSetWrs (tSetText (tSetLog t u6) w0Text) w0Wrs) k (tEd (tSetWrs (tSetText (tSetLog t u6) w0Text) w0Wrs) k))] rfl rfl ?_
  refine z_putN C inlX2 rfl tyX2 tyX2_ok nmX2 4 (by decide) (List.mem_of_getElem? (i := 12) rfl) rfl rfl (by decide) (by decide) dX5_append_85 0 1 rfl rfl (Nat.le_of_ble_eq_true rfl) [(wF cI gt (tSetWrs (tSetText (tSetLog t u6) w0Text) w0Wrs) k (eSetUw (tEd (tSetWrs (tSetText (tSetLog t u6) w0Text) w0Wrs) k) 1))] rfl ?_
  refine z_unfocus 0 hk (tSetWrs (tSetText (tSetLog (tSetEds t (va_up (tEds t) k (eSetUw (tEd (tSetWrs (tSetText (tSetLog t u6) w0Text) w0Wrs) k) 1))) u6) w0Text) w0Wrs) [(wS cI gt (tSetWrs (tSetText (tSetLog (tSetEds t (va_up (tEds t) k (eSetUw (tEd (tSetWrs (tSetText (tSetLog t u6) w0Text) w0Wrs) k) 1))) u6) w0Text) w0Wrs))] rfl rfl rfl ?_
  exact z_vret C rfl ((tSetWrs (tSetText (tSetLog (tSetEds t (va_up (tEds t) k (eSetUw (tEd (tSetWrs (tSetText (tSetLog t u6) w0Text) w0Wrs) k) 1))) u6) w0Text) w0Wrs)) rfl hw rfl dX5_append_88
def wp_X5_append (k : Nat) (t : zT)  (Q : zT → Prop) : Prop := (wp_X2_outgoing (tEd t k) (tLog t) (fun r1 => (∀ x2 : Int32, x2 = (f_X0_place r1) → (∀ x3 : Int32, x3 = (f_X0_kind r1) → ((¬ x3 = 1 → ((¬ x3 = 2 → (jn_X5_append_75 k t r1 (tText t) (tWrs t)  Q )) ∧ (x3 = 2 → (wp_X4_removeAt (tText t) x2 (fun u7 => (wp_X4_removeAt (tWrs t) x2 (fun u8 => (jn_X5_append_75 k t r1 u7 u8  Q )))))))) ∧ (x3 = 1 → (wp_X4_addAt (tText t) x2 (f_X0_sign r1) (fun u9 => (wp_X4_addAt (tWrs t) x2 (f_X0_writer r1) (fun u10 => (jn_X5_append_75 k t r1 u9 u10  Q )))))))))))
set_option maxHeartbeats 4000000 in
set_option maxRecDepth 100000 in
theorem met_X5_append (l : Launch) (D : va_G) (cI : ClassId) (gt : Nat → Nat) (k : Nat) (t : zT)  (hk : k < 3) (Q : zT → Prop) (hw : wp_X5_append k t Q) : ZM l D cI yX5_append cX5_append 5 none rmX5_append [.ref (gt 0), .ref ((gE gt k) 0)] [(wS cI gt t)] (fun _ : zT => none) (fun u : zT => [(wS cI gt u)]) (fun u : zT => Q u) := by
  refine z_body [some (.ref (gt 0)), some (.ref ((gE gt k) 0)), none, none, none] (by decide +kernel) rfl (Nat.le_of_ble_eq_true rfl) rfl ?_
  intro p e s m args below meth c A C hin
  unfold wp_X5_append at hw
  refine z_aload_n C dX5_append_0 rfl ?_
  refine z_aload_n C dX5_append_1 rfl ?_
  refine z_get C inlX5 rfl 3 (by decide) mw_2_13 dX5_append_2 0 0 rfl rfl rfl ?_
  refine z_focus 0 hk [(wF cI gt t k (tEd t k))] rfl rfl ?_
  refine z_open 0 [(wSo gt), (wE cI (gE gt k) (tEd t k)), (wN cI (gt 22) (gt 23) (tLog t)), (wN cI (gt 24) (gt 25) (tText t)), (wN cI (gt 26) (gt 27) (tWrs t)), (wR cI gt t k)] [(wSo gt), (wE cI (gE gt k) (tEd t k)), (wN cI (gt 22) (gt 23) (tLog t)), (wN cI (gt 24) (gt 25) (tText t)), (wN cI (gt 26) (gt 27) (tWrs t)), (wR cI gt t k)] rfl rfl rfl ?_
  refine z_callV0 C [(wE cI (gE gt k) (tEd t k)), (wN cI (gt 22) (gt 23) (tLog t))] [(wSo gt), (wN cI (gt 24) (gt 25) (tText t)), (wN cI (gt 26) (gt 27) (tWrs t)), (wR cI gt t k)] rfl rfl (met_X2_outgoing l D cI (gE gt k) (gt 22) (gt 23) (tEd t k) (tLog t) _ hw) y_X2_outgoing mw_10_16 dX5_append_5 rfl n_X2_outgoing rfl (by decide) ⟨rfl, rfl, Nat.le_of_ble_eq_true rfl, Nat.le_of_ble_eq_true rfl⟩ (Nat.le_of_ble_eq_true rfl) (z_pm [1, 2, 0, 3, 4, 5] 6 rfl (by decide) rfl) ?_
  intro r1 hw
  try dsimp only at hw
  refine z_bs [(wE cI (gE gt k) (tEd t k)), (wN cI (gt 22) (gt 23) (tLog t)), (wSo gt), (wN cI (gt 24) (gt 25) (tText t)), (wN cI (gt 26) (gt 27) (tWrs t)), (wR cI gt t k)] [.int r1] rfl rfl ?_
  refine z_perm C [(wSo gt), (wE cI (gE gt k) (tEd t k)), (wN cI (gt 22) (gt 23) (tLog t)), (wN cI (gt 24) (gt 25) (tText t)), (wN cI (gt 26) (gt 27) (tWrs t)), (wR cI gt t k)] (z_pm [2, 0, 1, 3, 4, 5] 6 rfl (by decide) rfl) ?_
  refine z_shut 0 [(wSo gt), (wE cI (gE gt k) (tEd t k)), (wN cI (gt 22) (gt 23) (tLog t)), (wN cI (gt 24) (gt 25) (tText t)), (wN cI (gt 26) (gt 27) (tWrs t)), (wR cI gt t k)] [(wF cI gt t k (tEd t k))] rfl rfl rfl ?_
  refine z_istore_n C dX5_append_8 [some (.ref (gt 0)), some (.ref ((gE gt k) 0)), some (.int r1), none, none] (by decide) rfl ?_
  refine z_iload_n C dX5_append_9 rfl ?_
  refine z_callFS C [] [(wF cI gt t k (tEd t k))] (met_X0_place l D cI r1) y_X0_place mw_10_20 dX5_append_10 rfl n_X0_place rfl (by decide) ⟨rfl, rfl, Nat.le_of_ble_eq_true rfl, Nat.le_of_ble_eq_true rfl⟩ (Nat.le_of_ble_eq_true rfl) (z_pm [0] 1 rfl (by decide) rfl) ?_
  refine z_name C (fun x2 ex2 => ?_)
  replace hw := hw x2 ex2
  refine z_istore_n C dX5_append_13 [some (.ref (gt 0)), some (.ref ((gE gt k) 0)), some (.int r1), some (.int x2), none] (by decide) rfl ?_
  refine z_iload_n C dX5_append_14 rfl ?_
  refine z_callFS C [] [(wF cI gt t k (tEd t k))] (met_X0_kind l D cI r1) y_X0_kind mw_10_21 dX5_append_15 rfl n_X0_kind rfl (by decide) ⟨rfl, rfl, Nat.le_of_ble_eq_true rfl, Nat.le_of_ble_eq_true rfl⟩ (Nat.le_of_ble_eq_true rfl) (z_pm [0] 1 rfl (by decide) rfl) ?_
  refine z_name C (fun x3 ex3 => ?_)
  replace hw := hw x3 ex3
  refine z_istore C dX5_append_18 [some (.ref (gt 0)), some (.ref ((gE gt k) 0)), some (.int r1), some (.int x2), some (.int x3)] (by decide) rfl ?_
  refine z_iload C dX5_append_20 rfl ?_
  refine z_iconst C dX5_append_22 1 (by decide +kernel) ?_
  refine z_icmp_ne C dX5_append_23 53 (by decide) (fun c4 => ?_) (fun c4 => ?_)
  · replace hw := hw.1 c4
    refine z_iload C dX5_append_53 rfl ?_
    refine z_iconst C dX5_append_55 2 (by decide +kernel) ?_
    refine z_icmp_ne C dX5_append_56 75 (by decide) (fun c5 => ?_) (fun c5 => ?_)
    · replace hw := hw.1 c5
      refine z_unfocus 0 hk t [(wS cI gt t)] (tSetEd_same _ _) rfl rfl ?_
      refine z_ls C [true, true, true, false, false] [some (.ref (gt 0)), some (.ref ((gE gt k) 0)), some (.int r1), none, none] rfl ?_
      exact wk_X5_append_75 C gt k t r1 (tText t) (tWrs t)  hk _  hw
    · replace hw := hw.2 c5
      refine z_aload_n C dX5_append_59 rfl ?_
      refine z_get C inlX5 rfl 4 (by decide) mw_2_14 dX5_append_60 0 0 rfl rfl rfl ?_
      refine z_iload_n C dX5_append_63 rfl ?_
      refine z_open 0 [(wSo gt), (wE cI (gE gt k) (tEd t k)), (wN cI (gt 22) (gt 23) (tLog t)), (wN cI (gt 24) (gt 25) (tText t)), (wN cI (gt 26) (gt 27) (tWrs t)), (wR cI gt t k)] [(wSo gt), (wE cI (gE gt k) (tEd t k)), (wN cI (gt 22) (gt 23) (tLog t)), (wN cI (gt 24) (gt 25) (tText t)), (wN cI (gt 26) (gt 27) (tWrs t)), (wR cI gt t k)] rfl rfl rfl ?_
      refine z_callV0 C [(wN cI (gt 24) (gt 25) (tText t))] [(wSo gt), (wE cI (gE gt k) (tEd t k)), (wN cI (gt 22) (gt 23) (tLog t)), (wN cI (gt 26) (gt 27) (tWrs t)), (wR cI gt t k)] rfl rfl (met_X4_removeAt l D cI (gt 24) (gt 25) (tText t) x2 _ hw) y_X4_removeAt mw_11_3 dX5_append_64 rfl n_X4_removeAt rfl (by decide) ⟨rfl, rfl, Nat.le_of_ble_eq_true rfl, Nat.le_of_ble_eq_true rfl⟩ (Nat.le_of_ble_eq_true rfl) (z_pm [3, 0, 1, 2, 4, 5] 6 rfl (by decide) rfl) ?_
      intro u7 hw
      try dsimp only at hw
      refine z_bs [(wN cI (gt 24) (gt 25) u7), (wSo gt), (wE cI (gE gt k) (tEd t k)), (wN cI (gt 22) (gt 23) (tLog t)), (wN cI (gt 26) (gt 27) (tWrs t)), (wR cI gt t k)] [] rfl rfl ?_
      refine z_perm C [(wSo gt), (wE cI (gE gt k) (tEd t k)), (wN cI (gt 22) (gt 23) (tLog t)), (wN cI (gt 24) (gt 25) u7), (wN cI (gt 26) (gt 27) (tWrs t)), (wR cI gt t k)] (z_pm [1, 2, 3, 0, 4, 5] 6 rfl (by decide) rfl) ?_
      refine z_shut 0 [(wSo gt), (wE cI (gE gt k) (tEd t k)), (wN cI (gt 22) (gt 23) (tLog t)), (wN cI (gt 24) (gt 25) u7), (wN cI (gt 26) (gt 27) (tWrs t)), (wR cI gt t k)] [(wF cI gt (tSetText t u7) k (tEd t k))] rfl rfl rfl ?_
      refine z_aload_n C dX5_append_67 rfl ?_
      refine z_get C inlX5 rfl 5 (by decide) mw_2_15 dX5_append_68 0 0 rfl rfl rfl ?_
      refine z_iload_n C dX5_append_71 rfl ?_
      refine z_open 0 [(wSo gt), (wE cI (gE gt k) (tEd t k)), (wN cI (gt 22) (gt 23) (tLog t)), (wN cI (gt 24) (gt 25) u7), (wN cI (gt 26) (gt 27) (tWrs t)), (wR cI gt (tSetText t u7) k)] [(wSo gt), (wE cI (gE gt k) (tEd t k)), (wN cI (gt 22) (gt 23) (tLog t)), (wN cI (gt 24) (gt 25) u7), (wN cI (gt 26) (gt 27) (tWrs t)), (wR cI gt (tSetText t u7) k)] rfl rfl rfl ?_
      refine z_callV0 C [(wN cI (gt 26) (gt 27) (tWrs t))] [(wSo gt), (wE cI (gE gt k) (tEd t k)), (wN cI (gt 22) (gt 23) (tLog t)), (wN cI (gt 24) (gt 25) u7), (wR cI gt (tSetText t u7) k)] rfl rfl (met_X4_removeAt l D cI (gt 26) (gt 27) (tWrs t) x2 _ hw) y_X4_removeAt mw_11_3 dX5_append_72 rfl n_X4_removeAt rfl (by decide) ⟨rfl, rfl, Nat.le_of_ble_eq_true rfl, Nat.le_of_ble_eq_true rfl⟩ (Nat.le_of_ble_eq_true rfl) (z_pm [4, 0, 1, 2, 3, 5] 6 rfl (by decide) rfl) ?_
      intro u8 hw
      try dsimp only at hw
      refine z_bs [(wN cI (gt 26) (gt 27) u8), (wSo gt), (wE cI (gE gt k) (tEd t k)), (wN cI (gt 22) (gt 23) (tLog t)), (wN cI (gt 24) (gt 25) u7), (wR cI gt (tSetText t u7) k)] [] rfl rfl ?_
      refine z_perm C [(wSo gt), (wE cI (gE gt k) (tEd t k)), (wN cI (gt 22) (gt 23) (tLog t)), (wN cI (gt 24) (gt 25) u7), (wN cI (gt 26) (gt 27) u8), (wR cI gt (tSetText t u7) k)] (z_pm [1, 2, 3, 4, 0, 5] 6 rfl (by decide) rfl) ?_
      refine z_shut 0 [(wSo gt), (wE cI (gE gt k) (tEd t k)), (wN cI (gt 22) (gt 23) (tLog t)), (wN cI (gt 24) (gt 25) u7), (wN cI (gt 26) (gt 27) u8), (wR cI gt (tSetText t u7) k)] [(wF cI gt (tSetWrs (tSetText t u7) u8) k (tEd t k))] rfl rfl rfl ?_
      refine z_unfocus 0 hk (tSetWrs (tSetText t u7) u8) [(wS cI gt (tSetWrs (tSetText t u7) u8))] (tSetEd_same _ _) rfl rfl ?_
      refine z_ls C [true, true, true, false, false] [some (.ref (gt 0)), some (.ref ((gE gt k) 0)), some (.int r1), none, none] rfl ?_
      exact wk_X5_append_75 C gt k t r1 u7 u8  hk _  hw
  · replace hw := hw.2 c4
    refine z_aload_n C dX5_append_26 rfl ?_
    refine z_get C inlX5 rfl 4 (by decide) mw_2_14 dX5_append_27 0 0 rfl rfl rfl ?_
    refine z_iload_n C dX5_append_30 rfl ?_
    refine z_iload_n C dX5_append_31 rfl ?_
    refine z_callFS C [] [(wF cI gt t k (tEd t k))] (met_X0_sign l D cI r1) y_X0_sign mw_10_22 dX5_append_32 rfl n_X0_sign rfl (by decide) ⟨rfl, rfl, Nat.le_of_ble_eq_true rfl, Nat.le_of_ble_eq_true rfl⟩ (Nat.le_of_ble_eq_true rfl) (z_pm [0] 1 rfl (by decide) rfl) ?_
    refine z_open 0 [(wSo gt), (wE cI (gE gt k) (tEd t k)), (wN cI (gt 22) (gt 23) (tLog t)), (wN cI (gt 24) (gt 25) (tText t)), (wN cI (gt 26) (gt 27) (tWrs t)), (wR cI gt t k)] [(wSo gt), (wE cI (gE gt k) (tEd t k)), (wN cI (gt 22) (gt 23) (tLog t)), (wN cI (gt 24) (gt 25) (tText t)), (wN cI (gt 26) (gt 27) (tWrs t)), (wR cI gt t k)] rfl rfl rfl ?_
    refine z_callV0 C [(wN cI (gt 24) (gt 25) (tText t))] [(wSo gt), (wE cI (gE gt k) (tEd t k)), (wN cI (gt 22) (gt 23) (tLog t)), (wN cI (gt 26) (gt 27) (tWrs t)), (wR cI gt t k)] rfl rfl (met_X4_addAt l D cI (gt 24) (gt 25) (tText t) x2 (f_X0_sign r1) _ hw) y_X4_addAt mw_10_23 dX5_append_35 rfl n_X4_addAt rfl (by decide) ⟨rfl, rfl, Nat.le_of_ble_eq_true rfl, Nat.le_of_ble_eq_true rfl⟩ (Nat.le_of_ble_eq_true rfl) (z_pm [3, 0, 1, 2, 4, 5] 6 rfl (by decide) rfl) ?_
    intro u9 hw
    try dsimp only at hw
    refine z_bs [(wN cI (gt 24) (gt 25) u9), (wSo gt), (wE cI (gE gt k) (tEd t k)), (wN cI (gt 22) (gt 23) (tLog t)), (wN cI (gt 26) (gt 27) (tWrs t)), (wR cI gt t k)] [] rfl rfl ?_
    refine z_perm C [(wSo gt), (wE cI (gE gt k) (tEd t k)), (wN cI (gt 22) (gt 23) (tLog t)), (wN cI (gt 24) (gt 25) u9), (wN cI (gt 26) (gt 27) (tWrs t)), (wR cI gt t k)] (z_pm [1, 2, 3, 0, 4, 5] 6 rfl (by decide) rfl) ?_
    refine z_shut 0 [(wSo gt), (wE cI (gE gt k) (tEd t k)), (wN cI (gt 22) (gt 23) (tLog t)), (wN cI (gt 24) (gt 25) u9), (wN cI (gt 26) (gt 27) (tWrs t)), (wR cI gt t k)] [(wF cI gt (tSetText t u9) k (tEd t k))] rfl rfl rfl ?_
    refine z_aload_n C dX5_append_38 rfl ?_
    refine z_get C inlX5 rfl 5 (by decide) mw_2_15 dX5_append_39 0 0 rfl rfl rfl ?_
    refine z_iload_n C dX5_append_42 rfl ?_
    refine z_iload_n C dX5_append_43 rfl ?_
    refine z_callFS C [] [(wF cI gt (tSetText t u9) k (tEd t k))] (met_X0_writer l D cI r1) y_X0_writer mw_11_0 dX5_append_44 rfl n_X0_writer rfl (by decide) ⟨rfl, rfl, Nat.le_of_ble_eq_true rfl, Nat.le_of_ble_eq_true rfl⟩ (Nat.le_of_ble_eq_true rfl) (z_pm [0] 1 rfl (by decide) rfl) ?_
    refine z_open 0 [(wSo gt), (wE cI (gE gt k) (tEd t k)), (wN cI (gt 22) (gt 23) (tLog t)), (wN cI (gt 24) (gt 25) u9), (wN cI (gt 26) (gt 27) (tWrs t)), (wR cI gt (tSetText t u9) k)] [(wSo gt), (wE cI (gE gt k) (tEd t k)), (wN cI (gt 22) (gt 23) (tLog t)), (wN cI (gt 24) (gt 25) u9), (wN cI (gt 26) (gt 27) (tWrs t)), (wR cI gt (tSetText t u9) k)] rfl rfl rfl ?_
    refine z_callV0 C [(wN cI (gt 26) (gt 27) (tWrs t))] [(wSo gt), (wE cI (gE gt k) (tEd t k)), (wN cI (gt 22) (gt 23) (tLog t)), (wN cI (gt 24) (gt 25) u9), (wR cI gt (tSetText t u9) k)] rfl rfl (met_X4_addAt l D cI (gt 26) (gt 27) (tWrs t) x2 (f_X0_writer r1) _ hw) y_X4_addAt mw_10_23 dX5_append_47 rfl n_X4_addAt rfl (by decide) ⟨rfl, rfl, Nat.le_of_ble_eq_true rfl, Nat.le_of_ble_eq_true rfl⟩ (Nat.le_of_ble_eq_true rfl) (z_pm [4, 0, 1, 2, 3, 5] 6 rfl (by decide) rfl) ?_
    intro u10 hw
    try dsimp only at hw
    refine z_bs [(wN cI (gt 26) (gt 27) u10), (wSo gt), (wE cI (gE gt k) (tEd t k)), (wN cI (gt 22) (gt 23) (tLog t)), (wN cI (gt 24) (gt 25) u9), (wR cI gt (tSetText t u9) k)] [] rfl rfl ?_
    refine z_perm C [(wSo gt), (wE cI (gE gt k) (tEd t k)), (wN cI (gt 22) (gt 23) (tLog t)), (wN cI (gt 24) (gt 25) u9), (wN cI (gt 26) (gt 27) u10), (wR cI gt (tSetText t u9) k)] (z_pm [1, 2, 3, 4, 0, 5] 6 rfl (by decide) rfl) ?_
    refine z_shut 0 [(wSo gt), (wE cI (gE gt k) (tEd t k)), (wN cI (gt 22) (gt 23) (tLog t)), (wN cI (gt 24) (gt 25) u9), (wN cI (gt 26) (gt 27) u10), (wR cI gt (tSetText t u9) k)] [(wF cI gt (tSetWrs (tSetText t u9) u10) k (tEd t k))] rfl rfl rfl ?_
    refine z_goto C dX5_append_50 75 (by decide) ?_
    refine z_unfocus 0 hk (tSetWrs (tSetText t u9) u10) [(wS cI gt (tSetWrs (tSetText t u9) u10))] (tSetEd_same _ _) rfl rfl ?_
    refine z_ls C [true, true, true, false, false] [some (.ref (gt 0)), some (.ref ((gE gt k) 0)), some (.int r1), none, none] rfl ?_
    exact wk_X5_append_75 C gt k t r1 u9 u10  hk _  hw
def rmX5_pass : Room := { frames := 3, cells := 0, slots := 0, locals := 75 }
def wp_X5_pass (k : Nat) (t : zT)  (Q : Int32 → zT → Prop) : Prop := ((¬ (f_X2_canSend (tEd t k)) = 0 → (((f_X4_size (tLog t)) < 60 → (wp_X5_append k t (fun u3 => (Q (f_X4_size (tLog u3)) u3)))) ∧ (¬ (f_X4_size (tLog t)) < 60 → (Q (-3) t)))) ∧ ((f_X2_canSend (tEd t k)) = 0 → (Q (-2) t)))
set_option maxHeartbeats 4000000 in
set_option maxRecDepth 100000 in
theorem met_X5_pass (l : Launch) (D : va_G) (cI : ClassId) (gt : Nat → Nat) (k : Nat) (t : zT)  (hk : k < 3) (Q : Int32 → zT → Prop) (hw : wp_X5_pass k t Q) : ZM l D cI yX5_pass cX5_pass 2 (some .int) rmX5_pass [.ref (gt 0), .ref ((gE gt k) 0)] [(wS cI gt t)] (fun u : Int32 × zT => some (.int u.1)) (fun u : Int32 × zT => [(wS cI gt (u.2))]) (fun u : Int32 × zT => Q u.1 u.2) := by
  refine z_body [some (.ref (gt 0)), some (.ref ((gE gt k) 0))] (by decide +kernel) rfl (Nat.le_of_ble_eq_true rfl) rfl ?_
  intro p e s m args below meth c A C hin
  unfold wp_X5_pass at hw
  refine z_aload_n C dX5_pass_0 rfl ?_
  refine z_focus 0 hk [(wF cI gt t k (tEd t k))] rfl rfl ?_
  refine z_open 0 [(wSo gt), (wE cI (gE gt k) (tEd t k)), (wN cI (gt 22) (gt 23) (tLog t)), (wN cI (gt 24) (gt 25) (tText t)), (wN cI (gt 26) (gt 27) (tWrs t)), (wR cI gt t k)] [(wSo gt), (wE cI (gE gt k) (tEd t k)), (wN cI (gt 22) (gt 23) (tLog t)), (wN cI (gt 24) (gt 25) (tText t)), (wN cI (gt 26) (gt 27) (tWrs t)), (wR cI gt t k)] rfl rfl rfl ?_
  refine z_callFV C [(wE cI (gE gt k) (tEd t k))] [(wSo gt), (wN cI (gt 22) (gt 23) (tLog t)), (wN cI (gt 24) (gt 25) (tText t)), (wN cI (gt 26) (gt 27) (tWrs t)), (wR cI gt t k)] rfl rfl (met_X2_canSend l D cI (gE gt k) (tEd t k)) y_X2_canSend mw_10_7 dX5_pass_1 rfl n_X2_canSend rfl (by decide) ⟨rfl, rfl, Nat.le_of_ble_eq_true rfl, Nat.le_of_ble_eq_true rfl⟩ (Nat.le_of_ble_eq_true rfl) (z_pm [1, 0, 2, 3, 4, 5] 6 rfl (by decide) rfl) ?_
  refine z_shut 0 [(wSo gt), (wE cI (gE gt k) (tEd t k)), (wN cI (gt 22) (gt 23) (tLog t)), (wN cI (gt 24) (gt 25) (tText t)), (wN cI (gt 26) (gt 27) (tWrs t)), (wR cI gt t k)] [(wF cI gt t k (tEd t k))] rfl rfl rfl ?_
  refine z_if_ne C dX5_pass_4 10 (by decide) (fun c1 => ?_) (fun c1 => ?_)
  · replace hw := hw.1 c1
    refine z_aload_n C dX5_pass_10 rfl ?_
    refine z_get C inlX5 rfl 3 (by decide) mw_2_13 dX5_pass_11 0 0 rfl rfl rfl ?_
    refine z_open 0 [(wSo gt), (wE cI (gE gt k) (tEd t k)), (wN cI (gt 22) (gt 23) (tLog t)), (wN cI (gt 24) (gt 25) (tText t)), (wN cI (gt 26) (gt 27) (tWrs t)), (wR cI gt t k)] [(wSo gt), (wE cI (gE gt k) (tEd t k)), (wN cI (gt 22) (gt 23) (tLog t)), (wN cI (gt 24) (gt 25) (tText t)), (wN cI (gt 26) (gt 27) (tWrs t)), (wR cI gt t k)] rfl rfl rfl ?_
    refine z_callFV C [(wN cI (gt 22) (gt 23) (tLog t))] [(wSo gt), (wE cI (gE gt k) (tEd t k)), (wN cI (gt 24) (gt 25) (tText t)), (wN cI (gt 26) (gt 27) (tWrs t)), (wR cI gt t k)] rfl rfl (met_X4_size l D cI (gt 22) (gt 23) (tLog t)) y_X4_size mw_10_11 dX5_pass_14 rfl n_X4_size rfl (by decide) ⟨rfl, rfl, Nat.le_of_ble_eq_true rfl, Nat.le_of_ble_eq_true rfl⟩ (Nat.le_of_ble_eq_true rfl) (z_pm [2, 0, 1, 3, 4, 5] 6 rfl (by decide) rfl) ?_
    refine z_shut 0 [(wSo gt), (wE cI (gE gt k) (tEd t k)), (wN cI (gt 22) (gt 23) (tLog t)), (wN cI (gt 24) (gt 25) (tText t)), (wN cI (gt 26) (gt 27) (tWrs t)), (wR cI gt t k)] [(wF cI gt t k (tEd t k))] rfl rfl rfl ?_
    refine z_bipush C dX5_pass_17 60 (by decide +kernel) ?_
    refine z_icmp_lt C dX5_pass_19 25 (by decide) (fun c2 => ?_) (fun c2 => ?_)
    · replace hw := hw.1 c2
      refine z_aload_n C dX5_pass_25 rfl ?_
      refine z_aload_n C dX5_pass_26 rfl ?_
      refine z_unfocus 0 hk t [(wS cI gt t)] (tSetEd_same _ _) rfl rfl ?_
      refine z_callV0 C [(wS cI gt t)] [] rfl rfl (met_X5_append l D cI gt k t hk _ hw) y_X5_append mw_10_12 dX5_pass_27 rfl n_X5_append rfl (by decide) ⟨rfl, rfl, Nat.le_of_ble_eq_true rfl, Nat.le_of_ble_eq_true rfl⟩ (Nat.le_of_ble_eq_true rfl) (z_pm [0] 1 rfl (by decide) rfl) ?_
      intro u3 hw
      try dsimp only at hw
      refine z_bs [(wS cI gt u3)] [] rfl rfl ?_
      refine z_aload_n C dX5_pass_30 rfl ?_
      refine z_get C inlX5 rfl 3 (by decide) mw_2_13 dX5_pass_31 0 0 rfl rfl rfl ?_
      refine z_open 0 [(wSo gt), (wE cI (gE gt 0) (tEd u3 0)), (wE cI (gE gt 1) (tEd u3 1)), (wE cI (gE gt 2) (tEd u3 2)), (wN cI (gt 22) (gt 23) (tLog u3)), (wN cI (gt 24) (gt 25) (tText u3)), (wN cI (gt 26) (gt 27) (tWrs u3))] [(wSo gt), (wE cI (gE gt 0) (tEd u3 0)), (wE cI (gE gt 1) (tEd u3 1)), (wE cI (gE gt 2) (tEd u3 2)), (wN cI (gt 22) (gt 23) (tLog u3)), (wN cI (gt 24) (gt 25) (tText u3)), (wN cI (gt 26) (gt 27) (tWrs u3))] rfl rfl rfl ?_
      refine z_callFV C [(wN cI (gt 22) (gt 23) (tLog u3))] [(wSo gt), (wE cI (gE gt 0) (tEd u3 0)), (wE cI (gE gt 1) (tEd u3 1)), (wE cI (gE gt 2) (tEd u3 2)), (wN cI (gt 24) (gt 25) (tText u3)), (wN cI (gt 26) (gt 27) (tWrs u3))] rfl rfl (met_X4_size l D cI (gt 22) (gt 23) (tLog u3)) y_X4_size mw_10_11 dX5_pass_34 rfl n_X4_size rfl (by decide) ⟨rfl, rfl, Nat.le_of_ble_eq_true rfl, Nat.le_of_ble_eq_true rfl⟩ (Nat.le_of_ble_eq_true rfl) (z_pm [4, 0, 1, 2, 3, 5, 6] 7 rfl (by decide) rfl) ?_
      refine z_shut 0 [(wSo gt), (wE cI (gE gt 0) (tEd u3 0)), (wE cI (gE gt 1) (tEd u3 1)), (wE cI (gE gt 2) (tEd u3 2)), (wN cI (gt 22) (gt 23) (tLog u3)), (wN cI (gt 24) (gt 25) (tText u3)), (wN cI (gt 26) (gt 27) (tWrs u3))] [(wS cI gt u3)] rfl rfl rfl ?_
      exact z_iret C rfl ((f_X4_size (tLog u3)), u3) rfl hw rfl dX5_pass_37
    · replace hw := hw.2 c2
      refine z_bipush C dX5_pass_22 (-3) (by decide +kernel) ?_
      refine z_unfocus 0 hk t [(wS cI gt t)] (tSetEd_same _ _) rfl rfl ?_
      exact z_iret C rfl ((-3), t) rfl hw rfl dX5_pass_24
  · replace hw := hw.2 c1
    refine z_bipush C dX5_pass_7 (-2) (by decide +kernel) ?_
    refine z_unfocus 0 hk t [(wS cI gt t)] (tSetEd_same _ _) rfl rfl ?_
    exact z_iret C rfl ((-2), t) rfl hw rfl dX5_pass_9
def rmX5_answer : Room := { frames := 4, cells := 0, slots := 0, locals := 98 }
def wp_X5_answer (t : zT) (p1 : Int32) (p2 : Int32) (p3 : Int32) (p4 : Int32) (Q : Int32 → zT → Prop) : Prop := (((f_X6_isNoEditor p2) = 0 → ((p1 = 77 → (wp_X2_setSpot (tEd t (ixE p2)) p3 (fun r3 u4 => (Q r3 (tSetEds t (va_up (tEds t) (ixE p2) u4)))))) ∧ (¬ p1 = 77 → ((p1 = 98 → (wp_X2_goBack (tEd t (ixE p2)) (fun r6 u7 => (Q r6 (tSetEds t (va_up (tEds t) (ixE p2) u7)))))) ∧ (¬ p1 = 98 → ((p1 = 100 → (wp_X2_takeOut (tEd t (ixE p2)) p3 (fun r9 u10 => (Q r9 (tSetEds t (va_up (tEds t) (ixE p2) u10)))))) ∧ (¬ p1 = 100 → ((p1 = 104 → (wp_X2_hearNext (tEd t (ixE p2)) (tLog t) (fun r12 u13 => (Q r12 (tSetEds t (va_up (tEds t) (ixE p2) u13)))))) ∧ (¬ p1 = 104 → ((p1 = 105 → (wp_X2_putIn (tEd t (ixE p2)) p3 p4 (fun r15 u16 => (Q r15 (tSetEds t (va_up (tEds t) (ixE p2) u16)))))) ∧ (¬ p1 = 105 → ((p1 = 115 → (wp_X5_pass (ixE p2) t (fun r18 u19 => (Q r18 u19)))) ∧ (¬ p1 = 115 → (wp_X2_hearRest (tEd t (ixE p2)) (tLog t) (fun r20 u21 => (Q r20 (tSetEds t (va_up (tEds t) (ixE p2) u21)))))))))))))))))) ∧ (¬ (f_X6_isNoEditor p2) = 0 → (Q (-1) t)))
set_option maxHeartbeats 4000000 in
set_option maxRecDepth 100000 in
theorem met_X5_answer (l : Launch) (D : va_G) (cI : ClassId) (gt : Nat → Nat) (t : zT) (p1 : Int32) (p2 : Int32) (p3 : Int32) (p4 : Int32) (Q : Int32 → zT → Prop) (hw : wp_X5_answer t p1 p2 p3 p4 Q) : ZM l D cI yX5_answer cX5_answer 6 (some .int) rmX5_answer [.ref (gt 0), .int p1, .int p2, .int p3, .int p4] [(wS cI gt t)] (fun u : Int32 × zT => some (.int u.1)) (fun u : Int32 × zT => [(wS cI gt (u.2))]) (fun u : Int32 × zT => Q u.1 u.2) := by
  refine z_body [some (.ref (gt 0)), some (.int p1), some (.int p2), some (.int p3), some (.int p4), none] (by decide +kernel) rfl (Nat.le_of_ble_eq_true rfl) rfl ?_
  intro p e s m args below meth c A C hin
  unfold wp_X5_answer at hw
  refine z_iload_n C dX5_answer_0 rfl ?_
  refine z_callFSN C [] [(wS cI gt t)] (met_X6_isNoEditor l D cI p2) y_X6_isNoEditor (List.mem_of_getElem? (i := 15) rfl) dX5_answer_1 rfl n_X6_isNoEditor rfl (by decide) ⟨rfl, rfl, Nat.le_of_ble_eq_true rfl, Nat.le_of_ble_eq_true rfl⟩ (Nat.le_of_ble_eq_true rfl) (z_pm [0] 1 rfl (by decide) rfl) ?_
  refine z_if_eq C dX5_answer_4 9 (by decide) (fun c1 => ?_) (fun c1 => ?_)
  · replace hw := hw.1 c1
    refine z_aload_n C dX5_answer_9 rfl ?_
    refine z_iload_n C dX5_answer_10 rfl ?_
    refine z_callFV C [(wS cI gt t)] [] rfl rfl (met_X5_editor l D cI gt t p2) y_X5_editor mw_7_11 dX5_answer_11 rfl n_X5_editor rfl (by decide) ⟨rfl, rfl, Nat.le_of_ble_eq_true rfl, Nat.le_of_ble_eq_true rfl⟩ (Nat.le_of_ble_eq_true rfl) (z_pm [0] 1 rfl (by decide) rfl) ?_
    refine z_astore C dX5_answer_14 [some (.ref (gt 0)), some (.int p1), some (.int p2), some (.int p3), some (.int p4), some (.ref ((gE gt (ixE p2)) 0))] (by decide) rfl ?_
    refine z_iload_n C dX5_answer_16 rfl ?_
    by_cases c2 : p1 = 77
    · refine z_lookupAt C dX5_answer_17 (by decide) 77 c2 81 (by decide) 98 (by decide) ?_
      replace hw := hw.1 c2
      refine z_aload C dX5_answer_98 rfl ?_
      refine z_iload_n C dX5_answer_100 rfl ?_
      refine z_focus 0 (ixE_lt _) [(wF cI gt t (ixE p2) (tEd t (ixE p2)))] rfl rfl ?_
      refine z_open 0 [(wSo gt), (wE cI (gE gt (ixE p2)) (tEd t (ixE p2))), (wN cI (gt 22) (gt 23) (tLog t)), (wN cI (gt 24) (gt 25) (tText t)), (wN cI (gt 26) (gt 27) (tWrs t)), (wR cI gt t (ixE p2))] [(wSo gt), (wE cI (gE gt (ixE p2)) (tEd t (ixE p2))), (wN cI (gt 22) (gt 23) (tLog t)), (wN cI (gt 24) (gt 25) (tText t)), (wN cI (gt 26) (gt 27) (tWrs t)), (wR cI gt t (ixE p2))] rfl rfl rfl ?_
      refine z_callV0 C [(wE cI (gE gt (ixE p2)) (tEd t (ixE p2)))] [(wSo gt), (wN cI (gt 22) (gt 23) (tLog t)), (wN cI (gt 24) (gt 25) (tText t)), (wN cI (gt 26) (gt 27) (tWrs t)), (wR cI gt t (ixE p2))] rfl rfl (met_X2_setSpot l D cI (gE gt (ixE p2)) (tEd t (ixE p2)) p3 _ hw) y_X2_setSpot mw_9_23 dX5_answer_101 rfl n_X2_setSpot rfl (by decide) ⟨rfl, rfl, Nat.le_of_ble_eq_true rfl, Nat.le_of_ble_eq_true rfl⟩ (Nat.le_of_ble_eq_true rfl) (z_pm [1, 0, 2, 3, 4, 5] 6 rfl (by decide) rfl) ?_
      intro ⟨r3, u4⟩ hw
      try dsimp only at hw
      refine z_bs [(wE cI (gE gt (ixE p2)) u4), (wSo gt), (wN cI (gt 22) (gt 23) (tLog t)), (wN cI (gt 24) (gt 25) (tText t)), (wN cI (gt 26) (gt 27) (tWrs t)), (wR cI gt t (ixE p2))] [.int r3] rfl rfl ?_
      refine z_perm C [(wSo gt), (wE cI (gE gt (ixE p2)) u4), (wN cI (gt 22) (gt 23) (tLog t)), (wN cI (gt 24) (gt 25) (tText t)), (wN cI (gt 26) (gt 27) (tWrs t)), (wR cI gt t (ixE p2))] (z_pm [1, 0, 2, 3, 4, 5] 6 rfl (by decide) rfl) ?_
      refine z_shut 0 [(wSo gt), (wE cI (gE gt (ixE p2)) u4), (wN cI (gt 22) (gt 23) (tLog t)), (wN cI (gt 24) (gt 25) (tText t)), (wN cI (gt 26) (gt 27) (tWrs t)), (wR cI gt t (ixE p2))] [(wF cI gt t (ixE p2) u4)] rfl rfl rfl ?_
      refine z_unfocus 0 (ixE_lt _) (tSetEds t (va_up (tEds t) (ixE p2) u4)) [(wS cI gt (tSetEds t (va_up (tEds t) (ixE p2) u4)))] rfl rfl rfl ?_
      exact z_iret C rfl (r3, (tSetEds t (va_up (tEds t) (ixE p2) u4))) rfl hw rfl dX5_answer_104
    replace hw := hw.2 c2
    by_cases c5 : p1 = 98
    · refine z_lookupAt C dX5_answer_17 (by decide) 98 c5 75 (by decide) 92 (by decide) ?_
      replace hw := hw.1 c5
      refine z_aload C dX5_answer_92 rfl ?_
      refine z_focus 0 (ixE_lt _) [(wF cI gt t (ixE p2) (tEd t (ixE p2)))] rfl rfl ?_
      refine z_open 0 [(wSo gt), (wE cI (gE gt (ixE p2)) (tEd t (ixE p2))), (wN cI (gt 22) (gt 23) (tLog t)), (wN cI (gt 24) (gt 25) (tText t)), (wN cI (gt 26) (gt 27) (tWrs t)), (wR cI gt t (ixE p2))] [(wSo gt), (wE cI (gE gt (ixE p2)) (tEd t (ixE p2))), (wN cI (gt 22) (gt 23) (tLog t)), (wN cI (gt 24) (gt 25) (tText t)), (wN cI (gt 26) (gt 27) (tWrs t)), (wR cI gt t (ixE p2))] rfl rfl rfl ?_
      refine z_callV0 C [(wE cI (gE gt (ixE p2)) (tEd t (ixE p2)))] [(wSo gt), (wN cI (gt 22) (gt 23) (tLog t)), (wN cI (gt 24) (gt 25) (tText t)), (wN cI (gt 26) (gt 27) (tWrs t)), (wR cI gt t (ixE p2))] rfl rfl (met_X2_goBack l D cI (gE gt (ixE p2)) (tEd t (ixE p2)) _ hw) y_X2_goBack mw_9_19 dX5_answer_94 rfl n_X2_goBack rfl (by decide) ⟨rfl, rfl, Nat.le_of_ble_eq_true rfl, Nat.le_of_ble_eq_true rfl⟩ (Nat.le_of_ble_eq_true rfl) (z_pm [1, 0, 2, 3, 4, 5] 6 rfl (by decide) rfl) ?_
      intro ⟨r6, u7⟩ hw
      try dsimp only at hw
      refine z_bs [(wE cI (gE gt (ixE p2)) u7), (wSo gt), (wN cI (gt 22) (gt 23) (tLog t)), (wN cI (gt 24) (gt 25) (tText t)), (wN cI (gt 26) (gt 27) (tWrs t)), (wR cI gt t (ixE p2))] [.int r6] rfl rfl ?_
      refine z_perm C [(wSo gt), (wE cI (gE gt (ixE p2)) u7), (wN cI (gt 22) (gt 23) (tLog t)), (wN cI (gt 24) (gt 25) (tText t)), (wN cI (gt 26) (gt 27) (tWrs t)), (wR cI gt t (ixE p2))] (z_pm [1, 0, 2, 3, 4, 5] 6 rfl (by decide) rfl) ?_
      refine z_shut 0 [(wSo gt), (wE cI (gE gt (ixE p2)) u7), (wN cI (gt 22) (gt 23) (tLog t)), (wN cI (gt 24) (gt 25) (tText t)), (wN cI (gt 26) (gt 27) (tWrs t)), (wR cI gt t (ixE p2))] [(wF cI gt t (ixE p2) u7)] rfl rfl rfl ?_
      refine z_unfocus 0 (ixE_lt _) (tSetEds t (va_up (tEds t) (ixE p2) u7)) [(wS cI gt (tSetEds t (va_up (tEds t) (ixE p2) u7)))] rfl rfl rfl ?_
      exact z_iret C rfl (r6, (tSetEds t (va_up (tEds t) (ixE p2) u7))) rfl hw rfl dX5_answer_97
    replace hw := hw.2 c5
    by_cases c8 : p1 = 100
    · refine z_lookupAt C dX5_answer_17 (by decide) 100 c8 68 (by decide) 85 (by decide) ?_
      replace hw := hw.1 c8
      refine z_aload C dX5_answer_85 rfl ?_
      refine z_iload_n C dX5_answer_87 rfl ?_
      refine z_focus 0 (ixE_lt _) [(wF cI gt t (ixE p2) (tEd t (ixE p2)))] rfl rfl ?_
      refine z_open 0 [(wSo gt), (wE cI (gE gt (ixE p2)) (tEd t (ixE p2))), (wN cI (gt 22) (gt 23) (tLog t)), (wN cI (gt 24) (gt 25) (tText t)), (wN cI (gt 26) (gt 27) (tWrs t)), (wR cI gt t (ixE p2))] [(wSo gt), (wE cI (gE gt (ixE p2)) (tEd t (ixE p2))), (wN cI (gt 22) (gt 23) (tLog t)), (wN cI (gt 24) (gt 25) (tText t)), (wN cI (gt 26) (gt 27) (tWrs t)), (wR cI gt t (ixE p2))] rfl rfl rfl ?_
      refine z_callV0 C [(wE cI (gE gt (ixE p2)) (tEd t (ixE p2)))] [(wSo gt), (wN cI (gt 22) (gt 23) (tLog t)), (wN cI (gt 24) (gt 25) (tText t)), (wN cI (gt 26) (gt 27) (tWrs t)), (wR cI gt t (ixE p2))] rfl rfl (met_X2_takeOut l D cI (gE gt (ixE p2)) (tEd t (ixE p2)) p3 _ hw) y_X2_takeOut mw_9_15 dX5_answer_88 rfl n_X2_takeOut rfl (by decide) ⟨rfl, rfl, Nat.le_of_ble_eq_true rfl, Nat.le_of_ble_eq_true rfl⟩ (Nat.le_of_ble_eq_true rfl) (z_pm [1, 0, 2, 3, 4, 5] 6 rfl (by decide) rfl) ?_
      intro ⟨r9, u10⟩ hw
      try dsimp only at hw
      refine z_bs [(wE cI (gE gt (ixE p2)) u10), (wSo gt), (wN cI (gt 22) (gt 23) (tLog t)), (wN cI (gt 24) (gt 25) (tText t)), (wN cI (gt 26) (gt 27) (tWrs t)), (wR cI gt t (ixE p2))] [.int r9] rfl rfl ?_
      refine z_perm C [(wSo gt), (wE cI (gE gt (ixE p2)) u10), (wN cI (gt 22) (gt 23) (tLog t)), (wN cI (gt 24) (gt 25) (tText t)), (wN cI (gt 26) (gt 27) (tWrs t)), (wR cI gt t (ixE p2))] (z_pm [1, 0, 2, 3, 4, 5] 6 rfl (by decide) rfl) ?_
      refine z_shut 0 [(wSo gt), (wE cI (gE gt (ixE p2)) u10), (wN cI (gt 22) (gt 23) (tLog t)), (wN cI (gt 24) (gt 25) (tText t)), (wN cI (gt 26) (gt 27) (tWrs t)), (wR cI gt t (ixE p2))] [(wF cI gt t (ixE p2) u10)] rfl rfl rfl ?_
      refine z_unfocus 0 (ixE_lt _) (tSetEds t (va_up (tEds t) (ixE p2) u10)) [(wS cI gt (tSetEds t (va_up (tEds t) (ixE p2) u10)))] rfl rfl rfl ?_
      exact z_iret C rfl (r9, (tSetEds t (va_up (tEds t) (ixE p2) u10))) rfl hw rfl dX5_answer_91
    replace hw := hw.2 c8
    by_cases c11 : p1 = 104
    · refine z_lookupAt C dX5_answer_17 (by decide) 104 c11 95 (by decide) 112 (by decide) ?_
      replace hw := hw.1 c11
      refine z_aload C dX5_answer_112 rfl ?_
      refine z_aload_n C dX5_answer_114 rfl ?_
      refine z_get C inlX5 rfl 3 (by decide) mw_2_13 dX5_answer_115 0 0 rfl rfl rfl ?_
      refine z_focus 0 (ixE_lt _) [(wF cI gt t (ixE p2) (tEd t (ixE p2)))] rfl rfl ?_
      refine z_open 0 [(wSo gt), (wE cI (gE gt (ixE p2)) (tEd t (ixE p2))), (wN cI (gt 22) (gt 23) (tLog t)), (wN cI (gt 24) (gt 25) (tText t)), (wN cI (gt 26) (gt 27) (tWrs t)), (wR cI gt t (ixE p2))] [(wSo gt), (wE cI (gE gt (ixE p2)) (tEd t (ixE p2))), (wN cI (gt 22) (gt 23) (tLog t)), (wN cI (gt 24) (gt 25) (tText t)), (wN cI (gt 26) (gt 27) (tWrs t)), (wR cI gt t (ixE p2))] rfl rfl rfl ?_
      refine z_callV0 C [(wE cI (gE gt (ixE p2)) (tEd t (ixE p2))), (wN cI (gt 22) (gt 23) (tLog t))] [(wSo gt), (wN cI (gt 24) (gt 25) (tText t)), (wN cI (gt 26) (gt 27) (tWrs t)), (wR cI gt t (ixE p2))] rfl rfl (met_X2_hearNext l D cI (gE gt (ixE p2)) (gt 22) (gt 23) (tEd t (ixE p2)) (tLog t) _ hw) y_X2_hearNext mw_11_5 dX5_answer_118 rfl n_X2_hearNext rfl (by decide) ⟨rfl, rfl, Nat.le_of_ble_eq_true rfl, Nat.le_of_ble_eq_true rfl⟩ (Nat.le_of_ble_eq_true rfl) (z_pm [1, 2, 0, 3, 4, 5] 6 rfl (by decide) rfl) ?_
      intro ⟨r12, u13⟩ hw
      try dsimp only at hw
      refine z_bs [(wE cI (gE gt (ixE p2)) u13), (wN cI (gt 22) (gt 23) (tLog t)), (wSo gt), (wN cI (gt 24) (gt 25) (tText t)), (wN cI (gt 26) (gt 27) (tWrs t)), (wR cI gt t (ixE p2))] [.int r12] rfl rfl ?_
      refine z_perm C [(wSo gt), (wE cI (gE gt (ixE p2)) u13), (wN cI (gt 22) (gt 23) (tLog t)), (wN cI (gt 24) (gt 25) (tText t)), (wN cI (gt 26) (gt 27) (tWrs t)), (wR cI gt t (ixE p2))] (z_pm [2, 0, 1, 3, 4, 5] 6 rfl (by decide) rfl) ?_
      refine z_shut 0 [(wSo gt), (wE cI (gE gt (ixE p2)) u13), (wN cI (gt 22) (gt 23) (tLog t)), (wN cI (gt 24) (gt 25) (tText t)), (wN cI (gt 26) (gt 27) (tWrs t)), (wR cI gt t (ixE p2))] [(wF cI gt t (ixE p2) u13)] rfl rfl rfl ?_
      refine z_unfocus 0 (ixE_lt _) (tSetEds t (va_up (tEds t) (ixE p2) u13)) [(wS cI gt (tSetEds t (va_up (tEds t) (ixE p2) u13)))] rfl rfl rfl ?_
      exact z_iret C rfl (r12, (tSetEds t (va_up (tEds t) (ixE p2) u13))) rfl hw rfl dX5_answer_121
    replace hw := hw.2 c11
    by_cases c14 : p1 = 105
    · refine z_lookupAt C dX5_answer_17 (by decide) 105 c14 59 (by decide) 76 (by decide) ?_
      replace hw := hw.1 c14
      refine z_aload C dX5_answer_76 rfl ?_
      refine z_iload_n C dX5_answer_78 rfl ?_
      refine z_iload C dX5_answer_79 rfl ?_
      refine z_focus 0 (ixE_lt _) [(wF cI gt t (ixE p2) (tEd t (ixE p2)))] rfl rfl ?_
      refine z_open 0 [(wSo gt), (wE cI (gE gt (ixE p2)) (tEd t (ixE p2))), (wN cI (gt 22) (gt 23) (tLog t)), (wN cI (gt 24) (gt 25) (tText t)), (wN cI (gt 26) (gt 27) (tWrs t)), (wR cI gt t (ixE p2))] [(wSo gt), (wE cI (gE gt (ixE p2)) (tEd t (ixE p2))), (wN cI (gt 22) (gt 23) (tLog t)), (wN cI (gt 24) (gt 25) (tText t)), (wN cI (gt 26) (gt 27) (tWrs t)), (wR cI gt t (ixE p2))] rfl rfl rfl ?_
      refine z_callV0 C [(wE cI (gE gt (ixE p2)) (tEd t (ixE p2)))] [(wSo gt), (wN cI (gt 22) (gt 23) (tLog t)), (wN cI (gt 24) (gt 25) (tText t)), (wN cI (gt 26) (gt 27) (tWrs t)), (wR cI gt t (ixE p2))] rfl rfl (met_X2_putIn l D cI (gE gt (ixE p2)) (tEd t (ixE p2)) p3 p4 _ hw) y_X2_putIn mw_7_12 dX5_answer_81 rfl n_X2_putIn rfl (by decide) ⟨rfl, rfl, Nat.le_of_ble_eq_true rfl, Nat.le_of_ble_eq_true rfl⟩ (Nat.le_of_ble_eq_true rfl) (z_pm [1, 0, 2, 3, 4, 5] 6 rfl (by decide) rfl) ?_
      intro ⟨r15, u16⟩ hw
      try dsimp only at hw
      refine z_bs [(wE cI (gE gt (ixE p2)) u16), (wSo gt), (wN cI (gt 22) (gt 23) (tLog t)), (wN cI (gt 24) (gt 25) (tText t)), (wN cI (gt 26) (gt 27) (tWrs t)), (wR cI gt t (ixE p2))] [.int r15] rfl rfl ?_
      refine z_perm C [(wSo gt), (wE cI (gE gt (ixE p2)) u16), (wN cI (gt 22) (gt 23) (tLog t)), (wN cI (gt 24) (gt 25) (tText t)), (wN cI (gt 26) (gt 27) (tWrs t)), (wR cI gt t (ixE p2))] (z_pm [1, 0, 2, 3, 4, 5] 6 rfl (by decide) rfl) ?_
      refine z_shut 0 [(wSo gt), (wE cI (gE gt (ixE p2)) u16), (wN cI (gt 22) (gt 23) (tLog t)), (wN cI (gt 24) (gt 25) (tText t)), (wN cI (gt 26) (gt 27) (tWrs t)), (wR cI gt t (ixE p2))] [(wF cI gt t (ixE p2) u16)] rfl rfl rfl ?_
      refine z_unfocus 0 (ixE_lt _) (tSetEds t (va_up (tEds t) (ixE p2) u16)) [(wS cI gt (tSetEds t (va_up (tEds t) (ixE p2) u16)))] rfl rfl rfl ?_
      exact z_iret C rfl (r15, (tSetEds t (va_up (tEds t) (ixE p2) u16))) rfl hw rfl dX5_answer_84
    replace hw := hw.2 c14
    by_cases c17 : p1 = 115
    · refine z_lookupAt C dX5_answer_17 (by decide) 115 c17 88 (by decide) 105 (by decide) ?_
      replace hw := hw.1 c17
      refine z_aload_n C dX5_answer_105 rfl ?_
      refine z_aload C dX5_answer_106 rfl ?_
      refine z_callV0 C [(wS cI gt t)] [] rfl rfl (met_X5_pass l D cI gt (ixE p2) t (ixE_lt _) _ hw) y_X5_pass mw_10_3 dX5_answer_108 rfl n_X5_pass rfl (by decide) ⟨rfl, rfl, Nat.le_of_ble_eq_true rfl, Nat.le_of_ble_eq_true rfl⟩ (Nat.le_of_ble_eq_true rfl) (z_pm [0] 1 rfl (by decide) rfl) ?_
      intro ⟨r18, u19⟩ hw
      try dsimp only at hw
      refine z_bs [(wS cI gt u19)] [.int r18] rfl rfl ?_
      exact z_iret C rfl (r18, u19) rfl hw rfl dX5_answer_111
    replace hw := hw.2 c17
    refine z_lookup C dX5_answer_17 (by decide) 105 ((lv_osw c2 rfl).trans ((lv_osw c5 rfl).trans ((lv_osw c8 rfl).trans ((lv_osw c11 rfl).trans ((lv_osw c14 rfl).trans ((lv_osw c17 rfl).trans rfl)))))) 122 (by decide) ?_
    refine z_aload C dX5_answer_122 rfl ?_
    refine z_aload_n C dX5_answer_124 rfl ?_
    refine z_get C inlX5 rfl 3 (by decide) mw_2_13 dX5_answer_125 0 0 rfl rfl rfl ?_
    refine z_focus 0 (ixE_lt _) [(wF cI gt t (ixE p2) (tEd t (ixE p2)))] rfl rfl ?_
    refine z_open 0 [(wSo gt), (wE cI (gE gt (ixE p2)) (tEd t (ixE p2))), (wN cI (gt 22) (gt 23) (tLog t)), (wN cI (gt 24) (gt 25) (tText t)), (wN cI (gt 26) (gt 27) (tWrs t)), (wR cI gt t (ixE p2))] [(wSo gt), (wE cI (gE gt (ixE p2)) (tEd t (ixE p2))), (wN cI (gt 22) (gt 23) (tLog t)), (wN cI (gt 24) (gt 25) (tText t)), (wN cI (gt 26) (gt 27) (tWrs t)), (wR cI gt t (ixE p2))] rfl rfl rfl ?_
    refine z_callV0 C [(wE cI (gE gt (ixE p2)) (tEd t (ixE p2))), (wN cI (gt 22) (gt 23) (tLog t))] [(wSo gt), (wN cI (gt 24) (gt 25) (tText t)), (wN cI (gt 26) (gt 27) (tWrs t)), (wR cI gt t (ixE p2))] rfl rfl (met_X2_hearRest l D cI (gE gt (ixE p2)) (gt 22) (gt 23) (tEd t (ixE p2)) (tLog t) _ hw) y_X2_hearRest mw_11_17 dX5_answer_128 rfl n_X2_hearRest rfl (by decide) ⟨rfl, rfl, Nat.le_of_ble_eq_true rfl, Nat.le_of_ble_eq_true rfl⟩ (Nat.le_of_ble_eq_true rfl) (z_pm [1, 2, 0, 3, 4, 5] 6 rfl (by decide) rfl) ?_
    intro ⟨r20, u21⟩ hw
    try dsimp only at hw
    refine z_bs [(wE cI (gE gt (ixE p2)) u21), (wN cI (gt 22) (gt 23) (tLog t)), (wSo gt), (wN cI (gt 24) (gt 25) (tText t)), (wN cI (gt 26) (gt 27) (tWrs t)), (wR cI gt t (ixE p2))] [.int r20] rfl rfl ?_
    refine z_perm C [(wSo gt), (wE cI (gE gt (ixE p2)) u21), (wN cI (gt 22) (gt 23) (tLog t)), (wN cI (gt 24) (gt 25) (tText t)), (wN cI (gt 26) (gt 27) (tWrs t)), (wR cI gt t (ixE p2))] (z_pm [2, 0, 1, 3, 4, 5] 6 rfl (by decide) rfl) ?_
    refine z_shut 0 [(wSo gt), (wE cI (gE gt (ixE p2)) u21), (wN cI (gt 22) (gt 23) (tLog t)), (wN cI (gt 24) (gt 25) (tText t)), (wN cI (gt 26) (gt 27) (tWrs t)), (wR cI gt t (ixE p2))] [(wF cI gt t (ixE p2) u21)] rfl rfl rfl ?_
    refine z_unfocus 0 (ixE_lt _) (tSetEds t (va_up (tEds t) (ixE p2) u21)) [(wS cI gt (tSetEds t (va_up (tEds t) (ixE p2) u21)))] rfl rfl rfl ?_
    exact z_iret C rfl (r20, (tSetEds t (va_up (tEds t) (ixE p2) u21))) rfl hw rfl dX5_answer_131
  · replace hw := hw.2 c1
    refine z_iconst C dX5_answer_7 (-1) (by decide +kernel) ?_
    exact z_iret C rfl ((-1), t) rfl hw rfl dX5_answer_8
def rmX5_nothingsInLog : Room := { frames := 1, cells := 0, slots := 0, locals := 21 }
def lb_X5_nothingsInLog_4 (t : zT)   (Q : Int32 → Prop)  (K4 : (Int32) → (Int32) → Prop) (v1 : Int32) (v2 : Int32) : Prop := (((f_X4_size (tLog t)) ≤ v2 → (Q v1)) ∧ (¬ (f_X4_size (tLog t)) ≤ v2 → (wp_X4_at (tLog t) v2 (fun r2 => ((¬ (f_X0_kind r2) = 0 → (∀ x4 : Int32, x4 = (v1 + 0) → (K4 x4 (v2 + 1)))) ∧ ((f_X0_kind r2) = 0 → (∀ x5 : Int32, x5 = (v1 + 1) → (K4 x5 (v2 + 1)))))))))
set_option maxHeartbeats 4000000 in
set_option maxRecDepth 100000 in
theorem wk_X5_nothingsInLog_4 {p : Program} {l : Launch} {e : Env} {s : State} {m : MethodId} {args : Array Value} {below : List Frame} {meth : Method} {c : Code} {D : va_G} {cI : ClassId} {A : Nat → Prop} (C : ZC p s m args meth c RX5 cX5_nothingsInLog 3 (some .int) D cI A) (gt : Nat → Nat) (t : zT)   (v1 : Int32) (v2 : Int32) (Q : Int32 → Prop)  (hw : zLoop2 (lb_X5_nothingsInLog_4 t   Q ) v1 v2) : ZZ p l e rmX5_nothingsInLog s m args below meth c D A 3 0 0 (MQ below (ZQ D A (fun u : Int32 => some (.int u)) (fun u : Int32 => [(wS cI gt t)]) (fun u : Int32 => Q u)) args s rmX5_nothingsInLog.cells rmX5_nothingsInLog.slots A) [(wS cI gt t)] 4 [some (.ref (gt 0)), some (.int v1), some (.int v2)] [] := by
  refine zLoop2_w (fun (v1 : Int32) (v2 : Int32) => ZZ p l e rmX5_nothingsInLog s m args below meth c D A 3 0 0 (MQ below (ZQ D A (fun u : Int32 => some (.int u)) (fun u : Int32 => [(wS cI gt t)]) (fun u : Int32 => Q u)) args s rmX5_nothingsInLog.cells rmX5_nothingsInLog.slots A) [(wS cI gt t)] 4 [some (.ref (gt 0)), some (.int v1), some (.int v2)] []) ?_ _ _ hw
  clear hw
  intro K4 hK4 v1 v2 hw
  unfold lb_X5_nothingsInLog_4 at hw
  refine z_iload_n C dX5_nothingsInLog_4 rfl ?_
  refine z_aload_n C dX5_nothingsInLog_5 rfl ?_
  refine z_get C inlX5 rfl 3 (by decide) mw_2_13 dX5_nothingsInLog_6 0 0 rfl rfl rfl ?_
  refine z_open 0 [(wSo gt), (wE cI (gE gt 0) (tEd t 0)), (wE cI (gE gt 1) (tEd t 1)), (wE cI (gE gt 2) (tEd t 2)), (wN cI (gt 22) (gt 23) (tLog t)), (wN cI (gt 24) (gt 25) (tText t)), (wN cI (gt 26) (gt 27) (tWrs t))] [(wSo gt), (wE cI (gE gt 0) (tEd t 0)), (wE cI (gE gt 1) (tEd t 1)), (wE cI (gE gt 2) (tEd t 2)), (wN cI (gt 22) (gt 23) (tLog t)), (wN cI (gt 24) (gt 25) (tText t)), (wN cI (gt 26) (gt 27) (tWrs t))] rfl rfl rfl ?_
  refine z_callFV C [(wN cI (gt 22) (gt 23) (tLog t))] [(wSo gt), (wE cI (gE gt 0) (tEd t 0)), (wE cI (gE gt 1) (tEd t 1)), (wE cI (gE gt 2) (tEd t 2)), (wN cI (gt 24) (gt 25) (tText t)), (wN cI (gt 26) (gt 27) (tWrs t))] rfl rfl (met_X4_size l D cI (gt 22) (gt 23) (tLog t)) y_X4_size mw_10_11 dX5_nothingsInLog_9 rfl n_X4_size rfl (by decide) ⟨rfl, rfl, Nat.le_of_ble_eq_true rfl, Nat.le_of_ble_eq_true rfl⟩ (Nat.le_of_ble_eq_true rfl) (z_pm [4, 0, 1, 2, 3, 5, 6] 7 rfl (by decide) rfl) ?_
  refine z_shut 0 [(wSo gt), (wE cI (gE gt 0) (tEd t 0)), (wE cI (gE gt 1) (tEd t 1)), (wE cI (gE gt 2) (tEd t 2)), (wN cI (gt 22) (gt 23) (tLog t)), (wN cI (gt 24) (gt 25) (tText t)), (wN cI (gt 26) (gt 27) (tWrs t))] [(wS cI gt t)] rfl rfl rfl ?_
  refine z_icmp_ge C dX5_nothingsInLog_12 43 (by decide) (fun c1 => ?_) (fun c1 => ?_)
  · replace hw := hw.1 c1
    refine z_iload_n C dX5_nothingsInLog_43 rfl ?_
    exact z_iret C rfl (v1) rfl hw rfl dX5_nothingsInLog_44
  · replace hw := hw.2 c1
    refine z_iload_n C dX5_nothingsInLog_15 rfl ?_
    refine z_aload_n C dX5_nothingsInLog_16 rfl ?_
    refine z_get C inlX5 rfl 3 (by decide) mw_2_13 dX5_nothingsInLog_17 0 0 rfl rfl rfl ?_
    refine z_iload_n C dX5_nothingsInLog_20 rfl ?_
    refine z_open 0 [(wSo gt), (wE cI (gE gt 0) (tEd t 0)), (wE cI (gE gt 1) (tEd t 1)), (wE cI (gE gt 2) (tEd t 2)), (wN cI (gt 22) (gt 23) (tLog t)), (wN cI (gt 24) (gt 25) (tText t)), (wN cI (gt 26) (gt 27) (tWrs t))] [(wSo gt), (wE cI (gE gt 0) (tEd t 0)), (wE cI (gE gt 1) (tEd t 1)), (wE cI (gE gt 2) (tEd t 2)), (wN cI (gt 22) (gt 23) (tLog t)), (wN cI (gt 24) (gt 25) (tText t)), (wN cI (gt 26) (gt 27) (tWrs t))] rfl rfl rfl ?_
    refine z_callV0 C [(wN cI (gt 22) (gt 23) (tLog t))] [(wSo gt), (wE cI (gE gt 0) (tEd t 0)), (wE cI (gE gt 1) (tEd t 1)), (wE cI (gE gt 2) (tEd t 2)), (wN cI (gt 24) (gt 25) (tText t)), (wN cI (gt 26) (gt 27) (tWrs t))] rfl rfl (met_X4_at l D cI (gt 22) (gt 23) (tLog t) v2 _ hw) y_X4_at mw_13_15 dX5_nothingsInLog_21 rfl n_X4_at rfl (by decide) ⟨rfl, rfl, Nat.le_of_ble_eq_true rfl, Nat.le_of_ble_eq_true rfl⟩ (Nat.le_of_ble_eq_true rfl) (z_pm [4, 0, 1, 2, 3, 5, 6] 7 rfl (by decide) rfl) ?_
    intro r2 hw
    try dsimp only at hw
    refine z_bs [(wN cI (gt 22) (gt 23) (tLog t)), (wSo gt), (wE cI (gE gt 0) (tEd t 0)), (wE cI (gE gt 1) (tEd t 1)), (wE cI (gE gt 2) (tEd t 2)), (wN cI (gt 24) (gt 25) (tText t)), (wN cI (gt 26) (gt 27) (tWrs t))] [.int r2, .int v1] rfl rfl ?_
    refine z_perm C [(wSo gt), (wE cI (gE gt 0) (tEd t 0)), (wE cI (gE gt 1) (tEd t 1)), (wE cI (gE gt 2) (tEd t 2)), (wN cI (gt 22) (gt 23) (tLog t)), (wN cI (gt 24) (gt 25) (tText t)), (wN cI (gt 26) (gt 27) (tWrs t))] (z_pm [1, 2, 3, 4, 0, 5, 6] 7 rfl (by decide) rfl) ?_
    refine z_shut 0 [(wSo gt), (wE cI (gE gt 0) (tEd t 0)), (wE cI (gE gt 1) (tEd t 1)), (wE cI (gE gt 2) (tEd t 2)), (wN cI (gt 22) (gt 23) (tLog t)), (wN cI (gt 24) (gt 25) (tText t)), (wN cI (gt 26) (gt 27) (tWrs t))] [(wS cI gt t)] rfl rfl rfl ?_
    refine z_callFS C [] [(wS cI gt t)] (met_X0_kind l D cI r2) y_X0_kind mw_10_21 dX5_nothingsInLog_24 rfl n_X0_kind rfl (by decide) ⟨rfl, rfl, Nat.le_of_ble_eq_true rfl, Nat.le_of_ble_eq_true rfl⟩ (Nat.le_of_ble_eq_true rfl) (z_pm [0] 1 rfl (by decide) rfl) ?_
    refine z_if_ne C dX5_nothingsInLog_27 34 (by decide) (fun c3 => ?_) (fun c3 => ?_)
    · replace hw := hw.1 c3
      refine z_iconst C dX5_nothingsInLog_34 0 (by decide +kernel) ?_
      refine z_iadd C dX5_nothingsInLog_35 ?_
      refine z_name C (fun x4 ex4 => ?_)
      replace hw := hw x4 ex4
      refine z_istore_n C dX5_nothingsInLog_36 [some (.ref (gt 0)), some (.int x4), some (.int v2)] (by decide) rfl ?_
      refine z_iinc C dX5_nothingsInLog_37 rfl (v2 + 1) (by rfl) [some (.ref (gt 0)), some (.int x4), some (.int (v2 + 1))] (by decide) rfl ?_
      refine z_goto C dX5_nothingsInLog_40 4 (by decide) ?_
      exact hK4 _ _ hw
    · replace hw := hw.2 c3
      refine z_iconst C dX5_nothingsInLog_30 1 (by decide +kernel) ?_
      refine z_goto C dX5_nothingsInLog_31 35 (by decide) ?_
      refine z_iadd C dX5_nothingsInLog_35 ?_
      refine z_name C (fun x5 ex5 => ?_)
      replace hw := hw x5 ex5
      refine z_istore_n C dX5_nothingsInLog_36 [some (.ref (gt 0)), some (.int x5), some (.int v2)] (by decide) rfl ?_
      refine z_iinc C dX5_nothingsInLog_37 rfl (v2 + 1) (by rfl) [some (.ref (gt 0)), some (.int x5), some (.int (v2 + 1))] (by decide) rfl ?_
      refine z_goto C dX5_nothingsInLog_40 4 (by decide) ?_
      exact hK4 _ _ hw
def wp_X5_nothingsInLog (t : zT)  (Q : Int32 → Prop) : Prop := (zLoop2 (lb_X5_nothingsInLog_4 t   Q ) 0 0)
set_option maxHeartbeats 4000000 in
set_option maxRecDepth 100000 in
theorem met_X5_nothingsInLog (l : Launch) (D : va_G) (cI : ClassId) (gt : Nat → Nat) (t : zT)  (Q : Int32 → Prop) (hw : wp_X5_nothingsInLog t Q) : ZM l D cI yX5_nothingsInLog cX5_nothingsInLog 3 (some .int) rmX5_nothingsInLog [.ref (gt 0)] [(wS cI gt t)] (fun u : Int32 => some (.int u)) (fun u : Int32 => [(wS cI gt t)]) (fun u : Int32 => Q u) := by
  refine z_body [some (.ref (gt 0)), none, none] (by decide +kernel) rfl (Nat.le_of_ble_eq_true rfl) rfl ?_
  intro p e s m args below meth c A C hin
  unfold wp_X5_nothingsInLog at hw
  refine z_iconst C dX5_nothingsInLog_0 0 (by decide +kernel) ?_
  refine z_istore_n C dX5_nothingsInLog_1 [some (.ref (gt 0)), some (.int 0), none] (by decide) rfl ?_
  refine z_iconst C dX5_nothingsInLog_2 0 (by decide +kernel) ?_
  refine z_istore_n C dX5_nothingsInLog_3 [some (.ref (gt 0)), some (.int 0), some (.int 0)] (by decide) rfl ?_
  exact wk_X5_nothingsInLog_4 C gt t   0 0 _  hw
def rmX5_waitingOfAll : Room := { frames := 1, cells := 0, slots := 0, locals := 20 }
def f_X5_waitingOfAll (t : zT)  : Int32 := (((f_X4_size (eWait (tEd t 0))) + (f_X4_size (eWait (tEd t 1)))) + (f_X4_size (eWait (tEd t 2))))
set_option maxHeartbeats 4000000 in
set_option maxRecDepth 100000 in
theorem met_X5_waitingOfAll (l : Launch) (D : va_G) (cI : ClassId) (gt : Nat → Nat) (t : zT)  : ZM l D cI yX5_waitingOfAll cX5_waitingOfAll 1 (some .int) rmX5_waitingOfAll [.ref (gt 0)] [(wS cI gt t)] (fun _ : Unit => some (.int (f_X5_waitingOfAll t))) (fun _ : Unit => [(wS cI gt t)]) (fun _ : Unit => True) := by
  refine z_body [some (.ref (gt 0))] (by decide +kernel) rfl (Nat.le_of_ble_eq_true rfl) rfl ?_
  intro p e s m args below meth c A C hin
  refine z_aload_n C dX5_waitingOfAll_0 rfl ?_
  refine z_get C inlX5 rfl 0 (by decide) mw_2_7 dX5_waitingOfAll_1 0 0 rfl rfl rfl ?_
  refine z_getN C inlX2 rfl 2 (by decide) (List.mem_of_getElem? (i := 13) rfl) dX5_waitingOfAll_4 0 1 rfl rfl rfl ?_
  refine z_open 0 [(wSo gt), (wE cI (gE gt 0) (tEd t 0)), (wE cI (gE gt 1) (tEd t 1)), (wE cI (gE gt 2) (tEd t 2)), (wN cI (gt 22) (gt 23) (tLog t)), (wN cI (gt 24) (gt 25) (tText t)), (wN cI (gt 26) (gt 27) (tWrs t))] [(wSo gt), (wE cI (gE gt 0) (tEd t 0)), (wE cI (gE gt 1) (tEd t 1)), (wE cI (gE gt 2) (tEd t 2)), (wN cI (gt 22) (gt 23) (tLog t)), (wN cI (gt 24) (gt 25) (tText t)), (wN cI (gt 26) (gt 27) (tWrs t))] rfl rfl rfl ?_
  refine z_open 1 [(wEo (gE gt 0) (tEd t 0)), (wN cI (gt 2) (gt 3) (eCopy (tEd t 0))), (wN cI (gt 4) (gt 5) (eWait (tEd t 0))), (wN cI (gt 6) (gt 7) (eBacks (tEd t 0)))] [(wSo gt), (wEo (gE gt 0) (tEd t 0)), (wN cI (gt 2) (gt 3) (eCopy (tEd t 0))), (wN cI (gt 4) (gt 5) (eWait (tEd t 0))), (wN cI (gt 6) (gt 7) (eBacks (tEd t 0))), (wE cI (gE gt 1) (tEd t 1)), (wE cI (gE gt 2) (tEd t 2)), (wN cI (gt 22) (gt 23) (tLog t)), (wN cI (gt 24) (gt 25) (tText t)), (wN cI (gt 26) (gt 27) (tWrs t))] rfl rfl rfl ?_
  refine z_callFV C [(wN cI (gt 4) (gt 5) (eWait (tEd t 0)))] [(wSo gt), (wEo (gE gt 0) (tEd t 0)), (wN cI (gt 2) (gt 3) (eCopy (tEd t 0))), (wN cI (gt 6) (gt 7) (eBacks (tEd t 0))), (wE cI (gE gt 1) (tEd t 1)), (wE cI (gE gt 2) (tEd t 2)), (wN cI (gt 22) (gt 23) (tLog t)), (wN cI (gt 24) (gt 25) (tText t)), (wN cI (gt 26) (gt 27) (tWrs t))] rfl rfl (met_X4_size l D cI (gt 4) (gt 5) (eWait (tEd t 0))) y_X4_size mw_10_11 dX5_waitingOfAll_7 rfl n_X4_size rfl (by decide) ⟨rfl, rfl, Nat.le_of_ble_eq_true rfl, Nat.le_of_ble_eq_true rfl⟩ (Nat.le_of_ble_eq_true rfl) (z_pm [3, 0, 1, 2, 4, 5, 6, 7, 8, 9] 10 rfl (by decide) rfl) ?_
  refine z_shut 1 [(wEo (gE gt 0) (tEd t 0)), (wN cI (gt 2) (gt 3) (eCopy (tEd t 0))), (wN cI (gt 4) (gt 5) (eWait (tEd t 0))), (wN cI (gt 6) (gt 7) (eBacks (tEd t 0)))] [(wSo gt), (wE cI (gE gt 0) (tEd t 0)), (wE cI (gE gt 1) (tEd t 1)), (wE cI (gE gt 2) (tEd t 2)), (wN cI (gt 22) (gt 23) (tLog t)), (wN cI (gt 24) (gt 25) (tText t)), (wN cI (gt 26) (gt 27) (tWrs t))] rfl rfl rfl ?_
  refine z_shut 0 [(wSo gt), (wE cI (gE gt 0) (tEd t 0)), (wE cI (gE gt 1) (tEd t 1)), (wE cI (gE gt 2) (tEd t 2)), (wN cI (gt 22) (gt 23) (tLog t)), (wN cI (gt 24) (gt 25) (tText t)), (wN cI (gt 26) (gt 27) (tWrs t))] [(wS cI gt t)] rfl rfl rfl ?_
  refine z_aload_n C dX5_waitingOfAll_10 rfl ?_
  refine z_get C inlX5 rfl 1 (by decide) mw_2_8 dX5_waitingOfAll_11 0 0 rfl rfl rfl ?_
  refine z_getN C inlX2 rfl 2 (by decide) (List.mem_of_getElem? (i := 13) rfl) dX5_waitingOfAll_14 0 8 rfl rfl rfl ?_
  refine z_open 0 [(wSo gt), (wE cI (gE gt 0) (tEd t 0)), (wE cI (gE gt 1) (tEd t 1)), (wE cI (gE gt 2) (tEd t 2)), (wN cI (gt 22) (gt 23) (tLog t)), (wN cI (gt 24) (gt 25) (tText t)), (wN cI (gt 26) (gt 27) (tWrs t))] [(wSo gt), (wE cI (gE gt 0) (tEd t 0)), (wE cI (gE gt 1) (tEd t 1)), (wE cI (gE gt 2) (tEd t 2)), (wN cI (gt 22) (gt 23) (tLog t)), (wN cI (gt 24) (gt 25) (tText t)), (wN cI (gt 26) (gt 27) (tWrs t))] rfl rfl rfl ?_
  refine z_open 2 [(wEo (gE gt 1) (tEd t 1)), (wN cI (gt 9) (gt 10) (eCopy (tEd t 1))), (wN cI (gt 11) (gt 12) (eWait (tEd t 1))), (wN cI (gt 13) (gt 14) (eBacks (tEd t 1)))] [(wSo gt), (wE cI (gE gt 0) (tEd t 0)), (wEo (gE gt 1) (tEd t 1)), (wN cI (gt 9) (gt 10) (eCopy (tEd t 1))), (wN cI (gt 11) (gt 12) (eWait (tEd t 1))), (wN cI (gt 13) (gt 14) (eBacks (tEd t 1))), (wE cI (gE gt 2) (tEd t 2)), (wN cI (gt 22) (gt 23) (tLog t)), (wN cI (gt 24) (gt 25) (tText t)), (wN cI (gt 26) (gt 27) (tWrs t))] rfl rfl rfl ?_
  refine z_callFV C [(wN cI (gt 11) (gt 12) (eWait (tEd t 1)))] [(wSo gt), (wE cI (gE gt 0) (tEd t 0)), (wEo (gE gt 1) (tEd t 1)), (wN cI (gt 9) (gt 10) (eCopy (tEd t 1))), (wN cI (gt 13) (gt 14) (eBacks (tEd t 1))), (wE cI (gE gt 2) (tEd t 2)), (wN cI (gt 22) (gt 23) (tLog t)), (wN cI (gt 24) (gt 25) (tText t)), (wN cI (gt 26) (gt 27) (tWrs t))] rfl rfl (met_X4_size l D cI (gt 11) (gt 12) (eWait (tEd t 1))) y_X4_size mw_10_11 dX5_waitingOfAll_17 rfl n_X4_size rfl (by decide) ⟨rfl, rfl, Nat.le_of_ble_eq_true rfl, Nat.le_of_ble_eq_true rfl⟩ (Nat.le_of_ble_eq_true rfl) (z_pm [4, 0, 1, 2, 3, 5, 6, 7, 8, 9] 10 rfl (by decide) rfl) ?_
  refine z_shut 2 [(wEo (gE gt 1) (tEd t 1)), (wN cI (gt 9) (gt 10) (eCopy (tEd t 1))), (wN cI (gt 11) (gt 12) (eWait (tEd t 1))), (wN cI (gt 13) (gt 14) (eBacks (tEd t 1)))] [(wSo gt), (wE cI (gE gt 0) (tEd t 0)), (wE cI (gE gt 1) (tEd t 1)), (wE cI (gE gt 2) (tEd t 2)), (wN cI (gt 22) (gt 23) (tLog t)), (wN cI (gt 24) (gt 25) (tText t)), (wN cI (gt 26) (gt 27) (tWrs t))] rfl rfl rfl ?_
  refine z_shut 0 [(wSo gt), (wE cI (gE gt 0) (tEd t 0)), (wE cI (gE gt 1) (tEd t 1)), (wE cI (gE gt 2) (tEd t 2)), (wN cI (gt 22) (gt 23) (tLog t)), (wN cI (gt 24) (gt 25) (tText t)), (wN cI (gt 26) (gt 27) (tWrs t))] [(wS cI gt t)] rfl rfl rfl ?_
  refine z_iadd C dX5_waitingOfAll_20 ?_
  refine z_aload_n C dX5_waitingOfAll_21 rfl ?_
  refine z_get C inlX5 rfl 2 (by decide) mw_2_9 dX5_waitingOfAll_22 0 0 rfl rfl rfl ?_
  refine z_getN C inlX2 rfl 2 (by decide) (List.mem_of_getElem? (i := 13) rfl) dX5_waitingOfAll_25 0 15 rfl rfl rfl ?_
  refine z_open 0 [(wSo gt), (wE cI (gE gt 0) (tEd t 0)), (wE cI (gE gt 1) (tEd t 1)), (wE cI (gE gt 2) (tEd t 2)), (wN cI (gt 22) (gt 23) (tLog t)), (wN cI (gt 24) (gt 25) (tText t)), (wN cI (gt 26) (gt 27) (tWrs t))] [(wSo gt), (wE cI (gE gt 0) (tEd t 0)), (wE cI (gE gt 1) (tEd t 1)), (wE cI (gE gt 2) (tEd t 2)), (wN cI (gt 22) (gt 23) (tLog t)), (wN cI (gt 24) (gt 25) (tText t)), (wN cI (gt 26) (gt 27) (tWrs t))] rfl rfl rfl ?_
  refine z_open 3 [(wEo (gE gt 2) (tEd t 2)), (wN cI (gt 16) (gt 17) (eCopy (tEd t 2))), (wN cI (gt 18) (gt 19) (eWait (tEd t 2))), (wN cI (gt 20) (gt 21) (eBacks (tEd t 2)))] [(wSo gt), (wE cI (gE gt 0) (tEd t 0)), (wE cI (gE gt 1) (tEd t 1)), (wEo (gE gt 2) (tEd t 2)), (wN cI (gt 16) (gt 17) (eCopy (tEd t 2))), (wN cI (gt 18) (gt 19) (eWait (tEd t 2))), (wN cI (gt 20) (gt 21) (eBacks (tEd t 2))), (wN cI (gt 22) (gt 23) (tLog t)), (wN cI (gt 24) (gt 25) (tText t)), (wN cI (gt 26) (gt 27) (tWrs t))] rfl rfl rfl ?_
  refine z_callFV C [(wN cI (gt 18) (gt 19) (eWait (tEd t 2)))] [(wSo gt), (wE cI (gE gt 0) (tEd t 0)), (wE cI (gE gt 1) (tEd t 1)), (wEo (gE gt 2) (tEd t 2)), (wN cI (gt 16) (gt 17) (eCopy (tEd t 2))), (wN cI (gt 20) (gt 21) (eBacks (tEd t 2))), (wN cI (gt 22) (gt 23) (tLog t)), (wN cI (gt 24) (gt 25) (tText t)), (wN cI (gt 26) (gt 27) (tWrs t))] rfl rfl (met_X4_size l D cI (gt 18) (gt 19) (eWait (tEd t 2))) y_X4_size mw_10_11 dX5_waitingOfAll_28 rfl n_X4_size rfl (by decide) ⟨rfl, rfl, Nat.le_of_ble_eq_true rfl, Nat.le_of_ble_eq_true rfl⟩ (Nat.le_of_ble_eq_true rfl) (z_pm [5, 0, 1, 2, 3, 4, 6, 7, 8, 9] 10 rfl (by decide) rfl) ?_
  refine z_shut 3 [(wEo (gE gt 2) (tEd t 2)), (wN cI (gt 16) (gt 17) (eCopy (tEd t 2))), (wN cI (gt 18) (gt 19) (eWait (tEd t 2))), (wN cI (gt 20) (gt 21) (eBacks (tEd t 2)))] [(wSo gt), (wE cI (gE gt 0) (tEd t 0)), (wE cI (gE gt 1) (tEd t 1)), (wE cI (gE gt 2) (tEd t 2)), (wN cI (gt 22) (gt 23) (tLog t)), (wN cI (gt 24) (gt 25) (tText t)), (wN cI (gt 26) (gt 27) (tWrs t))] rfl rfl rfl ?_
  refine z_shut 0 [(wSo gt), (wE cI (gE gt 0) (tEd t 0)), (wE cI (gE gt 1) (tEd t 1)), (wE cI (gE gt 2) (tEd t 2)), (wN cI (gt 22) (gt 23) (tLog t)), (wN cI (gt 24) (gt 25) (tText t)), (wN cI (gt 26) (gt 27) (tWrs t))] [(wS cI gt t)] rfl rfl rfl ?_
  refine z_iadd C dX5_waitingOfAll_31 ?_
  exact z_iret C rfl () (by rw [f_X5_waitingOfAll]) trivial rfl dX5_waitingOfAll_32
def rmX5_settledEditors : Room := { frames := 2, cells := 0, slots := 0, locals := 41 }
def lb_X5_settledEditors_4 (t : zT)   (Q : Int32 → Prop)  (K4 : (Int32) → (Int32) → Prop) (v1 : Int32) (v2 : Int32) : Prop := ((3 ≤ v2 → (Q v1)) ∧ (¬ 3 ≤ v2 → (((f_X2_isSettled (tEd t (ixE v2)) (tLog t)) = 0 → (∀ x3 : Int32, x3 = (v1 + 0) → (K4 x3 (v2 + 1)))) ∧ (¬ (f_X2_isSettled (tEd t (ixE v2)) (tLog t)) = 0 → (∀ x4 : Int32, x4 = (v1 + 1) → (K4 x4 (v2 + 1)))))))
set_option maxHeartbeats 4000000 in
set_option maxRecDepth 100000 in
theorem wk_X5_settledEditors_4 {p : Program} {l : Launch} {e : Env} {s : State} {m : MethodId} {args : Array Value} {below : List Frame} {meth : Method} {c : Code} {D : va_G} {cI : ClassId} {A : Nat → Prop} (C : ZC p s m args meth c RX5 cX5_settledEditors 3 (some .int) D cI A) (gt : Nat → Nat) (t : zT)   (v1 : Int32) (v2 : Int32) (Q : Int32 → Prop)  (hw : zLoop2 (lb_X5_settledEditors_4 t   Q ) v1 v2) : ZZ p l e rmX5_settledEditors s m args below meth c D A 3 0 0 (MQ below (ZQ D A (fun u : Int32 => some (.int u)) (fun u : Int32 => [(wS cI gt t)]) (fun u : Int32 => Q u)) args s rmX5_settledEditors.cells rmX5_settledEditors.slots A) [(wS cI gt t)] 4 [some (.ref (gt 0)), some (.int v1), some (.int v2)] [] := by
  refine zLoop2_w (fun (v1 : Int32) (v2 : Int32) => ZZ p l e rmX5_settledEditors s m args below meth c D A 3 0 0 (MQ below (ZQ D A (fun u : Int32 => some (.int u)) (fun u : Int32 => [(wS cI gt t)]) (fun u : Int32 => Q u)) args s rmX5_settledEditors.cells rmX5_settledEditors.slots A) [(wS cI gt t)] 4 [some (.ref (gt 0)), some (.int v1), some (.int v2)] []) ?_ _ _ hw
  clear hw
  intro K4 hK4 v1 v2 hw
  unfold lb_X5_settledEditors_4 at hw
  refine z_iload_n C dX5_settledEditors_4 rfl ?_
  refine z_iconst C dX5_settledEditors_5 3 (by decide +kernel) ?_
  refine z_icmp_ge C dX5_settledEditors_6 38 (by decide) (fun c1 => ?_) (fun c1 => ?_)
  · replace hw := hw.1 c1
    refine z_iload_n C dX5_settledEditors_38 rfl ?_
    exact z_iret C rfl (v1) rfl hw rfl dX5_settledEditors_39
  · replace hw := hw.2 c1
    refine z_iload_n C dX5_settledEditors_9 rfl ?_
    refine z_aload_n C dX5_settledEditors_10 rfl ?_
    refine z_iload_n C dX5_settledEditors_11 rfl ?_
    refine z_callFV C [(wS cI gt t)] [] rfl rfl (met_X5_editor l D cI gt t v2) y_X5_editor mw_7_11 dX5_settledEditors_12 rfl n_X5_editor rfl (by decide) ⟨rfl, rfl, Nat.le_of_ble_eq_true rfl, Nat.le_of_ble_eq_true rfl⟩ (Nat.le_of_ble_eq_true rfl) (z_pm [0] 1 rfl (by decide) rfl) ?_
    refine z_aload_n C dX5_settledEditors_15 rfl ?_
    refine z_get C inlX5 rfl 3 (by decide) mw_2_13 dX5_settledEditors_16 0 0 rfl rfl rfl ?_
    refine z_focus 0 (ixE_lt _) [(wF cI gt t (ixE v2) (tEd t (ixE v2)))] rfl rfl ?_
    refine z_open 0 [(wSo gt), (wE cI (gE gt (ixE v2)) (tEd t (ixE v2))), (wN cI (gt 22) (gt 23) (tLog t)), (wN cI (gt 24) (gt 25) (tText t)), (wN cI (gt 26) (gt 27) (tWrs t)), (wR cI gt t (ixE v2))] [(wSo gt), (wE cI (gE gt (ixE v2)) (tEd t (ixE v2))), (wN cI (gt 22) (gt 23) (tLog t)), (wN cI (gt 24) (gt 25) (tText t)), (wN cI (gt 26) (gt 27) (tWrs t)), (wR cI gt t (ixE v2))] rfl rfl rfl ?_
    refine z_callFV C [(wE cI (gE gt (ixE v2)) (tEd t (ixE v2))), (wN cI (gt 22) (gt 23) (tLog t))] [(wSo gt), (wN cI (gt 24) (gt 25) (tText t)), (wN cI (gt 26) (gt 27) (tWrs t)), (wR cI gt t (ixE v2))] rfl rfl (met_X2_isSettled l D cI (gE gt (ixE v2)) (gt 22) (gt 23) (tEd t (ixE v2)) (tLog t)) y_X2_isSettled mw_14_0 dX5_settledEditors_19 rfl n_X2_isSettled rfl (by decide) ⟨rfl, rfl, Nat.le_of_ble_eq_true rfl, Nat.le_of_ble_eq_true rfl⟩ (Nat.le_of_ble_eq_true rfl) (z_pm [1, 2, 0, 3, 4, 5] 6 rfl (by decide) rfl) ?_
    refine z_shut 0 [(wSo gt), (wE cI (gE gt (ixE v2)) (tEd t (ixE v2))), (wN cI (gt 22) (gt 23) (tLog t)), (wN cI (gt 24) (gt 25) (tText t)), (wN cI (gt 26) (gt 27) (tWrs t)), (wR cI gt t (ixE v2))] [(wF cI gt t (ixE v2) (tEd t (ixE v2)))] rfl rfl rfl ?_
    refine z_if_eq C dX5_settledEditors_22 29 (by decide) (fun c2 => ?_) (fun c2 => ?_)
    · replace hw := hw.1 c2
      refine z_iconst C dX5_settledEditors_29 0 (by decide +kernel) ?_
      refine z_iadd C dX5_settledEditors_30 ?_
      refine z_name C (fun x3 ex3 => ?_)
      replace hw := hw x3 ex3
      refine z_istore_n C dX5_settledEditors_31 [some (.ref (gt 0)), some (.int x3), some (.int v2)] (by decide) rfl ?_
      refine z_iinc C dX5_settledEditors_32 rfl (v2 + 1) (by rfl) [some (.ref (gt 0)), some (.int x3), some (.int (v2 + 1))] (by decide) rfl ?_
      refine z_goto C dX5_settledEditors_35 4 (by decide) ?_
      refine z_unfocus 0 (ixE_lt _) t [(wS cI gt t)] (tSetEd_same _ _) rfl rfl ?_
      exact hK4 _ _ hw
    · replace hw := hw.2 c2
      refine z_iconst C dX5_settledEditors_25 1 (by decide +kernel) ?_
      refine z_goto C dX5_settledEditors_26 30 (by decide) ?_
      refine z_iadd C dX5_settledEditors_30 ?_
      refine z_name C (fun x4 ex4 => ?_)
      replace hw := hw x4 ex4
      refine z_istore_n C dX5_settledEditors_31 [some (.ref (gt 0)), some (.int x4), some (.int v2)] (by decide) rfl ?_
      refine z_iinc C dX5_settledEditors_32 rfl (v2 + 1) (by rfl) [some (.ref (gt 0)), some (.int x4), some (.int (v2 + 1))] (by decide) rfl ?_
      refine z_goto C dX5_settledEditors_35 4 (by decide) ?_
      refine z_unfocus 0 (ixE_lt _) t [(wS cI gt t)] (tSetEd_same _ _) rfl rfl ?_
      exact hK4 _ _ hw
def wp_X5_settledEditors (t : zT)  (Q : Int32 → Prop) : Prop := (zLoop2 (lb_X5_settledEditors_4 t   Q ) 0 0)
set_option maxHeartbeats 4000000 in
set_option maxRecDepth 100000 in
theorem met_X5_settledEditors (l : Launch) (D : va_G) (cI : ClassId) (gt : Nat → Nat) (t : zT)  (Q : Int32 → Prop) (hw : wp_X5_settledEditors t Q) : ZM l D cI yX5_settledEditors cX5_settledEditors 3 (some .int) rmX5_settledEditors [.ref (gt 0)] [(wS cI gt t)] (fun u : Int32 => some (.int u)) (fun u : Int32 => [(wS cI gt t)]) (fun u : Int32 => Q u) := by
  refine z_body [some (.ref (gt 0)), none, none] (by decide +kernel) rfl (Nat.le_of_ble_eq_true rfl) rfl ?_
  intro p e s m args below meth c A C hin
  unfold wp_X5_settledEditors at hw
  refine z_iconst C dX5_settledEditors_0 0 (by decide +kernel) ?_
  refine z_istore_n C dX5_settledEditors_1 [some (.ref (gt 0)), some (.int 0), none] (by decide) rfl ?_
  refine z_iconst C dX5_settledEditors_2 0 (by decide +kernel) ?_
  refine z_istore_n C dX5_settledEditors_3 [some (.ref (gt 0)), some (.int 0), some (.int 0)] (by decide) rfl ?_
  exact wk_X5_settledEditors_4 C gt t   0 0 _  hw
def rmX5_isOneText : Room := { frames := 2, cells := 0, slots := 0, locals := 43 }
def wp_X5_isOneText (t : zT)  (Q : Int32 → Prop) : Prop := (wp_X4_isSameAs (eCopy (tEd t 0)) (tText t) (fun r1 => ((r1 = 0 → (Q 0)) ∧ (¬ r1 = 0 → (wp_X4_isSameAs (eCopy (tEd t 1)) (tText t) (fun r3 => ((r3 = 0 → (Q 0)) ∧ (¬ r3 = 0 → (wp_X4_isSameAs (eCopy (tEd t 2)) (tText t) (fun r5 => ((r5 = 0 → (Q 0)) ∧ (¬ r5 = 0 → (Q 1)))))))))))))
set_option maxHeartbeats 4000000 in
set_option maxRecDepth 100000 in
theorem met_X5_isOneText (l : Launch) (D : va_G) (cI : ClassId) (gt : Nat → Nat) (t : zT)  (Q : Int32 → Prop) (hw : wp_X5_isOneText t Q) : ZM l D cI yX5_isOneText cX5_isOneText 1 (some .boolean) rmX5_isOneText [.ref (gt 0)] [(wS cI gt t)] (fun u : Int32 => some (.int u)) (fun u : Int32 => [(wS cI gt t)]) (fun u : Int32 => Q u) := by
  refine z_body [some (.ref (gt 0))] (by decide +kernel) rfl (Nat.le_of_ble_eq_true rfl) rfl ?_
  intro p e s m args below meth c A C hin
  unfold wp_X5_isOneText at hw
  refine z_aload_n C dX5_isOneText_0 rfl ?_
  refine z_get C inlX5 rfl 0 (by decide) mw_2_7 dX5_isOneText_1 0 0 rfl rfl rfl ?_
  refine z_getN C inlX2 rfl 1 (by decide) (List.mem_of_getElem? (i := 14) rfl) dX5_isOneText_4 0 1 rfl rfl rfl ?_
  refine z_aload_n C dX5_isOneText_7 rfl ?_
  refine z_get C inlX5 rfl 4 (by decide) mw_2_14 dX5_isOneText_8 0 0 rfl rfl rfl ?_
  refine z_open 0 [(wSo gt), (wE cI (gE gt 0) (tEd t 0)), (wE cI (gE gt 1) (tEd t 1)), (wE cI (gE gt 2) (tEd t 2)), (wN cI (gt 22) (gt 23) (tLog t)), (wN cI (gt 24) (gt 25) (tText t)), (wN cI (gt 26) (gt 27) (tWrs t))] [(wSo gt), (wE cI (gE gt 0) (tEd t 0)), (wE cI (gE gt 1) (tEd t 1)), (wE cI (gE gt 2) (tEd t 2)), (wN cI (gt 22) (gt 23) (tLog t)), (wN cI (gt 24) (gt 25) (tText t)), (wN cI (gt 26) (gt 27) (tWrs t))] rfl rfl rfl ?_
  refine z_open 1 [(wEo (gE gt 0) (tEd t 0)), (wN cI (gt 2) (gt 3) (eCopy (tEd t 0))), (wN cI (gt 4) (gt 5) (eWait (tEd t 0))), (wN cI (gt 6) (gt 7) (eBacks (tEd t 0)))] [(wSo gt), (wEo (gE gt 0) (tEd t 0)), (wN cI (gt 2) (gt 3) (eCopy (tEd t 0))), (wN cI (gt 4) (gt 5) (eWait (tEd t 0))), (wN cI (gt 6) (gt 7) (eBacks (tEd t 0))), (wE cI (gE gt 1) (tEd t 1)), (wE cI (gE gt 2) (tEd t 2)), (wN cI (gt 22) (gt 23) (tLog t)), (wN cI (gt 24) (gt 25) (tText t)), (wN cI (gt 26) (gt 27) (tWrs t))] rfl rfl rfl ?_
  refine z_callV0 C [(wN cI (gt 2) (gt 3) (eCopy (tEd t 0))), (wN cI (gt 24) (gt 25) (tText t))] [(wSo gt), (wEo (gE gt 0) (tEd t 0)), (wN cI (gt 4) (gt 5) (eWait (tEd t 0))), (wN cI (gt 6) (gt 7) (eBacks (tEd t 0))), (wE cI (gE gt 1) (tEd t 1)), (wE cI (gE gt 2) (tEd t 2)), (wN cI (gt 22) (gt 23) (tLog t)), (wN cI (gt 26) (gt 27) (tWrs t))] rfl rfl (met_X4_isSameAs l D cI (gt 2) (gt 3) (gt 24) (gt 25) (eCopy (tEd t 0)) (tText t) _ hw) y_X4_isSameAs mw_16_15 dX5_isOneText_11 rfl n_X4_isSameAs rfl (by decide) ⟨rfl, rfl, Nat.le_of_ble_eq_true rfl, Nat.le_of_ble_eq_true rfl⟩ (Nat.le_of_ble_eq_true rfl) (z_pm [2, 8, 0, 1, 3, 4, 5, 6, 7, 9] 10 rfl (by decide) rfl) ?_
  intro r1 hw
  try dsimp only at hw
  refine z_bs [(wN cI (gt 2) (gt 3) (eCopy (tEd t 0))), (wN cI (gt 24) (gt 25) (tText t)), (wSo gt), (wEo (gE gt 0) (tEd t 0)), (wN cI (gt 4) (gt 5) (eWait (tEd t 0))), (wN cI (gt 6) (gt 7) (eBacks (tEd t 0))), (wE cI (gE gt 1) (tEd t 1)), (wE cI (gE gt 2) (tEd t 2)), (wN cI (gt 22) (gt 23) (tLog t)), (wN cI (gt 26) (gt 27) (tWrs t))] [.int r1] rfl rfl ?_
  refine z_perm C [(wSo gt), (wEo (gE gt 0) (tEd t 0)), (wN cI (gt 2) (gt 3) (eCopy (tEd t 0))), (wN cI (gt 4) (gt 5) (eWait (tEd t 0))), (wN cI (gt 6) (gt 7) (eBacks (tEd t 0))), (wE cI (gE gt 1) (tEd t 1)), (wE cI (gE gt 2) (tEd t 2)), (wN cI (gt 22) (gt 23) (tLog t)), (wN cI (gt 24) (gt 25) (tText t)), (wN cI (gt 26) (gt 27) (tWrs t))] (z_pm [2, 3, 0, 4, 5, 6, 7, 8, 1, 9] 10 rfl (by decide) rfl) ?_
  refine z_shut 1 [(wEo (gE gt 0) (tEd t 0)), (wN cI (gt 2) (gt 3) (eCopy (tEd t 0))), (wN cI (gt 4) (gt 5) (eWait (tEd t 0))), (wN cI (gt 6) (gt 7) (eBacks (tEd t 0)))] [(wSo gt), (wE cI (gE gt 0) (tEd t 0)), (wE cI (gE gt 1) (tEd t 1)), (wE cI (gE gt 2) (tEd t 2)), (wN cI (gt 22) (gt 23) (tLog t)), (wN cI (gt 24) (gt 25) (tText t)), (wN cI (gt 26) (gt 27) (tWrs t))] rfl rfl rfl ?_
  refine z_shut 0 [(wSo gt), (wE cI (gE gt 0) (tEd t 0)), (wE cI (gE gt 1) (tEd t 1)), (wE cI (gE gt 2) (tEd t 2)), (wN cI (gt 22) (gt 23) (tLog t)), (wN cI (gt 24) (gt 25) (tText t)), (wN cI (gt 26) (gt 27) (tWrs t))] [(wS cI gt t)] rfl rfl rfl ?_
  refine z_if_eq C dX5_isOneText_14 55 (by decide) (fun c2 => ?_) (fun c2 => ?_)
  · replace hw := hw.1 c2
    refine z_iconst C dX5_isOneText_55 0 (by decide +kernel) ?_
    exact z_zret C rfl (by decide) (0 : Int32) rfl hw rfl dX5_isOneText_56
  · replace hw := hw.2 c2
    refine z_aload_n C dX5_isOneText_17 rfl ?_
    refine z_get C inlX5 rfl 1 (by decide) mw_2_8 dX5_isOneText_18 0 0 rfl rfl rfl ?_
    refine z_getN C inlX2 rfl 1 (by decide) (List.mem_of_getElem? (i := 14) rfl) dX5_isOneText_21 0 8 rfl rfl rfl ?_
    refine z_aload_n C dX5_isOneText_24 rfl ?_
    refine z_get C inlX5 rfl 4 (by decide) mw_2_14 dX5_isOneText_25 0 0 rfl rfl rfl ?_
    refine z_open 0 [(wSo gt), (wE cI (gE gt 0) (tEd t 0)), (wE cI (gE gt 1) (tEd t 1)), (wE cI (gE gt 2) (tEd t 2)), (wN cI (gt 22) (gt 23) (tLog t)), (wN cI (gt 24) (gt 25) (tText t)), (wN cI (gt 26) (gt 27) (tWrs t))] [(wSo gt), (wE cI (gE gt 0) (tEd t 0)), (wE cI (gE gt 1) (tEd t 1)), (wE cI (gE gt 2) (tEd t 2)), (wN cI (gt 22) (gt 23) (tLog t)), (wN cI (gt 24) (gt 25) (tText t)), (wN cI (gt 26) (gt 27) (tWrs t))] rfl rfl rfl ?_
    refine z_open 2 [(wEo (gE gt 1) (tEd t 1)), (wN cI (gt 9) (gt 10) (eCopy (tEd t 1))), (wN cI (gt 11) (gt 12) (eWait (tEd t 1))), (wN cI (gt 13) (gt 14) (eBacks (tEd t 1)))] [(wSo gt), (wE cI (gE gt 0) (tEd t 0)), (wEo (gE gt 1) (tEd t 1)), (wN cI (gt 9) (gt 10) (eCopy (tEd t 1))), (wN cI (gt 11) (gt 12) (eWait (tEd t 1))), (wN cI (gt 13) (gt 14) (eBacks (tEd t 1))), (wE cI (gE gt 2) (tEd t 2)), (wN cI (gt 22) (gt 23) (tLog t)), (wN cI (gt 24) (gt 25) (tText t)), (wN cI (gt 26) (gt 27) (tWrs t))] rfl rfl rfl ?_
    refine z_callV0 C [(wN cI (gt 9) (gt 10) (eCopy (tEd t 1))), (wN cI (gt 24) (gt 25) (tText t))] [(wSo gt), (wE cI (gE gt 0) (tEd t 0)), (wEo (gE gt 1) (tEd t 1)), (wN cI (gt 11) (gt 12) (eWait (tEd t 1))), (wN cI (gt 13) (gt 14) (eBacks (tEd t 1))), (wE cI (gE gt 2) (tEd t 2)), (wN cI (gt 22) (gt 23) (tLog t)), (wN cI (gt 26) (gt 27) (tWrs t))] rfl rfl (met_X4_isSameAs l D cI (gt 9) (gt 10) (gt 24) (gt 25) (eCopy (tEd t 1)) (tText t) _ hw) y_X4_isSameAs mw_16_15 dX5_isOneText_28 rfl n_X4_isSameAs rfl (by decide) ⟨rfl, rfl, Nat.le_of_ble_eq_true rfl, Nat.le_of_ble_eq_true rfl⟩ (Nat.le_of_ble_eq_true rfl) (z_pm [3, 8, 0, 1, 2, 4, 5, 6, 7, 9] 10 rfl (by decide) rfl) ?_
    intro r3 hw
    try dsimp only at hw
    refine z_bs [(wN cI (gt 9) (gt 10) (eCopy (tEd t 1))), (wN cI (gt 24) (gt 25) (tText t)), (wSo gt), (wE cI (gE gt 0) (tEd t 0)), (wEo (gE gt 1) (tEd t 1)), (wN cI (gt 11) (gt 12) (eWait (tEd t 1))), (wN cI (gt 13) (gt 14) (eBacks (tEd t 1))), (wE cI (gE gt 2) (tEd t 2)), (wN cI (gt 22) (gt 23) (tLog t)), (wN cI (gt 26) (gt 27) (tWrs t))] [.int r3] rfl rfl ?_
    refine z_perm C [(wSo gt), (wE cI (gE gt 0) (tEd t 0)), (wEo (gE gt 1) (tEd t 1)), (wN cI (gt 9) (gt 10) (eCopy (tEd t 1))), (wN cI (gt 11) (gt 12) (eWait (tEd t 1))), (wN cI (gt 13) (gt 14) (eBacks (tEd t 1))), (wE cI (gE gt 2) (tEd t 2)), (wN cI (gt 22) (gt 23) (tLog t)), (wN cI (gt 24) (gt 25) (tText t)), (wN cI (gt 26) (gt 27) (tWrs t))] (z_pm [2, 3, 4, 0, 5, 6, 7, 8, 1, 9] 10 rfl (by decide) rfl) ?_
    refine z_shut 2 [(wEo (gE gt 1) (tEd t 1)), (wN cI (gt 9) (gt 10) (eCopy (tEd t 1))), (wN cI (gt 11) (gt 12) (eWait (tEd t 1))), (wN cI (gt 13) (gt 14) (eBacks (tEd t 1)))] [(wSo gt), (wE cI (gE gt 0) (tEd t 0)), (wE cI (gE gt 1) (tEd t 1)), (wE cI (gE gt 2) (tEd t 2)), (wN cI (gt 22) (gt 23) (tLog t)), (wN cI (gt 24) (gt 25) (tText t)), (wN cI (gt 26) (gt 27) (tWrs t))] rfl rfl rfl ?_
    refine z_shut 0 [(wSo gt), (wE cI (gE gt 0) (tEd t 0)), (wE cI (gE gt 1) (tEd t 1)), (wE cI (gE gt 2) (tEd t 2)), (wN cI (gt 22) (gt 23) (tLog t)), (wN cI (gt 24) (gt 25) (tText t)), (wN cI (gt 26) (gt 27) (tWrs t))] [(wS cI gt t)] rfl rfl rfl ?_
    refine z_if_eq C dX5_isOneText_31 55 (by decide) (fun c4 => ?_) (fun c4 => ?_)
    · replace hw := hw.1 c4
      refine z_iconst C dX5_isOneText_55 0 (by decide +kernel) ?_
      exact z_zret C rfl (by decide) (0 : Int32) rfl hw rfl dX5_isOneText_56
    · replace hw := hw.2 c4
      refine z_aload_n C dX5_isOneText_34 rfl ?_
      refine z_get C inlX5 rfl 2 (by decide) mw_2_9 dX5_isOneText_35 0 0 rfl rfl rfl ?_
      refine z_getN C inlX2 rfl 1 (by decide) (List.mem_of_getElem? (i := 14) rfl) dX5_isOneText_38 0 15 rfl rfl rfl ?_
      refine z_aload_n C dX5_isOneText_41 rfl ?_
      refine z_get C inlX5 rfl 4 (by decide) mw_2_14 dX5_isOneText_42 0 0 rfl rfl rfl ?_
      refine z_open 0 [(wSo gt), (wE cI (gE gt 0) (tEd t 0)), (wE cI (gE gt 1) (tEd t 1)), (wE cI (gE gt 2) (tEd t 2)), (wN cI (gt 22) (gt 23) (tLog t)), (wN cI (gt 24) (gt 25) (tText t)), (wN cI (gt 26) (gt 27) (tWrs t))] [(wSo gt), (wE cI (gE gt 0) (tEd t 0)), (wE cI (gE gt 1) (tEd t 1)), (wE cI (gE gt 2) (tEd t 2)), (wN cI (gt 22) (gt 23) (tLog t)), (wN cI (gt 24) (gt 25) (tText t)), (wN cI (gt 26) (gt 27) (tWrs t))] rfl rfl rfl ?_
      refine z_open 3 [(wEo (gE gt 2) (tEd t 2)), (wN cI (gt 16) (gt 17) (eCopy (tEd t 2))), (wN cI (gt 18) (gt 19) (eWait (tEd t 2))), (wN cI (gt 20) (gt 21) (eBacks (tEd t 2)))] [(wSo gt), (wE cI (gE gt 0) (tEd t 0)), (wE cI (gE gt 1) (tEd t 1)), (wEo (gE gt 2) (tEd t 2)), (wN cI (gt 16) (gt 17) (eCopy (tEd t 2))), (wN cI (gt 18) (gt 19) (eWait (tEd t 2))), (wN cI (gt 20) (gt 21) (eBacks (tEd t 2))), (wN cI (gt 22) (gt 23) (tLog t)), (wN cI (gt 24) (gt 25) (tText t)), (wN cI (gt 26) (gt 27) (tWrs t))] rfl rfl rfl ?_
      refine z_callV0 C [(wN cI (gt 16) (gt 17) (eCopy (tEd t 2))), (wN cI (gt 24) (gt 25) (tText t))] [(wSo gt), (wE cI (gE gt 0) (tEd t 0)), (wE cI (gE gt 1) (tEd t 1)), (wEo (gE gt 2) (tEd t 2)), (wN cI (gt 18) (gt 19) (eWait (tEd t 2))), (wN cI (gt 20) (gt 21) (eBacks (tEd t 2))), (wN cI (gt 22) (gt 23) (tLog t)), (wN cI (gt 26) (gt 27) (tWrs t))] rfl rfl (met_X4_isSameAs l D cI (gt 16) (gt 17) (gt 24) (gt 25) (eCopy (tEd t 2)) (tText t) _ hw) y_X4_isSameAs mw_16_15 dX5_isOneText_45 rfl n_X4_isSameAs rfl (by decide) ⟨rfl, rfl, Nat.le_of_ble_eq_true rfl, Nat.le_of_ble_eq_true rfl⟩ (Nat.le_of_ble_eq_true rfl) (z_pm [4, 8, 0, 1, 2, 3, 5, 6, 7, 9] 10 rfl (by decide) rfl) ?_
      intro r5 hw
      try dsimp only at hw
      refine z_bs [(wN cI (gt 16) (gt 17) (eCopy (tEd t 2))), (wN cI (gt 24) (gt 25) (tText t)), (wSo gt), (wE cI (gE gt 0) (tEd t 0)), (wE cI (gE gt 1) (tEd t 1)), (wEo (gE gt 2) (tEd t 2)), (wN cI (gt 18) (gt 19) (eWait (tEd t 2))), (wN cI (gt 20) (gt 21) (eBacks (tEd t 2))), (wN cI (gt 22) (gt 23) (tLog t)), (wN cI (gt 26) (gt 27) (tWrs t))] [.int r5] rfl rfl ?_
      refine z_perm C [(wSo gt), (wE cI (gE gt 0) (tEd t 0)), (wE cI (gE gt 1) (tEd t 1)), (wEo (gE gt 2) (tEd t 2)), (wN cI (gt 16) (gt 17) (eCopy (tEd t 2))), (wN cI (gt 18) (gt 19) (eWait (tEd t 2))), (wN cI (gt 20) (gt 21) (eBacks (tEd t 2))), (wN cI (gt 22) (gt 23) (tLog t)), (wN cI (gt 24) (gt 25) (tText t)), (wN cI (gt 26) (gt 27) (tWrs t))] (z_pm [2, 3, 4, 5, 0, 6, 7, 8, 1, 9] 10 rfl (by decide) rfl) ?_
      refine z_shut 3 [(wEo (gE gt 2) (tEd t 2)), (wN cI (gt 16) (gt 17) (eCopy (tEd t 2))), (wN cI (gt 18) (gt 19) (eWait (tEd t 2))), (wN cI (gt 20) (gt 21) (eBacks (tEd t 2)))] [(wSo gt), (wE cI (gE gt 0) (tEd t 0)), (wE cI (gE gt 1) (tEd t 1)), (wE cI (gE gt 2) (tEd t 2)), (wN cI (gt 22) (gt 23) (tLog t)), (wN cI (gt 24) (gt 25) (tText t)), (wN cI (gt 26) (gt 27) (tWrs t))] rfl rfl rfl ?_
      refine z_shut 0 [(wSo gt), (wE cI (gE gt 0) (tEd t 0)), (wE cI (gE gt 1) (tEd t 1)), (wE cI (gE gt 2) (tEd t 2)), (wN cI (gt 22) (gt 23) (tLog t)), (wN cI (gt 24) (gt 25) (tText t)), (wN cI (gt 26) (gt 27) (tWrs t))] [(wS cI gt t)] rfl rfl rfl ?_
      refine z_if_eq C dX5_isOneText_48 55 (by decide) (fun c6 => ?_) (fun c6 => ?_)
      · replace hw := hw.1 c6
        refine z_iconst C dX5_isOneText_55 0 (by decide +kernel) ?_
        exact z_zret C rfl (by decide) (0 : Int32) rfl hw rfl dX5_isOneText_56
      · replace hw := hw.2 c6
        refine z_iconst C dX5_isOneText_51 1 (by decide +kernel) ?_
        refine z_goto C dX5_isOneText_52 56 (by decide) ?_
        exact z_zret C rfl (by decide) (1 : Int32) rfl hw rfl dX5_isOneText_56
def rmX5_copyState : Room := { frames := 3, cells := 0, slots := 0, locals := 68 }
def wp_X5_copyState (t : zT) (o : zT)  (Q : zT → Prop) : Prop := (wp_X2_copyEditor (tEd t 0) (tEd o 0) (fun u1 => (wp_X2_copyEditor (tEd (tSetEds t (z3 u1 (tEd t 1) (tEd t 2))) 1) (tEd o 1) (fun u2 => (wp_X2_copyEditor (tEd (tSetEds t (z3 (tEd (tSetEds t (z3 u1 (tEd t 1) (tEd t 2))) 0) u2 (tEd (tSetEds t (z3 u1 (tEd t 1) (tEd t 2))) 2))) 2) (tEd o 2) (fun u3 => (wp_X4_copyNumbers (tLog t) (tLog o) (fun u4 => (wp_X4_copyNumbers (tText t) (tText o) (fun u5 => (wp_X4_copyNumbers (tWrs t) (tWrs o) (fun u6 => (Q (tSetWrs (tSetText (tSetLog (tSetEds t (z3 (tEd (tSetEds t (z3 (tEd (tSetEds t (z3 u1 (tEd t 1) (tEd t 2))) 0) u2 (tEd (tSetEds t (z3 u1 (tEd t 1) (tEd t 2))) 2))) 0) (tEd (tSetEds t (z3 (tEd (tSetEds t (z3 u1 (tEd t 1) (tEd t 2))) 0) u2 (tEd (tSetEds t (z3 u1 (tEd t 1) (tEd t 2))) 2))) 1) u3)) u4) u5) u6))))))))))))))
set_option maxHeartbeats 4000000 in
set_option maxRecDepth 100000 in
theorem met_X5_copyState (l : Launch) (D : va_G) (cI : ClassId) (gt : Nat → Nat) (go : Nat → Nat) (t : zT) (o : zT)  (Q : zT → Prop) (hw : wp_X5_copyState t o Q) : ZM l D cI yX5_copyState cX5_copyState 2 none rmX5_copyState [.ref (gt 0), .ref (go 0)] [(wS cI gt t), (wS cI go o)] (fun _ : zT => none) (fun u : zT => [(wS cI gt u), (wS cI go o)]) (fun u : zT => Q u) := by
  refine z_body [some (.ref (gt 0)), some (.ref (go 0))] (by decide +kernel) rfl (Nat.le_of_ble_eq_true rfl) rfl ?_
  intro p e s m args below meth c A C hin
  unfold wp_X5_copyState at hw
  refine z_aload_n C dX5_copyState_0 rfl ?_
  refine z_get C inlX5 rfl 0 (by decide) mw_2_7 dX5_copyState_1 0 0 rfl rfl rfl ?_
  refine z_aload_n C dX5_copyState_4 rfl ?_
  refine z_get C inlX5 rfl 0 (by decide) mw_2_7 dX5_copyState_5 1 0 rfl rfl rfl ?_
  refine z_open 0 [(wSo gt), (wE cI (gE gt 0) (tEd t 0)), (wE cI (gE gt 1) (tEd t 1)), (wE cI (gE gt 2) (tEd t 2)), (wN cI (gt 22) (gt 23) (tLog t)), (wN cI (gt 24) (gt 25) (tText t)), (wN cI (gt 26) (gt 27) (tWrs t))] [(wSo gt), (wE cI (gE gt 0) (tEd t 0)), (wE cI (gE gt 1) (tEd t 1)), (wE cI (gE gt 2) (tEd t 2)), (wN cI (gt 22) (gt 23) (tLog t)), (wN cI (gt 24) (gt 25) (tText t)), (wN cI (gt 26) (gt 27) (tWrs t)), (wS cI go o)] rfl rfl rfl ?_
  refine z_open 7 [(wSo go), (wE cI (gE go 0) (tEd o 0)), (wE cI (gE go 1) (tEd o 1)), (wE cI (gE go 2) (tEd o 2)), (wN cI (go 22) (go 23) (tLog o)), (wN cI (go 24) (go 25) (tText o)), (wN cI (go 26) (go 27) (tWrs o))] [(wSo gt), (wE cI (gE gt 0) (tEd t 0)), (wE cI (gE gt 1) (tEd t 1)), (wE cI (gE gt 2) (tEd t 2)), (wN cI (gt 22) (gt 23) (tLog t)), (wN cI (gt 24) (gt 25) (tText t)), (wN cI (gt 26) (gt 27) (tWrs t)), (wSo go), (wE cI (gE go 0) (tEd o 0)), (wE cI (gE go 1) (tEd o 1)), (wE cI (gE go 2) (tEd o 2)), (wN cI (go 22) (go 23) (tLog o)), (wN cI (go 24) (go 25) (tText o)), (wN cI (go 26) (go 27) (tWrs o))] rfl rfl rfl ?_
  refine z_callV0 C [(wE cI (gE gt 0) (tEd t 0)), (wE cI (gE go 0) (tEd o 0))] [(wSo gt), (wE cI (gE gt 1) (tEd t 1)), (wE cI (gE gt 2) (tEd t 2)), (wN cI (gt 22) (gt 23) (tLog t)), (wN cI (gt 24) (gt 25) (tText t)), (wN cI (gt 26) (gt 27) (tWrs t)), (wSo go), (wE cI (gE go 1) (tEd o 1)), (wE cI (gE go 2) (tEd o 2)), (wN cI (go 22) (go 23) (tLog o)), (wN cI (go 24) (go 25) (tText o)), (wN cI (go 26) (go 27) (tWrs o))] rfl rfl (met_X2_copyEditor l D cI (gE gt 0) (gE go 0) (tEd t 0) (tEd o 0) _ hw) y_X2_copyEditor mw_6_15 dX5_copyState_8 rfl n_X2_copyEditor rfl (by decide) ⟨rfl, rfl, Nat.le_of_ble_eq_true rfl, Nat.le_of_ble_eq_true rfl⟩ (Nat.le_of_ble_eq_true rfl) (z_pm [1, 8, 0, 2, 3, 4, 5, 6, 7, 9, 10, 11, 12, 13] 14 rfl (by decide) rfl) ?_
  intro u1 hw
  try dsimp only at hw
  refine z_bs [(wE cI (gE gt 0) u1), (wE cI (gE go 0) (tEd o 0)), (wSo gt), (wE cI (gE gt 1) (tEd t 1)), (wE cI (gE gt 2) (tEd t 2)), (wN cI (gt 22) (gt 23) (tLog t)), (wN cI (gt 24) (gt 25) (tText t)), (wN cI (gt 26) (gt 27) (tWrs t)), (wSo go), (wE cI (gE go 1) (tEd o 1)), (wE cI (gE go 2) (tEd o 2)), (wN cI (go 22) (go 23) (tLog o)), (wN cI (go 24) (go 25) (tText o)), (wN cI (go 26) (go 27) (tWrs o))] [] rfl rfl ?_
  refine z_perm C [(wSo gt), (wE cI (gE gt 0) u1), (wE cI (gE gt 1) (tEd t 1)), (wE cI (gE gt 2) (tEd t 2)), (wN cI (gt 22) (gt 23) (tLog t)), (wN cI (gt 24) (gt 25) (tText t)), (wN cI (gt 26) (gt 27) (tWrs t)), (wSo go), (wE cI (gE go 0) (tEd o 0)), (wE cI (gE go 1) (tEd o 1)), (wE cI (gE go 2) (tEd o 2)), (wN cI (go 22) (go 23) (tLog o)), (wN cI (go 24) (go 25) (tText o)), (wN cI (go 26) (go 27) (tWrs o))] (z_pm [2, 0, 3, 4, 5, 6, 7, 8, 1, 9, 10, 11, 12, 13] 14 rfl (by decide) rfl) ?_
  refine z_shut 7 [(wSo go), (wE cI (gE go 0) (tEd o 0)), (wE cI (gE go 1) (tEd o 1)), (wE cI (gE go 2) (tEd o 2)), (wN cI (go 22) (go 23) (tLog o)), (wN cI (go 24) (go 25) (tText o)), (wN cI (go 26) (go 27) (tWrs o))] [(wSo gt), (wE cI (gE gt 0) u1), (wE cI (gE gt 1) (tEd t 1)), (wE cI (gE gt 2) (tEd t 2)), (wN cI (gt 22) (gt 23) (tLog t)), (wN cI (gt 24) (gt 25) (tText t)), (wN cI (gt 26) (gt 27) (tWrs t)), (wS cI go o)] rfl rfl rfl ?_
  refine z_shut 0 [(wSo gt), (wE cI (gE gt 0) u1), (wE cI (gE gt 1) (tEd t 1)), (wE cI (gE gt 2) (tEd t 2)), (wN cI (gt 22) (gt 23) (tLog t)), (wN cI (gt 24) (gt 25) (tText t)), (wN cI (gt 26) (gt 27) (tWrs t))] [(wS cI gt (tSetEds t (z3 u1 (tEd t 1) (tEd t 2)))), (wS cI go o)] rfl rfl rfl ?_
  refine z_aload_n C dX5_copyState_11 rfl ?_
  refine z_get C inlX5 rfl 1 (by decide) mw_2_8 dX5_copyState_12 0 0 rfl rfl rfl ?_
  refine z_aload_n C dX5_copyState_15 rfl ?_
  refine z_get C inlX5 rfl 1 (by decide) mw_2_8 dX5_copyState_16 1 0 rfl rfl rfl ?_
  refine z_open 0 [(wSo gt), (wE cI (gE gt 0) (tEd (tSetEds t (z3 u1 (tEd t 1) (tEd t 2))) 0)), (wE cI (gE gt 1) (tEd (tSetEds t (z3 u1 (tEd t 1) (tEd t 2))) 1)), (wE cI (gE gt 2) (tEd (tSetEds t (z3 u1 (tEd t 1) (tEd t 2))) 2)), (wN cI (gt 22) (gt 23) (tLog t)), (wN cI (gt 24) (gt 25) (tText t)), (wN cI (gt 26) (gt 27) (tWrs t))] [(wSo gt), (wE cI (gE gt 0) (tEd (tSetEds t (z3 u1 (tEd t 1) (tEd t 2))) 0)), (wE cI (gE gt 1) (tEd (tSetEds t (z3 u1 (tEd t 1) (tEd t 2))) 1)), (wE cI (gE gt 2) (tEd (tSetEds t (z3 u1 (tEd t 1) (tEd t 2))) 2)), (wN cI (gt 22) (gt 23) (tLog t)), (wN cI (gt 24) (gt 25) (tText t)), (wN cI (gt 26) (gt 27) (tWrs t)), (wS cI go o)] rfl rfl rfl ?_
  refine z_open 7 [(wSo go), (wE cI (gE go 0) (tEd o 0)), (wE cI (gE go 1) (tEd o 1)), (wE cI (gE go 2) (tEd o 2)), (wN cI (go 22) (go 23) (tLog o)), (wN cI (go 24) (go 25) (tText o)), (wN cI (go 26) (go 27) (tWrs o))] [(wSo gt), (wE cI (gE gt 0) (tEd (tSetEds t (z3 u1 (tEd t 1) (tEd t 2))) 0)), (wE cI (gE gt 1) (tEd (tSetEds t (z3 u1 (tEd t 1) (tEd t 2))) 1)), (wE cI (gE gt 2) (tEd (tSetEds t (z3 u1 (tEd t 1) (tEd t 2))) 2)), (wN cI (gt 22) (gt 23) (tLog t)), (wN cI (gt 24) (gt 25) (tText t)), (wN cI (gt 26) (gt 27) (tWrs t)), (wSo go), (wE cI (gE go 0) (tEd o 0)), (wE cI (gE go 1) (tEd o 1)), (wE cI (gE go 2) (tEd o 2)), (wN cI (go 22) (go 23) (tLog o)), (wN cI (go 24) (go 25) (tText o)), (wN cI (go 26) (go 27) (tWrs o))] rfl rfl rfl ?_
  refine z_callV0 C [(wE cI (gE gt 1) (tEd (tSetEds t (z3 u1 (tEd t 1) (tEd t 2))) 1)), (wE cI (gE go 1) (tEd o 1))] [(wSo gt), (wE cI (gE gt 0) (tEd (tSetEds t (z3 u1 (tEd t 1) (tEd t 2))) 0)), (wE cI (gE gt 2) (tEd (tSetEds t (z3 u1 (tEd t 1) (tEd t 2))) 2)), (wN cI (gt 22) (gt 23) (tLog t)), (wN cI (gt 24) (gt 25) (tText t)), (wN cI (gt 26) (gt 27) (tWrs t)), (wSo go), (wE cI (gE go 0) (tEd o 0)), (wE cI (gE go 2) (tEd o 2)), (wN cI (go 22) (go 23) (tLog o)), (wN cI (go 24) (go 25) (tText o)), (wN cI (go 26) (go 27) (tWrs o))] rfl rfl (met_X2_copyEditor l D cI (gE gt 1) (gE go 1) (tEd (tSetEds t (z3 u1 (tEd t 1) (tEd t 2))) 1) (tEd o 1) _ hw) y_X2_copyEditor mw_6_15 dX5_copyState_19 rfl n_X2_copyEditor rfl (by decide) ⟨rfl, rfl, Nat.le_of_ble_eq_true rfl, Nat.le_of_ble_eq_true rfl⟩ (Nat.le_of_ble_eq_true rfl) (z_pm [2, 9, 0, 1, 3, 4, 5, 6, 7, 8, 10, 11, 12, 13] 14 rfl (by decide) rfl) ?_
  intro u2 hw
  try dsimp only at hw
  refine z_bs [(wE cI (gE gt 1) u2), (wE cI (gE go 1) (tEd o 1)), (wSo gt), (wE cI (gE gt 0) (tEd (tSetEds t (z3 u1 (tEd t 1) (tEd t 2))) 0)), (wE cI (gE gt 2) (tEd (tSetEds t (z3 u1 (tEd t 1) (tEd t 2))) 2)), (wN cI (gt 22) (gt 23) (tLog t)), (wN cI (gt 24) (gt 25) (tText t)), (wN cI (gt 26) (gt 27) (tWrs t)), (wSo go), (wE cI (gE go 0) (tEd o 0)), (wE cI (gE go 2) (tEd o 2)), (wN cI (go 22) (go 23) (tLog o)), (wN cI (go 24) (go 25) (tText o)), (wN cI (go 26) (go 27) (tWrs o))] [] rfl rfl ?_
  refine z_perm C [(wSo gt), (wE cI (gE gt 0) (tEd (tSetEds t (z3 u1 (tEd t 1) (tEd t 2))) 0)), (wE cI (gE gt 1) u2), (wE cI (gE gt 2) (tEd (tSetEds t (z3 u1 (tEd t 1) (tEd t 2))) 2)), (wN cI (gt 22) (gt 23) (tLog t)), (wN cI (gt 24) (gt 25) (tText t)), (wN cI (gt 26) (gt 27) (tWrs t)), (wSo go), (wE cI (gE go 0) (tEd o 0)), (wE cI (gE go 1) (tEd o 1)), (wE cI (gE go 2) (tEd o 2)), (wN cI (go 22) (go 23) (tLog o)), (wN cI (go 24) (go 25) (tText o)), (wN cI (go 26) (go 27) (tWrs o))] (z_pm [2, 3, 0, 4, 5, 6, 7, 8, 9, 1, 10, 11, 12, 13] 14 rfl (by decide) rfl) ?_
  refine z_shut 7 [(wSo go), (wE cI (gE go 0) (tEd o 0)), (wE cI (gE go 1) (tEd o 1)), (wE cI (gE go 2) (tEd o 2)), (wN cI (go 22) (go 23) (tLog o)), (wN cI (go 24) (go 25) (tText o)), (wN cI (go 26) (go 27) (tWrs o))] [(wSo gt), (wE cI (gE gt 0) (tEd (tSetEds t (z3 u1 (tEd t 1) (tEd t 2))) 0)), (wE cI (gE gt 1) u2), (wE cI (gE gt 2) (tEd (tSetEds t (z3 u1 (tEd t 1) (tEd t 2))) 2)), (wN cI (gt 22) (gt 23) (tLog t)), (wN cI (gt 24) (gt 25) (tText t)), (wN cI (gt 26) (gt 27) (tWrs t)), (wS cI go o)] rfl rfl rfl ?_
  refine z_shut 0 [(wSo gt), (wE cI (gE gt 0) (tEd (tSetEds t (z3 u1 (tEd t 1) (tEd t 2))) 0)), (wE cI (gE gt 1) u2), (wE cI (gE gt 2) (tEd (tSetEds t (z3 u1 (tEd t 1) (tEd t 2))) 2)), (wN cI (gt 22) (gt 23) (tLog t)), (wN cI (gt 24) (gt 25) (tText t)), (wN cI (gt 26) (gt 27) (tWrs t))] [(wS cI gt (tSetEds t (z3 (tEd (tSetEds t (z3 u1 (tEd t 1) (tEd t 2))) 0) u2 (tEd (tSetEds t (z3 u1 (tEd t 1) (tEd t 2))) 2)))), (wS cI go o)] rfl rfl rfl ?_
  refine z_aload_n C dX5_copyState_22 rfl ?_
  refine z_get C inlX5 rfl 2 (by decide) mw_2_9 dX5_copyState_23 0 0 rfl rfl rfl ?_
  refine z_aload_n C dX5_copyState_26 rfl ?_
  refine z_get C inlX5 rfl 2 (by decide) mw_2_9 dX5_copyState_27 1 0 rfl rfl rfl ?_
  refine z_open 0 [(wSo gt), (wE cI (gE gt 0) (tEd (tSetEds t (z3 (tEd (tSetEds t (z3 u1 (tEd t 1) (tEd t 2))) 0) u2 (tEd (tSetEds t (z3 u1 (tEd t 1) (tEd t 2))) 2))) 0)), (wE cI (gE gt 1) (tEd (tSetEds t (z3 (tEd (tSetEds t (z3 u1 (tEd t 1) (tEd t 2))) 0) u2 (tEd (tSetEds t (z3 u1 (tEd t 1) (tEd t 2))) 2))) 1)), (wE cI (gE gt 2) (tEd (tSetEds t (z3 (tEd (tSetEds t (z3 u1 (tEd t 1) (tEd t 2))) 0) u2 (tEd (tSetEds t (z3 u1 (tEd t 1) (tEd t 2))) 2))) 2)), (wN cI (gt 22) (gt 23) (tLog t)), (wN cI (gt 24) (gt 25) (tText t)), (wN cI (gt 26) (gt 27) (tWrs t))] [(wSo gt), (wE cI (gE gt 0) (tEd (tSetEds t (z3 (tEd (tSetEds t (z3 u1 (tEd t 1) (tEd t 2))) 0) u2 (tEd (tSetEds t (z3 u1 (tEd t 1) (tEd t 2))) 2))) 0)), (wE cI (gE gt 1) (tEd (tSetEds t (z3 (tEd (tSetEds t (z3 u1 (tEd t 1) (tEd t 2))) 0) u2 (tEd (tSetEds t (z3 u1 (tEd t 1) (tEd t 2))) 2))) 1)), (wE cI (gE gt 2) (tEd (tSetEds t (z3 (tEd (tSetEds t (z3 u1 (tEd t 1) (tEd t 2))) 0) u2 (tEd (tSetEds t (z3 u1 (tEd t 1) (tEd t 2))) 2))) 2)), (wN cI (gt 22) (gt 23) (tLog t)), (wN cI (gt 24) (gt 25) (tText t)), (wN cI (gt 26) (gt 27) (tWrs t)), (wS cI go o)] rfl rfl rfl ?_
  refine z_open 7 [(wSo go), (wE cI (gE go 0) (tEd o 0)), (wE cI (gE go 1) (tEd o 1)), (wE cI (gE go 2) (tEd o 2)), (wN cI (go 22) (go 23) (tLog o)), (wN cI (go 24) (go 25) (tText o)), (wN cI (go 26) (go 27) (tWrs o))] [(wSo gt), (wE cI (gE gt 0) (tEd (tSetEds t (z3 (tEd (tSetEds t (z3 u1 (tEd t 1) (tEd t 2))) 0) u2 (tEd (tSetEds t (z3 u1 (tEd t 1) (tEd t 2))) 2))) 0)), (wE cI (gE gt 1) (tEd (tSetEds t (z3 (tEd (tSetEds t (z3 u1 (tEd t 1) (tEd t 2))) 0) u2 (tEd (tSetEds t (z3 u1 (tEd t 1) (tEd t 2))) 2))) 1)), (wE cI (gE gt 2) (tEd (tSetEds t (z3 (tEd (tSetEds t (z3 u1 (tEd t 1) (tEd t 2))) 0) u2 (tEd (tSetEds t (z3 u1 (tEd t 1) (tEd t 2))) 2))) 2)), (wN cI (gt 22) (gt 23) (tLog t)), (wN cI (gt 24) (gt 25) (tText t)), (wN cI (gt 26) (gt 27) (tWrs t)), (wSo go), (wE cI (gE go 0) (tEd o 0)), (wE cI (gE go 1) (tEd o 1)), (wE cI (gE go 2) (tEd o 2)), (wN cI (go 22) (go 23) (tLog o)), (wN cI (go 24) (go 25) (tText o)), (wN cI (go 26) (go 27) (tWrs o))] rfl rfl rfl ?_
  refine z_callV0 C [(wE cI (gE gt 2) (tEd (tSetEds t (z3 (tEd (tSetEds t (z3 u1 (tEd t 1) (tEd t 2))) 0) u2 (tEd (tSetEds t (z3 u1 (tEd t 1) (tEd t 2))) 2))) 2)), (wE cI (gE go 2) (tEd o 2))] [(wSo gt), (wE cI (gE gt 0) (tEd (tSetEds t (z3 (tEd (tSetEds t (z3 u1 (tEd t 1) (tEd t 2))) 0) u2 (tEd (tSetEds t (z3 u1 (tEd t 1) (tEd t 2))) 2))) 0)), (wE cI (gE gt 1) (tEd (tSetEds t (z3 (tEd (tSetEds t (z3 u1 (tEd t 1) (tEd t 2))) 0) u2 (tEd (tSetEds t (z3 u1 (tEd t 1) (tEd t 2))) 2))) 1)), (wN cI (gt 22) (gt 23) (tLog t)), (wN cI (gt 24) (gt 25) (tText t)), (wN cI (gt 26) (gt 27) (tWrs t)), (wSo go), (wE cI (gE go 0) (tEd o 0)), (wE cI (gE go 1) (tEd o 1)), (wN cI (go 22) (go 23) (tLog o)), (wN cI (go 24) (go 25) (tText o)), (wN cI (go 26) (go 27) (tWrs o))] rfl rfl (met_X2_copyEditor l D cI (gE gt 2) (gE go 2) (tEd (tSetEds t (z3 (tEd (tSetEds t (z3 u1 (tEd t 1) (tEd t 2))) 0) u2 (tEd (tSetEds t (z3 u1 (tEd t 1) (tEd t 2))) 2))) 2) (tEd o 2) _ hw) y_X2_copyEditor mw_6_15 dX5_copyState_30 rfl n_X2_copyEditor rfl (by decide) ⟨rfl, rfl, Nat.le_of_ble_eq_true rfl, Nat.le_of_ble_eq_true rfl⟩ (Nat.le_of_ble_eq_true rfl) (z_pm [3, 10, 0, 1, 2, 4, 5, 6, 7, 8, 9, 11, 12, 13] 14 rfl (by decide) rfl) ?_
  intro u3 hw
  try dsimp only at hw
  refine z_bs [(wE cI (gE gt 2) u3), (wE cI (gE go 2) (tEd o 2)), (wSo gt), (wE cI (gE gt 0) (tEd (tSetEds t (z3 (tEd (tSetEds t (z3 u1 (tEd t 1) (tEd t 2))) 0) u2 (tEd (tSetEds t (z3 u1 (tEd t 1) (tEd t 2))) 2))) 0)), (wE cI (gE gt 1) (tEd (tSetEds t (z3 (tEd (tSetEds t (z3 u1 (tEd t 1) (tEd t 2))) 0) u2 (tEd (tSetEds t (z3 u1 (tEd t 1) (tEd t 2))) 2))) 1)), (wN cI (gt 22) (gt 23) (tLog t)), (wN cI (gt 24) (gt 25) (tText t)), (wN cI (gt 26) (gt 27) (tWrs t)), (wSo go), (wE cI (gE go 0) (tEd o 0)), (wE cI (gE go 1) (tEd o 1)), (wN cI (go 22) (go 23) (tLog o)), (wN cI (go 24) (go 25) (tText o)), (wN cI (go 26) (go 27) (tWrs o))] [] rfl rfl ?_
  refine z_perm C [(wSo gt), (wE cI (gE gt 0) (tEd (tSetEds t (z3 (tEd (tSetEds t (z3 u1 (tEd t 1) (tEd t 2))) 0) u2 (tEd (tSetEds t (z3 u1 (tEd t 1) (tEd t 2))) 2))) 0)), (wE cI (gE gt 1) (tEd (tSetEds t (z3 (tEd (tSetEds t (z3 u1 (tEd t 1) (tEd t 2))) 0) u2 (tEd (tSetEds t (z3 u1 (tEd t 1) (tEd t 2))) 2))) 1)), (wE cI (gE gt 2) u3), (wN cI (gt 22) (gt 23) (tLog t)), (wN cI (gt 24) (gt 25) (tText t)), (wN cI (gt 26) (gt 27) (tWrs t)), (wSo go), (wE cI (gE go 0) (tEd o 0)), (wE cI (gE go 1) (tEd o 1)), (wE cI (gE go 2) (tEd o 2)), (wN cI (go 22) (go 23) (tLog o)), (wN cI (go 24) (go 25) (tText o)), (wN cI (go 26) (go 27) (tWrs o))] (z_pm [2, 3, 4, 0, 5, 6, 7, 8, 9, 10, 1, 11, 12, 13] 14 rfl (by decide) rfl) ?_
  refine z_shut 7 [(wSo go), (wE cI (gE go 0) (tEd o 0)), (wE cI (gE go 1) (tEd o 1)), (wE cI (gE go 2) (tEd o 2)), (wN cI (go 22) (go 23) (tLog o)), (wN cI (go 24) (go 25) (tText o)), (wN cI (go 26) (go 27) (tWrs o))] [(wSo gt), (wE cI (gE gt 0) (tEd (tSetEds t (z3 (tEd (tSetEds t (z3 u1 (tEd t 1) (tEd t 2))) 0) u2 (tEd (tSetEds t (z3 u1 (tEd t 1) (tEd t 2))) 2))) 0)), (wE cI (gE gt 1) (tEd (tSetEds t (z3 (tEd (tSetEds t (z3 u1 (tEd t 1) (tEd t 2))) 0) u2 (tEd (tSetEds t (z3 u1 (tEd t 1) (tEd t 2))) 2))) 1)), (wE cI (gE gt 2) u3), (wN cI (gt 22) (gt 23) (tLog t)), (wN cI (gt 24) (gt 25) (tText t)), (wN cI (gt 26) (gt 27) (tWrs t)), (wS cI go o)] rfl rfl rfl ?_
  refine z_shut 0 [(wSo gt), (wE cI (gE gt 0) (tEd (tSetEds t (z3 (tEd (tSetEds t (z3 u1 (tEd t 1) (tEd t 2))) 0) u2 (tEd (tSetEds t (z3 u1 (tEd t 1) (tEd t 2))) 2))) 0)), (wE cI (gE gt 1) (tEd (tSetEds t (z3 (tEd (tSetEds t (z3 u1 (tEd t 1) (tEd t 2))) 0) u2 (tEd (tSetEds t (z3 u1 (tEd t 1) (tEd t 2))) 2))) 1)), (wE cI (gE gt 2) u3), (wN cI (gt 22) (gt 23) (tLog t)), (wN cI (gt 24) (gt 25) (tText t)), (wN cI (gt 26) (gt 27) (tWrs t))] [(wS cI gt (tSetEds t (z3 (tEd (tSetEds t (z3 (tEd (tSetEds t (z3 u1 (tEd t 1) (tEd t 2))) 0) u2 (tEd (tSetEds t (z3 u1 (tEd t 1) (tEd t 2))) 2))) 0) (tEd (tSetEds t (z3 (tEd (tSetEds t (z3 u1 (tEd t 1) (tEd t 2))) 0) u2 (tEd (tSetEds t (z3 u1 (tEd t 1) (tEd t 2))) 2))) 1) u3))), (wS cI go o)] rfl rfl rfl ?_
  refine z_aload_n C dX5_copyState_33 rfl ?_
  refine z_get C inlX5 rfl 3 (by decide) mw_2_13 dX5_copyState_34 0 0 rfl rfl rfl ?_
  refine z_aload_n C dX5_copyState_37 rfl ?_
  refine z_get C inlX5 rfl 3 (by decide) mw_2_13 dX5_copyState_38 1 0 rfl rfl rfl ?_
  refine z_open 0 [(wSo gt), (wE cI (gE gt 0) (tEd (tSetEds t (z3 (tEd (tSetEds t (z3 (tEd (tSetEds t (z3 u1 (tEd t 1) (tEd t 2))) 0) u2 (tEd (tSetEds t (z3 u1 (tEd t 1) (tEd t 2))) 2))) 0) (tEd (tSetEds t (z3 (tEd (tSetEds t (z3 u1 (tEd t 1) (tEd t 2))) 0) u2 (tEd (tSetEds t (z3 u1 (tEd t 1) (tEd t 2))) 2))) 1) u3)) 0)), (wE cI (gE gt 1) (tEd (tSetEds t (z3 (tEd (tSetEds t (z3 (tEd (tSetEds t (z3 u1 (tEd t 1) (tEd t 2))) 0) u2 (tEd (tSetEds t (z3 u1 (tEd t 1) (tEd t 2))) 2))) 0) (tEd (tSetEds t (z3 (tEd (tSetEds t (z3 u1 (tEd t 1) (tEd t 2))) 0) u2 (tEd (tSetEds t (z3 u1 (tEd t 1) (tEd t 2))) 2))) 1) u3)) 1)), (wE cI (gE gt 2) (tEd (tSetEds t (z3 (tEd (tSetEds t (z3 (tEd (tSetEds t (z3 u1 (tEd t 1) (tEd t 2))) 0) u2 (tEd (tSetEds t (z3 u1 (tEd t 1) (tEd t 2))) 2))) 0) (tEd (tSetEds t (z3 (tEd (tSetEds t (z3 u1 (tEd t 1) (tEd t 2))) 0) u2 (tEd (tSetEds t (z3 u1 (tEd t 1) (tEd t 2))) 2))) 1) u3)) 2)), (wN cI (gt 22) (gt 23) (tLog t)), (wN cI (gt 24) (gt 25) (tText t)), (wN cI (gt 26) (gt 27) (tWrs t))] [(wSo gt), (wE cI (gE gt 0) (tEd (tSetEds t (z3 (tEd (tSetEds t (z3 (tEd (tSetEds t (z3 u1 (tEd t 1) (tEd t 2))) 0) u2 (tEd (tSetEds t (z3 u1 (tEd t 1) (tEd t 2))) 2))) 0) (tEd (tSetEds t (z3 (tEd (tSetEds t (z3 u1 (tEd t 1) (tEd t 2))) 0) u2 (tEd (tSetEds t (z3 u1 (tEd t 1) (tEd t 2))) 2))) 1) u3)) 0)), (wE cI (gE gt 1) (tEd (tSetEds t (z3 (tEd (tSetEds t (z3 (tEd (tSetEds t (z3 u1 (tEd t 1) (tEd t 2))) 0) u2 (tEd (tSetEds t (z3 u1 (tEd t 1) (tEd t 2))) 2))) 0) (tEd (tSetEds t (z3 (tEd (tSetEds t (z3 u1 (tEd t 1) (tEd t 2))) 0) u2 (tEd (tSetEds t (z3 u1 (tEd t 1) (tEd t 2))) 2))) 1) u3)) 1)), (wE cI (gE gt 2) (tEd (tSetEds t (z3 (tEd (tSetEds t (z3 (tEd (tSetEds t (z3 u1 (tEd t 1) (tEd t 2))) 0) u2 (tEd (tSetEds t (z3 u1 (tEd t 1) (tEd t 2))) 2))) 0) (tEd (tSetEds t (z3 (tEd (tSetEds t (z3 u1 (tEd t 1) (tEd t 2))) 0) u2 (tEd (tSetEds t (z3 u1 (tEd t 1) (tEd t 2))) 2))) 1) u3)) 2)), (wN cI (gt 22) (gt 23) (tLog t)), (wN cI (gt 24) (gt 25) (tText t)), (wN cI (gt 26) (gt 27) (tWrs t)), (wS cI go o)] rfl rfl rfl ?_
  refine z_open 7 [(wSo go), (wE cI (gE go 0) (tEd o 0)), (wE cI (gE go 1) (tEd o 1)), (wE cI (gE go 2) (tEd o 2)), (wN cI (go 22) (go 23) (tLog o)), (wN cI (go 24) (go 25) (tText o)), (wN cI (go 26) (go 27) (tWrs o))] [(wSo gt), (wE cI (gE gt 0) (tEd (tSetEds t (z3 (tEd (tSetEds t (z3 (tEd (tSetEds t (z3 u1 (tEd t 1) (tEd t 2))) 0) u2 (tEd (tSetEds t (z3 u1 (tEd t 1) (tEd t 2))) 2))) 0) (tEd (tSetEds t (z3 (tEd (tSetEds t (z3 u1 (tEd t 1) (tEd t 2))) 0) u2 (tEd (tSetEds t (z3 u1 (tEd t 1) (tEd t 2))) 2))) 1) u3)) 0)), (wE cI (gE gt 1) (tEd (tSetEds t (z3 (tEd (tSetEds t (z3 (tEd (tSetEds t (z3 u1 (tEd t 1) (tEd t 2))) 0) u2 (tEd (tSetEds t (z3 u1 (tEd t 1) (tEd t 2))) 2))) 0) (tEd (tSetEds t (z3 (tEd (tSetEds t (z3 u1 (tEd t 1) (tEd t 2))) 0) u2 (tEd (tSetEds t (z3 u1 (tEd t 1) (tEd t 2))) 2))) 1) u3)) 1)), (wE cI (gE gt 2) (tEd (tSetEds t (z3 (tEd (tSetEds t (z3 (tEd (tSetEds t (z3 u1 (tEd t 1) (tEd t 2))) 0) u2 (tEd (tSetEds t (z3 u1 (tEd t 1) (tEd t 2))) 2))) 0) (tEd (tSetEds t (z3 (tEd (tSetEds t (z3 u1 (tEd t 1) (tEd t 2))) 0) u2 (tEd (tSetEds t (z3 u1 (tEd t 1) (tEd t 2))) 2))) 1) u3)) 2)), (wN cI (gt 22) (gt 23) (tLog t)), (wN cI (gt 24) (gt 25) (tText t)), (wN cI (gt 26) (gt 27) (tWrs t)), (wSo go), (wE cI (gE go 0) (tEd o 0)), (wE cI (gE go 1) (tEd o 1)), (wE cI (gE go 2) (tEd o 2)), (wN cI (go 22) (go 23) (tLog o)), (wN cI (go 24) (go 25) (tText o)), (wN cI (go 26) (go 27) (tWrs o))] rfl rfl rfl ?_
  refine z_callV0 C [(wN cI (gt 22) (gt 23) (tLog t)), (wN cI (go 22) (go 23) (tLog o))] [(wSo gt), (wE cI (gE gt 0) (tEd (tSetEds t (z3 (tEd (tSetEds t (z3 (tEd (tSetEds t (z3 u1 (tEd t 1) (tEd t 2))) 0) u2 (tEd (tSetEds t (z3 u1 (tEd t 1) (tEd t 2))) 2))) 0) (tEd (tSetEds t (z3 (tEd (tSetEds t (z3 u1 (tEd t 1) (tEd t 2))) 0) u2 (tEd (tSetEds t (z3 u1 (tEd t 1) (tEd t 2))) 2))) 1) u3)) 0)), (wE cI (gE gt 1) (tEd (tSetEds t (z3 (tEd (tSetEds t (z3 (tEd (tSetEds t (z3 u1 (tEd t 1) (tEd t 2))) 0) u2 (tEd (tSetEds t (z3 u1 (tEd t 1) (tEd t 2))) 2))) 0) (tEd (tSetEds t (z3 (tEd (tSetEds t (z3 u1 (tEd t 1) (tEd t 2))) 0) u2 (tEd (tSetEds t (z3 u1 (tEd t 1) (tEd t 2))) 2))) 1) u3)) 1)), (wE cI (gE gt 2) (tEd (tSetEds t (z3 (tEd (tSetEds t (z3 (tEd (tSetEds t (z3 u1 (tEd t 1) (tEd t 2))) 0) u2 (tEd (tSetEds t (z3 u1 (tEd t 1) (tEd t 2))) 2))) 0) (tEd (tSetEds t (z3 (tEd (tSetEds t (z3 u1 (tEd t 1) (tEd t 2))) 0) u2 (tEd (tSetEds t (z3 u1 (tEd t 1) (tEd t 2))) 2))) 1) u3)) 2)), (wN cI (gt 24) (gt 25) (tText t)), (wN cI (gt 26) (gt 27) (tWrs t)), (wSo go), (wE cI (gE go 0) (tEd o 0)), (wE cI (gE go 1) (tEd o 1)), (wE cI (gE go 2) (tEd o 2)), (wN cI (go 24) (go 25) (tText o)), (wN cI (go 26) (go 27) (tWrs o))] rfl rfl (met_X4_copyNumbers l D cI (gt 22) (gt 23) (go 22) (go 23) (tLog t) (tLog o) _ hw) y_X4_copyNumbers mw_7_6 dX5_copyState_41 rfl n_X4_copyNumbers rfl (by decide) ⟨rfl, rfl, Nat.le_of_ble_eq_true rfl, Nat.le_of_ble_eq_true rfl⟩ (Nat.le_of_ble_eq_true rfl) (z_pm [4, 11, 0, 1, 2, 3, 5, 6, 7, 8, 9, 10, 12, 13] 14 rfl (by decide) rfl) ?_
  intro u4 hw
  try dsimp only at hw
  refine z_bs [(wN cI (gt 22) (gt 23) u4), (wN cI (go 22) (go 23) (tLog o)), (wSo gt), (wE cI (gE gt 0) (tEd (tSetEds t (z3 (tEd (tSetEds t (z3 (tEd (tSetEds t (z3 u1 (tEd t 1) (tEd t 2))) 0) u2 (tEd (tSetEds t (z3 u1 (tEd t 1) (tEd t 2))) 2))) 0) (tEd (tSetEds t (z3 (tEd (tSetEds t (z3 u1 (tEd t 1) (tEd t 2))) 0) u2 (tEd (tSetEds t (z3 u1 (tEd t 1) (tEd t 2))) 2))) 1) u3)) 0)), (wE cI (gE gt 1) (tEd (tSetEds t (z3 (tEd (tSetEds t (z3 (tEd (tSetEds t (z3 u1 (tEd t 1) (tEd t 2))) 0) u2 (tEd (tSetEds t (z3 u1 (tEd t 1) (tEd t 2))) 2))) 0) (tEd (tSetEds t (z3 (tEd (tSetEds t (z3 u1 (tEd t 1) (tEd t 2))) 0) u2 (tEd (tSetEds t (z3 u1 (tEd t 1) (tEd t 2))) 2))) 1) u3)) 1)), (wE cI (gE gt 2) (tEd (tSetEds t (z3 (tEd (tSetEds t (z3 (tEd (tSetEds t (z3 u1 (tEd t 1) (tEd t 2))) 0) u2 (tEd (tSetEds t (z3 u1 (tEd t 1) (tEd t 2))) 2))) 0) (tEd (tSetEds t (z3 (tEd (tSetEds t (z3 u1 (tEd t 1) (tEd t 2))) 0) u2 (tEd (tSetEds t (z3 u1 (tEd t 1) (tEd t 2))) 2))) 1) u3)) 2)), (wN cI (gt 24) (gt 25) (tText t)), (wN cI (gt 26) (gt 27) (tWrs t)), (wSo go), (wE cI (gE go 0) (tEd o 0)), (wE cI (gE go 1) (tEd o 1)), (wE cI (gE go 2) (tEd o 2)), (wN cI (go 24) (go 25) (tText o)), (wN cI (go 26) (go 27) (tWrs o))] [] rfl rfl ?_
  refine z_perm C [(wSo gt), (wE cI (gE gt 0) (tEd (tSetEds t (z3 (tEd (tSetEds t (z3 (tEd (tSetEds t (z3 u1 (tEd t 1) (tEd t 2))) 0) u2 (tEd (tSetEds t (z3 u1 (tEd t 1) (tEd t 2))) 2))) 0) (tEd (tSetEds t (z3 (tEd (tSetEds t (z3 u1 (tEd t 1) (tEd t 2))) 0) u2 (tEd (tSetEds t (z3 u1 (tEd t 1) (tEd t 2))) 2))) 1) u3)) 0)), (wE cI (gE gt 1) (tEd (tSetEds t (z3 (tEd (tSetEds t (z3 (tEd (tSetEds t (z3 u1 (tEd t 1) (tEd t 2))) 0) u2 (tEd (tSetEds t (z3 u1 (tEd t 1) (tEd t 2))) 2))) 0) (tEd (tSetEds t (z3 (tEd (tSetEds t (z3 u1 (tEd t 1) (tEd t 2))) 0) u2 (tEd (tSetEds t (z3 u1 (tEd t 1) (tEd t 2))) 2))) 1) u3)) 1)), (wE cI (gE gt 2) (tEd (tSetEds t (z3 (tEd (tSetEds t (z3 (tEd (tSetEds t (z3 u1 (tEd t 1) (tEd t 2))) 0) u2 (tEd (tSetEds t (z3 u1 (tEd t 1) (tEd t 2))) 2))) 0) (tEd (tSetEds t (z3 (tEd (tSetEds t (z3 u1 (tEd t 1) (tEd t 2))) 0) u2 (tEd (tSetEds t (z3 u1 (tEd t 1) (tEd t 2))) 2))) 1) u3)) 2)), (wN cI (gt 22) (gt 23) u4), (wN cI (gt 24) (gt 25) (tText t)), (wN cI (gt 26) (gt 27) (tWrs t)), (wSo go), (wE cI (gE go 0) (tEd o 0)), (wE cI (gE go 1) (tEd o 1)), (wE cI (gE go 2) (tEd o 2)), (wN cI (go 22) (go 23) (tLog o)), (wN cI (go 24) (go 25) (tText o)), (wN cI (go 26) (go 27) (tWrs o))] (z_pm [2, 3, 4, 5, 0, 6, 7, 8, 9, 10, 11, 1, 12, 13] 14 rfl (by decide) rfl) ?_
  refine z_shut 7 [(wSo go), (wE cI (gE go 0) (tEd o 0)), (wE cI (gE go 1) (tEd o 1)), (wE cI (gE go 2) (tEd o 2)), (wN cI (go 22) (go 23) (tLog o)), (wN cI (go 24) (go 25) (tText o)), (wN cI (go 26) (go 27) (tWrs o))] [(wSo gt), (wE cI (gE gt 0) (tEd (tSetEds t (z3 (tEd (tSetEds t (z3 (tEd (tSetEds t (z3 u1 (tEd t 1) (tEd t 2))) 0) u2 (tEd (tSetEds t (z3 u1 (tEd t 1) (tEd t 2))) 2))) 0) (tEd (tSetEds t (z3 (tEd (tSetEds t (z3 u1 (tEd t 1) (tEd t 2))) 0) u2 (tEd (tSetEds t (z3 u1 (tEd t 1) (tEd t 2))) 2))) 1) u3)) 0)), (wE cI (gE gt 1) (tEd (tSetEds t (z3 (tEd (tSetEds t (z3 (tEd (tSetEds t (z3 u1 (tEd t 1) (tEd t 2))) 0) u2 (tEd (tSetEds t (z3 u1 (tEd t 1) (tEd t 2))) 2))) 0) (tEd (tSetEds t (z3 (tEd (tSetEds t (z3 u1 (tEd t 1) (tEd t 2))) 0) u2 (tEd (tSetEds t (z3 u1 (tEd t 1) (tEd t 2))) 2))) 1) u3)) 1)), (wE cI (gE gt 2) (tEd (tSetEds t (z3 (tEd (tSetEds t (z3 (tEd (tSetEds t (z3 u1 (tEd t 1) (tEd t 2))) 0) u2 (tEd (tSetEds t (z3 u1 (tEd t 1) (tEd t 2))) 2))) 0) (tEd (tSetEds t (z3 (tEd (tSetEds t (z3 u1 (tEd t 1) (tEd t 2))) 0) u2 (tEd (tSetEds t (z3 u1 (tEd t 1) (tEd t 2))) 2))) 1) u3)) 2)), (wN cI (gt 22) (gt 23) u4), (wN cI (gt 24) (gt 25) (tText t)), (wN cI (gt 26) (gt 27) (tWrs t)), (wS cI go o)] rfl rfl rfl ?_
  refine z_shut 0 [(wSo gt), (wE cI (gE gt 0) (tEd (tSetEds t (z3 (tEd (tSetEds t (z3 (tEd (tSetEds t (z3 u1 (tEd t 1) (tEd t 2))) 0) u2 (tEd (tSetEds t (z3 u1 (tEd t 1) (tEd t 2))) 2))) 0) (tEd (tSetEds t (z3 (tEd (tSetEds t (z3 u1 (tEd t 1) (tEd t 2))) 0) u2 (tEd (tSetEds t (z3 u1 (tEd t 1) (tEd t 2))) 2))) 1) u3)) 0)), (wE cI (gE gt 1) (tEd (tSetEds t (z3 (tEd (tSetEds t (z3 (tEd (tSetEds t (z3 u1 (tEd t 1) (tEd t 2))) 0) u2 (tEd (tSetEds t (z3 u1 (tEd t 1) (tEd t 2))) 2))) 0) (tEd (tSetEds t (z3 (tEd (tSetEds t (z3 u1 (tEd t 1) (tEd t 2))) 0) u2 (tEd (tSetEds t (z3 u1 (tEd t 1) (tEd t 2))) 2))) 1) u3)) 1)), (wE cI (gE gt 2) (tEd (tSetEds t (z3 (tEd (tSetEds t (z3 (tEd (tSetEds t (z3 u1 (tEd t 1) (tEd t 2))) 0) u2 (tEd (tSetEds t (z3 u1 (tEd t 1) (tEd t 2))) 2))) 0) (tEd (tSetEds t (z3 (tEd (tSetEds t (z3 u1 (tEd t 1) (tEd t 2))) 0) u2 (tEd (tSetEds t (z3 u1 (tEd t 1) (tEd t 2))) 2))) 1) u3)) 2)), (wN cI (gt 22) (gt 23) u4), (wN cI (gt 24) (gt 25) (tText t)), (wN cI (gt 26) (gt 27) (tWrs t))] [(wS cI gt (tSetLog (tSetEds t (z3 (tEd (tSetEds t (z3 (tEd (tSetEds t (z3 u1 (tEd t 1) (tEd t 2))) 0) u2 (tEd (tSetEds t (z3 u1 (tEd t 1) (tEd t 2))) 2))) 0) (tEd (tSetEds t (z3 (tEd (tSetEds t (z3 u1 (tEd t 1) (tEd t 2))) 0) u2 (tEd (tSetEds t (z3 u1 (tEd t 1) (tEd t 2))) 2))) 1) u3)) u4)), (wS cI go o)] rfl rfl rfl ?_
  refine z_aload_n C dX5_copyState_44 rfl ?_
  refine z_get C inlX5 rfl 4 (by decide) mw_2_14 dX5_copyState_45 0 0 rfl rfl rfl ?_
  refine z_aload_n C dX5_copyState_48 rfl ?_
  refine z_get C inlX5 rfl 4 (by decide) mw_2_14 dX5_copyState_49 1 0 rfl rfl rfl ?_
  refine z_open 0 [(wSo gt), (wE cI (gE gt 0) (tEd (tSetLog (tSetEds t (z3 (tEd (tSetEds t (z3 (tEd (tSetEds t (z3 u1 (tEd t 1) (tEd t 2))) 0) u2 (tEd (tSetEds t (z3 u1 (tEd t 1) (tEd t 2))) 2))) 0) (tEd (tSetEds t (z3 (tEd (tSetEds t (z3 u1 (tEd t 1) (tEd t 2))) 0) u2 (tEd (tSetEds t (z3 u1 (tEd t 1) (tEd t 2))) 2))) 1) u3)) u4) 0)), (wE cI (gE gt 1) (tEd (tSetLog (tSetEds t (z3 (tEd (tSetEds t (z3 (tEd (tSetEds t (z3 u1 (tEd t 1) (tEd t 2))) 0) u2 (tEd (tSetEds t (z3 u1 (tEd t 1) (tEd t 2))) 2))) 0) (tEd (tSetEds t (z3 (tEd (tSetEds t (z3 u1 (tEd t 1) (tEd t 2))) 0) u2 (tEd (tSetEds t (z3 u1 (tEd t 1) (tEd t 2))) 2))) 1) u3)) u4) 1)), (wE cI (gE gt 2) (tEd (tSetLog (tSetEds t (z3 (tEd (tSetEds t (z3 (tEd (tSetEds t (z3 u1 (tEd t 1) (tEd t 2))) 0) u2 (tEd (tSetEds t (z3 u1 (tEd t 1) (tEd t 2))) 2))) 0) (tEd (tSetEds t (z3 (tEd (tSetEds t (z3 u1 (tEd t 1) (tEd t 2))) 0) u2 (tEd (tSetEds t (z3 u1 (tEd t 1) (tEd t 2))) 2))) 1) u3)) u4) 2)), (wN cI (gt 22) (gt 23) u4), (wN cI (gt 24) (gt 25) (tText t)), (wN cI (gt 26) (gt 27) (tWrs t))] [(wSo gt), (wE cI (gE gt 0) (tEd (tSetLog (tSetEds t (z3 (tEd (tSetEds t (z3 (tEd (tSetEds t (z3 u1 (tEd t 1) (tEd t 2))) 0) u2 (tEd (tSetEds t (z3 u1 (tEd t 1) (tEd t 2))) 2))) 0) (tEd (tSetEds t (z3 (tEd (tSetEds t (z3 u1 (tEd t 1) (tEd t 2))) 0) u2 (tEd (tSetEds t (z3 u1 (tEd t 1) (tEd t 2))) 2))) 1) u3)) u4) 0)), (wE cI (gE gt 1) (tEd (tSetLog (tSetEds t (z3 (tEd (tSetEds t (z3 (tEd (tSetEds t (z3 u1 (tEd t 1) (tEd t 2))) 0) u2 (tEd (tSetEds t (z3 u1 (tEd t 1) (tEd t 2))) 2))) 0) (tEd (tSetEds t (z3 (tEd (tSetEds t (z3 u1 (tEd t 1) (tEd t 2))) 0) u2 (tEd (tSetEds t (z3 u1 (tEd t 1) (tEd t 2))) 2))) 1) u3)) u4) 1)), (wE cI (gE gt 2) (tEd (tSetLog (tSetEds t (z3 (tEd (tSetEds t (z3 (tEd (tSetEds t (z3 u1 (tEd t 1) (tEd t 2))) 0) u2 (tEd (tSetEds t (z3 u1 (tEd t 1) (tEd t 2))) 2))) 0) (tEd (tSetEds t (z3 (tEd (tSetEds t (z3 u1 (tEd t 1) (tEd t 2))) 0) u2 (tEd (tSetEds t (z3 u1 (tEd t 1) (tEd t 2))) 2))) 1) u3)) u4) 2)), (wN cI (gt 22) (gt 23) u4), (wN cI (gt 24) (gt 25) (tText t)), (wN cI (gt 26) (gt 27) (tWrs t)), (wS cI go o)] rfl rfl rfl ?_
  refine z_open 7 [(wSo go), (wE cI (gE go 0) (tEd o 0)), (wE cI (gE go 1) (tEd o 1)), (wE cI (gE go 2) (tEd o 2)), (wN cI (go 22) (go 23) (tLog o)), (wN cI (go 24) (go 25) (tText o)), (wN cI (go 26) (go 27) (tWrs o))] [(wSo gt), (wE cI (gE gt 0) (tEd (tSetLog (tSetEds t (z3 (tEd (tSetEds t (z3 (tEd (tSetEds t (z3 u1 (tEd t 1) (tEd t 2))) 0) u2 (tEd (tSetEds t (z3 u1 (tEd t 1) (tEd t 2))) 2))) 0) (tEd (tSetEds t (z3 (tEd (tSetEds t (z3 u1 (tEd t 1) (tEd t 2))) 0) u2 (tEd (tSetEds t (z3 u1 (tEd t 1) (tEd t 2))) 2))) 1) u3)) u4) 0)), (wE cI (gE gt 1) (tEd (tSetLog (tSetEds t (z3 (tEd (tSetEds t (z3 (tEd (tSetEds t (z3 u1 (tEd t 1) (tEd t 2))) 0) u2 (tEd (tSetEds t (z3 u1 (tEd t 1) (tEd t 2))) 2))) 0) (tEd (tSetEds t (z3 (tEd (tSetEds t (z3 u1 (tEd t 1) (tEd t 2))) 0) u2 (tEd (tSetEds t (z3 u1 (tEd t 1) (tEd t 2))) 2))) 1) u3)) u4) 1)), (wE cI (gE gt 2) (tEd (tSetLog (tSetEds t (z3 (tEd (tSetEds t (z3 (tEd (tSetEds t (z3 u1 (tEd t 1) (tEd t 2))) 0) u2 (tEd (tSetEds t (z3 u1 (tEd t 1) (tEd t 2))) 2))) 0) (tEd (tSetEds t (z3 (tEd (tSetEds t (z3 u1 (tEd t 1) (tEd t 2))) 0) u2 (tEd (tSetEds t (z3 u1 (tEd t 1) (tEd t 2))) 2))) 1) u3)) u4) 2)), (wN cI (gt 22) (gt 23) u4), (wN cI (gt 24) (gt 25) (tText t)), (wN cI (gt 26) (gt 27) (tWrs t)), (wSo go), (wE cI (gE go 0) (tEd o 0)), (wE cI (gE go 1) (tEd o 1)), (wE cI (gE go 2) (tEd o 2)), (wN cI (go 22) (go 23) (tLog o)), (wN cI (go 24) (go 25) (tText o)), (wN cI (go 26) (go 27) (tWrs o))] rfl rfl rfl ?_
  refine z_callV0 C [(wN cI (gt 24) (gt 25) (tText t)), (wN cI (go 24) (go 25) (tText o))] [(wSo gt), (wE cI (gE gt 0) (tEd (tSetLog (tSetEds t (z3 (tEd (tSetEds t (z3 (tEd (tSetEds t (z3 u1 (tEd t 1) (tEd t 2))) 0) u2 (tEd (tSetEds t (z3 u1 (tEd t 1) (tEd t 2))) 2))) 0) (tEd (tSetEds t (z3 (tEd (tSetEds t (z3 u1 (tEd t 1) (tEd t 2))) 0) u2 (tEd (tSetEds t (z3 u1 (tEd t 1) (tEd t 2))) 2))) 1) u3)) u4) 0)), (wE cI (gE gt 1) (tEd (tSetLog (tSetEds t (z3 (tEd (tSetEds t (z3 (tEd (tSetEds t (z3 u1 (tEd t 1) (tEd t 2))) 0) u2 (tEd (tSetEds t (z3 u1 (tEd t 1) (tEd t 2))) 2))) 0) (tEd (tSetEds t (z3 (tEd (tSetEds t (z3 u1 (tEd t 1) (tEd t 2))) 0) u2 (tEd (tSetEds t (z3 u1 (tEd t 1) (tEd t 2))) 2))) 1) u3)) u4) 1)), (wE cI (gE gt 2) (tEd (tSetLog (tSetEds t (z3 (tEd (tSetEds t (z3 (tEd (tSetEds t (z3 u1 (tEd t 1) (tEd t 2))) 0) u2 (tEd (tSetEds t (z3 u1 (tEd t 1) (tEd t 2))) 2))) 0) (tEd (tSetEds t (z3 (tEd (tSetEds t (z3 u1 (tEd t 1) (tEd t 2))) 0) u2 (tEd (tSetEds t (z3 u1 (tEd t 1) (tEd t 2))) 2))) 1) u3)) u4) 2)), (wN cI (gt 22) (gt 23) u4), (wN cI (gt 26) (gt 27) (tWrs t)), (wSo go), (wE cI (gE go 0) (tEd o 0)), (wE cI (gE go 1) (tEd o 1)), (wE cI (gE go 2) (tEd o 2)), (wN cI (go 22) (go 23) (tLog o)), (wN cI (go 26) (go 27) (tWrs o))] rfl rfl (met_X4_copyNumbers l D cI (gt 24) (gt 25) (go 24) (go 25) (tText t) (tText o) _ hw) y_X4_copyNumbers mw_7_6 dX5_copyState_52 rfl n_X4_copyNumbers rfl (by decide) ⟨rfl, rfl, Nat.le_of_ble_eq_true rfl, Nat.le_of_ble_eq_true rfl⟩ (Nat.le_of_ble_eq_true rfl) (z_pm [5, 12, 0, 1, 2, 3, 4, 6, 7, 8, 9, 10, 11, 13] 14 rfl (by decide) rfl) ?_
  intro u5 hw
  try dsimp only at hw
  refine z_bs [(wN cI (gt 24) (gt 25) u5), (wN cI (go 24) (go 25) (tText o)), (wSo gt), (wE cI (gE gt 0) (tEd (tSetLog (tSetEds t (z3 (tEd (tSetEds t (z3 (tEd (tSetEds t (z3 u1 (tEd t 1) (tEd t 2))) 0) u2 (tEd (tSetEds t (z3 u1 (tEd t 1) (tEd t 2))) 2))) 0) (tEd (tSetEds t (z3 (tEd (tSetEds t (z3 u1 (tEd t 1) (tEd t 2))) 0) u2 (tEd (tSetEds t (z3 u1 (tEd t 1) (tEd t 2))) 2))) 1) u3)) u4) 0)), (wE cI (gE gt 1) (tEd (tSetLog (tSetEds t (z3 (tEd (tSetEds t (z3 (tEd (tSetEds t (z3 u1 (tEd t 1) (tEd t 2))) 0) u2 (tEd (tSetEds t (z3 u1 (tEd t 1) (tEd t 2))) 2))) 0) (tEd (tSetEds t (z3 (tEd (tSetEds t (z3 u1 (tEd t 1) (tEd t 2))) 0) u2 (tEd (tSetEds t (z3 u1 (tEd t 1) (tEd t 2))) 2))) 1) u3)) u4) 1)), (wE cI (gE gt 2) (tEd (tSetLog (tSetEds t (z3 (tEd (tSetEds t (z3 (tEd (tSetEds t (z3 u1 (tEd t 1) (tEd t 2))) 0) u2 (tEd (tSetEds t (z3 u1 (tEd t 1) (tEd t 2))) 2))) 0) (tEd (tSetEds t (z3 (tEd (tSetEds t (z3 u1 (tEd t 1) (tEd t 2))) 0) u2 (tEd (tSetEds t (z3 u1 (tEd t 1) (tEd t 2))) 2))) 1) u3)) u4) 2)), (wN cI (gt 22) (gt 23) u4), (wN cI (gt 26) (gt 27) (tWrs t)), (wSo go), (wE cI (gE go 0) (tEd o 0)), (wE cI (gE go 1) (tEd o 1)), (wE cI (gE go 2) (tEd o 2)), (wN cI (go 22) (go 23) (tLog o)), (wN cI (go 26) (go 27) (tWrs o))] [] rfl rfl ?_
  refine z_perm C [(wSo gt), (wE cI (gE gt 0) (tEd (tSetLog (tSetEds t (z3 (tEd (tSetEds t (z3 (tEd (tSetEds t (z3 u1 (tEd t 1) (tEd t 2))) 0) u2 (tEd (tSetEds t (z3 u1 (tEd t 1) (tEd t 2))) 2))) 0) (tEd (tSetEds t (z3 (tEd (tSetEds t (z3 u1 (tEd t 1) (tEd t 2))) 0) u2 (tEd (tSetEds t (z3 u1 (tEd t 1) (tEd t 2))) 2))) 1) u3)) u4) 0)), (wE cI (gE gt 1) (tEd (tSetLog (tSetEds t (z3 (tEd (tSetEds t (z3 (tEd (tSetEds t (z3 u1 (tEd t 1) (tEd t 2))) 0) u2 (tEd (tSetEds t (z3 u1 (tEd t 1) (tEd t 2))) 2))) 0) (tEd (tSetEds t (z3 (tEd (tSetEds t (z3 u1 (tEd t 1) (tEd t 2))) 0) u2 (tEd (tSetEds t (z3 u1 (tEd t 1) (tEd t 2))) 2))) 1) u3)) u4) 1)), (wE cI (gE gt 2) (tEd (tSetLog (tSetEds t (z3 (tEd (tSetEds t (z3 (tEd (tSetEds t (z3 u1 (tEd t 1) (tEd t 2))) 0) u2 (tEd (tSetEds t (z3 u1 (tEd t 1) (tEd t 2))) 2))) 0) (tEd (tSetEds t (z3 (tEd (tSetEds t (z3 u1 (tEd t 1) (tEd t 2))) 0) u2 (tEd (tSetEds t (z3 u1 (tEd t 1) (tEd t 2))) 2))) 1) u3)) u4) 2)), (wN cI (gt 22) (gt 23) u4), (wN cI (gt 24) (gt 25) u5), (wN cI (gt 26) (gt 27) (tWrs t)), (wSo go), (wE cI (gE go 0) (tEd o 0)), (wE cI (gE go 1) (tEd o 1)), (wE cI (gE go 2) (tEd o 2)), (wN cI (go 22) (go 23) (tLog o)), (wN cI (go 24) (go 25) (tText o)), (wN cI (go 26) (go 27) (tWrs o))] (z_pm [2, 3, 4, 5, 6, 0, 7, 8, 9, 10, 11, 12, 1, 13] 14 rfl (by decide) rfl) ?_
  refine z_shut 7 [(wSo go), (wE cI (gE go 0) (tEd o 0)), (wE cI (gE go 1) (tEd o 1)), (wE cI (gE go 2) (tEd o 2)), (wN cI (go 22) (go 23) (tLog o)), (wN cI (go 24) (go 25) (tText o)), (wN cI (go 26) (go 27) (tWrs o))] [(wSo gt), (wE cI (gE gt 0) (tEd (tSetLog (tSetEds t (z3 (tEd (tSetEds t (z3 (tEd (tSetEds t (z3 u1 (tEd t 1) (tEd t 2))) 0) u2 (tEd (tSetEds t (z3 u1 (tEd t 1) (tEd t 2))) 2))) 0) (tEd (tSetEds t (z3 (tEd (tSetEds t (z3 u1 (tEd t 1) (tEd t 2))) 0) u2 (tEd (tSetEds t (z3 u1 (tEd t 1) (tEd t 2))) 2))) 1) u3)) u4) 0)), (wE cI (gE gt 1) (tEd (tSetLog (tSetEds t (z3 (tEd (tSetEds t (z3 (tEd (tSetEds t (z3 u1 (tEd t 1) (tEd t 2))) 0) u2 (tEd (tSetEds t (z3 u1 (tEd t 1) (tEd t 2))) 2))) 0) (tEd (tSetEds t (z3 (tEd (tSetEds t (z3 u1 (tEd t 1) (tEd t 2))) 0) u2 (tEd (tSetEds t (z3 u1 (tEd t 1) (tEd t 2))) 2))) 1) u3)) u4) 1)), (wE cI (gE gt 2) (tEd (tSetLog (tSetEds t (z3 (tEd (tSetEds t (z3 (tEd (tSetEds t (z3 u1 (tEd t 1) (tEd t 2))) 0) u2 (tEd (tSetEds t (z3 u1 (tEd t 1) (tEd t 2))) 2))) 0) (tEd (tSetEds t (z3 (tEd (tSetEds t (z3 u1 (tEd t 1) (tEd t 2))) 0) u2 (tEd (tSetEds t (z3 u1 (tEd t 1) (tEd t 2))) 2))) 1) u3)) u4) 2)), (wN cI (gt 22) (gt 23) u4), (wN cI (gt 24) (gt 25) u5), (wN cI (gt 26) (gt 27) (tWrs t)), (wS cI go o)] rfl rfl rfl ?_
  refine z_shut 0 [(wSo gt), (wE cI (gE gt 0) (tEd (tSetLog (tSetEds t (z3 (tEd (tSetEds t (z3 (tEd (tSetEds t (z3 u1 (tEd t 1) (tEd t 2))) 0) u2 (tEd (tSetEds t (z3 u1 (tEd t 1) (tEd t 2))) 2))) 0) (tEd (tSetEds t (z3 (tEd (tSetEds t (z3 u1 (tEd t 1) (tEd t 2))) 0) u2 (tEd (tSetEds t (z3 u1 (tEd t 1) (tEd t 2))) 2))) 1) u3)) u4) 0)), (wE cI (gE gt 1) (tEd (tSetLog (tSetEds t (z3 (tEd (tSetEds t (z3 (tEd (tSetEds t (z3 u1 (tEd t 1) (tEd t 2))) 0) u2 (tEd (tSetEds t (z3 u1 (tEd t 1) (tEd t 2))) 2))) 0) (tEd (tSetEds t (z3 (tEd (tSetEds t (z3 u1 (tEd t 1) (tEd t 2))) 0) u2 (tEd (tSetEds t (z3 u1 (tEd t 1) (tEd t 2))) 2))) 1) u3)) u4) 1)), (wE cI (gE gt 2) (tEd (tSetLog (tSetEds t (z3 (tEd (tSetEds t (z3 (tEd (tSetEds t (z3 u1 (tEd t 1) (tEd t 2))) 0) u2 (tEd (tSetEds t (z3 u1 (tEd t 1) (tEd t 2))) 2))) 0) (tEd (tSetEds t (z3 (tEd (tSetEds t (z3 u1 (tEd t 1) (tEd t 2))) 0) u2 (tEd (tSetEds t (z3 u1 (tEd t 1) (tEd t 2))) 2))) 1) u3)) u4) 2)), (wN cI (gt 22) (gt 23) u4), (wN cI (gt 24) (gt 25) u5), (wN cI (gt 26) (gt 27) (tWrs t))] [(wS cI gt (tSetText (tSetLog (tSetEds t (z3 (tEd (tSetEds t (z3 (tEd (tSetEds t (z3 u1 (tEd t 1) (tEd t 2))) 0) u2 (tEd (tSetEds t (z3 u1 (tEd t 1) (tEd t 2))) 2))) 0) (tEd (tSetEds t (z3 (tEd (tSetEds t (z3 u1 (tEd t 1) (tEd t 2))) 0) u2 (tEd (tSetEds t (z3 u1 (tEd t 1) (tEd t 2))) 2))) 1) u3)) u4) u5)), (wS cI go o)] rfl rfl rfl ?_
  refine z_aload_n C dX5_copyState_55 rfl ?_
  refine z_get C inlX5 rfl 5 (by decide) mw_2_15 dX5_copyState_56 0 0 rfl rfl rfl ?_
  refine z_aload_n C dX5_copyState_59 rfl ?_
  refine z_get C inlX5 rfl 5 (by decide) mw_2_15 dX5_copyState_60 1 0 rfl rfl rfl ?_
  refine z_open 0 [(wSo gt), (wE cI (gE gt 0) (tEd (tSetText (tSetLog (tSetEds t (z3 (tEd (tSetEds t (z3 (tEd (tSetEds t (z3 u1 (tEd t 1) (tEd t 2))) 0) u2 (tEd (tSetEds t (z3 u1 (tEd t 1) (tEd t 2))) 2))) 0) (tEd (tSetEds t (z3 (tEd (tSetEds t (z3 u1 (tEd t 1) (tEd t 2))) 0) u2 (tEd (tSetEds t (z3 u1 (tEd t 1) (tEd t 2))) 2))) 1) u3)) u4) u5) 0)), (wE cI (gE gt 1) (tEd (tSetText (tSetLog (tSetEds t (z3 (tEd (tSetEds t (z3 (tEd (tSetEds t (z3 u1 (tEd t 1) (tEd t 2))) 0) u2 (tEd (tSetEds t (z3 u1 (tEd t 1) (tEd t 2))) 2))) 0) (tEd (tSetEds t (z3 (tEd (tSetEds t (z3 u1 (tEd t 1) (tEd t 2))) 0) u2 (tEd (tSetEds t (z3 u1 (tEd t 1) (tEd t 2))) 2))) 1) u3)) u4) u5) 1)), (wE cI (gE gt 2) (tEd (tSetText (tSetLog (tSetEds t (z3 (tEd (tSetEds t (z3 (tEd (tSetEds t (z3 u1 (tEd t 1) (tEd t 2))) 0) u2 (tEd (tSetEds t (z3 u1 (tEd t 1) (tEd t 2))) 2))) 0) (tEd (tSetEds t (z3 (tEd (tSetEds t (z3 u1 (tEd t 1) (tEd t 2))) 0) u2 (tEd (tSetEds t (z3 u1 (tEd t 1) (tEd t 2))) 2))) 1) u3)) u4) u5) 2)), (wN cI (gt 22) (gt 23) u4), (wN cI (gt 24) (gt 25) u5), (wN cI (gt 26) (gt 27) (tWrs t))] [(wSo gt), (wE cI (gE gt 0) (tEd (tSetText (tSetLog (tSetEds t (z3 (tEd (tSetEds t (z3 (tEd (tSetEds t (z3 u1 (tEd t 1) (tEd t 2))) 0) u2 (tEd (tSetEds t (z3 u1 (tEd t 1) (tEd t 2))) 2))) 0) (tEd (tSetEds t (z3 (tEd (tSetEds t (z3 u1 (tEd t 1) (tEd t 2))) 0) u2 (tEd (tSetEds t (z3 u1 (tEd t 1) (tEd t 2))) 2))) 1) u3)) u4) u5) 0)), (wE cI (gE gt 1) (tEd (tSetText (tSetLog (tSetEds t (z3 (tEd (tSetEds t (z3 (tEd (tSetEds t (z3 u1 (tEd t 1) (tEd t 2))) 0) u2 (tEd (tSetEds t (z3 u1 (tEd t 1) (tEd t 2))) 2))) 0) (tEd (tSetEds t (z3 (tEd (tSetEds t (z3 u1 (tEd t 1) (tEd t 2))) 0) u2 (tEd (tSetEds t (z3 u1 (tEd t 1) (tEd t 2))) 2))) 1) u3)) u4) u5) 1)), (wE cI (gE gt 2) (tEd (tSetText (tSetLog (tSetEds t (z3 (tEd (tSetEds t (z3 (tEd (tSetEds t (z3 u1 (tEd t 1) (tEd t 2))) 0) u2 (tEd (tSetEds t (z3 u1 (tEd t 1) (tEd t 2))) 2))) 0) (tEd (tSetEds t (z3 (tEd (tSetEds t (z3 u1 (tEd t 1) (tEd t 2))) 0) u2 (tEd (tSetEds t (z3 u1 (tEd t 1) (tEd t 2))) 2))) 1) u3)) u4) u5) 2)), (wN cI (gt 22) (gt 23) u4), (wN cI (gt 24) (gt 25) u5), (wN cI (gt 26) (gt 27) (tWrs t)), (wS cI go o)] rfl rfl rfl ?_
  refine z_open 7 [(wSo go), (wE cI (gE go 0) (tEd o 0)), (wE cI (gE go 1) (tEd o 1)), (wE cI (gE go 2) (tEd o 2)), (wN cI (go 22) (go 23) (tLog o)), (wN cI (go 24) (go 25) (tText o)), (wN cI (go 26) (go 27) (tWrs o))] [(wSo gt), (wE cI (gE gt 0) (tEd (tSetText (tSetLog (tSetEds t (z3 (tEd (tSetEds t (z3 (tEd (tSetEds t (z3 u1 (tEd t 1) (tEd t 2))) 0) u2 (tEd (tSetEds t (z3 u1 (tEd t 1) (tEd t 2))) 2))) 0) (tEd (tSetEds t (z3 (tEd (tSetEds t (z3 u1 (tEd t 1) (tEd t 2))) 0) u2 (tEd (tSetEds t (z3 u1 (tEd t 1) (tEd t 2))) 2))) 1) u3)) u4) u5) 0)), (wE cI (gE gt 1) (tEd (tSetText (tSetLog (tSetEds t (z3 (tEd (tSetEds t (z3 (tEd (tSetEds t (z3 u1 (tEd t 1) (tEd t 2))) 0) u2 (tEd (tSetEds t (z3 u1 (tEd t 1) (tEd t 2))) 2))) 0) (tEd (tSetEds t (z3 (tEd (tSetEds t (z3 u1 (tEd t 1) (tEd t 2))) 0) u2 (tEd (tSetEds t (z3 u1 (tEd t 1) (tEd t 2))) 2))) 1) u3)) u4) u5) 1)), (wE cI (gE gt 2) (tEd (tSetText (tSetLog (tSetEds t (z3 (tEd (tSetEds t (z3 (tEd (tSetEds t (z3 u1 (tEd t 1) (tEd t 2))) 0) u2 (tEd (tSetEds t (z3 u1 (tEd t 1) (tEd t 2))) 2))) 0) (tEd (tSetEds t (z3 (tEd (tSetEds t (z3 u1 (tEd t 1) (tEd t 2))) 0) u2 (tEd (tSetEds t (z3 u1 (tEd t 1) (tEd t 2))) 2))) 1) u3)) u4) u5) 2)), (wN cI (gt 22) (gt 23) u4), (wN cI (gt 24) (gt 25) u5), (wN cI (gt 26) (gt 27) (tWrs t)), (wSo go), (wE cI (gE go 0) (tEd o 0)), (wE cI (gE go 1) (tEd o 1)), (wE cI (gE go 2) (tEd o 2)), (wN cI (go 22) (go 23) (tLog o)), (wN cI (go 24) (go 25) (tText o)), (wN cI (go 26) (go 27) (tWrs o))] rfl rfl rfl ?_
  refine z_callV0 C [(wN cI (gt 26) (gt 27) (tWrs t)), (wN cI (go 26) (go 27) (tWrs o))] [(wSo gt), (wE cI (gE gt 0) (tEd (tSetText (tSetLog (tSetEds t (z3 (tEd (tSetEds t (z3 (tEd (tSetEds t (z3 u1 (tEd t 1) (tEd t 2))) 0) u2 (tEd (tSetEds t (z3 u1 (tEd t 1) (tEd t 2))) 2))) 0) (tEd (tSetEds t (z3 (tEd (tSetEds t (z3 u1 (tEd t 1) (tEd t 2))) 0) u2 (tEd (tSetEds t (z3 u1 (tEd t 1) (tEd t 2))) 2))) 1) u3)) u4) u5) 0)), (wE cI (gE gt 1) (tEd (tSetText (tSetLog (tSetEds t (z3 (tEd (tSetEds t (z3 (tEd (tSetEds t (z3 u1 (tEd t 1) (tEd t 2))) 0) u2 (tEd (tSetEds t (z3 u1 (tEd t 1) (tEd t 2))) 2))) 0) (tEd (tSetEds t (z3 (tEd (tSetEds t (z3 u1 (tEd t 1) (tEd t 2))) 0) u2 (tEd (tSetEds t (z3 u1 (tEd t 1) (tEd t 2))) 2))) 1) u3)) u4) u5) 1)), (wE cI (gE gt 2) (tEd (tSetText (tSetLog (tSetEds t (z3 (tEd (tSetEds t (z3 (tEd (tSetEds t (z3 u1 (tEd t 1) (tEd t 2))) 0) u2 (tEd (tSetEds t (z3 u1 (tEd t 1) (tEd t 2))) 2))) 0) (tEd (tSetEds t (z3 (tEd (tSetEds t (z3 u1 (tEd t 1) (tEd t 2))) 0) u2 (tEd (tSetEds t (z3 u1 (tEd t 1) (tEd t 2))) 2))) 1) u3)) u4) u5) 2)), (wN cI (gt 22) (gt 23) u4), (wN cI (gt 24) (gt 25) u5), (wSo go), (wE cI (gE go 0) (tEd o 0)), (wE cI (gE go 1) (tEd o 1)), (wE cI (gE go 2) (tEd o 2)), (wN cI (go 22) (go 23) (tLog o)), (wN cI (go 24) (go 25) (tText o))] rfl rfl (met_X4_copyNumbers l D cI (gt 26) (gt 27) (go 26) (go 27) (tWrs t) (tWrs o) _ hw) y_X4_copyNumbers mw_7_6 dX5_copyState_63 rfl n_X4_copyNumbers rfl (by decide) ⟨rfl, rfl, Nat.le_of_ble_eq_true rfl, Nat.le_of_ble_eq_true rfl⟩ (Nat.le_of_ble_eq_true rfl) (z_pm [6, 13, 0, 1, 2, 3, 4, 5, 7, 8, 9, 10, 11, 12] 14 rfl (by decide) rfl) ?_
  intro u6 hw
  try dsimp only at hw
  refine z_bs [(wN cI (gt 26) (gt 27) u6), (wN cI (go 26) (go 27) (tWrs o)), (wSo gt), (wE cI (gE gt 0) (tEd (tSetText (tSetLog (tSetEds t (z3 (tEd (tSetEds t (z3 (tEd (tSetEds t (z3 u1 (tEd t 1) (tEd t 2))) 0) u2 (tEd (tSetEds t (z3 u1 (tEd t 1) (tEd t 2))) 2))) 0) (tEd (tSetEds t (z3 (tEd (tSetEds t (z3 u1 (tEd t 1) (tEd t 2))) 0) u2 (tEd (tSetEds t (z3 u1 (tEd t 1) (tEd t 2))) 2))) 1) u3)) u4) u5) 0)), (wE cI (gE gt 1) (tEd (tSetText (tSetLog (tSetEds t (z3 (tEd (tSetEds t (z3 (tEd (tSetEds t (z3 u1 (tEd t 1) (tEd t 2))) 0) u2 (tEd (tSetEds t (z3 u1 (tEd t 1) (tEd t 2))) 2))) 0) (tEd (tSetEds t (z3 (tEd (tSetEds t (z3 u1 (tEd t 1) (tEd t 2))) 0) u2 (tEd (tSetEds t (z3 u1 (tEd t 1) (tEd t 2))) 2))) 1) u3)) u4) u5) 1)), (wE cI (gE gt 2) (tEd (tSetText (tSetLog (tSetEds t (z3 (tEd (tSetEds t (z3 (tEd (tSetEds t (z3 u1 (tEd t 1) (tEd t 2))) 0) u2 (tEd (tSetEds t (z3 u1 (tEd t 1) (tEd t 2))) 2))) 0) (tEd (tSetEds t (z3 (tEd (tSetEds t (z3 u1 (tEd t 1) (tEd t 2))) 0) u2 (tEd (tSetEds t (z3 u1 (tEd t 1) (tEd t 2))) 2))) 1) u3)) u4) u5) 2)), (wN cI (gt 22) (gt 23) u4), (wN cI (gt 24) (gt 25) u5), (wSo go), (wE cI (gE go 0) (tEd o 0)), (wE cI (gE go 1) (tEd o 1)), (wE cI (gE go 2) (tEd o 2)), (wN cI (go 22) (go 23) (tLog o)), (wN cI (go 24) (go 25) (tText o))] [] rfl rfl ?_
  refine z_perm C [(wSo gt), (wE cI (gE gt 0) (tEd (tSetText (tSetLog (tSetEds t (z3 (tEd (tSetEds t (z3 (tEd (tSetEds t (z3 u1 (tEd t 1) (tEd t 2))) 0) u2 (tEd (tSetEds t (z3 u1 (tEd t 1) (tEd t 2))) 2))) 0) (tEd (tSetEds t (z3 (tEd (tSetEds t (z3 u1 (tEd t 1) (tEd t 2))) 0) u2 (tEd (tSetEds t (z3 u1 (tEd t 1) (tEd t 2))) 2))) 1) u3)) u4) u5) 0)), (wE cI (gE gt 1) (tEd (tSetText (tSetLog (tSetEds t (z3 (tEd (tSetEds t (z3 (tEd (tSetEds t (z3 u1 (tEd t 1) (tEd t 2))) 0) u2 (tEd (tSetEds t (z3 u1 (tEd t 1) (tEd t 2))) 2))) 0) (tEd (tSetEds t (z3 (tEd (tSetEds t (z3 u1 (tEd t 1) (tEd t 2))) 0) u2 (tEd (tSetEds t (z3 u1 (tEd t 1) (tEd t 2))) 2))) 1) u3)) u4) u5) 1)), (wE cI (gE gt 2) (tEd (tSetText (tSetLog (tSetEds t (z3 (tEd (tSetEds t (z3 (tEd (tSetEds t (z3 u1 (tEd t 1) (tEd t 2))) 0) u2 (tEd (tSetEds t (z3 u1 (tEd t 1) (tEd t 2))) 2))) 0) (tEd (tSetEds t (z3 (tEd (tSetEds t (z3 u1 (tEd t 1) (tEd t 2))) 0) u2 (tEd (tSetEds t (z3 u1 (tEd t 1) (tEd t 2))) 2))) 1) u3)) u4) u5) 2)), (wN cI (gt 22) (gt 23) u4), (wN cI (gt 24) (gt 25) u5), (wN cI (gt 26) (gt 27) u6), (wSo go), (wE cI (gE go 0) (tEd o 0)), (wE cI (gE go 1) (tEd o 1)), (wE cI (gE go 2) (tEd o 2)), (wN cI (go 22) (go 23) (tLog o)), (wN cI (go 24) (go 25) (tText o)), (wN cI (go 26) (go 27) (tWrs o))] (z_pm [2, 3, 4, 5, 6, 7, 0, 8, 9, 10, 11, 12, 13, 1] 14 rfl (by decide) rfl) ?_
  refine z_shut 7 [(wSo go), (wE cI (gE go 0) (tEd o 0)), (wE cI (gE go 1) (tEd o 1)), (wE cI (gE go 2) (tEd o 2)), (wN cI (go 22) (go 23) (tLog o)), (wN cI (go 24) (go 25) (tText o)), (wN cI (go 26) (go 27) (tWrs o))] [(wSo gt), (wE cI (gE gt 0) (tEd (tSetText (tSetLog (tSetEds t (z3 (tEd (tSetEds t (z3 (tEd (tSetEds t (z3 u1 (tEd t 1) (tEd t 2))) 0) u2 (tEd (tSetEds t (z3 u1 (tEd t 1) (tEd t 2))) 2))) 0) (tEd (tSetEds t (z3 (tEd (tSetEds t (z3 u1 (tEd t 1) (tEd t 2))) 0) u2 (tEd (tSetEds t (z3 u1 (tEd t 1) (tEd t 2))) 2))) 1) u3)) u4) u5) 0)), (wE cI (gE gt 1) (tEd (tSetText (tSetLog (tSetEds t (z3 (tEd (tSetEds t (z3 (tEd (tSetEds t (z3 u1 (tEd t 1) (tEd t 2))) 0) u2 (tEd (tSetEds t (z3 u1 (tEd t 1) (tEd t 2))) 2))) 0) (tEd (tSetEds t (z3 (tEd (tSetEds t (z3 u1 (tEd t 1) (tEd t 2))) 0) u2 (tEd (tSetEds t (z3 u1 (tEd t 1) (tEd t 2))) 2))) 1) u3)) u4) u5) 1)), (wE cI (gE gt 2) (tEd (tSetText (tSetLog (tSetEds t (z3 (tEd (tSetEds t (z3 (tEd (tSetEds t (z3 u1 (tEd t 1) (tEd t 2))) 0) u2 (tEd (tSetEds t (z3 u1 (tEd t 1) (tEd t 2))) 2))) 0) (tEd (tSetEds t (z3 (tEd (tSetEds t (z3 u1 (tEd t 1) (tEd t 2))) 0) u2 (tEd (tSetEds t (z3 u1 (tEd t 1) (tEd t 2))) 2))) 1) u3)) u4) u5) 2)), (wN cI (gt 22) (gt 23) u4), (wN cI (gt 24) (gt 25) u5), (wN cI (gt 26) (gt 27) u6), (wS cI go o)] rfl rfl rfl ?_
  refine z_shut 0 [(wSo gt), (wE cI (gE gt 0) (tEd (tSetText (tSetLog (tSetEds t (z3 (tEd (tSetEds t (z3 (tEd (tSetEds t (z3 u1 (tEd t 1) (tEd t 2))) 0) u2 (tEd (tSetEds t (z3 u1 (tEd t 1) (tEd t 2))) 2))) 0) (tEd (tSetEds t (z3 (tEd (tSetEds t (z3 u1 (tEd t 1) (tEd t 2))) 0) u2 (tEd (tSetEds t (z3 u1 (tEd t 1) (tEd t 2))) 2))) 1) u3)) u4) u5) 0)), (wE cI (gE gt 1) (tEd (tSetText (tSetLog (tSetEds t (z3 (tEd (tSetEds t (z3 (tEd (tSetEds t (z3 u1 (tEd t 1) (tEd t 2))) 0) u2 (tEd (tSetEds t (z3 u1 (tEd t 1) (tEd t 2))) 2))) 0) (tEd (tSetEds t (z3 (tEd (tSetEds t (z3 u1 (tEd t 1) (tEd t 2))) 0) u2 (tEd (tSetEds t (z3 u1 (tEd t 1) (tEd t 2))) 2))) 1) u3)) u4) u5) 1)), (wE cI (gE gt 2) (tEd (tSetText (tSetLog (tSetEds t (z3 (tEd (tSetEds t (z3 (tEd (tSetEds t (z3 u1 (tEd t 1) (tEd t 2))) 0) u2 (tEd (tSetEds t (z3 u1 (tEd t 1) (tEd t 2))) 2))) 0) (tEd (tSetEds t (z3 (tEd (tSetEds t (z3 u1 (tEd t 1) (tEd t 2))) 0) u2 (tEd (tSetEds t (z3 u1 (tEd t 1) (tEd t 2))) 2))) 1) u3)) u4) u5) 2)), (wN cI (gt 22) (gt 23) u4), (wN cI (gt 24) (gt 25) u5), (wN cI (gt 26) (gt 27) u6)] [(wS cI gt (tSetWrs (tSetText (tSetLog (tSetEds t (z3 (tEd (tSetEds t (z3 (tEd (tSetEds t (z3 u1 (tEd t 1) (tEd t 2))) 0) u2 (tEd (tSetEds t (z3 u1 (tEd t 1) (tEd t 2))) 2))) 0) (tEd (tSetEds t (z3 (tEd (tSetEds t (z3 u1 (tEd t 1) (tEd t 2))) 0) u2 (tEd (tSetEds t (z3 u1 (tEd t 1) (tEd t 2))) 2))) 1) u3)) u4) u5) u6)), (wS cI go o)] rfl rfl rfl ?_
  exact z_vret C rfl ((tSetWrs (tSetText (tSetLog (tSetEds t (z3 (tEd (tSetEds t (z3 (tEd (tSetEds t (z3 u1 (tEd t 1) (tEd t 2))) 0) u2 (tEd (tSetEds t (z3 u1 (tEd t 1) (tEd t 2))) 2))) 0) (tEd (tSetEds t (z3 (tEd (tSetEds t (z3 u1 (tEd t 1) (tEd t 2))) 0) u2 (tEd (tSetEds t (z3 u1 (tEd t 1) (tEd t 2))) 2))) 1) u3)) u4) u5) u6)) rfl hw rfl dX5_copyState_66
def rmX5_copyEndOf : Room := { frames := 4, cells := 0, slots := 0, locals := 98 }
def lb_X5_copyEndOf_89 (t : zT) (o : zT) (p2 : Int32)   (Q : zT → Prop)  (K89 : (Int32) → (zT) → Prop) (v3 : Int32) (w0 : zT) : Prop := ((3 ≤ v3 → (Q w0)) ∧ (¬ 3 ≤ v3 → (wp_X2_hearRest (tEd w0 (ixE v3)) (tLog w0) (fun r4 u5 => (K89 (v3 + 1) (tSetEds w0 (va_up (tEds w0) (ixE v3) u5)))))))
set_option maxHeartbeats 4000000 in
set_option maxRecDepth 100000 in
theorem wk_X5_copyEndOf_89 {p : Program} {l : Launch} {e : Env} {s : State} {m : MethodId} {args : Array Value} {below : List Frame} {meth : Method} {c : Code} {D : va_G} {cI : ClassId} {A : Nat → Prop} (C : ZC p s m args meth c RX5 cX5_copyEndOf 6 none D cI A) (gt : Nat → Nat) (go : Nat → Nat) (t : zT) (o : zT) (p2 : Int32)   (v3 : Int32) (w0 : zT) (Q : zT → Prop)  (hw : zLoop2 (lb_X5_copyEndOf_89 t o p2   Q ) v3 w0) : ZZ p l e rmX5_copyEndOf s m args below meth c D A 6 0 0 (MQ below (ZQ D A (fun _ : zT => none) (fun u : zT => [(wS cI gt u), (wS cI go o)]) (fun u : zT => Q u)) args s rmX5_copyEndOf.cells rmX5_copyEndOf.slots A) [(wS cI gt w0), (wS cI go o)] 89 [some (.ref (gt 0)), none, none, some (.int v3), none, none] [] := by
  refine zLoop2_w (fun (v3 : Int32) (w0 : zT) => ZZ p l e rmX5_copyEndOf s m args below meth c D A 6 0 0 (MQ below (ZQ D A (fun _ : zT => none) (fun u : zT => [(wS cI gt u), (wS cI go o)]) (fun u : zT => Q u)) args s rmX5_copyEndOf.cells rmX5_copyEndOf.slots A) [(wS cI gt w0), (wS cI go o)] 89 [some (.ref (gt 0)), none, none, some (.int v3), none, none] []) ?_ _ _ hw
  clear hw
  intro K89 hK89 v3 w0 hw
  unfold lb_X5_copyEndOf_89 at hw
  refine z_iload_n C dX5_copyEndOf_89 rfl ?_
  refine z_iconst C dX5_copyEndOf_90 3 (by decide +kernel) ?_
  refine z_icmp_ge C dX5_copyEndOf_91 113 (by decide) (fun c3 => ?_) (fun c3 => ?_)
  · replace hw := hw.1 c3
    exact z_vret C rfl (w0) rfl hw rfl dX5_copyEndOf_113
  · replace hw := hw.2 c3
    refine z_aload_n C dX5_copyEndOf_94 rfl ?_
    refine z_iload_n C dX5_copyEndOf_95 rfl ?_
    refine z_callFV C [(wS cI gt w0)] [(wS cI go o)] rfl rfl (met_X5_editor l D cI gt w0 v3) y_X5_editor mw_7_11 dX5_copyEndOf_96 rfl n_X5_editor rfl (by decide) ⟨rfl, rfl, Nat.le_of_ble_eq_true rfl, Nat.le_of_ble_eq_true rfl⟩ (Nat.le_of_ble_eq_true rfl) (z_pm [0, 1] 2 rfl (by decide) rfl) ?_
    refine z_aload_n C dX5_copyEndOf_99 rfl ?_
    refine z_get C inlX5 rfl 3 (by decide) mw_2_13 dX5_copyEndOf_100 0 0 rfl rfl rfl ?_
    refine z_focus 0 (ixE_lt _) [(wF cI gt w0 (ixE v3) (tEd w0 (ixE v3))), (wS cI go o)] rfl rfl ?_
    refine z_open 0 [(wSo gt), (wE cI (gE gt (ixE v3)) (tEd w0 (ixE v3))), (wN cI (gt 22) (gt 23) (tLog w0)), (wN cI (gt 24) (gt 25) (tText w0)), (wN cI (gt 26) (gt 27) (tWrs w0)), (wR cI gt w0 (ixE v3))] [(wSo gt), (wE cI (gE gt (ixE v3)) (tEd w0 (ixE v3))), (wN cI (gt 22) (gt 23) (tLog w0)), (wN cI (gt 24) (gt 25) (tText w0)), (wN cI (gt 26) (gt 27) (tWrs w0)), (wR cI gt w0 (ixE v3)), (wS cI go o)] rfl rfl rfl ?_
    refine z_callV0 C [(wE cI (gE gt (ixE v3)) (tEd w0 (ixE v3))), (wN cI (gt 22) (gt 23) (tLog w0))] [(wSo gt), (wN cI (gt 24) (gt 25) (tText w0)), (wN cI (gt 26) (gt 27) (tWrs w0)), (wR cI gt w0 (ixE v3)), (wS cI go o)] rfl rfl (met_X2_hearRest l D cI (gE gt (ixE v3)) (gt 22) (gt 23) (tEd w0 (ixE v3)) (tLog w0) _ hw) y_X2_hearRest mw_11_17 dX5_copyEndOf_103 rfl n_X2_hearRest rfl (by decide) ⟨rfl, rfl, Nat.le_of_ble_eq_true rfl, Nat.le_of_ble_eq_true rfl⟩ (Nat.le_of_ble_eq_true rfl) (z_pm [1, 2, 0, 3, 4, 5, 6] 7 rfl (by decide) rfl) ?_
    intro ⟨r4, u5⟩ hw
    try dsimp only at hw
    refine z_bs [(wE cI (gE gt (ixE v3)) u5), (wN cI (gt 22) (gt 23) (tLog w0)), (wSo gt), (wN cI (gt 24) (gt 25) (tText w0)), (wN cI (gt 26) (gt 27) (tWrs w0)), (wR cI gt w0 (ixE v3)), (wS cI go o)] [.int r4] rfl rfl ?_
    refine z_perm C [(wSo gt), (wE cI (gE gt (ixE v3)) u5), (wN cI (gt 22) (gt 23) (tLog w0)), (wN cI (gt 24) (gt 25) (tText w0)), (wN cI (gt 26) (gt 27) (tWrs w0)), (wR cI gt w0 (ixE v3)), (wS cI go o)] (z_pm [2, 0, 1, 3, 4, 5, 6] 7 rfl (by decide) rfl) ?_
    refine z_shut 0 [(wSo gt), (wE cI (gE gt (ixE v3)) u5), (wN cI (gt 22) (gt 23) (tLog w0)), (wN cI (gt 24) (gt 25) (tText w0)), (wN cI (gt 26) (gt 27) (tWrs w0)), (wR cI gt w0 (ixE v3))] [(wF cI gt w0 (ixE v3) u5), (wS cI go o)] rfl rfl rfl ?_
    refine z_pop C dX5_copyEndOf_106 rfl ?_
    refine z_iinc C dX5_copyEndOf_107 rfl (v3 + 1) (by rfl) [some (.ref (gt 0)), none, none, some (.int (v3 + 1)), none, none] (by decide) rfl ?_
    refine z_goto C dX5_copyEndOf_110 89 (by decide) ?_
    refine z_unfocus 0 (ixE_lt _) (tSetEds w0 (va_up (tEds w0) (ixE v3) u5)) [(wS cI gt (tSetEds w0 (va_up (tEds w0) (ixE v3) u5))), (wS cI go o)] rfl rfl rfl ?_
    exact hK89 _ _ hw
def lb_X5_copyEndOf_32 (t : zT) (o : zT) (p2 : Int32) (v3 : Int32) (s24_0 : Int32) (Q : zT → Prop) (K7 : (Int32) → (zT) → Prop) (K32 : (Int32) → (zT) → Prop) (v5 : Int32) (w0 : zT) : Prop := ((6 < v5 → (K7 (v3 + 1) w0)) ∧ (¬ 6 < v5 → ((¬ (f_X2_isSettled (tEd w0 (ixE s24_0)) (tLog w0)) = 0 → (K7 (v3 + 1) w0)) ∧ ((f_X2_isSettled (tEd w0 (ixE s24_0)) (tLog w0)) = 0 → (((f_X2_canSend (tEd w0 (ixE s24_0))) = 0 → (wp_X2_hearRest (tEd w0 (ixE s24_0)) (tLog w0) (fun r10 u11 => (K32 (v5 + 1) (tSetEds w0 (va_up (tEds w0) (ixE s24_0) u11)))))) ∧ (¬ (f_X2_canSend (tEd w0 (ixE s24_0))) = 0 → (wp_X5_append (ixE s24_0) w0 (fun u12 => (wp_X2_hearRest (tEd u12 (ixE s24_0)) (tLog u12) (fun r13 u14 => (K32 (v5 + 1) (tSetEds u12 (va_up (tEds u12) (ixE s24_0) u14)))))))))))))
set_option maxHeartbeats 4000000 in
set_option maxRecDepth 100000 in
theorem wk_X5_copyEndOf_32 {p : Program} {l : Launch} {e : Env} {s : State} {m : MethodId} {args : Array Value} {below : List Frame} {meth : Method} {c : Code} {D : va_G} {cI : ClassId} {A : Nat → Prop} (C : ZC p s m args meth c RX5 cX5_copyEndOf 6 none D cI A) (gt : Nat → Nat) (go : Nat → Nat) (t : zT) (o : zT) (p2 : Int32) (v3 : Int32) (s24_0 : Int32) (v5 : Int32) (w0 : zT) (Q : zT → Prop) (K7 : (Int32) → (zT) → Prop) (hK7 : ∀ (v3 : Int32) (w0 : zT), K7 v3 w0 → ZZ p l e rmX5_copyEndOf s m args below meth c D A 6 0 0 (MQ below (ZQ D A (fun _ : zT => none) (fun u : zT => [(wS cI gt u), (wS cI go o)]) (fun u : zT => Q u)) args s rmX5_copyEndOf.cells rmX5_copyEndOf.slots A) [(wS cI gt w0), (wS cI go o)] 7 [some (.ref (gt 0)), none, some (.int p2), some (.int v3), none, none] []) (hw : zLoop2 (lb_X5_copyEndOf_32 t o p2 v3 s24_0 Q K7) v5 w0) : ZZ p l e rmX5_copyEndOf s m args below meth c D A 6 0 0 (MQ below (ZQ D A (fun _ : zT => none) (fun u : zT => [(wS cI gt u), (wS cI go o)]) (fun u : zT => Q u)) args s rmX5_copyEndOf.cells rmX5_copyEndOf.slots A) [(wS cI gt w0), (wS cI go o)] 32 [some (.ref (gt 0)), none, some (.int p2), some (.int v3), some (.ref ((gE gt (ixE s24_0)) 0)), some (.int v5)] [] := by
  refine zLoop2_w (fun (v5 : Int32) (w0 : zT) => ZZ p l e rmX5_copyEndOf s m args below meth c D A 6 0 0 (MQ below (ZQ D A (fun _ : zT => none) (fun u : zT => [(wS cI gt u), (wS cI go o)]) (fun u : zT => Q u)) args s rmX5_copyEndOf.cells rmX5_copyEndOf.slots A) [(wS cI gt w0), (wS cI go o)] 32 [some (.ref (gt 0)), none, some (.int p2), some (.int v3), some (.ref ((gE gt (ixE s24_0)) 0)), some (.int v5)] []) ?_ _ _ hw
  clear hw
  intro K32 hK32 v5 w0 hw
  unfold lb_X5_copyEndOf_32 at hw
  refine z_iload C dX5_copyEndOf_32 rfl ?_
  refine z_bipush C dX5_copyEndOf_34 6 (by decide +kernel) ?_
  refine z_icmp_gt C dX5_copyEndOf_36 81 (by decide) (fun c7 => ?_) (fun c7 => ?_)
  · replace hw := hw.1 c7
    refine z_iinc C dX5_copyEndOf_81 rfl (v3 + 1) (by rfl) [some (.ref (gt 0)), none, some (.int p2), some (.int (v3 + 1)), some (.ref ((gE gt (ixE s24_0)) 0)), some (.int v5)] (by decide) rfl ?_
    refine z_goto C dX5_copyEndOf_84 7 (by decide) ?_
    refine z_ls C [true, false, true, true, false, false] [some (.ref (gt 0)), none, some (.int p2), some (.int (v3 + 1)), none, none] rfl ?_
    exact hK7 _ _ hw
  · replace hw := hw.2 c7
    refine z_aload C dX5_copyEndOf_39 rfl ?_
    refine z_aload_n C dX5_copyEndOf_41 rfl ?_
    refine z_get C inlX5 rfl 3 (by decide) mw_2_13 dX5_copyEndOf_42 0 0 rfl rfl rfl ?_
    refine z_focus 0 (ixE_lt _) [(wF cI gt w0 (ixE s24_0) (tEd w0 (ixE s24_0))), (wS cI go o)] rfl rfl ?_
    refine z_open 0 [(wSo gt), (wE cI (gE gt (ixE s24_0)) (tEd w0 (ixE s24_0))), (wN cI (gt 22) (gt 23) (tLog w0)), (wN cI (gt 24) (gt 25) (tText w0)), (wN cI (gt 26) (gt 27) (tWrs w0)), (wR cI gt w0 (ixE s24_0))] [(wSo gt), (wE cI (gE gt (ixE s24_0)) (tEd w0 (ixE s24_0))), (wN cI (gt 22) (gt 23) (tLog w0)), (wN cI (gt 24) (gt 25) (tText w0)), (wN cI (gt 26) (gt 27) (tWrs w0)), (wR cI gt w0 (ixE s24_0)), (wS cI go o)] rfl rfl rfl ?_
    refine z_callFV C [(wE cI (gE gt (ixE s24_0)) (tEd w0 (ixE s24_0))), (wN cI (gt 22) (gt 23) (tLog w0))] [(wSo gt), (wN cI (gt 24) (gt 25) (tText w0)), (wN cI (gt 26) (gt 27) (tWrs w0)), (wR cI gt w0 (ixE s24_0)), (wS cI go o)] rfl rfl (met_X2_isSettled l D cI (gE gt (ixE s24_0)) (gt 22) (gt 23) (tEd w0 (ixE s24_0)) (tLog w0)) y_X2_isSettled mw_14_0 dX5_copyEndOf_45 rfl n_X2_isSettled rfl (by decide) ⟨rfl, rfl, Nat.le_of_ble_eq_true rfl, Nat.le_of_ble_eq_true rfl⟩ (Nat.le_of_ble_eq_true rfl) (z_pm [1, 2, 0, 3, 4, 5, 6] 7 rfl (by decide) rfl) ?_
    refine z_shut 0 [(wSo gt), (wE cI (gE gt (ixE s24_0)) (tEd w0 (ixE s24_0))), (wN cI (gt 22) (gt 23) (tLog w0)), (wN cI (gt 24) (gt 25) (tText w0)), (wN cI (gt 26) (gt 27) (tWrs w0)), (wR cI gt w0 (ixE s24_0))] [(wF cI gt w0 (ixE s24_0) (tEd w0 (ixE s24_0))), (wS cI go o)] rfl rfl rfl ?_
    refine z_if_ne C dX5_copyEndOf_48 81 (by decide) (fun c8 => ?_) (fun c8 => ?_)
    · replace hw := hw.1 c8
      refine z_iinc C dX5_copyEndOf_81 rfl (v3 + 1) (by rfl) [some (.ref (gt 0)), none, some (.int p2), some (.int (v3 + 1)), some (.ref ((gE gt (ixE s24_0)) 0)), some (.int v5)] (by decide) rfl ?_
      refine z_goto C dX5_copyEndOf_84 7 (by decide) ?_
      refine z_unfocus 0 (ixE_lt _) w0 [(wS cI gt w0), (wS cI go o)] (tSetEd_same _ _) rfl rfl ?_
      refine z_ls C [true, false, true, true, false, false] [some (.ref (gt 0)), none, some (.int p2), some (.int (v3 + 1)), none, none] rfl ?_
      exact hK7 _ _ hw
    · replace hw := hw.2 c8
      refine z_aload C dX5_copyEndOf_51 rfl ?_
      refine z_open 0 [(wSo gt), (wE cI (gE gt (ixE s24_0)) (tEd w0 (ixE s24_0))), (wN cI (gt 22) (gt 23) (tLog w0)), (wN cI (gt 24) (gt 25) (tText w0)), (wN cI (gt 26) (gt 27) (tWrs w0)), (wR cI gt w0 (ixE s24_0))] [(wSo gt), (wE cI (gE gt (ixE s24_0)) (tEd w0 (ixE s24_0))), (wN cI (gt 22) (gt 23) (tLog w0)), (wN cI (gt 24) (gt 25) (tText w0)), (wN cI (gt 26) (gt 27) (tWrs w0)), (wR cI gt w0 (ixE s24_0)), (wS cI go o)] rfl rfl rfl ?_
      refine z_callFV C [(wE cI (gE gt (ixE s24_0)) (tEd w0 (ixE s24_0)))] [(wSo gt), (wN cI (gt 22) (gt 23) (tLog w0)), (wN cI (gt 24) (gt 25) (tText w0)), (wN cI (gt 26) (gt 27) (tWrs w0)), (wR cI gt w0 (ixE s24_0)), (wS cI go o)] rfl rfl (met_X2_canSend l D cI (gE gt (ixE s24_0)) (tEd w0 (ixE s24_0))) y_X2_canSend mw_10_7 dX5_copyEndOf_53 rfl n_X2_canSend rfl (by decide) ⟨rfl, rfl, Nat.le_of_ble_eq_true rfl, Nat.le_of_ble_eq_true rfl⟩ (Nat.le_of_ble_eq_true rfl) (z_pm [1, 0, 2, 3, 4, 5, 6] 7 rfl (by decide) rfl) ?_
      refine z_shut 0 [(wSo gt), (wE cI (gE gt (ixE s24_0)) (tEd w0 (ixE s24_0))), (wN cI (gt 22) (gt 23) (tLog w0)), (wN cI (gt 24) (gt 25) (tText w0)), (wN cI (gt 26) (gt 27) (tWrs w0)), (wR cI gt w0 (ixE s24_0))] [(wF cI gt w0 (ixE s24_0) (tEd w0 (ixE s24_0))), (wS cI go o)] rfl rfl rfl ?_
      refine z_if_eq C dX5_copyEndOf_56 65 (by decide) (fun c9 => ?_) (fun c9 => ?_)
      · replace hw := hw.1 c9
        refine z_aload C dX5_copyEndOf_65 rfl ?_
        refine z_aload_n C dX5_copyEndOf_67 rfl ?_
        refine z_get C inlX5 rfl 3 (by decide) mw_2_13 dX5_copyEndOf_68 0 0 rfl rfl rfl ?_
        refine z_open 0 [(wSo gt), (wE cI (gE gt (ixE s24_0)) (tEd w0 (ixE s24_0))), (wN cI (gt 22) (gt 23) (tLog w0)), (wN cI (gt 24) (gt 25) (tText w0)), (wN cI (gt 26) (gt 27) (tWrs w0)), (wR cI gt w0 (ixE s24_0))] [(wSo gt), (wE cI (gE gt (ixE s24_0)) (tEd w0 (ixE s24_0))), (wN cI (gt 22) (gt 23) (tLog w0)), (wN cI (gt 24) (gt 25) (tText w0)), (wN cI (gt 26) (gt 27) (tWrs w0)), (wR cI gt w0 (ixE s24_0)), (wS cI go o)] rfl rfl rfl ?_
        refine z_callV0 C [(wE cI (gE gt (ixE s24_0)) (tEd w0 (ixE s24_0))), (wN cI (gt 22) (gt 23) (tLog w0))] [(wSo gt), (wN cI (gt 24) (gt 25) (tText w0)), (wN cI (gt 26) (gt 27) (tWrs w0)), (wR cI gt w0 (ixE s24_0)), (wS cI go o)] rfl rfl (met_X2_hearRest l D cI (gE gt (ixE s24_0)) (gt 22) (gt 23) (tEd w0 (ixE s24_0)) (tLog w0) _ hw) y_X2_hearRest mw_11_17 dX5_copyEndOf_71 rfl n_X2_hearRest rfl (by decide) ⟨rfl, rfl, Nat.le_of_ble_eq_true rfl, Nat.le_of_ble_eq_true rfl⟩ (Nat.le_of_ble_eq_true rfl) (z_pm [1, 2, 0, 3, 4, 5, 6] 7 rfl (by decide) rfl) ?_
        intro ⟨r10, u11⟩ hw
        try dsimp only at hw
        refine z_bs [(wE cI (gE gt (ixE s24_0)) u11), (wN cI (gt 22) (gt 23) (tLog w0)), (wSo gt), (wN cI (gt 24) (gt 25) (tText w0)), (wN cI (gt 26) (gt 27) (tWrs w0)), (wR cI gt w0 (ixE s24_0)), (wS cI go o)] [.int r10] rfl rfl ?_
        refine z_perm C [(wSo gt), (wE cI (gE gt (ixE s24_0)) u11), (wN cI (gt 22) (gt 23) (tLog w0)), (wN cI (gt 24) (gt 25) (tText w0)), (wN cI (gt 26) (gt 27) (tWrs w0)), (wR cI gt w0 (ixE s24_0)), (wS cI go o)] (z_pm [2, 0, 1, 3, 4, 5, 6] 7 rfl (by decide) rfl) ?_
        refine z_shut 0 [(wSo gt), (wE cI (gE gt (ixE s24_0)) u11), (wN cI (gt 22) (gt 23) (tLog w0)), (wN cI (gt 24) (gt 25) (tText w0)), (wN cI (gt 26) (gt 27) (tWrs w0)), (wR cI gt w0 (ixE s24_0))] [(wF cI gt w0 (ixE s24_0) u11), (wS cI go o)] rfl rfl rfl ?_
        refine z_pop C dX5_copyEndOf_74 rfl ?_
        refine z_iinc C dX5_copyEndOf_75 rfl (v5 + 1) (by rfl) [some (.ref (gt 0)), none, some (.int p2), some (.int v3), some (.ref ((gE gt (ixE s24_0)) 0)), some (.int (v5 + 1))] (by decide) rfl ?_
        refine z_goto C dX5_copyEndOf_78 32 (by decide) ?_
        refine z_unfocus 0 (ixE_lt _) (tSetEds w0 (va_up (tEds w0) (ixE s24_0) u11)) [(wS cI gt (tSetEds w0 (va_up (tEds w0) (ixE s24_0) u11))), (wS cI go o)] rfl rfl rfl ?_
        exact hK32 _ _ hw
      · replace hw := hw.2 c9
        refine z_aload_n C dX5_copyEndOf_59 rfl ?_
        refine z_aload C dX5_copyEndOf_60 rfl ?_
        refine z_unfocus 0 (ixE_lt _) w0 [(wS cI gt w0), (wS cI go o)] (tSetEd_same _ _) rfl rfl ?_
        refine z_callV0 C [(wS cI gt w0)] [(wS cI go o)] rfl rfl (met_X5_append l D cI gt (ixE s24_0) w0 (ixE_lt _) _ hw) y_X5_append mw_10_12 dX5_copyEndOf_62 rfl n_X5_append rfl (by decide) ⟨rfl, rfl, Nat.le_of_ble_eq_true rfl, Nat.le_of_ble_eq_true rfl⟩ (Nat.le_of_ble_eq_true rfl) (z_pm [0, 1] 2 rfl (by decide) rfl) ?_
        intro u12 hw
        try dsimp only at hw
        refine z_bs [(wS cI gt u12), (wS cI go o)] [] rfl rfl ?_
        refine z_aload C dX5_copyEndOf_65 rfl ?_
        refine z_aload_n C dX5_copyEndOf_67 rfl ?_
        refine z_get C inlX5 rfl 3 (by decide) mw_2_13 dX5_copyEndOf_68 0 0 rfl rfl rfl ?_
        refine z_focus 0 (ixE_lt _) [(wF cI gt u12 (ixE s24_0) (tEd u12 (ixE s24_0))), (wS cI go o)] rfl rfl ?_
        refine z_open 0 [(wSo gt), (wE cI (gE gt (ixE s24_0)) (tEd u12 (ixE s24_0))), (wN cI (gt 22) (gt 23) (tLog u12)), (wN cI (gt 24) (gt 25) (tText u12)), (wN cI (gt 26) (gt 27) (tWrs u12)), (wR cI gt u12 (ixE s24_0))] [(wSo gt), (wE cI (gE gt (ixE s24_0)) (tEd u12 (ixE s24_0))), (wN cI (gt 22) (gt 23) (tLog u12)), (wN cI (gt 24) (gt 25) (tText u12)), (wN cI (gt 26) (gt 27) (tWrs u12)), (wR cI gt u12 (ixE s24_0)), (wS cI go o)] rfl rfl rfl ?_
        refine z_callV0 C [(wE cI (gE gt (ixE s24_0)) (tEd u12 (ixE s24_0))), (wN cI (gt 22) (gt 23) (tLog u12))] [(wSo gt), (wN cI (gt 24) (gt 25) (tText u12)), (wN cI (gt 26) (gt 27) (tWrs u12)), (wR cI gt u12 (ixE s24_0)), (wS cI go o)] rfl rfl (met_X2_hearRest l D cI (gE gt (ixE s24_0)) (gt 22) (gt 23) (tEd u12 (ixE s24_0)) (tLog u12) _ hw) y_X2_hearRest mw_11_17 dX5_copyEndOf_71 rfl n_X2_hearRest rfl (by decide) ⟨rfl, rfl, Nat.le_of_ble_eq_true rfl, Nat.le_of_ble_eq_true rfl⟩ (Nat.le_of_ble_eq_true rfl) (z_pm [1, 2, 0, 3, 4, 5, 6] 7 rfl (by decide) rfl) ?_
        intro ⟨r13, u14⟩ hw
        try dsimp only at hw
        refine z_bs [(wE cI (gE gt (ixE s24_0)) u14), (wN cI (gt 22) (gt 23) (tLog u12)), (wSo gt), (wN cI (gt 24) (gt 25) (tText u12)), (wN cI (gt 26) (gt 27) (tWrs u12)), (wR cI gt u12 (ixE s24_0)), (wS cI go o)] [.int r13] rfl rfl ?_
        refine z_perm C [(wSo gt), (wE cI (gE gt (ixE s24_0)) u14), (wN cI (gt 22) (gt 23) (tLog u12)), (wN cI (gt 24) (gt 25) (tText u12)), (wN cI (gt 26) (gt 27) (tWrs u12)), (wR cI gt u12 (ixE s24_0)), (wS cI go o)] (z_pm [2, 0, 1, 3, 4, 5, 6] 7 rfl (by decide) rfl) ?_
        refine z_shut 0 [(wSo gt), (wE cI (gE gt (ixE s24_0)) u14), (wN cI (gt 22) (gt 23) (tLog u12)), (wN cI (gt 24) (gt 25) (tText u12)), (wN cI (gt 26) (gt 27) (tWrs u12)), (wR cI gt u12 (ixE s24_0))] [(wF cI gt u12 (ixE s24_0) u14), (wS cI go o)] rfl rfl rfl ?_
        refine z_pop C dX5_copyEndOf_74 rfl ?_
        refine z_iinc C dX5_copyEndOf_75 rfl (v5 + 1) (by rfl) [some (.ref (gt 0)), none, some (.int p2), some (.int v3), some (.ref ((gE gt (ixE s24_0)) 0)), some (.int (v5 + 1))] (by decide) rfl ?_
        refine z_goto C dX5_copyEndOf_78 32 (by decide) ?_
        refine z_unfocus 0 (ixE_lt _) (tSetEds u12 (va_up (tEds u12) (ixE s24_0) u14)) [(wS cI gt (tSetEds u12 (va_up (tEds u12) (ixE s24_0) u14))), (wS cI go o)] rfl rfl rfl ?_
        exact hK32 _ _ hw
def jn_X5_copyEndOf_24 (t : zT) (o : zT) (p2 : Int32) (v3 : Int32) (w0 : zT) (s24_0 : Int32) (Q : zT → Prop) (K7 : (Int32) → (zT) → Prop) : Prop := (zLoop2 (lb_X5_copyEndOf_32 t o p2 v3 s24_0 Q K7) 0 w0)
set_option maxHeartbeats 4000000 in
set_option maxRecDepth 100000 in
theorem wk_X5_copyEndOf_24 {p : Program} {l : Launch} {e : Env} {s : State} {m : MethodId} {args : Array Value} {below : List Frame} {meth : Method} {c : Code} {D : va_G} {cI : ClassId} {A : Nat → Prop} (C : ZC p s m args meth c RX5 cX5_copyEndOf 6 none D cI A) (gt : Nat → Nat) (go : Nat → Nat) (t : zT) (o : zT) (p2 : Int32) (v3 : Int32) (w0 : zT) (s24_0 : Int32) (Q : zT → Prop) (K7 : (Int32) → (zT) → Prop) (hK7 : ∀ (v3 : Int32) (w0 : zT), K7 v3 w0 → ZZ p l e rmX5_copyEndOf s m args below meth c D A 6 0 0 (MQ below (ZQ D A (fun _ : zT => none) (fun u : zT => [(wS cI gt u), (wS cI go o)]) (fun u : zT => Q u)) args s rmX5_copyEndOf.cells rmX5_copyEndOf.slots A) [(wS cI gt w0), (wS cI go o)] 7 [some (.ref (gt 0)), none, some (.int p2), some (.int v3), none, none] []) (hw : jn_X5_copyEndOf_24 t o p2 v3 w0 s24_0 Q K7) : ZZ p l e rmX5_copyEndOf s m args below meth c D A 6 0 0 (MQ below (ZQ D A (fun _ : zT => none) (fun u : zT => [(wS cI gt u), (wS cI go o)]) (fun u : zT => Q u)) args s rmX5_copyEndOf.cells rmX5_copyEndOf.slots A) [(wS cI gt w0), (wS cI go o)] 24 [some (.ref (gt 0)), none, some (.int p2), some (.int v3), none, none] [.int s24_0, .ref (gt 0)] := by
  unfold jn_X5_copyEndOf_24 at hw
  refine z_callFV C [(wS cI gt w0)] [(wS cI go o)] rfl rfl (met_X5_editor l D cI gt w0 s24_0) y_X5_editor mw_7_11 dX5_copyEndOf_24 rfl n_X5_editor rfl (by decide) ⟨rfl, rfl, Nat.le_of_ble_eq_true rfl, Nat.le_of_ble_eq_true rfl⟩ (Nat.le_of_ble_eq_true rfl) (z_pm [0, 1] 2 rfl (by decide) rfl) ?_
  refine z_astore C dX5_copyEndOf_27 [some (.ref (gt 0)), none, some (.int p2), some (.int v3), some (.ref ((gE gt (ixE s24_0)) 0)), none] (by decide) rfl ?_
  refine z_iconst C dX5_copyEndOf_29 0 (by decide +kernel) ?_
  refine z_istore C dX5_copyEndOf_30 [some (.ref (gt 0)), none, some (.int p2), some (.int v3), some (.ref ((gE gt (ixE s24_0)) 0)), some (.int 0)] (by decide) rfl ?_
  exact wk_X5_copyEndOf_32 C gt go t o p2 v3 s24_0 0 w0 _ K7 hK7 hw
def lb_X5_copyEndOf_7 (t : zT) (o : zT) (p2 : Int32)   (Q : zT → Prop)  (K7 : (Int32) → (zT) → Prop) (v3 : Int32) (w0 : zT) : Prop := ((3 ≤ v3 → (zLoop2 (lb_X5_copyEndOf_89 t o p2   Q ) 0 w0)) ∧ (¬ 3 ≤ v3 → ((p2 = 0 → (jn_X5_copyEndOf_24 t o p2 v3 w0 v3 Q K7)) ∧ (¬ p2 = 0 → (jn_X5_copyEndOf_24 t o p2 v3 w0 (2 - v3) Q K7)))))
set_option maxHeartbeats 4000000 in
set_option maxRecDepth 100000 in
theorem wk_X5_copyEndOf_7 {p : Program} {l : Launch} {e : Env} {s : State} {m : MethodId} {args : Array Value} {below : List Frame} {meth : Method} {c : Code} {D : va_G} {cI : ClassId} {A : Nat → Prop} (C : ZC p s m args meth c RX5 cX5_copyEndOf 6 none D cI A) (gt : Nat → Nat) (go : Nat → Nat) (t : zT) (o : zT) (p2 : Int32)   (v3 : Int32) (w0 : zT) (Q : zT → Prop)  (hw : zLoop2 (lb_X5_copyEndOf_7 t o p2   Q ) v3 w0) : ZZ p l e rmX5_copyEndOf s m args below meth c D A 6 0 0 (MQ below (ZQ D A (fun _ : zT => none) (fun u : zT => [(wS cI gt u), (wS cI go o)]) (fun u : zT => Q u)) args s rmX5_copyEndOf.cells rmX5_copyEndOf.slots A) [(wS cI gt w0), (wS cI go o)] 7 [some (.ref (gt 0)), none, some (.int p2), some (.int v3), none, none] [] := by
  refine zLoop2_w (fun (v3 : Int32) (w0 : zT) => ZZ p l e rmX5_copyEndOf s m args below meth c D A 6 0 0 (MQ below (ZQ D A (fun _ : zT => none) (fun u : zT => [(wS cI gt u), (wS cI go o)]) (fun u : zT => Q u)) args s rmX5_copyEndOf.cells rmX5_copyEndOf.slots A) [(wS cI gt w0), (wS cI go o)] 7 [some (.ref (gt 0)), none, some (.int p2), some (.int v3), none, none] []) ?_ _ _ hw
  clear hw
  intro K7 hK7 v3 w0 hw
  unfold lb_X5_copyEndOf_7 at hw
  refine z_iload_n C dX5_copyEndOf_7 rfl ?_
  refine z_iconst C dX5_copyEndOf_8 3 (by decide +kernel) ?_
  refine z_icmp_ge C dX5_copyEndOf_9 87 (by decide) (fun c2 => ?_) (fun c2 => ?_)
  · replace hw := hw.1 c2
    refine z_iconst C dX5_copyEndOf_87 0 (by decide +kernel) ?_
    refine z_istore_n C dX5_copyEndOf_88 [some (.ref (gt 0)), none, some (.int p2), some (.int 0), none, none] (by decide) rfl ?_
    refine z_ls C [true, false, false, true, false, false] [some (.ref (gt 0)), none, none, some (.int 0), none, none] rfl ?_
    exact wk_X5_copyEndOf_89 C gt go t o p2   0 w0 _  hw
  · replace hw := hw.2 c2
    refine z_aload_n C dX5_copyEndOf_12 rfl ?_
    refine z_iload_n C dX5_copyEndOf_13 rfl ?_
    refine z_if_eq C dX5_copyEndOf_14 23 (by decide) (fun c6 => ?_) (fun c6 => ?_)
    · replace hw := hw.1 c6
      refine z_iload_n C dX5_copyEndOf_23 rfl ?_
      exact wk_X5_copyEndOf_24 C gt go t o p2 v3 w0 v3 _ K7 hK7 hw
    · replace hw := hw.2 c6
      refine z_iconst C dX5_copyEndOf_17 2 (by decide +kernel) ?_
      refine z_iload_n C dX5_copyEndOf_18 rfl ?_
      refine z_isub C dX5_copyEndOf_19 ?_
      refine z_goto C dX5_copyEndOf_20 24 (by decide) ?_
      exact wk_X5_copyEndOf_24 C gt go t o p2 v3 w0 (2 - v3) _ K7 hK7 hw
def wp_X5_copyEndOf (t : zT) (o : zT) (p2 : Int32) (Q : zT → Prop) : Prop := (wp_X5_copyState t o (fun u1 => (zLoop2 (lb_X5_copyEndOf_7 t o p2   Q ) 0 u1)))
set_option maxHeartbeats 4000000 in
set_option maxRecDepth 100000 in
theorem met_X5_copyEndOf (l : Launch) (D : va_G) (cI : ClassId) (gt : Nat → Nat) (go : Nat → Nat) (t : zT) (o : zT) (p2 : Int32) (Q : zT → Prop) (hw : wp_X5_copyEndOf t o p2 Q) : ZM l D cI yX5_copyEndOf cX5_copyEndOf 6 none rmX5_copyEndOf [.ref (gt 0), .ref (go 0), .int p2] [(wS cI gt t), (wS cI go o)] (fun _ : zT => none) (fun u : zT => [(wS cI gt u), (wS cI go o)]) (fun u : zT => Q u) := by
  refine z_body [some (.ref (gt 0)), some (.ref (go 0)), some (.int p2), none, none, none] (by decide +kernel) rfl (Nat.le_of_ble_eq_true rfl) rfl ?_
  intro p e s m args below meth c A C hin
  unfold wp_X5_copyEndOf at hw
  refine z_aload_n C dX5_copyEndOf_0 rfl ?_
  refine z_aload_n C dX5_copyEndOf_1 rfl ?_
  refine z_callV0 C [(wS cI gt t), (wS cI go o)] [] rfl rfl (met_X5_copyState l D cI gt go t o _ hw) y_X5_copyState mw_16_10 dX5_copyEndOf_2 rfl n_X5_copyState rfl (by decide) ⟨rfl, rfl, Nat.le_of_ble_eq_true rfl, Nat.le_of_ble_eq_true rfl⟩ (Nat.le_of_ble_eq_true rfl) (z_pm [0, 1] 2 rfl (by decide) rfl) ?_
  intro u1 hw
  try dsimp only at hw
  refine z_bs [(wS cI gt u1), (wS cI go o)] [] rfl rfl ?_
  refine z_iconst C dX5_copyEndOf_5 0 (by decide +kernel) ?_
  refine z_istore_n C dX5_copyEndOf_6 [some (.ref (gt 0)), some (.ref (go 0)), some (.int p2), some (.int 0), none, none] (by decide) rfl ?_
  refine z_ls C [true, false, true, true, false, false] [some (.ref (gt 0)), none, some (.int p2), some (.int 0), none, none] rfl ?_
  exact wk_X5_copyEndOf_7 C gt go t o p2   0 u1 _  hw
def rmX3_prepare : Room := { frames := 4, cells := 0, slots := 0, locals := 89 }
def wp_X3_prepare (hs : Int32) (t : zT) (o : zT)  (Q : zT → Prop) : Prop := (wp_X5_copyState t o (fun u1 => (Q u1)))
set_option maxHeartbeats 4000000 in
set_option maxRecDepth 100000 in
theorem met_X3_prepare (l : Launch) (D : va_G) (cI : ClassId) (ah : Nat) (h0 : Nat) (h1 : Nat) (h2 : Nat) (h3 : Nat) (gt : Nat → Nat) (go : Nat → Nat) (hs : Int32) (t : zT) (o : zT)  (Q : zT → Prop) (hw : wp_X3_prepare hs t o Q) : ZM l D cI yX3_prepare cX3_prepare 2 none rmX3_prepare [.ref ah, .ref (go 0)] [(wHo ah h0 h1 h2 h3 (gt 0) hs), (wS cI gt t), (wS cI go o)] (fun _ : zT => none) (fun u : zT => [(wHo ah h0 h1 h2 h3 (gt 0) hs), (wS cI gt u), (wS cI go o)]) (fun u : zT => Q u) := by
  refine z_body [some (.ref ah), some (.ref (go 0))] (by decide +kernel) rfl (Nat.le_of_ble_eq_true rfl) rfl ?_
  intro p e s m args below meth c A C hin
  unfold wp_X3_prepare at hw
  refine z_aload_n C dX3_prepare_0 rfl ?_
  refine z_get C inlX3 rfl 4 (by decide) mw_3_22 dX3_prepare_1 0 0 rfl rfl rfl ?_
  refine z_aload_n C dX3_prepare_4 rfl ?_
  refine z_callV0 C [(wS cI gt t), (wS cI go o)] [(wHo ah h0 h1 h2 h3 (gt 0) hs)] rfl rfl (met_X5_copyState l D cI gt go t o _ hw) y_X5_copyState mw_6_11 dX3_prepare_5 rfl n_X5_copyState rfl (by decide) ⟨rfl, rfl, Nat.le_of_ble_eq_true rfl, Nat.le_of_ble_eq_true rfl⟩ (Nat.le_of_ble_eq_true rfl) (z_pm [1, 2, 0] 3 rfl (by decide) rfl) ?_
  intro u1 hw
  try dsimp only at hw
  refine z_bs [(wS cI gt u1), (wS cI go o), (wHo ah h0 h1 h2 h3 (gt 0) hs)] [] rfl rfl ?_
  refine z_perm C [(wHo ah h0 h1 h2 h3 (gt 0) hs), (wS cI gt u1), (wS cI go o)] (z_pm [2, 0, 1] 3 rfl (by decide) rfl) ?_
  exact z_vret C rfl (u1) rfl hw rfl dX3_prepare_8
def rmX3_keep : Room := { frames := 1, cells := 0, slots := 0, locals := 24 }
def wp_X3_keep (hs : Int32)  (Q : Int32 → Prop) : Prop := (Q (if 4 < (hs + 1) then 4 else (hs + 1)))
set_option maxHeartbeats 4000000 in
set_option maxRecDepth 100000 in
theorem met_X3_keep (l : Launch) (D : va_G) (cI : ClassId) (ah : Nat) (h0 : Nat) (h1 : Nat) (h2 : Nat) (h3 : Nat) (h4 : Nat) (hs : Int32)  (Q : Int32 → Prop) (hw : wp_X3_keep hs Q) : ZM l D cI yX3_keep cX3_keep 2 none rmX3_keep [.ref ah] [(wHo ah h0 h1 h2 h3 h4 hs)] (fun _ : Int32 => none) (fun u : Int32 => [(wHo ah h4 h0 h1 h2 h3 u)]) (fun u : Int32 => Q u) := by
  refine z_body [some (.ref ah), none] (by decide +kernel) rfl (Nat.le_of_ble_eq_true rfl) rfl ?_
  intro p e s m args below meth c A C hin
  unfold wp_X3_keep at hw
  refine z_aload_n C dX3_keep_0 rfl ?_
  refine z_get C inlX3 rfl 3 (by decide) mw_3_21 dX3_keep_1 0 0 rfl rfl rfl ?_
  refine z_astore_n C dX3_keep_4 [some (.ref ah), some (.ref h3)] (by decide) rfl ?_
  refine z_aload_n C dX3_keep_5 rfl ?_
  refine z_aload_n C dX3_keep_6 rfl ?_
  refine z_get C inlX3 rfl 2 (by decide) mw_3_20 dX3_keep_7 0 0 rfl rfl rfl ?_
  refine z_put C inlX3 rfl tyX3 tyX3_ok nmX3 3 (by decide) mw_3_21 rfl rfl rfl rfl dX3_keep_10 0 0 rfl rfl (Nat.le_of_ble_eq_true rfl) [(wHo ah h0 h1 h2 h2 h4 hs)] rfl ?_
  refine z_aload_n C dX3_keep_13 rfl ?_
  refine z_aload_n C dX3_keep_14 rfl ?_
  refine z_get C inlX3 rfl 1 (by decide) mw_3_19 dX3_keep_15 0 0 rfl rfl rfl ?_
  refine z_put C inlX3 rfl tyX3 tyX3_ok nmX3 2 (by decide) mw_3_20 rfl rfl rfl rfl dX3_keep_18 0 0 rfl rfl (Nat.le_of_ble_eq_true rfl) [(wHo ah h0 h1 h1 h2 h4 hs)] rfl ?_
  refine z_aload_n C dX3_keep_21 rfl ?_
  refine z_aload_n C dX3_keep_22 rfl ?_
  refine z_get C inlX3 rfl 0 (by decide) mw_3_18 dX3_keep_23 0 0 rfl rfl rfl ?_
  refine z_put C inlX3 rfl tyX3 tyX3_ok nmX3 1 (by decide) mw_3_19 rfl rfl rfl rfl dX3_keep_26 0 0 rfl rfl (Nat.le_of_ble_eq_true rfl) [(wHo ah h0 h0 h1 h2 h4 hs)] rfl ?_
  refine z_aload_n C dX3_keep_29 rfl ?_
  refine z_aload_n C dX3_keep_30 rfl ?_
  refine z_get C inlX3 rfl 4 (by decide) mw_3_22 dX3_keep_31 0 0 rfl rfl rfl ?_
  refine z_put C inlX3 rfl tyX3 tyX3_ok nmX3 0 (by decide) mw_3_18 rfl rfl rfl rfl dX3_keep_34 0 0 rfl rfl (Nat.le_of_ble_eq_true rfl) [(wHo ah h4 h0 h1 h2 h4 hs)] rfl ?_
  refine z_aload_n C dX3_keep_37 rfl ?_
  refine z_aload_n C dX3_keep_38 rfl ?_
  refine z_put C inlX3 rfl tyX3 tyX3_ok nmX3 4 (by decide) mw_3_22 rfl rfl rfl rfl dX3_keep_39 0 0 rfl rfl (Nat.le_of_ble_eq_true rfl) [(wHo ah h4 h0 h1 h2 h3 hs)] rfl ?_
  refine z_aload_n C dX3_keep_42 rfl ?_
  refine z_aload_n C dX3_keep_43 rfl ?_
  refine z_get C inlX3 rfl 5 (by decide) mw_12_2 dX3_keep_44 0 0 rfl rfl rfl ?_
  refine z_iconst C dX3_keep_47 1 (by decide +kernel) ?_
  refine z_iadd C dX3_keep_48 ?_
  refine z_iconst C dX3_keep_49 4 (by decide +kernel) ?_
  refine z_mmin C mw_12_3 mw_7_4 mw_3_7 mw_7_5 (Nat.le_of_ble_eq_true rfl) (Nat.le_of_ble_eq_true rfl) ⟨Nat.le_of_ble_eq_true rfl, Nat.le_of_ble_eq_true rfl⟩ dX3_keep_50 ?_
  refine z_put C inlX3 rfl tyX3 tyX3_ok nmX3 5 (by decide) mw_12_2 rfl rfl rfl rfl dX3_keep_53 0 0 rfl rfl (Nat.le_of_ble_eq_true rfl) [(wHo ah h4 h0 h1 h2 h3 (if 4 < (hs + 1) then 4 else (hs + 1)))] rfl ?_
  exact z_vret C rfl ((if 4 < (hs + 1) then 4 else (hs + 1))) rfl hw rfl dX3_keep_56
def rmX3_restore : Room := { frames := 4, cells := 0, slots := 0, locals := 89 }
def wp_X3_restore (hs : Int32) (t : zT) (o : zT)  (Q : Int32 → zT → Prop) : Prop := (wp_X5_copyState o t (fun u1 => (Q (if (hs - 1) < 0 then 0 else (hs - 1)) u1)))
set_option maxHeartbeats 4000000 in
set_option maxRecDepth 100000 in
theorem met_X3_restore (l : Launch) (D : va_G) (cI : ClassId) (ah : Nat) (h1 : Nat) (h2 : Nat) (h3 : Nat) (h4 : Nat) (gt : Nat → Nat) (go : Nat → Nat) (hs : Int32) (t : zT) (o : zT)  (Q : Int32 → zT → Prop) (hw : wp_X3_restore hs t o Q) : ZM l D cI yX3_restore cX3_restore 3 none rmX3_restore [.ref ah, .ref (go 0)] [(wHo ah (gt 0) h1 h2 h3 h4 hs), (wS cI gt t), (wS cI go o)] (fun _ : Int32 × zT => none) (fun u : Int32 × zT => [(wHo ah h1 h2 h3 (gt 0) h4 u.1), (wS cI gt t), (wS cI go (u.2))]) (fun u : Int32 × zT => Q u.1 u.2) := by
  refine z_body [some (.ref ah), some (.ref (go 0)), none] (by decide +kernel) rfl (Nat.le_of_ble_eq_true rfl) rfl ?_
  intro p e s m args below meth c A C hin
  unfold wp_X3_restore at hw
  refine z_aload_n C dX3_restore_0 rfl ?_
  refine z_get C inlX3 rfl 0 (by decide) mw_3_18 dX3_restore_1 0 0 rfl rfl rfl ?_
  refine z_astore_n C dX3_restore_4 [some (.ref ah), some (.ref (go 0)), some (.ref (gt 0))] (by decide) rfl ?_
  refine z_aload_n C dX3_restore_5 rfl ?_
  refine z_aload_n C dX3_restore_6 rfl ?_
  refine z_callV0 C [(wS cI go o), (wS cI gt t)] [(wHo ah (gt 0) h1 h2 h3 h4 hs)] rfl rfl (met_X5_copyState l D cI go gt o t _ hw) y_X5_copyState mw_6_11 dX3_restore_7 rfl n_X5_copyState rfl (by decide) ⟨rfl, rfl, Nat.le_of_ble_eq_true rfl, Nat.le_of_ble_eq_true rfl⟩ (Nat.le_of_ble_eq_true rfl) (z_pm [2, 1, 0] 3 rfl (by decide) rfl) ?_
  intro u1 hw
  try dsimp only at hw
  refine z_bs [(wS cI go u1), (wS cI gt t), (wHo ah (gt 0) h1 h2 h3 h4 hs)] [] rfl rfl ?_
  refine z_perm C [(wHo ah (gt 0) h1 h2 h3 h4 hs), (wS cI gt t), (wS cI go u1)] (z_pm [2, 1, 0] 3 rfl (by decide) rfl) ?_
  refine z_aload_n C dX3_restore_10 rfl ?_
  refine z_aload_n C dX3_restore_11 rfl ?_
  refine z_get C inlX3 rfl 1 (by decide) mw_3_19 dX3_restore_12 0 0 rfl rfl rfl ?_
  refine z_put C inlX3 rfl tyX3 tyX3_ok nmX3 0 (by decide) mw_3_18 rfl rfl rfl rfl dX3_restore_15 0 0 rfl rfl (Nat.le_of_ble_eq_true rfl) [(wHo ah h1 h1 h2 h3 h4 hs), (wS cI gt t), (wS cI go u1)] rfl ?_
  refine z_aload_n C dX3_restore_18 rfl ?_
  refine z_aload_n C dX3_restore_19 rfl ?_
  refine z_get C inlX3 rfl 2 (by decide) mw_3_20 dX3_restore_20 0 0 rfl rfl rfl ?_
  refine z_put C inlX3 rfl tyX3 tyX3_ok nmX3 1 (by decide) mw_3_19 rfl rfl rfl rfl dX3_restore_23 0 0 rfl rfl (Nat.le_of_ble_eq_true rfl) [(wHo ah h1 h2 h2 h3 h4 hs), (wS cI gt t), (wS cI go u1)] rfl ?_
  refine z_aload_n C dX3_restore_26 rfl ?_
  refine z_aload_n C dX3_restore_27 rfl ?_
  refine z_get C inlX3 rfl 3 (by decide) mw_3_21 dX3_restore_28 0 0 rfl rfl rfl ?_
  refine z_put C inlX3 rfl tyX3 tyX3_ok nmX3 2 (by decide) mw_3_20 rfl rfl rfl rfl dX3_restore_31 0 0 rfl rfl (Nat.le_of_ble_eq_true rfl) [(wHo ah h1 h2 h3 h3 h4 hs), (wS cI gt t), (wS cI go u1)] rfl ?_
  refine z_aload_n C dX3_restore_34 rfl ?_
  refine z_aload_n C dX3_restore_35 rfl ?_
  refine z_put C inlX3 rfl tyX3 tyX3_ok nmX3 3 (by decide) mw_3_21 rfl rfl rfl rfl dX3_restore_36 0 0 rfl rfl (Nat.le_of_ble_eq_true rfl) [(wHo ah h1 h2 h3 (gt 0) h4 hs), (wS cI gt t), (wS cI go u1)] rfl ?_
  refine z_aload_n C dX3_restore_39 rfl ?_
  refine z_aload_n C dX3_restore_40 rfl ?_
  refine z_get C inlX3 rfl 5 (by decide) mw_12_2 dX3_restore_41 0 0 rfl rfl rfl ?_
  refine z_iconst C dX3_restore_44 1 (by decide +kernel) ?_
  refine z_isub C dX3_restore_45 ?_
  refine z_iconst C dX3_restore_46 0 (by decide +kernel) ?_
  refine z_mmax C mw_15_19 mw_3_6 mw_3_7 mw_3_8 (Nat.le_of_ble_eq_true rfl) (Nat.le_of_ble_eq_true rfl) ⟨Nat.le_of_ble_eq_true rfl, Nat.le_of_ble_eq_true rfl⟩ dX3_restore_47 ?_
  refine z_put C inlX3 rfl tyX3 tyX3_ok nmX3 5 (by decide) mw_12_2 rfl rfl rfl rfl dX3_restore_50 0 0 rfl rfl (Nat.le_of_ble_eq_true rfl) [(wHo ah h1 h2 h3 (gt 0) h4 (if (hs - 1) < 0 then 0 else (hs - 1))), (wS cI gt t), (wS cI go u1)] rfl ?_
  exact z_vret C rfl ((if (hs - 1) < 0 then 0 else (hs - 1)), u1) rfl hw rfl dX3_restore_53
