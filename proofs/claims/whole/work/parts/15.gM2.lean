/-! printed by wip/whole/gen.py: what each method does, and that the machine does it -/
def rmX7_know : Room := { frames := 0, cells := 0, slots := 0, locals := 0 }
def lb_X7_know_51 (v : zM) (w0Known : Int32)  (Q : zM → Prop)  (K51 : (Int32) → (Nat → Int32) → Prop) (v1 : Int32) (w0Before : Nat → Int32) : Prop := ((445 ≤ v1 → (Q (mSetKnown (mSetBefore v w0Before) (w0Known + 1)))) ∧ (¬ 445 ≤ v1 → (vp_in v1 445 ∧ (vp_in ((445 * w0Known) + v1) 1780 ∧ (K51 (v1 + 1) (upd w0Before ((445 * w0Known) + v1).toNatClampNeg ((mS v) v1.toNatClampNeg)))))))
set_option maxHeartbeats 4000000 in
set_option maxRecDepth 100000 in
theorem wk_X7_know_51 {p : Program} {l : Launch} {e : Env} {s : State} {m : MethodId} {args : Array Value} {below : List Frame} {meth : Method} {c : Code} {D : va_G} {cI : ClassId} {A : Nat → Prop} (C : ZC p s m args meth c RX7 cX7_know 2 none D cI A) (gv : Nat → Nat) (v : zM) (w0Known : Int32)  (v1 : Int32) (w0Before : Nat → Int32) (Q : zM → Prop)  (hw : zLoop2 (lb_X7_know_51 v w0Known  Q ) v1 w0Before) : ZZ p l e rmX7_know s m args below meth c D A 2 0 0 (MQ below (ZQ D A (fun _ : zM => none) (fun u : zM => [(wMx cI gv (mS u) (mAside u) (mBefore u) (mText u) (mLetters u) (mBys u) (mFirst u) (mCommand u) (mKnown u) (mLength u) (mLogLong u) (mAreSame u) (mAt u) (mIsWrong u) (mPosition u) (mReason u) (mCause u))]) (fun u : zM => Q u)) args s rmX7_know.cells rmX7_know.slots A) [(wMx cI gv (mS v) (mAside v) w0Before (mText v) (mLetters v) (mBys v) (mFirst v) (mCommand v) w0Known (mLength v) (mLogLong v) (mAreSame v) (mAt v) (mIsWrong v) (mPosition v) (mReason v) (mCause v))] 51 [some (.ref (gv 0)), some (.int v1)] [] := by
  refine zLoop2_w (fun (v1 : Int32) (w0Before : Nat → Int32) => ZZ p l e rmX7_know s m args below meth c D A 2 0 0 (MQ below (ZQ D A (fun _ : zM => none) (fun u : zM => [(wMx cI gv (mS u) (mAside u) (mBefore u) (mText u) (mLetters u) (mBys u) (mFirst u) (mCommand u) (mKnown u) (mLength u) (mLogLong u) (mAreSame u) (mAt u) (mIsWrong u) (mPosition u) (mReason u) (mCause u))]) (fun u : zM => Q u)) args s rmX7_know.cells rmX7_know.slots A) [(wMx cI gv (mS v) (mAside v) w0Before (mText v) (mLetters v) (mBys v) (mFirst v) (mCommand v) w0Known (mLength v) (mLogLong v) (mAreSame v) (mAt v) (mIsWrong v) (mPosition v) (mReason v) (mCause v))] 51 [some (.ref (gv 0)), some (.int v1)] []) ?_ _ _ hw
  clear hw
  intro K51 hK51 v1 w0Before hw
  unfold lb_X7_know_51 at hw
  refine z_iload_n C dX7_know_51 rfl ?_
  refine z_sipush C dX7_know_52 445 (by decide +kernel) ?_
  refine z_icmp_ge C dX7_know_55 85 (by decide) (fun c2 => ?_) (fun c2 => ?_)
  · replace hw := hw.1 c2
    refine z_aload_n C dX7_know_85 rfl ?_
    refine z_dup C dX7_know_86 rfl ?_
    refine z_get C inlX7 rfl 3 (by decide) mw_12_12 dX7_know_87 0 0 rfl rfl rfl ?_
    refine z_iconst C dX7_know_90 1 (by decide +kernel) ?_
    refine z_iadd C dX7_know_91 ?_
    refine z_put C inlX7 rfl tyX7 tyX7_ok nmX7 3 (by decide) mw_12_12 rfl rfl rfl rfl dX7_know_92 0 0 rfl rfl (Nat.le_of_ble_eq_true rfl) [(wMx cI gv (mS v) (mAside v) w0Before (mText v) (mLetters v) (mBys v) (mFirst v) (mCommand v) (w0Known + 1) (mLength v) (mLogLong v) (mAreSame v) (mAt v) (mIsWrong v) (mPosition v) (mReason v) (mCause v))] rfl ?_
    exact z_vret C rfl ((mSetKnown (mSetBefore v w0Before) (w0Known + 1))) rfl hw rfl dX7_know_95
  · replace hw := hw.2 c2
    refine z_aload_n C dX7_know_58 rfl ?_
    refine z_get C inlX7 rfl 2 (by decide) mw_4_17 dX7_know_59 0 0 rfl rfl rfl ?_
    refine z_sipush C dX7_know_62 445 (by decide +kernel) ?_
    refine z_aload_n C dX7_know_65 rfl ?_
    refine z_get C inlX7 rfl 3 (by decide) mw_12_12 dX7_know_66 0 0 rfl rfl rfl ?_
    refine z_imul C dX7_know_69 ?_
    refine z_iload_n C dX7_know_70 rfl ?_
    refine z_iadd C dX7_know_71 ?_
    refine z_aload_n C dX7_know_72 rfl ?_
    refine z_get C inlX7 rfl 0 (by decide) mw_4_15 dX7_know_73 0 0 rfl rfl rfl ?_
    refine z_iload_n C dX7_know_76 rfl ?_
    refine z_iald C dX7_know_77 0 1 rfl rfl hw.1 ?_
    replace hw := hw.2
    refine z_iast C dX7_know_78 0 3 rfl rfl hw.1 [(wMx cI gv (mS v) (mAside v) (upd w0Before ((445 * w0Known) + v1).toNatClampNeg ((mS v) v1.toNatClampNeg)) (mText v) (mLetters v) (mBys v) (mFirst v) (mCommand v) w0Known (mLength v) (mLogLong v) (mAreSame v) (mAt v) (mIsWrong v) (mPosition v) (mReason v) (mCause v))] rfl ?_
    replace hw := hw.2
    refine z_iinc C dX7_know_79 rfl (v1 + 1) (by rfl) [some (.ref (gv 0)), some (.int (v1 + 1))] (by decide) rfl ?_
    refine z_goto C dX7_know_82 51 (by decide) ?_
    exact hK51 _ _ hw
def lb_X7_know_10 (v : zM)   (Q : zM → Prop)  (K10 : (Int32) → (Nat → Int32) → Prop) (v1 : Int32) (w0Before : Nat → Int32) : Prop := ((1335 ≤ v1 → (zLoop2 (lb_X7_know_51 v ((mKnown v) - 1)  Q ) 0 w0Before)) ∧ (¬ 1335 ≤ v1 → (vp_in (445 + v1) 1780 ∧ (vp_in v1 1780 ∧ (K10 (v1 + 1) (upd w0Before v1.toNatClampNeg (w0Before (445 + v1).toNatClampNeg)))))))
set_option maxHeartbeats 4000000 in
set_option maxRecDepth 100000 in
theorem wk_X7_know_10 {p : Program} {l : Launch} {e : Env} {s : State} {m : MethodId} {args : Array Value} {below : List Frame} {meth : Method} {c : Code} {D : va_G} {cI : ClassId} {A : Nat → Prop} (C : ZC p s m args meth c RX7 cX7_know 2 none D cI A) (gv : Nat → Nat) (v : zM)   (v1 : Int32) (w0Before : Nat → Int32) (Q : zM → Prop)  (hw : zLoop2 (lb_X7_know_10 v   Q ) v1 w0Before) : ZZ p l e rmX7_know s m args below meth c D A 2 0 0 (MQ below (ZQ D A (fun _ : zM => none) (fun u : zM => [(wMx cI gv (mS u) (mAside u) (mBefore u) (mText u) (mLetters u) (mBys u) (mFirst u) (mCommand u) (mKnown u) (mLength u) (mLogLong u) (mAreSame u) (mAt u) (mIsWrong u) (mPosition u) (mReason u) (mCause u))]) (fun u : zM => Q u)) args s rmX7_know.cells rmX7_know.slots A) [(wMx cI gv (mS v) (mAside v) w0Before (mText v) (mLetters v) (mBys v) (mFirst v) (mCommand v) (mKnown v) (mLength v) (mLogLong v) (mAreSame v) (mAt v) (mIsWrong v) (mPosition v) (mReason v) (mCause v))] 10 [some (.ref (gv 0)), some (.int v1)] [] := by
  refine zLoop2_w (fun (v1 : Int32) (w0Before : Nat → Int32) => ZZ p l e rmX7_know s m args below meth c D A 2 0 0 (MQ below (ZQ D A (fun _ : zM => none) (fun u : zM => [(wMx cI gv (mS u) (mAside u) (mBefore u) (mText u) (mLetters u) (mBys u) (mFirst u) (mCommand u) (mKnown u) (mLength u) (mLogLong u) (mAreSame u) (mAt u) (mIsWrong u) (mPosition u) (mReason u) (mCause u))]) (fun u : zM => Q u)) args s rmX7_know.cells rmX7_know.slots A) [(wMx cI gv (mS v) (mAside v) w0Before (mText v) (mLetters v) (mBys v) (mFirst v) (mCommand v) (mKnown v) (mLength v) (mLogLong v) (mAreSame v) (mAt v) (mIsWrong v) (mPosition v) (mReason v) (mCause v))] 10 [some (.ref (gv 0)), some (.int v1)] []) ?_ _ _ hw
  clear hw
  intro K10 hK10 v1 w0Before hw
  unfold lb_X7_know_10 at hw
  refine z_iload_n C dX7_know_10 rfl ?_
  refine z_sipush C dX7_know_11 1335 (by decide +kernel) ?_
  refine z_icmp_ge C dX7_know_14 39 (by decide) (fun c3 => ?_) (fun c3 => ?_)
  · replace hw := hw.1 c3
    refine z_aload_n C dX7_know_39 rfl ?_
    refine z_dup C dX7_know_40 rfl ?_
    refine z_get C inlX7 rfl 3 (by decide) mw_12_12 dX7_know_41 0 0 rfl rfl rfl ?_
    refine z_iconst C dX7_know_44 1 (by decide +kernel) ?_
    refine z_isub C dX7_know_45 ?_
    refine z_put C inlX7 rfl tyX7 tyX7_ok nmX7 3 (by decide) mw_12_12 rfl rfl rfl rfl dX7_know_46 0 0 rfl rfl (Nat.le_of_ble_eq_true rfl) [(wMx cI gv (mS v) (mAside v) w0Before (mText v) (mLetters v) (mBys v) (mFirst v) (mCommand v) ((mKnown v) - 1) (mLength v) (mLogLong v) (mAreSame v) (mAt v) (mIsWrong v) (mPosition v) (mReason v) (mCause v))] rfl ?_
    refine z_iconst C dX7_know_49 0 (by decide +kernel) ?_
    refine z_istore_n C dX7_know_50 [some (.ref (gv 0)), some (.int 0)] (by decide) rfl ?_
    exact wk_X7_know_51 C gv v ((mKnown v) - 1)  0 w0Before _  hw
  · replace hw := hw.2 c3
    refine z_aload_n C dX7_know_17 rfl ?_
    refine z_get C inlX7 rfl 2 (by decide) mw_4_17 dX7_know_18 0 0 rfl rfl rfl ?_
    refine z_iload_n C dX7_know_21 rfl ?_
    refine z_aload_n C dX7_know_22 rfl ?_
    refine z_get C inlX7 rfl 2 (by decide) mw_4_17 dX7_know_23 0 0 rfl rfl rfl ?_
    refine z_sipush C dX7_know_26 445 (by decide +kernel) ?_
    refine z_iload_n C dX7_know_29 rfl ?_
    refine z_iadd C dX7_know_30 ?_
    refine z_iald C dX7_know_31 0 3 rfl rfl hw.1 ?_
    replace hw := hw.2
    refine z_iast C dX7_know_32 0 3 rfl rfl hw.1 [(wMx cI gv (mS v) (mAside v) (upd w0Before v1.toNatClampNeg (w0Before (445 + v1).toNatClampNeg)) (mText v) (mLetters v) (mBys v) (mFirst v) (mCommand v) (mKnown v) (mLength v) (mLogLong v) (mAreSame v) (mAt v) (mIsWrong v) (mPosition v) (mReason v) (mCause v))] rfl ?_
    replace hw := hw.2
    refine z_iinc C dX7_know_33 rfl (v1 + 1) (by rfl) [some (.ref (gv 0)), some (.int (v1 + 1))] (by decide) rfl ?_
    refine z_goto C dX7_know_36 10 (by decide) ?_
    exact hK10 _ _ hw
def wp_X7_know (v : zM)  (Q : zM → Prop) : Prop := ((¬ (mKnown v) = 4 → (zLoop2 (lb_X7_know_51 v (mKnown v)  Q ) 0 (mBefore v))) ∧ ((mKnown v) = 4 → (zLoop2 (lb_X7_know_10 v   Q ) 0 (mBefore v))))
set_option maxHeartbeats 4000000 in
set_option maxRecDepth 100000 in
theorem met_X7_know (l : Launch) (D : va_G) (cI : ClassId) (gv : Nat → Nat) (v : zM)  (Q : zM → Prop) (hw : wp_X7_know v Q) : ZM l D cI yX7_know cX7_know 2 none rmX7_know [.ref (gv 0)] [(wMx cI gv (mS v) (mAside v) (mBefore v) (mText v) (mLetters v) (mBys v) (mFirst v) (mCommand v) (mKnown v) (mLength v) (mLogLong v) (mAreSame v) (mAt v) (mIsWrong v) (mPosition v) (mReason v) (mCause v))] (fun _ : zM => none) (fun u : zM => [(wMx cI gv (mS u) (mAside u) (mBefore u) (mText u) (mLetters u) (mBys u) (mFirst u) (mCommand u) (mKnown u) (mLength u) (mLogLong u) (mAreSame u) (mAt u) (mIsWrong u) (mPosition u) (mReason u) (mCause u))]) (fun u : zM => Q u) := by
  refine z_body [some (.ref (gv 0)), none] (by decide +kernel) rfl (Nat.le_of_ble_eq_true rfl) rfl ?_
  intro p e s m args below meth c A C hin
  unfold wp_X7_know at hw
  refine z_aload_n C dX7_know_0 rfl ?_
  refine z_get C inlX7 rfl 3 (by decide) mw_12_12 dX7_know_1 0 0 rfl rfl rfl ?_
  refine z_iconst C dX7_know_4 4 (by decide +kernel) ?_
  refine z_icmp_ne C dX7_know_5 49 (by decide) (fun c1 => ?_) (fun c1 => ?_)
  · replace hw := hw.1 c1
    refine z_iconst C dX7_know_49 0 (by decide +kernel) ?_
    refine z_istore_n C dX7_know_50 [some (.ref (gv 0)), some (.int 0)] (by decide) rfl ?_
    exact wk_X7_know_51 C gv v (mKnown v)  0 (mBefore v) _  hw
  · replace hw := hw.2 c1
    refine z_iconst C dX7_know_8 0 (by decide +kernel) ?_
    refine z_istore_n C dX7_know_9 [some (.ref (gv 0)), some (.int 0)] (by decide) rfl ?_
    exact wk_X7_know_10 C gv v   0 (mBefore v) _  hw
def rmX7_putAside : Room := { frames := 0, cells := 0, slots := 0, locals := 0 }
def lb_X7_putAside_2 (v : zM)   (Q : zM → Prop)  (K2 : (Int32) → (Nat → Int32) → Prop) (v1 : Int32) (w0Aside : Nat → Int32) : Prop := ((445 ≤ v1 → (Q (mSetAside v w0Aside))) ∧ (¬ 445 ≤ v1 → (vp_in v1 445 ∧ (vp_in v1 445 ∧ (K2 (v1 + 1) (upd w0Aside v1.toNatClampNeg ((mS v) v1.toNatClampNeg)))))))
set_option maxHeartbeats 4000000 in
set_option maxRecDepth 100000 in
theorem wk_X7_putAside_2 {p : Program} {l : Launch} {e : Env} {s : State} {m : MethodId} {args : Array Value} {below : List Frame} {meth : Method} {c : Code} {D : va_G} {cI : ClassId} {A : Nat → Prop} (C : ZC p s m args meth c RX7 cX7_putAside 2 none D cI A) (gv : Nat → Nat) (v : zM)   (v1 : Int32) (w0Aside : Nat → Int32) (Q : zM → Prop)  (hw : zLoop2 (lb_X7_putAside_2 v   Q ) v1 w0Aside) : ZZ p l e rmX7_putAside s m args below meth c D A 2 0 0 (MQ below (ZQ D A (fun _ : zM => none) (fun u : zM => [(wMx cI gv (mS u) (mAside u) (mBefore u) (mText u) (mLetters u) (mBys u) (mFirst u) (mCommand u) (mKnown u) (mLength u) (mLogLong u) (mAreSame u) (mAt u) (mIsWrong u) (mPosition u) (mReason u) (mCause u))]) (fun u : zM => Q u)) args s rmX7_putAside.cells rmX7_putAside.slots A) [(wMx cI gv (mS v) w0Aside (mBefore v) (mText v) (mLetters v) (mBys v) (mFirst v) (mCommand v) (mKnown v) (mLength v) (mLogLong v) (mAreSame v) (mAt v) (mIsWrong v) (mPosition v) (mReason v) (mCause v))] 2 [some (.ref (gv 0)), some (.int v1)] [] := by
  refine zLoop2_w (fun (v1 : Int32) (w0Aside : Nat → Int32) => ZZ p l e rmX7_putAside s m args below meth c D A 2 0 0 (MQ below (ZQ D A (fun _ : zM => none) (fun u : zM => [(wMx cI gv (mS u) (mAside u) (mBefore u) (mText u) (mLetters u) (mBys u) (mFirst u) (mCommand u) (mKnown u) (mLength u) (mLogLong u) (mAreSame u) (mAt u) (mIsWrong u) (mPosition u) (mReason u) (mCause u))]) (fun u : zM => Q u)) args s rmX7_putAside.cells rmX7_putAside.slots A) [(wMx cI gv (mS v) w0Aside (mBefore v) (mText v) (mLetters v) (mBys v) (mFirst v) (mCommand v) (mKnown v) (mLength v) (mLogLong v) (mAreSame v) (mAt v) (mIsWrong v) (mPosition v) (mReason v) (mCause v))] 2 [some (.ref (gv 0)), some (.int v1)] []) ?_ _ _ hw
  clear hw
  intro K2 hK2 v1 w0Aside hw
  unfold lb_X7_putAside_2 at hw
  refine z_iload_n C dX7_putAside_2 rfl ?_
  refine z_sipush C dX7_putAside_3 445 (by decide +kernel) ?_
  refine z_icmp_ge C dX7_putAside_6 27 (by decide) (fun c1 => ?_) (fun c1 => ?_)
  · replace hw := hw.1 c1
    exact z_vret C rfl ((mSetAside v w0Aside)) rfl hw rfl dX7_putAside_27
  · replace hw := hw.2 c1
    refine z_aload_n C dX7_putAside_9 rfl ?_
    refine z_get C inlX7 rfl 1 (by decide) mw_4_16 dX7_putAside_10 0 0 rfl rfl rfl ?_
    refine z_iload_n C dX7_putAside_13 rfl ?_
    refine z_aload_n C dX7_putAside_14 rfl ?_
    refine z_get C inlX7 rfl 0 (by decide) mw_4_15 dX7_putAside_15 0 0 rfl rfl rfl ?_
    refine z_iload_n C dX7_putAside_18 rfl ?_
    refine z_iald C dX7_putAside_19 0 1 rfl rfl hw.1 ?_
    replace hw := hw.2
    refine z_iast C dX7_putAside_20 0 2 rfl rfl hw.1 [(wMx cI gv (mS v) (upd w0Aside v1.toNatClampNeg ((mS v) v1.toNatClampNeg)) (mBefore v) (mText v) (mLetters v) (mBys v) (mFirst v) (mCommand v) (mKnown v) (mLength v) (mLogLong v) (mAreSame v) (mAt v) (mIsWrong v) (mPosition v) (mReason v) (mCause v))] rfl ?_
    replace hw := hw.2
    refine z_iinc C dX7_putAside_21 rfl (v1 + 1) (by rfl) [some (.ref (gv 0)), some (.int (v1 + 1))] (by decide) rfl ?_
    refine z_goto C dX7_putAside_24 2 (by decide) ?_
    exact hK2 _ _ hw
def wp_X7_putAside (v : zM)  (Q : zM → Prop) : Prop := (zLoop2 (lb_X7_putAside_2 v   Q ) 0 (mAside v))
set_option maxHeartbeats 4000000 in
set_option maxRecDepth 100000 in
theorem met_X7_putAside (l : Launch) (D : va_G) (cI : ClassId) (gv : Nat → Nat) (v : zM)  (Q : zM → Prop) (hw : wp_X7_putAside v Q) : ZM l D cI yX7_putAside cX7_putAside 2 none rmX7_putAside [.ref (gv 0)] [(wMx cI gv (mS v) (mAside v) (mBefore v) (mText v) (mLetters v) (mBys v) (mFirst v) (mCommand v) (mKnown v) (mLength v) (mLogLong v) (mAreSame v) (mAt v) (mIsWrong v) (mPosition v) (mReason v) (mCause v))] (fun _ : zM => none) (fun u : zM => [(wMx cI gv (mS u) (mAside u) (mBefore u) (mText u) (mLetters u) (mBys u) (mFirst u) (mCommand u) (mKnown u) (mLength u) (mLogLong u) (mAreSame u) (mAt u) (mIsWrong u) (mPosition u) (mReason u) (mCause u))]) (fun u : zM => Q u) := by
  refine z_body [some (.ref (gv 0)), none] (by decide +kernel) rfl (Nat.le_of_ble_eq_true rfl) rfl ?_
  intro p e s m args below meth c A C hin
  unfold wp_X7_putAside at hw
  refine z_iconst C dX7_putAside_0 0 (by decide +kernel) ?_
  refine z_istore_n C dX7_putAside_1 [some (.ref (gv 0)), some (.int 0)] (by decide) rfl ?_
  exact wk_X7_putAside_2 C gv v   0 (mAside v) _  hw
def rmX7_putBack : Room := { frames := 0, cells := 0, slots := 0, locals := 0 }
def lb_X7_putBack_2 (v : zM)   (Q : zM → Prop)  (K2 : (Int32) → (Nat → Int32) → Prop) (v1 : Int32) (w0S : Nat → Int32) : Prop := ((445 ≤ v1 → (Q (mSetS v w0S))) ∧ (¬ 445 ≤ v1 → (vp_in v1 445 ∧ (vp_in v1 445 ∧ (K2 (v1 + 1) (upd w0S v1.toNatClampNeg ((mAside v) v1.toNatClampNeg)))))))
set_option maxHeartbeats 4000000 in
set_option maxRecDepth 100000 in
theorem wk_X7_putBack_2 {p : Program} {l : Launch} {e : Env} {s : State} {m : MethodId} {args : Array Value} {below : List Frame} {meth : Method} {c : Code} {D : va_G} {cI : ClassId} {A : Nat → Prop} (C : ZC p s m args meth c RX7 cX7_putBack 2 none D cI A) (gv : Nat → Nat) (v : zM)   (v1 : Int32) (w0S : Nat → Int32) (Q : zM → Prop)  (hw : zLoop2 (lb_X7_putBack_2 v   Q ) v1 w0S) : ZZ p l e rmX7_putBack s m args below meth c D A 2 0 0 (MQ below (ZQ D A (fun _ : zM => none) (fun u : zM => [(wMx cI gv (mS u) (mAside u) (mBefore u) (mText u) (mLetters u) (mBys u) (mFirst u) (mCommand u) (mKnown u) (mLength u) (mLogLong u) (mAreSame u) (mAt u) (mIsWrong u) (mPosition u) (mReason u) (mCause u))]) (fun u : zM => Q u)) args s rmX7_putBack.cells rmX7_putBack.slots A) [(wMx cI gv w0S (mAside v) (mBefore v) (mText v) (mLetters v) (mBys v) (mFirst v) (mCommand v) (mKnown v) (mLength v) (mLogLong v) (mAreSame v) (mAt v) (mIsWrong v) (mPosition v) (mReason v) (mCause v))] 2 [some (.ref (gv 0)), some (.int v1)] [] := by
  refine zLoop2_w (fun (v1 : Int32) (w0S : Nat → Int32) => ZZ p l e rmX7_putBack s m args below meth c D A 2 0 0 (MQ below (ZQ D A (fun _ : zM => none) (fun u : zM => [(wMx cI gv (mS u) (mAside u) (mBefore u) (mText u) (mLetters u) (mBys u) (mFirst u) (mCommand u) (mKnown u) (mLength u) (mLogLong u) (mAreSame u) (mAt u) (mIsWrong u) (mPosition u) (mReason u) (mCause u))]) (fun u : zM => Q u)) args s rmX7_putBack.cells rmX7_putBack.slots A) [(wMx cI gv w0S (mAside v) (mBefore v) (mText v) (mLetters v) (mBys v) (mFirst v) (mCommand v) (mKnown v) (mLength v) (mLogLong v) (mAreSame v) (mAt v) (mIsWrong v) (mPosition v) (mReason v) (mCause v))] 2 [some (.ref (gv 0)), some (.int v1)] []) ?_ _ _ hw
  clear hw
  intro K2 hK2 v1 w0S hw
  unfold lb_X7_putBack_2 at hw
  refine z_iload_n C dX7_putBack_2 rfl ?_
  refine z_sipush C dX7_putBack_3 445 (by decide +kernel) ?_
  refine z_icmp_ge C dX7_putBack_6 27 (by decide) (fun c1 => ?_) (fun c1 => ?_)
  · replace hw := hw.1 c1
    exact z_vret C rfl ((mSetS v w0S)) rfl hw rfl dX7_putBack_27
  · replace hw := hw.2 c1
    refine z_aload_n C dX7_putBack_9 rfl ?_
    refine z_get C inlX7 rfl 0 (by decide) mw_4_15 dX7_putBack_10 0 0 rfl rfl rfl ?_
    refine z_iload_n C dX7_putBack_13 rfl ?_
    refine z_aload_n C dX7_putBack_14 rfl ?_
    refine z_get C inlX7 rfl 1 (by decide) mw_4_16 dX7_putBack_15 0 0 rfl rfl rfl ?_
    refine z_iload_n C dX7_putBack_18 rfl ?_
    refine z_iald C dX7_putBack_19 0 2 rfl rfl hw.1 ?_
    replace hw := hw.2
    refine z_iast C dX7_putBack_20 0 1 rfl rfl hw.1 [(wMx cI gv (upd w0S v1.toNatClampNeg ((mAside v) v1.toNatClampNeg)) (mAside v) (mBefore v) (mText v) (mLetters v) (mBys v) (mFirst v) (mCommand v) (mKnown v) (mLength v) (mLogLong v) (mAreSame v) (mAt v) (mIsWrong v) (mPosition v) (mReason v) (mCause v))] rfl ?_
    replace hw := hw.2
    refine z_iinc C dX7_putBack_21 rfl (v1 + 1) (by rfl) [some (.ref (gv 0)), some (.int (v1 + 1))] (by decide) rfl ?_
    refine z_goto C dX7_putBack_24 2 (by decide) ?_
    exact hK2 _ _ hw
def wp_X7_putBack (v : zM)  (Q : zM → Prop) : Prop := (zLoop2 (lb_X7_putBack_2 v   Q ) 0 (mS v))
set_option maxHeartbeats 4000000 in
set_option maxRecDepth 100000 in
theorem met_X7_putBack (l : Launch) (D : va_G) (cI : ClassId) (gv : Nat → Nat) (v : zM)  (Q : zM → Prop) (hw : wp_X7_putBack v Q) : ZM l D cI yX7_putBack cX7_putBack 2 none rmX7_putBack [.ref (gv 0)] [(wMx cI gv (mS v) (mAside v) (mBefore v) (mText v) (mLetters v) (mBys v) (mFirst v) (mCommand v) (mKnown v) (mLength v) (mLogLong v) (mAreSame v) (mAt v) (mIsWrong v) (mPosition v) (mReason v) (mCause v))] (fun _ : zM => none) (fun u : zM => [(wMx cI gv (mS u) (mAside u) (mBefore u) (mText u) (mLetters u) (mBys u) (mFirst u) (mCommand u) (mKnown u) (mLength u) (mLogLong u) (mAreSame u) (mAt u) (mIsWrong u) (mPosition u) (mReason u) (mCause u))]) (fun u : zM => Q u) := by
  refine z_body [some (.ref (gv 0)), none] (by decide +kernel) rfl (Nat.le_of_ble_eq_true rfl) rfl ?_
  intro p e s m args below meth c A C hin
  unfold wp_X7_putBack at hw
  refine z_iconst C dX7_putBack_0 0 (by decide +kernel) ?_
  refine z_istore_n C dX7_putBack_1 [some (.ref (gv 0)), some (.int 0)] (by decide) rfl ?_
  exact wk_X7_putBack_2 C gv v   0 (mS v) _  hw
def rmX7_perform : Room := { frames := 2, cells := 0, slots := 0, locals := 48 }
def lb_X7_perform_241 (v : zM) (p1 : Int32) (p2 : Int32)   (Q : zM → Prop)  (K241 : (Int32) → (Nat → Int32) → Prop) (v5 : Int32) (w0S : Nat → Int32) : Prop := (vp_in (f_X7_of p1 104) 445 ∧ (((w0S (f_X7_of p1 104).toNatClampNeg) ≤ v5 → (Q (mSetS v w0S))) ∧ (¬ (w0S (f_X7_of p1 104).toNatClampNeg) ≤ v5 → (vp_in (f_X7_of p1 (105 + v5)) 445 ∧ (vp_in (f_X7_of p1 (105 + v5)) 445 ∧ (K241 (v5 + 1) (upd w0S (f_X7_of p1 (105 + v5)).toNatClampNeg (f_X7_reshaped (w0S (f_X7_of p1 (105 + v5)).toNatClampNeg) p2))))))))
set_option maxHeartbeats 4000000 in
set_option maxRecDepth 100000 in
theorem wk_X7_perform_241 {p : Program} {l : Launch} {e : Env} {s : State} {m : MethodId} {args : Array Value} {below : List Frame} {meth : Method} {c : Code} {D : va_G} {cI : ClassId} {A : Nat → Prop} (C : ZC p s m args meth c RX7 cX7_perform 6 none D cI A) (gv : Nat → Nat) (v : zM) (p1 : Int32) (p2 : Int32)   (v5 : Int32) (w0S : Nat → Int32) (Q : zM → Prop)  (hw : zLoop2 (lb_X7_perform_241 v p1 p2   Q ) v5 w0S) : ZZ p l e rmX7_perform s m args below meth c D A 6 0 0 (MQ below (ZQ D A (fun _ : zM => none) (fun u : zM => [(wMx cI gv (mS u) (mAside u) (mBefore u) (mText u) (mLetters u) (mBys u) (mFirst u) (mCommand u) (mKnown u) (mLength u) (mLogLong u) (mAreSame u) (mAt u) (mIsWrong u) (mPosition u) (mReason u) (mCause u))]) (fun u : zM => Q u)) args s rmX7_perform.cells rmX7_perform.slots A) [(wMx cI gv w0S (mAside v) (mBefore v) (mText v) (mLetters v) (mBys v) (mFirst v) (mCommand v) (mKnown v) (mLength v) (mLogLong v) (mAreSame v) (mAt v) (mIsWrong v) (mPosition v) (mReason v) (mCause v))] 241 [some (.ref (gv 0)), some (.int p1), some (.int p2), none, none, some (.int v5)] [] := by
  refine zLoop2_w (fun (v5 : Int32) (w0S : Nat → Int32) => ZZ p l e rmX7_perform s m args below meth c D A 6 0 0 (MQ below (ZQ D A (fun _ : zM => none) (fun u : zM => [(wMx cI gv (mS u) (mAside u) (mBefore u) (mText u) (mLetters u) (mBys u) (mFirst u) (mCommand u) (mKnown u) (mLength u) (mLogLong u) (mAreSame u) (mAt u) (mIsWrong u) (mPosition u) (mReason u) (mCause u))]) (fun u : zM => Q u)) args s rmX7_perform.cells rmX7_perform.slots A) [(wMx cI gv w0S (mAside v) (mBefore v) (mText v) (mLetters v) (mBys v) (mFirst v) (mCommand v) (mKnown v) (mLength v) (mLogLong v) (mAreSame v) (mAt v) (mIsWrong v) (mPosition v) (mReason v) (mCause v))] 241 [some (.ref (gv 0)), some (.int p1), some (.int p2), none, none, some (.int v5)] []) ?_ _ _ hw
  clear hw
  intro K241 hK241 v5 w0S hw
  unfold lb_X7_perform_241 at hw
  refine z_iload C dX7_perform_241 rfl ?_
  refine z_aload_n C dX7_perform_243 rfl ?_
  refine z_get C inlX7 rfl 0 (by decide) mw_4_15 dX7_perform_244 0 0 rfl rfl rfl ?_
  refine z_iload_n C dX7_perform_247 rfl ?_
  refine z_bipush C dX7_perform_248 104 (by decide +kernel) ?_
  refine z_callFS C [] [(wMx cI gv w0S (mAside v) (mBefore v) (mText v) (mLetters v) (mBys v) (mFirst v) (mCommand v) (mKnown v) (mLength v) (mLogLong v) (mAreSame v) (mAt v) (mIsWrong v) (mPosition v) (mReason v) (mCause v))] (met_X7_of l D cI p1 104) y_X7_of mw_12_5 dX7_perform_250 rfl n_X7_of rfl (by decide) ⟨rfl, rfl, Nat.le_of_ble_eq_true rfl, Nat.le_of_ble_eq_true rfl⟩ (Nat.le_of_ble_eq_true rfl) (z_pm [0] 1 rfl (by decide) rfl) ?_
  refine z_iald C dX7_perform_253 0 1 rfl rfl hw.1 ?_
  replace hw := hw.2
  refine z_icmp_ge C dX7_perform_254 295 (by decide) (fun c5 => ?_) (fun c5 => ?_)
  · replace hw := hw.1 c5
    exact z_vret C rfl ((mSetS v w0S)) rfl hw rfl dX7_perform_295
  · replace hw := hw.2 c5
    refine z_aload_n C dX7_perform_257 rfl ?_
    refine z_get C inlX7 rfl 0 (by decide) mw_4_15 dX7_perform_258 0 0 rfl rfl rfl ?_
    refine z_iload_n C dX7_perform_261 rfl ?_
    refine z_bipush C dX7_perform_262 105 (by decide +kernel) ?_
    refine z_iload C dX7_perform_264 rfl ?_
    refine z_iadd C dX7_perform_266 ?_
    refine z_callFS C [] [(wMx cI gv w0S (mAside v) (mBefore v) (mText v) (mLetters v) (mBys v) (mFirst v) (mCommand v) (mKnown v) (mLength v) (mLogLong v) (mAreSame v) (mAt v) (mIsWrong v) (mPosition v) (mReason v) (mCause v))] (met_X7_of l D cI p1 (105 + v5)) y_X7_of mw_12_5 dX7_perform_267 rfl n_X7_of rfl (by decide) ⟨rfl, rfl, Nat.le_of_ble_eq_true rfl, Nat.le_of_ble_eq_true rfl⟩ (Nat.le_of_ble_eq_true rfl) (z_pm [0] 1 rfl (by decide) rfl) ?_
    refine z_aload_n C dX7_perform_270 rfl ?_
    refine z_get C inlX7 rfl 0 (by decide) mw_4_15 dX7_perform_271 0 0 rfl rfl rfl ?_
    refine z_iload_n C dX7_perform_274 rfl ?_
    refine z_bipush C dX7_perform_275 105 (by decide +kernel) ?_
    refine z_iload C dX7_perform_277 rfl ?_
    refine z_iadd C dX7_perform_279 ?_
    refine z_callFS C [] [(wMx cI gv w0S (mAside v) (mBefore v) (mText v) (mLetters v) (mBys v) (mFirst v) (mCommand v) (mKnown v) (mLength v) (mLogLong v) (mAreSame v) (mAt v) (mIsWrong v) (mPosition v) (mReason v) (mCause v))] (met_X7_of l D cI p1 (105 + v5)) y_X7_of mw_12_5 dX7_perform_280 rfl n_X7_of rfl (by decide) ⟨rfl, rfl, Nat.le_of_ble_eq_true rfl, Nat.le_of_ble_eq_true rfl⟩ (Nat.le_of_ble_eq_true rfl) (z_pm [0] 1 rfl (by decide) rfl) ?_
    refine z_iald C dX7_perform_283 0 1 rfl rfl hw.1 ?_
    replace hw := hw.2
    refine z_iload_n C dX7_perform_284 rfl ?_
    refine z_callFS C [] [(wMx cI gv w0S (mAside v) (mBefore v) (mText v) (mLetters v) (mBys v) (mFirst v) (mCommand v) (mKnown v) (mLength v) (mLogLong v) (mAreSame v) (mAt v) (mIsWrong v) (mPosition v) (mReason v) (mCause v))] (met_X7_reshaped l D cI (w0S (f_X7_of p1 (105 + v5)).toNatClampNeg) p2) y_X7_reshaped mw_13_13 dX7_perform_285 rfl n_X7_reshaped rfl (by decide) ⟨rfl, rfl, Nat.le_of_ble_eq_true rfl, Nat.le_of_ble_eq_true rfl⟩ (Nat.le_of_ble_eq_true rfl) (z_pm [0] 1 rfl (by decide) rfl) ?_
    refine z_iast C dX7_perform_288 0 1 rfl rfl hw.1 [(wMx cI gv (upd w0S (f_X7_of p1 (105 + v5)).toNatClampNeg (f_X7_reshaped (w0S (f_X7_of p1 (105 + v5)).toNatClampNeg) p2)) (mAside v) (mBefore v) (mText v) (mLetters v) (mBys v) (mFirst v) (mCommand v) (mKnown v) (mLength v) (mLogLong v) (mAreSame v) (mAt v) (mIsWrong v) (mPosition v) (mReason v) (mCause v))] rfl ?_
    replace hw := hw.2
    refine z_iinc C dX7_perform_289 rfl (v5 + 1) (by rfl) [some (.ref (gv 0)), some (.int p1), some (.int p2), none, none, some (.int (v5 + 1))] (by decide) rfl ?_
    refine z_goto C dX7_perform_292 241 (by decide) ?_
    exact hK241 _ _ hw
def lb_X7_perform_147 (v : zM) (p1 : Int32) (p2 : Int32) (v3 : Int32) (v4 : Int32)  (Q : zM → Prop)  (K147 : (Int32) → (Nat → Int32) → Prop) (v5 : Int32) (w0S : Nat → Int32) : Prop := (((v4 - 1) ≤ v5 → (vp_in (f_X7_of p1 0) 445 ∧ (vp_in (f_X7_of p1 0) 445 ∧ (vp_in (f_X7_of p1 114) 445 ∧ (vp_in (f_X7_of p1 114) 445 ∧ ((((upd w0S (f_X7_of p1 0).toNatClampNeg ((w0S (f_X7_of p1 0).toNatClampNeg) - 1)) (f_X7_of p1 114).toNatClampNeg) ≤ v3 → (vp_in (f_X7_of p1 114) 445 ∧ (zLoop2 (lb_X7_perform_241 v p1 p2   Q ) 0 (upd (upd w0S (f_X7_of p1 0).toNatClampNeg ((w0S (f_X7_of p1 0).toNatClampNeg) - 1)) (f_X7_of p1 114).toNatClampNeg (((upd w0S (f_X7_of p1 0).toNatClampNeg ((w0S (f_X7_of p1 0).toNatClampNeg) - 1)) (f_X7_of p1 114).toNatClampNeg) - 0))))) ∧ (¬ ((upd w0S (f_X7_of p1 0).toNatClampNeg ((w0S (f_X7_of p1 0).toNatClampNeg) - 1)) (f_X7_of p1 114).toNatClampNeg) ≤ v3 → (vp_in (f_X7_of p1 114) 445 ∧ (zLoop2 (lb_X7_perform_241 v p1 p2   Q ) 0 (upd (upd w0S (f_X7_of p1 0).toNatClampNeg ((w0S (f_X7_of p1 0).toNatClampNeg) - 1)) (f_X7_of p1 114).toNatClampNeg (((upd w0S (f_X7_of p1 0).toNatClampNeg ((w0S (f_X7_of p1 0).toNatClampNeg) - 1)) (f_X7_of p1 114).toNatClampNeg) - 1))))))))))) ∧ (¬ (v4 - 1) ≤ v5 → (vp_in (f_X7_of p1 ((1 + v5) + 1)) 445 ∧ (vp_in (f_X7_of p1 (1 + v5)) 445 ∧ (K147 (v5 + 1) (upd w0S (f_X7_of p1 (1 + v5)).toNatClampNeg (w0S (f_X7_of p1 ((1 + v5) + 1)).toNatClampNeg)))))))
set_option maxHeartbeats 4000000 in
set_option maxRecDepth 100000 in
theorem wk_X7_perform_147 {p : Program} {l : Launch} {e : Env} {s : State} {m : MethodId} {args : Array Value} {below : List Frame} {meth : Method} {c : Code} {D : va_G} {cI : ClassId} {A : Nat → Prop} (C : ZC p s m args meth c RX7 cX7_perform 6 none D cI A) (gv : Nat → Nat) (v : zM) (p1 : Int32) (p2 : Int32) (v3 : Int32) (v4 : Int32)  (v5 : Int32) (w0S : Nat → Int32) (Q : zM → Prop)  (hw : zLoop2 (lb_X7_perform_147 v p1 p2 v3 v4  Q ) v5 w0S) : ZZ p l e rmX7_perform s m args below meth c D A 6 0 0 (MQ below (ZQ D A (fun _ : zM => none) (fun u : zM => [(wMx cI gv (mS u) (mAside u) (mBefore u) (mText u) (mLetters u) (mBys u) (mFirst u) (mCommand u) (mKnown u) (mLength u) (mLogLong u) (mAreSame u) (mAt u) (mIsWrong u) (mPosition u) (mReason u) (mCause u))]) (fun u : zM => Q u)) args s rmX7_perform.cells rmX7_perform.slots A) [(wMx cI gv w0S (mAside v) (mBefore v) (mText v) (mLetters v) (mBys v) (mFirst v) (mCommand v) (mKnown v) (mLength v) (mLogLong v) (mAreSame v) (mAt v) (mIsWrong v) (mPosition v) (mReason v) (mCause v))] 147 [some (.ref (gv 0)), some (.int p1), some (.int p2), some (.int v3), some (.int v4), some (.int v5)] [] := by
  refine zLoop2_w (fun (v5 : Int32) (w0S : Nat → Int32) => ZZ p l e rmX7_perform s m args below meth c D A 6 0 0 (MQ below (ZQ D A (fun _ : zM => none) (fun u : zM => [(wMx cI gv (mS u) (mAside u) (mBefore u) (mText u) (mLetters u) (mBys u) (mFirst u) (mCommand u) (mKnown u) (mLength u) (mLogLong u) (mAreSame u) (mAt u) (mIsWrong u) (mPosition u) (mReason u) (mCause u))]) (fun u : zM => Q u)) args s rmX7_perform.cells rmX7_perform.slots A) [(wMx cI gv w0S (mAside v) (mBefore v) (mText v) (mLetters v) (mBys v) (mFirst v) (mCommand v) (mKnown v) (mLength v) (mLogLong v) (mAreSame v) (mAt v) (mIsWrong v) (mPosition v) (mReason v) (mCause v))] 147 [some (.ref (gv 0)), some (.int p1), some (.int p2), some (.int v3), some (.int v4), some (.int v5)] []) ?_ _ _ hw
  clear hw
  intro K147 hK147 v5 w0S hw
  unfold lb_X7_perform_147 at hw
  refine z_iload C dX7_perform_147 rfl ?_
  refine z_iload C dX7_perform_149 rfl ?_
  refine z_iconst C dX7_perform_151 1 (by decide +kernel) ?_
  refine z_isub C dX7_perform_152 ?_
  refine z_icmp_ge C dX7_perform_153 190 (by decide) (fun c6 => ?_) (fun c6 => ?_)
  · replace hw := hw.1 c6
    refine z_aload_n C dX7_perform_190 rfl ?_
    refine z_get C inlX7 rfl 0 (by decide) mw_4_15 dX7_perform_191 0 0 rfl rfl rfl ?_
    refine z_iload_n C dX7_perform_194 rfl ?_
    refine z_iconst C dX7_perform_195 0 (by decide +kernel) ?_
    refine z_callFS C [] [(wMx cI gv w0S (mAside v) (mBefore v) (mText v) (mLetters v) (mBys v) (mFirst v) (mCommand v) (mKnown v) (mLength v) (mLogLong v) (mAreSame v) (mAt v) (mIsWrong v) (mPosition v) (mReason v) (mCause v))] (met_X7_of l D cI p1 0) y_X7_of mw_12_5 dX7_perform_196 rfl n_X7_of rfl (by decide) ⟨rfl, rfl, Nat.le_of_ble_eq_true rfl, Nat.le_of_ble_eq_true rfl⟩ (Nat.le_of_ble_eq_true rfl) (z_pm [0] 1 rfl (by decide) rfl) ?_
    refine z_dup2 C dX7_perform_199 rfl rfl ?_
    refine z_iald C dX7_perform_200 0 1 rfl rfl hw.1 ?_
    replace hw := hw.2
    refine z_iconst C dX7_perform_201 1 (by decide +kernel) ?_
    refine z_isub C dX7_perform_202 ?_
    refine z_iast C dX7_perform_203 0 1 rfl rfl hw.1 [(wMx cI gv (upd w0S (f_X7_of p1 0).toNatClampNeg ((w0S (f_X7_of p1 0).toNatClampNeg) - 1)) (mAside v) (mBefore v) (mText v) (mLetters v) (mBys v) (mFirst v) (mCommand v) (mKnown v) (mLength v) (mLogLong v) (mAreSame v) (mAt v) (mIsWrong v) (mPosition v) (mReason v) (mCause v))] rfl ?_
    replace hw := hw.2
    refine z_aload_n C dX7_perform_204 rfl ?_
    refine z_get C inlX7 rfl 0 (by decide) mw_4_15 dX7_perform_205 0 0 rfl rfl rfl ?_
    refine z_iload_n C dX7_perform_208 rfl ?_
    refine z_bipush C dX7_perform_209 114 (by decide +kernel) ?_
    refine z_callFS C [] [(wMx cI gv (upd w0S (f_X7_of p1 0).toNatClampNeg ((w0S (f_X7_of p1 0).toNatClampNeg) - 1)) (mAside v) (mBefore v) (mText v) (mLetters v) (mBys v) (mFirst v) (mCommand v) (mKnown v) (mLength v) (mLogLong v) (mAreSame v) (mAt v) (mIsWrong v) (mPosition v) (mReason v) (mCause v))] (met_X7_of l D cI p1 114) y_X7_of mw_12_5 dX7_perform_211 rfl n_X7_of rfl (by decide) ⟨rfl, rfl, Nat.le_of_ble_eq_true rfl, Nat.le_of_ble_eq_true rfl⟩ (Nat.le_of_ble_eq_true rfl) (z_pm [0] 1 rfl (by decide) rfl) ?_
    refine z_dup2 C dX7_perform_214 rfl rfl ?_
    refine z_iald C dX7_perform_215 0 1 rfl rfl hw.1 ?_
    replace hw := hw.2
    refine z_iload_n C dX7_perform_216 rfl ?_
    refine z_aload_n C dX7_perform_217 rfl ?_
    refine z_get C inlX7 rfl 0 (by decide) mw_4_15 dX7_perform_218 0 0 rfl rfl rfl ?_
    refine z_iload_n C dX7_perform_221 rfl ?_
    refine z_bipush C dX7_perform_222 114 (by decide +kernel) ?_
    refine z_callFS C [] [(wMx cI gv (upd w0S (f_X7_of p1 0).toNatClampNeg ((w0S (f_X7_of p1 0).toNatClampNeg) - 1)) (mAside v) (mBefore v) (mText v) (mLetters v) (mBys v) (mFirst v) (mCommand v) (mKnown v) (mLength v) (mLogLong v) (mAreSame v) (mAt v) (mIsWrong v) (mPosition v) (mReason v) (mCause v))] (met_X7_of l D cI p1 114) y_X7_of mw_12_5 dX7_perform_224 rfl n_X7_of rfl (by decide) ⟨rfl, rfl, Nat.le_of_ble_eq_true rfl, Nat.le_of_ble_eq_true rfl⟩ (Nat.le_of_ble_eq_true rfl) (z_pm [0] 1 rfl (by decide) rfl) ?_
    refine z_iald C dX7_perform_227 0 1 rfl rfl hw.1 ?_
    replace hw := hw.2
    refine z_icmp_ge C dX7_perform_228 235 (by decide) (fun c7 => ?_) (fun c7 => ?_)
    · replace hw := hw.1 c7
      refine z_iconst C dX7_perform_235 0 (by decide +kernel) ?_
      refine z_isub C dX7_perform_236 ?_
      refine z_iast C dX7_perform_237 0 1 rfl rfl hw.1 [(wMx cI gv (upd (upd w0S (f_X7_of p1 0).toNatClampNeg ((w0S (f_X7_of p1 0).toNatClampNeg) - 1)) (f_X7_of p1 114).toNatClampNeg (((upd w0S (f_X7_of p1 0).toNatClampNeg ((w0S (f_X7_of p1 0).toNatClampNeg) - 1)) (f_X7_of p1 114).toNatClampNeg) - 0)) (mAside v) (mBefore v) (mText v) (mLetters v) (mBys v) (mFirst v) (mCommand v) (mKnown v) (mLength v) (mLogLong v) (mAreSame v) (mAt v) (mIsWrong v) (mPosition v) (mReason v) (mCause v))] rfl ?_
      replace hw := hw.2
      refine z_iconst C dX7_perform_238 0 (by decide +kernel) ?_
      refine z_istore C dX7_perform_239 [some (.ref (gv 0)), some (.int p1), some (.int p2), some (.int v3), some (.int v4), some (.int 0)] (by decide) rfl ?_
      refine z_ls C [true, true, true, false, false, true] [some (.ref (gv 0)), some (.int p1), some (.int p2), none, none, some (.int 0)] rfl ?_
      exact wk_X7_perform_241 C gv v p1 p2   0 (upd (upd w0S (f_X7_of p1 0).toNatClampNeg ((w0S (f_X7_of p1 0).toNatClampNeg) - 1)) (f_X7_of p1 114).toNatClampNeg (((upd w0S (f_X7_of p1 0).toNatClampNeg ((w0S (f_X7_of p1 0).toNatClampNeg) - 1)) (f_X7_of p1 114).toNatClampNeg) - 0)) _  hw
    · replace hw := hw.2 c7
      refine z_iconst C dX7_perform_231 1 (by decide +kernel) ?_
      refine z_goto C dX7_perform_232 236 (by decide) ?_
      refine z_isub C dX7_perform_236 ?_
      refine z_iast C dX7_perform_237 0 1 rfl rfl hw.1 [(wMx cI gv (upd (upd w0S (f_X7_of p1 0).toNatClampNeg ((w0S (f_X7_of p1 0).toNatClampNeg) - 1)) (f_X7_of p1 114).toNatClampNeg (((upd w0S (f_X7_of p1 0).toNatClampNeg ((w0S (f_X7_of p1 0).toNatClampNeg) - 1)) (f_X7_of p1 114).toNatClampNeg) - 1)) (mAside v) (mBefore v) (mText v) (mLetters v) (mBys v) (mFirst v) (mCommand v) (mKnown v) (mLength v) (mLogLong v) (mAreSame v) (mAt v) (mIsWrong v) (mPosition v) (mReason v) (mCause v))] rfl ?_
      replace hw := hw.2
      refine z_iconst C dX7_perform_238 0 (by decide +kernel) ?_
      refine z_istore C dX7_perform_239 [some (.ref (gv 0)), some (.int p1), some (.int p2), some (.int v3), some (.int v4), some (.int 0)] (by decide) rfl ?_
      refine z_ls C [true, true, true, false, false, true] [some (.ref (gv 0)), some (.int p1), some (.int p2), none, none, some (.int 0)] rfl ?_
      exact wk_X7_perform_241 C gv v p1 p2   0 (upd (upd w0S (f_X7_of p1 0).toNatClampNeg ((w0S (f_X7_of p1 0).toNatClampNeg) - 1)) (f_X7_of p1 114).toNatClampNeg (((upd w0S (f_X7_of p1 0).toNatClampNeg ((w0S (f_X7_of p1 0).toNatClampNeg) - 1)) (f_X7_of p1 114).toNatClampNeg) - 1)) _  hw
  · replace hw := hw.2 c6
    refine z_aload_n C dX7_perform_156 rfl ?_
    refine z_get C inlX7 rfl 0 (by decide) mw_4_15 dX7_perform_157 0 0 rfl rfl rfl ?_
    refine z_iload_n C dX7_perform_160 rfl ?_
    refine z_iconst C dX7_perform_161 1 (by decide +kernel) ?_
    refine z_iload C dX7_perform_162 rfl ?_
    refine z_iadd C dX7_perform_164 ?_
    refine z_callFS C [] [(wMx cI gv w0S (mAside v) (mBefore v) (mText v) (mLetters v) (mBys v) (mFirst v) (mCommand v) (mKnown v) (mLength v) (mLogLong v) (mAreSame v) (mAt v) (mIsWrong v) (mPosition v) (mReason v) (mCause v))] (met_X7_of l D cI p1 (1 + v5)) y_X7_of mw_12_5 dX7_perform_165 rfl n_X7_of rfl (by decide) ⟨rfl, rfl, Nat.le_of_ble_eq_true rfl, Nat.le_of_ble_eq_true rfl⟩ (Nat.le_of_ble_eq_true rfl) (z_pm [0] 1 rfl (by decide) rfl) ?_
    refine z_aload_n C dX7_perform_168 rfl ?_
    refine z_get C inlX7 rfl 0 (by decide) mw_4_15 dX7_perform_169 0 0 rfl rfl rfl ?_
    refine z_iload_n C dX7_perform_172 rfl ?_
    refine z_iconst C dX7_perform_173 1 (by decide +kernel) ?_
    refine z_iload C dX7_perform_174 rfl ?_
    refine z_iadd C dX7_perform_176 ?_
    refine z_iconst C dX7_perform_177 1 (by decide +kernel) ?_
    refine z_iadd C dX7_perform_178 ?_
    refine z_callFS C [] [(wMx cI gv w0S (mAside v) (mBefore v) (mText v) (mLetters v) (mBys v) (mFirst v) (mCommand v) (mKnown v) (mLength v) (mLogLong v) (mAreSame v) (mAt v) (mIsWrong v) (mPosition v) (mReason v) (mCause v))] (met_X7_of l D cI p1 ((1 + v5) + 1)) y_X7_of mw_12_5 dX7_perform_179 rfl n_X7_of rfl (by decide) ⟨rfl, rfl, Nat.le_of_ble_eq_true rfl, Nat.le_of_ble_eq_true rfl⟩ (Nat.le_of_ble_eq_true rfl) (z_pm [0] 1 rfl (by decide) rfl) ?_
    refine z_iald C dX7_perform_182 0 1 rfl rfl hw.1 ?_
    replace hw := hw.2
    refine z_iast C dX7_perform_183 0 1 rfl rfl hw.1 [(wMx cI gv (upd w0S (f_X7_of p1 (1 + v5)).toNatClampNeg (w0S (f_X7_of p1 ((1 + v5) + 1)).toNatClampNeg)) (mAside v) (mBefore v) (mText v) (mLetters v) (mBys v) (mFirst v) (mCommand v) (mKnown v) (mLength v) (mLogLong v) (mAreSame v) (mAt v) (mIsWrong v) (mPosition v) (mReason v) (mCause v))] rfl ?_
    replace hw := hw.2
    refine z_iinc C dX7_perform_184 rfl (v5 + 1) (by rfl) [some (.ref (gv 0)), some (.int p1), some (.int p2), some (.int v3), some (.int v4), some (.int (v5 + 1))] (by decide) rfl ?_
    refine z_goto C dX7_perform_187 147 (by decide) ?_
    exact hK147 _ _ hw
def lb_X7_perform_29 (v : zM) (p1 : Int32) (p2 : Int32) (v3 : Int32)  (Q : zM → Prop)  (K29 : (Int32) → (Nat → Int32) → Prop) (v5 : Int32) (w0S : Nat → Int32) : Prop := ((v5 ≤ v3 → (vp_in (f_X7_of p1 (1 + v3)) 445 ∧ (vp_in (f_X7_of p1 0) 445 ∧ (vp_in (f_X7_of p1 0) 445 ∧ (vp_in (f_X7_of p1 114) 445 ∧ (vp_in (f_X7_of p1 114) 445 ∧ ((((upd (upd w0S (f_X7_of p1 (1 + v3)).toNatClampNeg (f_X7_letterOf p2)) (f_X7_of p1 0).toNatClampNeg (((upd w0S (f_X7_of p1 (1 + v3)).toNatClampNeg (f_X7_letterOf p2)) (f_X7_of p1 0).toNatClampNeg) + 1)) (f_X7_of p1 114).toNatClampNeg) < v3 → (vp_in (f_X7_of p1 114) 445 ∧ (zLoop2 (lb_X7_perform_241 v p1 p2   Q ) 0 (upd (upd (upd w0S (f_X7_of p1 (1 + v3)).toNatClampNeg (f_X7_letterOf p2)) (f_X7_of p1 0).toNatClampNeg (((upd w0S (f_X7_of p1 (1 + v3)).toNatClampNeg (f_X7_letterOf p2)) (f_X7_of p1 0).toNatClampNeg) + 1)) (f_X7_of p1 114).toNatClampNeg (((upd (upd w0S (f_X7_of p1 (1 + v3)).toNatClampNeg (f_X7_letterOf p2)) (f_X7_of p1 0).toNatClampNeg (((upd w0S (f_X7_of p1 (1 + v3)).toNatClampNeg (f_X7_letterOf p2)) (f_X7_of p1 0).toNatClampNeg) + 1)) (f_X7_of p1 114).toNatClampNeg) + 0))))) ∧ (¬ ((upd (upd w0S (f_X7_of p1 (1 + v3)).toNatClampNeg (f_X7_letterOf p2)) (f_X7_of p1 0).toNatClampNeg (((upd w0S (f_X7_of p1 (1 + v3)).toNatClampNeg (f_X7_letterOf p2)) (f_X7_of p1 0).toNatClampNeg) + 1)) (f_X7_of p1 114).toNatClampNeg) < v3 → (vp_in (f_X7_of p1 114) 445 ∧ (zLoop2 (lb_X7_perform_241 v p1 p2   Q ) 0 (upd (upd (upd w0S (f_X7_of p1 (1 + v3)).toNatClampNeg (f_X7_letterOf p2)) (f_X7_of p1 0).toNatClampNeg (((upd w0S (f_X7_of p1 (1 + v3)).toNatClampNeg (f_X7_letterOf p2)) (f_X7_of p1 0).toNatClampNeg) + 1)) (f_X7_of p1 114).toNatClampNeg (((upd (upd w0S (f_X7_of p1 (1 + v3)).toNatClampNeg (f_X7_letterOf p2)) (f_X7_of p1 0).toNatClampNeg (((upd w0S (f_X7_of p1 (1 + v3)).toNatClampNeg (f_X7_letterOf p2)) (f_X7_of p1 0).toNatClampNeg) + 1)) (f_X7_of p1 114).toNatClampNeg) + 1)))))))))))) ∧ (¬ v5 ≤ v3 → (vp_in (f_X7_of p1 ((1 + v5) - 1)) 445 ∧ (vp_in (f_X7_of p1 (1 + v5)) 445 ∧ (K29 (v5 + (-1)) (upd w0S (f_X7_of p1 (1 + v5)).toNatClampNeg (w0S (f_X7_of p1 ((1 + v5) - 1)).toNatClampNeg)))))))
set_option maxHeartbeats 4000000 in
set_option maxRecDepth 100000 in
theorem wk_X7_perform_29 {p : Program} {l : Launch} {e : Env} {s : State} {m : MethodId} {args : Array Value} {below : List Frame} {meth : Method} {c : Code} {D : va_G} {cI : ClassId} {A : Nat → Prop} (C : ZC p s m args meth c RX7 cX7_perform 6 none D cI A) (gv : Nat → Nat) (v : zM) (p1 : Int32) (p2 : Int32) (v3 : Int32)  (v5 : Int32) (w0S : Nat → Int32) (Q : zM → Prop)  (hw : zLoop2 (lb_X7_perform_29 v p1 p2 v3  Q ) v5 w0S) : ZZ p l e rmX7_perform s m args below meth c D A 6 0 0 (MQ below (ZQ D A (fun _ : zM => none) (fun u : zM => [(wMx cI gv (mS u) (mAside u) (mBefore u) (mText u) (mLetters u) (mBys u) (mFirst u) (mCommand u) (mKnown u) (mLength u) (mLogLong u) (mAreSame u) (mAt u) (mIsWrong u) (mPosition u) (mReason u) (mCause u))]) (fun u : zM => Q u)) args s rmX7_perform.cells rmX7_perform.slots A) [(wMx cI gv w0S (mAside v) (mBefore v) (mText v) (mLetters v) (mBys v) (mFirst v) (mCommand v) (mKnown v) (mLength v) (mLogLong v) (mAreSame v) (mAt v) (mIsWrong v) (mPosition v) (mReason v) (mCause v))] 29 [some (.ref (gv 0)), some (.int p1), some (.int p2), some (.int v3), none, some (.int v5)] [] := by
  refine zLoop2_w (fun (v5 : Int32) (w0S : Nat → Int32) => ZZ p l e rmX7_perform s m args below meth c D A 6 0 0 (MQ below (ZQ D A (fun _ : zM => none) (fun u : zM => [(wMx cI gv (mS u) (mAside u) (mBefore u) (mText u) (mLetters u) (mBys u) (mFirst u) (mCommand u) (mKnown u) (mLength u) (mLogLong u) (mAreSame u) (mAt u) (mIsWrong u) (mPosition u) (mReason u) (mCause u))]) (fun u : zM => Q u)) args s rmX7_perform.cells rmX7_perform.slots A) [(wMx cI gv w0S (mAside v) (mBefore v) (mText v) (mLetters v) (mBys v) (mFirst v) (mCommand v) (mKnown v) (mLength v) (mLogLong v) (mAreSame v) (mAt v) (mIsWrong v) (mPosition v) (mReason v) (mCause v))] 29 [some (.ref (gv 0)), some (.int p1), some (.int p2), some (.int v3), none, some (.int v5)] []) ?_ _ _ hw
  clear hw
  intro K29 hK29 v5 w0S hw
  unfold lb_X7_perform_29 at hw
  refine z_iload C dX7_perform_29 rfl ?_
  refine z_iload_n C dX7_perform_31 rfl ?_
  refine z_icmp_le C dX7_perform_32 69 (by decide) (fun c8 => ?_) (fun c8 => ?_)
  · replace hw := hw.1 c8
    refine z_aload_n C dX7_perform_69 rfl ?_
    refine z_get C inlX7 rfl 0 (by decide) mw_4_15 dX7_perform_70 0 0 rfl rfl rfl ?_
    refine z_iload_n C dX7_perform_73 rfl ?_
    refine z_iconst C dX7_perform_74 1 (by decide +kernel) ?_
    refine z_iload_n C dX7_perform_75 rfl ?_
    refine z_iadd C dX7_perform_76 ?_
    refine z_callFS C [] [(wMx cI gv w0S (mAside v) (mBefore v) (mText v) (mLetters v) (mBys v) (mFirst v) (mCommand v) (mKnown v) (mLength v) (mLogLong v) (mAreSame v) (mAt v) (mIsWrong v) (mPosition v) (mReason v) (mCause v))] (met_X7_of l D cI p1 (1 + v3)) y_X7_of mw_12_5 dX7_perform_77 rfl n_X7_of rfl (by decide) ⟨rfl, rfl, Nat.le_of_ble_eq_true rfl, Nat.le_of_ble_eq_true rfl⟩ (Nat.le_of_ble_eq_true rfl) (z_pm [0] 1 rfl (by decide) rfl) ?_
    refine z_iload_n C dX7_perform_80 rfl ?_
    refine z_callFS C [] [(wMx cI gv w0S (mAside v) (mBefore v) (mText v) (mLetters v) (mBys v) (mFirst v) (mCommand v) (mKnown v) (mLength v) (mLogLong v) (mAreSame v) (mAt v) (mIsWrong v) (mPosition v) (mReason v) (mCause v))] (met_X7_letterOf l D cI p2) y_X7_letterOf mw_13_10 dX7_perform_81 rfl n_X7_letterOf rfl (by decide) ⟨rfl, rfl, Nat.le_of_ble_eq_true rfl, Nat.le_of_ble_eq_true rfl⟩ (Nat.le_of_ble_eq_true rfl) (z_pm [0] 1 rfl (by decide) rfl) ?_
    refine z_iast C dX7_perform_84 0 1 rfl rfl hw.1 [(wMx cI gv (upd w0S (f_X7_of p1 (1 + v3)).toNatClampNeg (f_X7_letterOf p2)) (mAside v) (mBefore v) (mText v) (mLetters v) (mBys v) (mFirst v) (mCommand v) (mKnown v) (mLength v) (mLogLong v) (mAreSame v) (mAt v) (mIsWrong v) (mPosition v) (mReason v) (mCause v))] rfl ?_
    replace hw := hw.2
    refine z_aload_n C dX7_perform_85 rfl ?_
    refine z_get C inlX7 rfl 0 (by decide) mw_4_15 dX7_perform_86 0 0 rfl rfl rfl ?_
    refine z_iload_n C dX7_perform_89 rfl ?_
    refine z_iconst C dX7_perform_90 0 (by decide +kernel) ?_
    refine z_callFS C [] [(wMx cI gv (upd w0S (f_X7_of p1 (1 + v3)).toNatClampNeg (f_X7_letterOf p2)) (mAside v) (mBefore v) (mText v) (mLetters v) (mBys v) (mFirst v) (mCommand v) (mKnown v) (mLength v) (mLogLong v) (mAreSame v) (mAt v) (mIsWrong v) (mPosition v) (mReason v) (mCause v))] (met_X7_of l D cI p1 0) y_X7_of mw_12_5 dX7_perform_91 rfl n_X7_of rfl (by decide) ⟨rfl, rfl, Nat.le_of_ble_eq_true rfl, Nat.le_of_ble_eq_true rfl⟩ (Nat.le_of_ble_eq_true rfl) (z_pm [0] 1 rfl (by decide) rfl) ?_
    refine z_dup2 C dX7_perform_94 rfl rfl ?_
    refine z_iald C dX7_perform_95 0 1 rfl rfl hw.1 ?_
    replace hw := hw.2
    refine z_iconst C dX7_perform_96 1 (by decide +kernel) ?_
    refine z_iadd C dX7_perform_97 ?_
    refine z_iast C dX7_perform_98 0 1 rfl rfl hw.1 [(wMx cI gv (upd (upd w0S (f_X7_of p1 (1 + v3)).toNatClampNeg (f_X7_letterOf p2)) (f_X7_of p1 0).toNatClampNeg (((upd w0S (f_X7_of p1 (1 + v3)).toNatClampNeg (f_X7_letterOf p2)) (f_X7_of p1 0).toNatClampNeg) + 1)) (mAside v) (mBefore v) (mText v) (mLetters v) (mBys v) (mFirst v) (mCommand v) (mKnown v) (mLength v) (mLogLong v) (mAreSame v) (mAt v) (mIsWrong v) (mPosition v) (mReason v) (mCause v))] rfl ?_
    replace hw := hw.2
    refine z_aload_n C dX7_perform_99 rfl ?_
    refine z_get C inlX7 rfl 0 (by decide) mw_4_15 dX7_perform_100 0 0 rfl rfl rfl ?_
    refine z_iload_n C dX7_perform_103 rfl ?_
    refine z_bipush C dX7_perform_104 114 (by decide +kernel) ?_
    refine z_callFS C [] [(wMx cI gv (upd (upd w0S (f_X7_of p1 (1 + v3)).toNatClampNeg (f_X7_letterOf p2)) (f_X7_of p1 0).toNatClampNeg (((upd w0S (f_X7_of p1 (1 + v3)).toNatClampNeg (f_X7_letterOf p2)) (f_X7_of p1 0).toNatClampNeg) + 1)) (mAside v) (mBefore v) (mText v) (mLetters v) (mBys v) (mFirst v) (mCommand v) (mKnown v) (mLength v) (mLogLong v) (mAreSame v) (mAt v) (mIsWrong v) (mPosition v) (mReason v) (mCause v))] (met_X7_of l D cI p1 114) y_X7_of mw_12_5 dX7_perform_106 rfl n_X7_of rfl (by decide) ⟨rfl, rfl, Nat.le_of_ble_eq_true rfl, Nat.le_of_ble_eq_true rfl⟩ (Nat.le_of_ble_eq_true rfl) (z_pm [0] 1 rfl (by decide) rfl) ?_
    refine z_dup2 C dX7_perform_109 rfl rfl ?_
    refine z_iald C dX7_perform_110 0 1 rfl rfl hw.1 ?_
    replace hw := hw.2
    refine z_iload_n C dX7_perform_111 rfl ?_
    refine z_aload_n C dX7_perform_112 rfl ?_
    refine z_get C inlX7 rfl 0 (by decide) mw_4_15 dX7_perform_113 0 0 rfl rfl rfl ?_
    refine z_iload_n C dX7_perform_116 rfl ?_
    refine z_bipush C dX7_perform_117 114 (by decide +kernel) ?_
    refine z_callFS C [] [(wMx cI gv (upd (upd w0S (f_X7_of p1 (1 + v3)).toNatClampNeg (f_X7_letterOf p2)) (f_X7_of p1 0).toNatClampNeg (((upd w0S (f_X7_of p1 (1 + v3)).toNatClampNeg (f_X7_letterOf p2)) (f_X7_of p1 0).toNatClampNeg) + 1)) (mAside v) (mBefore v) (mText v) (mLetters v) (mBys v) (mFirst v) (mCommand v) (mKnown v) (mLength v) (mLogLong v) (mAreSame v) (mAt v) (mIsWrong v) (mPosition v) (mReason v) (mCause v))] (met_X7_of l D cI p1 114) y_X7_of mw_12_5 dX7_perform_119 rfl n_X7_of rfl (by decide) ⟨rfl, rfl, Nat.le_of_ble_eq_true rfl, Nat.le_of_ble_eq_true rfl⟩ (Nat.le_of_ble_eq_true rfl) (z_pm [0] 1 rfl (by decide) rfl) ?_
    refine z_iald C dX7_perform_122 0 1 rfl rfl hw.1 ?_
    replace hw := hw.2
    refine z_icmp_gt C dX7_perform_123 130 (by decide) (fun c9 => ?_) (fun c9 => ?_)
    · replace hw := hw.1 c9
      refine z_iconst C dX7_perform_130 0 (by decide +kernel) ?_
      refine z_iadd C dX7_perform_131 ?_
      refine z_iast C dX7_perform_132 0 1 rfl rfl hw.1 [(wMx cI gv (upd (upd (upd w0S (f_X7_of p1 (1 + v3)).toNatClampNeg (f_X7_letterOf p2)) (f_X7_of p1 0).toNatClampNeg (((upd w0S (f_X7_of p1 (1 + v3)).toNatClampNeg (f_X7_letterOf p2)) (f_X7_of p1 0).toNatClampNeg) + 1)) (f_X7_of p1 114).toNatClampNeg (((upd (upd w0S (f_X7_of p1 (1 + v3)).toNatClampNeg (f_X7_letterOf p2)) (f_X7_of p1 0).toNatClampNeg (((upd w0S (f_X7_of p1 (1 + v3)).toNatClampNeg (f_X7_letterOf p2)) (f_X7_of p1 0).toNatClampNeg) + 1)) (f_X7_of p1 114).toNatClampNeg) + 0)) (mAside v) (mBefore v) (mText v) (mLetters v) (mBys v) (mFirst v) (mCommand v) (mKnown v) (mLength v) (mLogLong v) (mAreSame v) (mAt v) (mIsWrong v) (mPosition v) (mReason v) (mCause v))] rfl ?_
      replace hw := hw.2
      refine z_goto C dX7_perform_133 238 (by decide) ?_
      refine z_iconst C dX7_perform_238 0 (by decide +kernel) ?_
      refine z_istore C dX7_perform_239 [some (.ref (gv 0)), some (.int p1), some (.int p2), some (.int v3), none, some (.int 0)] (by decide) rfl ?_
      refine z_ls C [true, true, true, false, false, true] [some (.ref (gv 0)), some (.int p1), some (.int p2), none, none, some (.int 0)] rfl ?_
      exact wk_X7_perform_241 C gv v p1 p2   0 (upd (upd (upd w0S (f_X7_of p1 (1 + v3)).toNatClampNeg (f_X7_letterOf p2)) (f_X7_of p1 0).toNatClampNeg (((upd w0S (f_X7_of p1 (1 + v3)).toNatClampNeg (f_X7_letterOf p2)) (f_X7_of p1 0).toNatClampNeg) + 1)) (f_X7_of p1 114).toNatClampNeg (((upd (upd w0S (f_X7_of p1 (1 + v3)).toNatClampNeg (f_X7_letterOf p2)) (f_X7_of p1 0).toNatClampNeg (((upd w0S (f_X7_of p1 (1 + v3)).toNatClampNeg (f_X7_letterOf p2)) (f_X7_of p1 0).toNatClampNeg) + 1)) (f_X7_of p1 114).toNatClampNeg) + 0)) _  hw
    · replace hw := hw.2 c9
      refine z_iconst C dX7_perform_126 1 (by decide +kernel) ?_
      refine z_goto C dX7_perform_127 131 (by decide) ?_
      refine z_iadd C dX7_perform_131 ?_
      refine z_iast C dX7_perform_132 0 1 rfl rfl hw.1 [(wMx cI gv (upd (upd (upd w0S (f_X7_of p1 (1 + v3)).toNatClampNeg (f_X7_letterOf p2)) (f_X7_of p1 0).toNatClampNeg (((upd w0S (f_X7_of p1 (1 + v3)).toNatClampNeg (f_X7_letterOf p2)) (f_X7_of p1 0).toNatClampNeg) + 1)) (f_X7_of p1 114).toNatClampNeg (((upd (upd w0S (f_X7_of p1 (1 + v3)).toNatClampNeg (f_X7_letterOf p2)) (f_X7_of p1 0).toNatClampNeg (((upd w0S (f_X7_of p1 (1 + v3)).toNatClampNeg (f_X7_letterOf p2)) (f_X7_of p1 0).toNatClampNeg) + 1)) (f_X7_of p1 114).toNatClampNeg) + 1)) (mAside v) (mBefore v) (mText v) (mLetters v) (mBys v) (mFirst v) (mCommand v) (mKnown v) (mLength v) (mLogLong v) (mAreSame v) (mAt v) (mIsWrong v) (mPosition v) (mReason v) (mCause v))] rfl ?_
      replace hw := hw.2
      refine z_goto C dX7_perform_133 238 (by decide) ?_
      refine z_iconst C dX7_perform_238 0 (by decide +kernel) ?_
      refine z_istore C dX7_perform_239 [some (.ref (gv 0)), some (.int p1), some (.int p2), some (.int v3), none, some (.int 0)] (by decide) rfl ?_
      refine z_ls C [true, true, true, false, false, true] [some (.ref (gv 0)), some (.int p1), some (.int p2), none, none, some (.int 0)] rfl ?_
      exact wk_X7_perform_241 C gv v p1 p2   0 (upd (upd (upd w0S (f_X7_of p1 (1 + v3)).toNatClampNeg (f_X7_letterOf p2)) (f_X7_of p1 0).toNatClampNeg (((upd w0S (f_X7_of p1 (1 + v3)).toNatClampNeg (f_X7_letterOf p2)) (f_X7_of p1 0).toNatClampNeg) + 1)) (f_X7_of p1 114).toNatClampNeg (((upd (upd w0S (f_X7_of p1 (1 + v3)).toNatClampNeg (f_X7_letterOf p2)) (f_X7_of p1 0).toNatClampNeg (((upd w0S (f_X7_of p1 (1 + v3)).toNatClampNeg (f_X7_letterOf p2)) (f_X7_of p1 0).toNatClampNeg) + 1)) (f_X7_of p1 114).toNatClampNeg) + 1)) _  hw
  · replace hw := hw.2 c8
    refine z_aload_n C dX7_perform_35 rfl ?_
    refine z_get C inlX7 rfl 0 (by decide) mw_4_15 dX7_perform_36 0 0 rfl rfl rfl ?_
    refine z_iload_n C dX7_perform_39 rfl ?_
    refine z_iconst C dX7_perform_40 1 (by decide +kernel) ?_
    refine z_iload C dX7_perform_41 rfl ?_
    refine z_iadd C dX7_perform_43 ?_
    refine z_callFS C [] [(wMx cI gv w0S (mAside v) (mBefore v) (mText v) (mLetters v) (mBys v) (mFirst v) (mCommand v) (mKnown v) (mLength v) (mLogLong v) (mAreSame v) (mAt v) (mIsWrong v) (mPosition v) (mReason v) (mCause v))] (met_X7_of l D cI p1 (1 + v5)) y_X7_of mw_12_5 dX7_perform_44 rfl n_X7_of rfl (by decide) ⟨rfl, rfl, Nat.le_of_ble_eq_true rfl, Nat.le_of_ble_eq_true rfl⟩ (Nat.le_of_ble_eq_true rfl) (z_pm [0] 1 rfl (by decide) rfl) ?_
    refine z_aload_n C dX7_perform_47 rfl ?_
    refine z_get C inlX7 rfl 0 (by decide) mw_4_15 dX7_perform_48 0 0 rfl rfl rfl ?_
    refine z_iload_n C dX7_perform_51 rfl ?_
    refine z_iconst C dX7_perform_52 1 (by decide +kernel) ?_
    refine z_iload C dX7_perform_53 rfl ?_
    refine z_iadd C dX7_perform_55 ?_
    refine z_iconst C dX7_perform_56 1 (by decide +kernel) ?_
    refine z_isub C dX7_perform_57 ?_
    refine z_callFS C [] [(wMx cI gv w0S (mAside v) (mBefore v) (mText v) (mLetters v) (mBys v) (mFirst v) (mCommand v) (mKnown v) (mLength v) (mLogLong v) (mAreSame v) (mAt v) (mIsWrong v) (mPosition v) (mReason v) (mCause v))] (met_X7_of l D cI p1 ((1 + v5) - 1)) y_X7_of mw_12_5 dX7_perform_58 rfl n_X7_of rfl (by decide) ⟨rfl, rfl, Nat.le_of_ble_eq_true rfl, Nat.le_of_ble_eq_true rfl⟩ (Nat.le_of_ble_eq_true rfl) (z_pm [0] 1 rfl (by decide) rfl) ?_
    refine z_iald C dX7_perform_61 0 1 rfl rfl hw.1 ?_
    replace hw := hw.2
    refine z_iast C dX7_perform_62 0 1 rfl rfl hw.1 [(wMx cI gv (upd w0S (f_X7_of p1 (1 + v5)).toNatClampNeg (w0S (f_X7_of p1 ((1 + v5) - 1)).toNatClampNeg)) (mAside v) (mBefore v) (mText v) (mLetters v) (mBys v) (mFirst v) (mCommand v) (mKnown v) (mLength v) (mLogLong v) (mAreSame v) (mAt v) (mIsWrong v) (mPosition v) (mReason v) (mCause v))] rfl ?_
    replace hw := hw.2
    refine z_iinc C dX7_perform_63 rfl (v5 + (-1)) (by rfl) [some (.ref (gv 0)), some (.int p1), some (.int p2), some (.int v3), none, some (.int (v5 + (-1)))] (by decide) rfl ?_
    refine z_goto C dX7_perform_66 29 (by decide) ?_
    exact hK29 _ _ hw
def wp_X7_perform (v : zM) (p1 : Int32) (p2 : Int32) (Q : zM → Prop) : Prop := (∀ x1 : Int32, x1 = (f_X7_placeOf p2) → (vp_in (f_X7_of p1 0) 445 ∧ (∀ x2 : Int32, x2 = ((mS v) (f_X7_of p1 0).toNatClampNeg) → ((¬ (f_X7_kindOf p2) = 1 → ((¬ (f_X7_kindOf p2) = 2 → (zLoop2 (lb_X7_perform_241 v p1 p2   Q ) 0 (mS v))) ∧ ((f_X7_kindOf p2) = 2 → (zLoop2 (lb_X7_perform_147 v p1 p2 x1 x2  Q ) x1 (mS v))))) ∧ ((f_X7_kindOf p2) = 1 → (zLoop2 (lb_X7_perform_29 v p1 p2 x1  Q ) x2 (mS v)))))))
set_option maxHeartbeats 4000000 in
set_option maxRecDepth 100000 in
theorem met_X7_perform (l : Launch) (D : va_G) (cI : ClassId) (gv : Nat → Nat) (v : zM) (p1 : Int32) (p2 : Int32) (Q : zM → Prop) (hw : wp_X7_perform v p1 p2 Q) : ZM l D cI yX7_perform cX7_perform 6 none rmX7_perform [.ref (gv 0), .int p1, .int p2] [(wMx cI gv (mS v) (mAside v) (mBefore v) (mText v) (mLetters v) (mBys v) (mFirst v) (mCommand v) (mKnown v) (mLength v) (mLogLong v) (mAreSame v) (mAt v) (mIsWrong v) (mPosition v) (mReason v) (mCause v))] (fun _ : zM => none) (fun u : zM => [(wMx cI gv (mS u) (mAside u) (mBefore u) (mText u) (mLetters u) (mBys u) (mFirst u) (mCommand u) (mKnown u) (mLength u) (mLogLong u) (mAreSame u) (mAt u) (mIsWrong u) (mPosition u) (mReason u) (mCause u))]) (fun u : zM => Q u) := by
  refine z_body [some (.ref (gv 0)), some (.int p1), some (.int p2), none, none, none] (by decide +kernel) rfl (Nat.le_of_ble_eq_true rfl) rfl ?_
  intro p e s m args below meth c A C hin
  unfold wp_X7_perform at hw
  refine z_iload_n C dX7_perform_0 rfl ?_
  refine z_callFS C [] [(wMx cI gv (mS v) (mAside v) (mBefore v) (mText v) (mLetters v) (mBys v) (mFirst v) (mCommand v) (mKnown v) (mLength v) (mLogLong v) (mAreSame v) (mAt v) (mIsWrong v) (mPosition v) (mReason v) (mCause v))] (met_X7_placeOf l D cI p2) y_X7_placeOf mw_13_4 dX7_perform_1 rfl n_X7_placeOf rfl (by decide) ⟨rfl, rfl, Nat.le_of_ble_eq_true rfl, Nat.le_of_ble_eq_true rfl⟩ (Nat.le_of_ble_eq_true rfl) (z_pm [0] 1 rfl (by decide) rfl) ?_
  refine z_name C (fun x1 ex1 => ?_)
  replace hw := hw x1 ex1
  refine z_istore_n C dX7_perform_4 [some (.ref (gv 0)), some (.int p1), some (.int p2), some (.int x1), none, none] (by decide) rfl ?_
  refine z_aload_n C dX7_perform_5 rfl ?_
  refine z_get C inlX7 rfl 0 (by decide) mw_4_15 dX7_perform_6 0 0 rfl rfl rfl ?_
  refine z_iload_n C dX7_perform_9 rfl ?_
  refine z_iconst C dX7_perform_10 0 (by decide +kernel) ?_
  refine z_callFS C [] [(wMx cI gv (mS v) (mAside v) (mBefore v) (mText v) (mLetters v) (mBys v) (mFirst v) (mCommand v) (mKnown v) (mLength v) (mLogLong v) (mAreSame v) (mAt v) (mIsWrong v) (mPosition v) (mReason v) (mCause v))] (met_X7_of l D cI p1 0) y_X7_of mw_12_5 dX7_perform_11 rfl n_X7_of rfl (by decide) ⟨rfl, rfl, Nat.le_of_ble_eq_true rfl, Nat.le_of_ble_eq_true rfl⟩ (Nat.le_of_ble_eq_true rfl) (z_pm [0] 1 rfl (by decide) rfl) ?_
  refine z_iald C dX7_perform_14 0 1 rfl rfl hw.1 ?_
  replace hw := hw.2
  refine z_name C (fun x2 ex2 => ?_)
  replace hw := hw x2 ex2
  refine z_istore C dX7_perform_15 [some (.ref (gv 0)), some (.int p1), some (.int p2), some (.int x1), some (.int x2), none] (by decide) rfl ?_
  refine z_iload_n C dX7_perform_17 rfl ?_
  refine z_callFS C [] [(wMx cI gv (mS v) (mAside v) (mBefore v) (mText v) (mLetters v) (mBys v) (mFirst v) (mCommand v) (mKnown v) (mLength v) (mLogLong v) (mAreSame v) (mAt v) (mIsWrong v) (mPosition v) (mReason v) (mCause v))] (met_X7_kindOf l D cI p2) y_X7_kindOf mw_13_7 dX7_perform_18 rfl n_X7_kindOf rfl (by decide) ⟨rfl, rfl, Nat.le_of_ble_eq_true rfl, Nat.le_of_ble_eq_true rfl⟩ (Nat.le_of_ble_eq_true rfl) (z_pm [0] 1 rfl (by decide) rfl) ?_
  refine z_iconst C dX7_perform_21 1 (by decide +kernel) ?_
  refine z_icmp_ne C dX7_perform_22 136 (by decide) (fun c3 => ?_) (fun c3 => ?_)
  · replace hw := hw.1 c3
    refine z_iload_n C dX7_perform_136 rfl ?_
    refine z_callFS C [] [(wMx cI gv (mS v) (mAside v) (mBefore v) (mText v) (mLetters v) (mBys v) (mFirst v) (mCommand v) (mKnown v) (mLength v) (mLogLong v) (mAreSame v) (mAt v) (mIsWrong v) (mPosition v) (mReason v) (mCause v))] (met_X7_kindOf l D cI p2) y_X7_kindOf mw_13_7 dX7_perform_137 rfl n_X7_kindOf rfl (by decide) ⟨rfl, rfl, Nat.le_of_ble_eq_true rfl, Nat.le_of_ble_eq_true rfl⟩ (Nat.le_of_ble_eq_true rfl) (z_pm [0] 1 rfl (by decide) rfl) ?_
    refine z_iconst C dX7_perform_140 2 (by decide +kernel) ?_
    refine z_icmp_ne C dX7_perform_141 238 (by decide) (fun c4 => ?_) (fun c4 => ?_)
    · replace hw := hw.1 c4
      refine z_iconst C dX7_perform_238 0 (by decide +kernel) ?_
      refine z_istore C dX7_perform_239 [some (.ref (gv 0)), some (.int p1), some (.int p2), some (.int x1), some (.int x2), some (.int 0)] (by decide) rfl ?_
      refine z_ls C [true, true, true, false, false, true] [some (.ref (gv 0)), some (.int p1), some (.int p2), none, none, some (.int 0)] rfl ?_
      exact wk_X7_perform_241 C gv v p1 p2   0 (mS v) _  hw
    · replace hw := hw.2 c4
      refine z_iload_n C dX7_perform_144 rfl ?_
      refine z_istore C dX7_perform_145 [some (.ref (gv 0)), some (.int p1), some (.int p2), some (.int x1), some (.int x2), some (.int x1)] (by decide) rfl ?_
      exact wk_X7_perform_147 C gv v p1 p2 x1 x2  x1 (mS v) _  hw
  · replace hw := hw.2 c3
    refine z_iload C dX7_perform_25 rfl ?_
    refine z_istore C dX7_perform_27 [some (.ref (gv 0)), some (.int p1), some (.int p2), some (.int x1), some (.int x2), some (.int x2)] (by decide) rfl ?_
    refine z_ls C [true, true, true, true, false, true] [some (.ref (gv 0)), some (.int p1), some (.int p2), some (.int x1), none, some (.int x2)] rfl ?_
    exact wk_X7_perform_29 C gv v p1 p2 x1  x2 (mS v) _  hw
def rmX7_writes : Room := { frames := 3, cells := 0, slots := 0, locals := 73 }
def wp_X7_writes (v : zM) (p1 : Int32) (p2 : Int32) (Q : zM → Prop) : Prop := (wp_X7_perform v p1 p2 (fun u1 => (vp_in (f_X7_of p1 97) 445 ∧ (vp_in (f_X7_of p1 (98 + ((mS u1) (f_X7_of p1 97).toNatClampNeg))) 445 ∧ (vp_in (f_X7_of p1 97) 445 ∧ (vp_in (f_X7_of p1 97) 445 ∧ (vp_in (f_X7_of p1 115) 445 ∧ (vp_in (f_X7_of p1 115) 445 ∧ (Q (mSetS u1 (upd (upd (upd (mS u1) (f_X7_of p1 (98 + ((mS u1) (f_X7_of p1 97).toNatClampNeg))).toNatClampNeg p2) (f_X7_of p1 97).toNatClampNeg (((upd (mS u1) (f_X7_of p1 (98 + ((mS u1) (f_X7_of p1 97).toNatClampNeg))).toNatClampNeg p2) (f_X7_of p1 97).toNatClampNeg) + 1)) (f_X7_of p1 115).toNatClampNeg (((upd (upd (mS u1) (f_X7_of p1 (98 + ((mS u1) (f_X7_of p1 97).toNatClampNeg))).toNatClampNeg p2) (f_X7_of p1 97).toNatClampNeg (((upd (mS u1) (f_X7_of p1 (98 + ((mS u1) (f_X7_of p1 97).toNatClampNeg))).toNatClampNeg p2) (f_X7_of p1 97).toNatClampNeg) + 1)) (f_X7_of p1 115).toNatClampNeg) + 1))))))))))))
set_option maxHeartbeats 4000000 in
set_option maxRecDepth 100000 in
theorem met_X7_writes (l : Launch) (D : va_G) (cI : ClassId) (gv : Nat → Nat) (v : zM) (p1 : Int32) (p2 : Int32) (Q : zM → Prop) (hw : wp_X7_writes v p1 p2 Q) : ZM l D cI yX7_writes cX7_writes 3 none rmX7_writes [.ref (gv 0), .int p1, .int p2] [(wMx cI gv (mS v) (mAside v) (mBefore v) (mText v) (mLetters v) (mBys v) (mFirst v) (mCommand v) (mKnown v) (mLength v) (mLogLong v) (mAreSame v) (mAt v) (mIsWrong v) (mPosition v) (mReason v) (mCause v))] (fun _ : zM => none) (fun u : zM => [(wMx cI gv (mS u) (mAside u) (mBefore u) (mText u) (mLetters u) (mBys u) (mFirst u) (mCommand u) (mKnown u) (mLength u) (mLogLong u) (mAreSame u) (mAt u) (mIsWrong u) (mPosition u) (mReason u) (mCause u))]) (fun u : zM => Q u) := by
  refine z_body [some (.ref (gv 0)), some (.int p1), some (.int p2)] (by decide +kernel) rfl (Nat.le_of_ble_eq_true rfl) rfl ?_
  intro p e s m args below meth c A C hin
  unfold wp_X7_writes at hw
  refine z_aload_n C dX7_writes_0 rfl ?_
  refine z_iload_n C dX7_writes_1 rfl ?_
  refine z_iload_n C dX7_writes_2 rfl ?_
  refine z_callV0 C [(wMx cI gv (mS v) (mAside v) (mBefore v) (mText v) (mLetters v) (mBys v) (mFirst v) (mCommand v) (mKnown v) (mLength v) (mLogLong v) (mAreSame v) (mAt v) (mIsWrong v) (mPosition v) (mReason v) (mCause v))] [] rfl rfl (met_X7_perform l D cI gv v p1 p2 _ hw) y_X7_perform mw_13_0 dX7_writes_3 rfl n_X7_perform rfl (by decide) ⟨rfl, rfl, Nat.le_of_ble_eq_true rfl, Nat.le_of_ble_eq_true rfl⟩ (Nat.le_of_ble_eq_true rfl) (z_pm [0] 1 rfl (by decide) rfl) ?_
  intro u1 hw
  try dsimp only at hw
  refine z_bs [(wMx cI gv (mS u1) (mAside u1) (mBefore u1) (mText u1) (mLetters u1) (mBys u1) (mFirst u1) (mCommand u1) (mKnown u1) (mLength u1) (mLogLong u1) (mAreSame u1) (mAt u1) (mIsWrong u1) (mPosition u1) (mReason u1) (mCause u1))] [] rfl rfl ?_
  refine z_aload_n C dX7_writes_6 rfl ?_
  refine z_get C inlX7 rfl 0 (by decide) mw_4_15 dX7_writes_7 0 0 rfl rfl rfl ?_
  refine z_iload_n C dX7_writes_10 rfl ?_
  refine z_bipush C dX7_writes_11 98 (by decide +kernel) ?_
  refine z_aload_n C dX7_writes_13 rfl ?_
  refine z_get C inlX7 rfl 0 (by decide) mw_4_15 dX7_writes_14 0 0 rfl rfl rfl ?_
  refine z_iload_n C dX7_writes_17 rfl ?_
  refine z_bipush C dX7_writes_18 97 (by decide +kernel) ?_
  refine z_callFS C [] [(wMx cI gv (mS u1) (mAside u1) (mBefore u1) (mText u1) (mLetters u1) (mBys u1) (mFirst u1) (mCommand u1) (mKnown u1) (mLength u1) (mLogLong u1) (mAreSame u1) (mAt u1) (mIsWrong u1) (mPosition u1) (mReason u1) (mCause u1))] (met_X7_of l D cI p1 97) y_X7_of mw_12_5 dX7_writes_20 rfl n_X7_of rfl (by decide) ⟨rfl, rfl, Nat.le_of_ble_eq_true rfl, Nat.le_of_ble_eq_true rfl⟩ (Nat.le_of_ble_eq_true rfl) (z_pm [0] 1 rfl (by decide) rfl) ?_
  refine z_iald C dX7_writes_23 0 1 rfl rfl hw.1 ?_
  replace hw := hw.2
  refine z_iadd C dX7_writes_24 ?_
  refine z_callFS C [] [(wMx cI gv (mS u1) (mAside u1) (mBefore u1) (mText u1) (mLetters u1) (mBys u1) (mFirst u1) (mCommand u1) (mKnown u1) (mLength u1) (mLogLong u1) (mAreSame u1) (mAt u1) (mIsWrong u1) (mPosition u1) (mReason u1) (mCause u1))] (met_X7_of l D cI p1 (98 + ((mS u1) (f_X7_of p1 97).toNatClampNeg))) y_X7_of mw_12_5 dX7_writes_25 rfl n_X7_of rfl (by decide) ⟨rfl, rfl, Nat.le_of_ble_eq_true rfl, Nat.le_of_ble_eq_true rfl⟩ (Nat.le_of_ble_eq_true rfl) (z_pm [0] 1 rfl (by decide) rfl) ?_
  refine z_iload_n C dX7_writes_28 rfl ?_
  refine z_iast C dX7_writes_29 0 1 rfl rfl hw.1 [(wMx cI gv (upd (mS u1) (f_X7_of p1 (98 + ((mS u1) (f_X7_of p1 97).toNatClampNeg))).toNatClampNeg p2) (mAside u1) (mBefore u1) (mText u1) (mLetters u1) (mBys u1) (mFirst u1) (mCommand u1) (mKnown u1) (mLength u1) (mLogLong u1) (mAreSame u1) (mAt u1) (mIsWrong u1) (mPosition u1) (mReason u1) (mCause u1))] rfl ?_
  replace hw := hw.2
  refine z_aload_n C dX7_writes_30 rfl ?_
  refine z_get C inlX7 rfl 0 (by decide) mw_4_15 dX7_writes_31 0 0 rfl rfl rfl ?_
  refine z_iload_n C dX7_writes_34 rfl ?_
  refine z_bipush C dX7_writes_35 97 (by decide +kernel) ?_
  refine z_callFS C [] [(wMx cI gv (upd (mS u1) (f_X7_of p1 (98 + ((mS u1) (f_X7_of p1 97).toNatClampNeg))).toNatClampNeg p2) (mAside u1) (mBefore u1) (mText u1) (mLetters u1) (mBys u1) (mFirst u1) (mCommand u1) (mKnown u1) (mLength u1) (mLogLong u1) (mAreSame u1) (mAt u1) (mIsWrong u1) (mPosition u1) (mReason u1) (mCause u1))] (met_X7_of l D cI p1 97) y_X7_of mw_12_5 dX7_writes_37 rfl n_X7_of rfl (by decide) ⟨rfl, rfl, Nat.le_of_ble_eq_true rfl, Nat.le_of_ble_eq_true rfl⟩ (Nat.le_of_ble_eq_true rfl) (z_pm [0] 1 rfl (by decide) rfl) ?_
  refine z_dup2 C dX7_writes_40 rfl rfl ?_
  refine z_iald C dX7_writes_41 0 1 rfl rfl hw.1 ?_
  replace hw := hw.2
  refine z_iconst C dX7_writes_42 1 (by decide +kernel) ?_
  refine z_iadd C dX7_writes_43 ?_
  refine z_iast C dX7_writes_44 0 1 rfl rfl hw.1 [(wMx cI gv (upd (upd (mS u1) (f_X7_of p1 (98 + ((mS u1) (f_X7_of p1 97).toNatClampNeg))).toNatClampNeg p2) (f_X7_of p1 97).toNatClampNeg (((upd (mS u1) (f_X7_of p1 (98 + ((mS u1) (f_X7_of p1 97).toNatClampNeg))).toNatClampNeg p2) (f_X7_of p1 97).toNatClampNeg) + 1)) (mAside u1) (mBefore u1) (mText u1) (mLetters u1) (mBys u1) (mFirst u1) (mCommand u1) (mKnown u1) (mLength u1) (mLogLong u1) (mAreSame u1) (mAt u1) (mIsWrong u1) (mPosition u1) (mReason u1) (mCause u1))] rfl ?_
  replace hw := hw.2
  refine z_aload_n C dX7_writes_45 rfl ?_
  refine z_get C inlX7 rfl 0 (by decide) mw_4_15 dX7_writes_46 0 0 rfl rfl rfl ?_
  refine z_iload_n C dX7_writes_49 rfl ?_
  refine z_bipush C dX7_writes_50 115 (by decide +kernel) ?_
  refine z_callFS C [] [(wMx cI gv (upd (upd (mS u1) (f_X7_of p1 (98 + ((mS u1) (f_X7_of p1 97).toNatClampNeg))).toNatClampNeg p2) (f_X7_of p1 97).toNatClampNeg (((upd (mS u1) (f_X7_of p1 (98 + ((mS u1) (f_X7_of p1 97).toNatClampNeg))).toNatClampNeg p2) (f_X7_of p1 97).toNatClampNeg) + 1)) (mAside u1) (mBefore u1) (mText u1) (mLetters u1) (mBys u1) (mFirst u1) (mCommand u1) (mKnown u1) (mLength u1) (mLogLong u1) (mAreSame u1) (mAt u1) (mIsWrong u1) (mPosition u1) (mReason u1) (mCause u1))] (met_X7_of l D cI p1 115) y_X7_of mw_12_5 dX7_writes_52 rfl n_X7_of rfl (by decide) ⟨rfl, rfl, Nat.le_of_ble_eq_true rfl, Nat.le_of_ble_eq_true rfl⟩ (Nat.le_of_ble_eq_true rfl) (z_pm [0] 1 rfl (by decide) rfl) ?_
  refine z_dup2 C dX7_writes_55 rfl rfl ?_
  refine z_iald C dX7_writes_56 0 1 rfl rfl hw.1 ?_
  replace hw := hw.2
  refine z_iconst C dX7_writes_57 1 (by decide +kernel) ?_
  refine z_iadd C dX7_writes_58 ?_
  refine z_iast C dX7_writes_59 0 1 rfl rfl hw.1 [(wMx cI gv (upd (upd (upd (mS u1) (f_X7_of p1 (98 + ((mS u1) (f_X7_of p1 97).toNatClampNeg))).toNatClampNeg p2) (f_X7_of p1 97).toNatClampNeg (((upd (mS u1) (f_X7_of p1 (98 + ((mS u1) (f_X7_of p1 97).toNatClampNeg))).toNatClampNeg p2) (f_X7_of p1 97).toNatClampNeg) + 1)) (f_X7_of p1 115).toNatClampNeg (((upd (upd (mS u1) (f_X7_of p1 (98 + ((mS u1) (f_X7_of p1 97).toNatClampNeg))).toNatClampNeg p2) (f_X7_of p1 97).toNatClampNeg (((upd (mS u1) (f_X7_of p1 (98 + ((mS u1) (f_X7_of p1 97).toNatClampNeg))).toNatClampNeg p2) (f_X7_of p1 97).toNatClampNeg) + 1)) (f_X7_of p1 115).toNatClampNeg) + 1)) (mAside u1) (mBefore u1) (mText u1) (mLetters u1) (mBys u1) (mFirst u1) (mCommand u1) (mKnown u1) (mLength u1) (mLogLong u1) (mAreSame u1) (mAt u1) (mIsWrong u1) (mPosition u1) (mReason u1) (mCause u1))] rfl ?_
  replace hw := hw.2
  exact z_vret C rfl ((mSetS u1 (upd (upd (upd (mS u1) (f_X7_of p1 (98 + ((mS u1) (f_X7_of p1 97).toNatClampNeg))).toNatClampNeg p2) (f_X7_of p1 97).toNatClampNeg (((upd (mS u1) (f_X7_of p1 (98 + ((mS u1) (f_X7_of p1 97).toNatClampNeg))).toNatClampNeg p2) (f_X7_of p1 97).toNatClampNeg) + 1)) (f_X7_of p1 115).toNatClampNeg (((upd (upd (mS u1) (f_X7_of p1 (98 + ((mS u1) (f_X7_of p1 97).toNatClampNeg))).toNatClampNeg p2) (f_X7_of p1 97).toNatClampNeg (((upd (mS u1) (f_X7_of p1 (98 + ((mS u1) (f_X7_of p1 97).toNatClampNeg))).toNatClampNeg p2) (f_X7_of p1 97).toNatClampNeg) + 1)) (f_X7_of p1 115).toNatClampNeg) + 1)))) rfl hw rfl dX7_writes_60
def rmX7_keep : Room := { frames := 1, cells := 0, slots := 0, locals := 21 }
def lb_X7_keep_57 (v : zM) (p1 : Int32) (p2 : Int32)   (Q : zM → Prop)  (K57 : (Int32) → (Nat → Int32) → Prop) (v3 : Int32) (w0S : Nat → Int32) : Prop := ((6 ≤ v3 → (vp_in (f_X7_of p1 104) 445 ∧ (vp_in (f_X7_of p1 104) 445 ∧ (Q (mSetS v (upd w0S (f_X7_of p1 104).toNatClampNeg ((w0S (f_X7_of p1 104).toNatClampNeg) - 1))))))) ∧ (¬ 6 ≤ v3 → (vp_in (f_X7_of p1 ((105 + v3) + 1)) 445 ∧ (vp_in (f_X7_of p1 (105 + v3)) 445 ∧ (K57 (v3 + 1) (upd w0S (f_X7_of p1 (105 + v3)).toNatClampNeg (w0S (f_X7_of p1 ((105 + v3) + 1)).toNatClampNeg)))))))
set_option maxHeartbeats 4000000 in
set_option maxRecDepth 100000 in
theorem wk_X7_keep_57 {p : Program} {l : Launch} {e : Env} {s : State} {m : MethodId} {args : Array Value} {below : List Frame} {meth : Method} {c : Code} {D : va_G} {cI : ClassId} {A : Nat → Prop} (C : ZC p s m args meth c RX7 cX7_keep 4 none D cI A) (gv : Nat → Nat) (v : zM) (p1 : Int32) (p2 : Int32)   (v3 : Int32) (w0S : Nat → Int32) (Q : zM → Prop)  (hw : zLoop2 (lb_X7_keep_57 v p1 p2   Q ) v3 w0S) : ZZ p l e rmX7_keep s m args below meth c D A 4 0 0 (MQ below (ZQ D A (fun _ : zM => none) (fun u : zM => [(wMx cI gv (mS u) (mAside u) (mBefore u) (mText u) (mLetters u) (mBys u) (mFirst u) (mCommand u) (mKnown u) (mLength u) (mLogLong u) (mAreSame u) (mAt u) (mIsWrong u) (mPosition u) (mReason u) (mCause u))]) (fun u : zM => Q u)) args s rmX7_keep.cells rmX7_keep.slots A) [(wMx cI gv w0S (mAside v) (mBefore v) (mText v) (mLetters v) (mBys v) (mFirst v) (mCommand v) (mKnown v) (mLength v) (mLogLong v) (mAreSame v) (mAt v) (mIsWrong v) (mPosition v) (mReason v) (mCause v))] 57 [some (.ref (gv 0)), some (.int p1), none, some (.int v3)] [] := by
  refine zLoop2_w (fun (v3 : Int32) (w0S : Nat → Int32) => ZZ p l e rmX7_keep s m args below meth c D A 4 0 0 (MQ below (ZQ D A (fun _ : zM => none) (fun u : zM => [(wMx cI gv (mS u) (mAside u) (mBefore u) (mText u) (mLetters u) (mBys u) (mFirst u) (mCommand u) (mKnown u) (mLength u) (mLogLong u) (mAreSame u) (mAt u) (mIsWrong u) (mPosition u) (mReason u) (mCause u))]) (fun u : zM => Q u)) args s rmX7_keep.cells rmX7_keep.slots A) [(wMx cI gv w0S (mAside v) (mBefore v) (mText v) (mLetters v) (mBys v) (mFirst v) (mCommand v) (mKnown v) (mLength v) (mLogLong v) (mAreSame v) (mAt v) (mIsWrong v) (mPosition v) (mReason v) (mCause v))] 57 [some (.ref (gv 0)), some (.int p1), none, some (.int v3)] []) ?_ _ _ hw
  clear hw
  intro K57 hK57 v3 w0S hw
  unfold lb_X7_keep_57 at hw
  refine z_iload_n C dX7_keep_57 rfl ?_
  refine z_bipush C dX7_keep_58 6 (by decide +kernel) ?_
  refine z_icmp_ge C dX7_keep_60 97 (by decide) (fun c2 => ?_) (fun c2 => ?_)
  · replace hw := hw.1 c2
    refine z_aload_n C dX7_keep_97 rfl ?_
    refine z_get C inlX7 rfl 0 (by decide) mw_4_15 dX7_keep_98 0 0 rfl rfl rfl ?_
    refine z_iload_n C dX7_keep_101 rfl ?_
    refine z_bipush C dX7_keep_102 104 (by decide +kernel) ?_
    refine z_callFS C [] [(wMx cI gv w0S (mAside v) (mBefore v) (mText v) (mLetters v) (mBys v) (mFirst v) (mCommand v) (mKnown v) (mLength v) (mLogLong v) (mAreSame v) (mAt v) (mIsWrong v) (mPosition v) (mReason v) (mCause v))] (met_X7_of l D cI p1 104) y_X7_of mw_12_5 dX7_keep_104 rfl n_X7_of rfl (by decide) ⟨rfl, rfl, Nat.le_of_ble_eq_true rfl, Nat.le_of_ble_eq_true rfl⟩ (Nat.le_of_ble_eq_true rfl) (z_pm [0] 1 rfl (by decide) rfl) ?_
    refine z_dup2 C dX7_keep_107 rfl rfl ?_
    refine z_iald C dX7_keep_108 0 1 rfl rfl hw.1 ?_
    replace hw := hw.2
    refine z_iconst C dX7_keep_109 1 (by decide +kernel) ?_
    refine z_isub C dX7_keep_110 ?_
    refine z_iast C dX7_keep_111 0 1 rfl rfl hw.1 [(wMx cI gv (upd w0S (f_X7_of p1 104).toNatClampNeg ((w0S (f_X7_of p1 104).toNatClampNeg) - 1)) (mAside v) (mBefore v) (mText v) (mLetters v) (mBys v) (mFirst v) (mCommand v) (mKnown v) (mLength v) (mLogLong v) (mAreSame v) (mAt v) (mIsWrong v) (mPosition v) (mReason v) (mCause v))] rfl ?_
    replace hw := hw.2
    exact z_vret C rfl ((mSetS v (upd w0S (f_X7_of p1 104).toNatClampNeg ((w0S (f_X7_of p1 104).toNatClampNeg) - 1)))) rfl hw rfl dX7_keep_112
  · replace hw := hw.2 c2
    refine z_aload_n C dX7_keep_63 rfl ?_
    refine z_get C inlX7 rfl 0 (by decide) mw_4_15 dX7_keep_64 0 0 rfl rfl rfl ?_
    refine z_iload_n C dX7_keep_67 rfl ?_
    refine z_bipush C dX7_keep_68 105 (by decide +kernel) ?_
    refine z_iload_n C dX7_keep_70 rfl ?_
    refine z_iadd C dX7_keep_71 ?_
    refine z_callFS C [] [(wMx cI gv w0S (mAside v) (mBefore v) (mText v) (mLetters v) (mBys v) (mFirst v) (mCommand v) (mKnown v) (mLength v) (mLogLong v) (mAreSame v) (mAt v) (mIsWrong v) (mPosition v) (mReason v) (mCause v))] (met_X7_of l D cI p1 (105 + v3)) y_X7_of mw_12_5 dX7_keep_72 rfl n_X7_of rfl (by decide) ⟨rfl, rfl, Nat.le_of_ble_eq_true rfl, Nat.le_of_ble_eq_true rfl⟩ (Nat.le_of_ble_eq_true rfl) (z_pm [0] 1 rfl (by decide) rfl) ?_
    refine z_aload_n C dX7_keep_75 rfl ?_
    refine z_get C inlX7 rfl 0 (by decide) mw_4_15 dX7_keep_76 0 0 rfl rfl rfl ?_
    refine z_iload_n C dX7_keep_79 rfl ?_
    refine z_bipush C dX7_keep_80 105 (by decide +kernel) ?_
    refine z_iload_n C dX7_keep_82 rfl ?_
    refine z_iadd C dX7_keep_83 ?_
    refine z_iconst C dX7_keep_84 1 (by decide +kernel) ?_
    refine z_iadd C dX7_keep_85 ?_
    refine z_callFS C [] [(wMx cI gv w0S (mAside v) (mBefore v) (mText v) (mLetters v) (mBys v) (mFirst v) (mCommand v) (mKnown v) (mLength v) (mLogLong v) (mAreSame v) (mAt v) (mIsWrong v) (mPosition v) (mReason v) (mCause v))] (met_X7_of l D cI p1 ((105 + v3) + 1)) y_X7_of mw_12_5 dX7_keep_86 rfl n_X7_of rfl (by decide) ⟨rfl, rfl, Nat.le_of_ble_eq_true rfl, Nat.le_of_ble_eq_true rfl⟩ (Nat.le_of_ble_eq_true rfl) (z_pm [0] 1 rfl (by decide) rfl) ?_
    refine z_iald C dX7_keep_89 0 1 rfl rfl hw.1 ?_
    replace hw := hw.2
    refine z_iast C dX7_keep_90 0 1 rfl rfl hw.1 [(wMx cI gv (upd w0S (f_X7_of p1 (105 + v3)).toNatClampNeg (w0S (f_X7_of p1 ((105 + v3) + 1)).toNatClampNeg)) (mAside v) (mBefore v) (mText v) (mLetters v) (mBys v) (mFirst v) (mCommand v) (mKnown v) (mLength v) (mLogLong v) (mAreSame v) (mAt v) (mIsWrong v) (mPosition v) (mReason v) (mCause v))] rfl ?_
    replace hw := hw.2
    refine z_iinc C dX7_keep_91 rfl (v3 + 1) (by rfl) [some (.ref (gv 0)), some (.int p1), none, some (.int (v3 + 1))] (by decide) rfl ?_
    refine z_goto C dX7_keep_94 57 (by decide) ?_
    exact hK57 _ _ hw
def wp_X7_keep (v : zM) (p1 : Int32) (p2 : Int32) (Q : zM → Prop) : Prop := (vp_in (f_X7_of p1 104) 445 ∧ (vp_in (f_X7_of p1 (105 + ((mS v) (f_X7_of p1 104).toNatClampNeg))) 445 ∧ (vp_in (f_X7_of p1 104) 445 ∧ (vp_in (f_X7_of p1 104) 445 ∧ (vp_in (f_X7_of p1 104) 445 ∧ ((((upd (upd (mS v) (f_X7_of p1 (105 + ((mS v) (f_X7_of p1 104).toNatClampNeg))).toNatClampNeg p2) (f_X7_of p1 104).toNatClampNeg (((upd (mS v) (f_X7_of p1 (105 + ((mS v) (f_X7_of p1 104).toNatClampNeg))).toNatClampNeg p2) (f_X7_of p1 104).toNatClampNeg) + 1)) (f_X7_of p1 104).toNatClampNeg) ≤ 6 → (Q (mSetS v (upd (upd (mS v) (f_X7_of p1 (105 + ((mS v) (f_X7_of p1 104).toNatClampNeg))).toNatClampNeg p2) (f_X7_of p1 104).toNatClampNeg (((upd (mS v) (f_X7_of p1 (105 + ((mS v) (f_X7_of p1 104).toNatClampNeg))).toNatClampNeg p2) (f_X7_of p1 104).toNatClampNeg) + 1))))) ∧ (¬ ((upd (upd (mS v) (f_X7_of p1 (105 + ((mS v) (f_X7_of p1 104).toNatClampNeg))).toNatClampNeg p2) (f_X7_of p1 104).toNatClampNeg (((upd (mS v) (f_X7_of p1 (105 + ((mS v) (f_X7_of p1 104).toNatClampNeg))).toNatClampNeg p2) (f_X7_of p1 104).toNatClampNeg) + 1)) (f_X7_of p1 104).toNatClampNeg) ≤ 6 → (zLoop2 (lb_X7_keep_57 v p1 p2   Q ) 0 (upd (upd (mS v) (f_X7_of p1 (105 + ((mS v) (f_X7_of p1 104).toNatClampNeg))).toNatClampNeg p2) (f_X7_of p1 104).toNatClampNeg (((upd (mS v) (f_X7_of p1 (105 + ((mS v) (f_X7_of p1 104).toNatClampNeg))).toNatClampNeg p2) (f_X7_of p1 104).toNatClampNeg) + 1))))))))))
set_option maxHeartbeats 4000000 in
set_option maxRecDepth 100000 in
theorem met_X7_keep (l : Launch) (D : va_G) (cI : ClassId) (gv : Nat → Nat) (v : zM) (p1 : Int32) (p2 : Int32) (Q : zM → Prop) (hw : wp_X7_keep v p1 p2 Q) : ZM l D cI yX7_keep cX7_keep 4 none rmX7_keep [.ref (gv 0), .int p1, .int p2] [(wMx cI gv (mS v) (mAside v) (mBefore v) (mText v) (mLetters v) (mBys v) (mFirst v) (mCommand v) (mKnown v) (mLength v) (mLogLong v) (mAreSame v) (mAt v) (mIsWrong v) (mPosition v) (mReason v) (mCause v))] (fun _ : zM => none) (fun u : zM => [(wMx cI gv (mS u) (mAside u) (mBefore u) (mText u) (mLetters u) (mBys u) (mFirst u) (mCommand u) (mKnown u) (mLength u) (mLogLong u) (mAreSame u) (mAt u) (mIsWrong u) (mPosition u) (mReason u) (mCause u))]) (fun u : zM => Q u) := by
  refine z_body [some (.ref (gv 0)), some (.int p1), some (.int p2), none] (by decide +kernel) rfl (Nat.le_of_ble_eq_true rfl) rfl ?_
  intro p e s m args below meth c A C hin
  unfold wp_X7_keep at hw
  refine z_aload_n C dX7_keep_0 rfl ?_
  refine z_get C inlX7 rfl 0 (by decide) mw_4_15 dX7_keep_1 0 0 rfl rfl rfl ?_
  refine z_iload_n C dX7_keep_4 rfl ?_
  refine z_bipush C dX7_keep_5 105 (by decide +kernel) ?_
  refine z_aload_n C dX7_keep_7 rfl ?_
  refine z_get C inlX7 rfl 0 (by decide) mw_4_15 dX7_keep_8 0 0 rfl rfl rfl ?_
  refine z_iload_n C dX7_keep_11 rfl ?_
  refine z_bipush C dX7_keep_12 104 (by decide +kernel) ?_
  refine z_callFS C [] [(wMx cI gv (mS v) (mAside v) (mBefore v) (mText v) (mLetters v) (mBys v) (mFirst v) (mCommand v) (mKnown v) (mLength v) (mLogLong v) (mAreSame v) (mAt v) (mIsWrong v) (mPosition v) (mReason v) (mCause v))] (met_X7_of l D cI p1 104) y_X7_of mw_12_5 dX7_keep_14 rfl n_X7_of rfl (by decide) ⟨rfl, rfl, Nat.le_of_ble_eq_true rfl, Nat.le_of_ble_eq_true rfl⟩ (Nat.le_of_ble_eq_true rfl) (z_pm [0] 1 rfl (by decide) rfl) ?_
  refine z_iald C dX7_keep_17 0 1 rfl rfl hw.1 ?_
  replace hw := hw.2
  refine z_iadd C dX7_keep_18 ?_
  refine z_callFS C [] [(wMx cI gv (mS v) (mAside v) (mBefore v) (mText v) (mLetters v) (mBys v) (mFirst v) (mCommand v) (mKnown v) (mLength v) (mLogLong v) (mAreSame v) (mAt v) (mIsWrong v) (mPosition v) (mReason v) (mCause v))] (met_X7_of l D cI p1 (105 + ((mS v) (f_X7_of p1 104).toNatClampNeg))) y_X7_of mw_12_5 dX7_keep_19 rfl n_X7_of rfl (by decide) ⟨rfl, rfl, Nat.le_of_ble_eq_true rfl, Nat.le_of_ble_eq_true rfl⟩ (Nat.le_of_ble_eq_true rfl) (z_pm [0] 1 rfl (by decide) rfl) ?_
  refine z_iload_n C dX7_keep_22 rfl ?_
  refine z_iast C dX7_keep_23 0 1 rfl rfl hw.1 [(wMx cI gv (upd (mS v) (f_X7_of p1 (105 + ((mS v) (f_X7_of p1 104).toNatClampNeg))).toNatClampNeg p2) (mAside v) (mBefore v) (mText v) (mLetters v) (mBys v) (mFirst v) (mCommand v) (mKnown v) (mLength v) (mLogLong v) (mAreSame v) (mAt v) (mIsWrong v) (mPosition v) (mReason v) (mCause v))] rfl ?_
  replace hw := hw.2
  refine z_aload_n C dX7_keep_24 rfl ?_
  refine z_get C inlX7 rfl 0 (by decide) mw_4_15 dX7_keep_25 0 0 rfl rfl rfl ?_
  refine z_iload_n C dX7_keep_28 rfl ?_
  refine z_bipush C dX7_keep_29 104 (by decide +kernel) ?_
  refine z_callFS C [] [(wMx cI gv (upd (mS v) (f_X7_of p1 (105 + ((mS v) (f_X7_of p1 104).toNatClampNeg))).toNatClampNeg p2) (mAside v) (mBefore v) (mText v) (mLetters v) (mBys v) (mFirst v) (mCommand v) (mKnown v) (mLength v) (mLogLong v) (mAreSame v) (mAt v) (mIsWrong v) (mPosition v) (mReason v) (mCause v))] (met_X7_of l D cI p1 104) y_X7_of mw_12_5 dX7_keep_31 rfl n_X7_of rfl (by decide) ⟨rfl, rfl, Nat.le_of_ble_eq_true rfl, Nat.le_of_ble_eq_true rfl⟩ (Nat.le_of_ble_eq_true rfl) (z_pm [0] 1 rfl (by decide) rfl) ?_
  refine z_dup2 C dX7_keep_34 rfl rfl ?_
  refine z_iald C dX7_keep_35 0 1 rfl rfl hw.1 ?_
  replace hw := hw.2
  refine z_iconst C dX7_keep_36 1 (by decide +kernel) ?_
  refine z_iadd C dX7_keep_37 ?_
  refine z_iast C dX7_keep_38 0 1 rfl rfl hw.1 [(wMx cI gv (upd (upd (mS v) (f_X7_of p1 (105 + ((mS v) (f_X7_of p1 104).toNatClampNeg))).toNatClampNeg p2) (f_X7_of p1 104).toNatClampNeg (((upd (mS v) (f_X7_of p1 (105 + ((mS v) (f_X7_of p1 104).toNatClampNeg))).toNatClampNeg p2) (f_X7_of p1 104).toNatClampNeg) + 1)) (mAside v) (mBefore v) (mText v) (mLetters v) (mBys v) (mFirst v) (mCommand v) (mKnown v) (mLength v) (mLogLong v) (mAreSame v) (mAt v) (mIsWrong v) (mPosition v) (mReason v) (mCause v))] rfl ?_
  replace hw := hw.2
  refine z_aload_n C dX7_keep_39 rfl ?_
  refine z_get C inlX7 rfl 0 (by decide) mw_4_15 dX7_keep_40 0 0 rfl rfl rfl ?_
  refine z_iload_n C dX7_keep_43 rfl ?_
  refine z_bipush C dX7_keep_44 104 (by decide +kernel) ?_
  refine z_callFS C [] [(wMx cI gv (upd (upd (mS v) (f_X7_of p1 (105 + ((mS v) (f_X7_of p1 104).toNatClampNeg))).toNatClampNeg p2) (f_X7_of p1 104).toNatClampNeg (((upd (mS v) (f_X7_of p1 (105 + ((mS v) (f_X7_of p1 104).toNatClampNeg))).toNatClampNeg p2) (f_X7_of p1 104).toNatClampNeg) + 1)) (mAside v) (mBefore v) (mText v) (mLetters v) (mBys v) (mFirst v) (mCommand v) (mKnown v) (mLength v) (mLogLong v) (mAreSame v) (mAt v) (mIsWrong v) (mPosition v) (mReason v) (mCause v))] (met_X7_of l D cI p1 104) y_X7_of mw_12_5 dX7_keep_46 rfl n_X7_of rfl (by decide) ⟨rfl, rfl, Nat.le_of_ble_eq_true rfl, Nat.le_of_ble_eq_true rfl⟩ (Nat.le_of_ble_eq_true rfl) (z_pm [0] 1 rfl (by decide) rfl) ?_
  refine z_iald C dX7_keep_49 0 1 rfl rfl hw.1 ?_
  replace hw := hw.2
  refine z_bipush C dX7_keep_50 6 (by decide +kernel) ?_
  refine z_icmp_le C dX7_keep_52 112 (by decide) (fun c1 => ?_) (fun c1 => ?_)
  · replace hw := hw.1 c1
    exact z_vret C rfl ((mSetS v (upd (upd (mS v) (f_X7_of p1 (105 + ((mS v) (f_X7_of p1 104).toNatClampNeg))).toNatClampNeg p2) (f_X7_of p1 104).toNatClampNeg (((upd (mS v) (f_X7_of p1 (105 + ((mS v) (f_X7_of p1 104).toNatClampNeg))).toNatClampNeg p2) (f_X7_of p1 104).toNatClampNeg) + 1)))) rfl hw rfl dX7_keep_112
  · replace hw := hw.2 c1
    refine z_iconst C dX7_keep_55 0 (by decide +kernel) ?_
    refine z_istore_n C dX7_keep_56 [some (.ref (gv 0)), some (.int p1), some (.int p2), some (.int 0)] (by decide) rfl ?_
    refine z_ls C [true, true, false, true] [some (.ref (gv 0)), some (.int p1), none, some (.int 0)] rfl ?_
    exact wk_X7_keep_57 C gv v p1 p2   0 (upd (upd (mS v) (f_X7_of p1 (105 + ((mS v) (f_X7_of p1 104).toNatClampNeg))).toNatClampNeg p2) (f_X7_of p1 104).toNatClampNeg (((upd (mS v) (f_X7_of p1 (105 + ((mS v) (f_X7_of p1 104).toNatClampNeg))).toNatClampNeg p2) (f_X7_of p1 104).toNatClampNeg) + 1)) _  hw
def rmX7_insertFault : Room := { frames := 2, cells := 0, slots := 0, locals := 42 }
def wp_X7_insertFault (v : zM) (p1 : Int32) (p2 : Int32) (p3 : Int32) (Q : Int32 → zM → Prop) : Prop := (((f_X7_isEditor p1) = 0 → (Q (-1) v)) ∧ (¬ (f_X7_isEditor p1) = 0 → (vp_in (f_X7_of p1 0) 445 ∧ (((f_X7_in p2 0 ((mS v) (f_X7_of p1 0).toNatClampNeg)) = 0 → (Q (-1) v)) ∧ (¬ (f_X7_in p2 0 ((mS v) (f_X7_of p1 0).toNatClampNeg)) = 0 → ((¬ (f_X7_in p3 0 25) = 0 → (vp_in (f_X7_of p1 0) 445 ∧ ((30 ≤ ((mS v) (f_X7_of p1 0).toNatClampNeg) → (Q (-3) v)) ∧ (¬ 30 ≤ ((mS v) (f_X7_of p1 0).toNatClampNeg) → (vp_in (f_X7_of p1 97) 445 ∧ ((¬ ((mS v) (f_X7_of p1 97).toNatClampNeg) = 6 → (Q 0 v)) ∧ (((mS v) (f_X7_of p1 97).toNatClampNeg) = 6 → (Q (-3) v)))))))) ∧ ((f_X7_in p3 0 25) = 0 → (Q (-1) v))))))))
set_option maxHeartbeats 4000000 in
set_option maxRecDepth 100000 in
theorem met_X7_insertFault (l : Launch) (D : va_G) (cI : ClassId) (gv : Nat → Nat) (v : zM) (p1 : Int32) (p2 : Int32) (p3 : Int32) (Q : Int32 → zM → Prop) (hw : wp_X7_insertFault v p1 p2 p3 Q) : ZM l D cI yX7_insertFault cX7_insertFault 4 (some .int) rmX7_insertFault [.ref (gv 0), .int p1, .int p2, .int p3] [(wMx cI gv (mS v) (mAside v) (mBefore v) (mText v) (mLetters v) (mBys v) (mFirst v) (mCommand v) (mKnown v) (mLength v) (mLogLong v) (mAreSame v) (mAt v) (mIsWrong v) (mPosition v) (mReason v) (mCause v))] (fun u : Int32 × zM => some (.int u.1)) (fun u : Int32 × zM => [(wMx cI gv (mS (u.2)) (mAside (u.2)) (mBefore (u.2)) (mText (u.2)) (mLetters (u.2)) (mBys (u.2)) (mFirst (u.2)) (mCommand (u.2)) (mKnown (u.2)) (mLength (u.2)) (mLogLong (u.2)) (mAreSame (u.2)) (mAt (u.2)) (mIsWrong (u.2)) (mPosition (u.2)) (mReason (u.2)) (mCause (u.2)))]) (fun u : Int32 × zM => Q u.1 u.2) := by
  refine z_body [some (.ref (gv 0)), some (.int p1), some (.int p2), some (.int p3)] (by decide +kernel) rfl (Nat.le_of_ble_eq_true rfl) rfl ?_
  intro p e s m args below meth c A C hin
  unfold wp_X7_insertFault at hw
  refine z_iload_n C dX7_insertFault_0 rfl ?_
  refine z_callFS C [] [(wMx cI gv (mS v) (mAside v) (mBefore v) (mText v) (mLetters v) (mBys v) (mFirst v) (mCommand v) (mKnown v) (mLength v) (mLogLong v) (mAreSame v) (mAt v) (mIsWrong v) (mPosition v) (mReason v) (mCause v))] (met_X7_isEditor l D cI p1) y_X7_isEditor mw_11_23 dX7_insertFault_1 rfl n_X7_isEditor rfl (by decide) ⟨rfl, rfl, Nat.le_of_ble_eq_true rfl, Nat.le_of_ble_eq_true rfl⟩ (Nat.le_of_ble_eq_true rfl) (z_pm [0] 1 rfl (by decide) rfl) ?_
  refine z_if_eq C dX7_insertFault_4 35 (by decide) (fun c1 => ?_) (fun c1 => ?_)
  · replace hw := hw.1 c1
    refine z_iconst C dX7_insertFault_35 (-1) (by decide +kernel) ?_
    exact z_iret C rfl ((-1), v) rfl hw rfl dX7_insertFault_36
  · replace hw := hw.2 c1
    refine z_iload_n C dX7_insertFault_7 rfl ?_
    refine z_iconst C dX7_insertFault_8 0 (by decide +kernel) ?_
    refine z_aload_n C dX7_insertFault_9 rfl ?_
    refine z_get C inlX7 rfl 0 (by decide) mw_4_15 dX7_insertFault_10 0 0 rfl rfl rfl ?_
    refine z_iload_n C dX7_insertFault_13 rfl ?_
    refine z_iconst C dX7_insertFault_14 0 (by decide +kernel) ?_
    refine z_callFS C [] [(wMx cI gv (mS v) (mAside v) (mBefore v) (mText v) (mLetters v) (mBys v) (mFirst v) (mCommand v) (mKnown v) (mLength v) (mLogLong v) (mAreSame v) (mAt v) (mIsWrong v) (mPosition v) (mReason v) (mCause v))] (met_X7_of l D cI p1 0) y_X7_of mw_12_5 dX7_insertFault_15 rfl n_X7_of rfl (by decide) ⟨rfl, rfl, Nat.le_of_ble_eq_true rfl, Nat.le_of_ble_eq_true rfl⟩ (Nat.le_of_ble_eq_true rfl) (z_pm [0] 1 rfl (by decide) rfl) ?_
    refine z_iald C dX7_insertFault_18 0 1 rfl rfl hw.1 ?_
    replace hw := hw.2
    refine z_callFS C [] [(wMx cI gv (mS v) (mAside v) (mBefore v) (mText v) (mLetters v) (mBys v) (mFirst v) (mCommand v) (mKnown v) (mLength v) (mLogLong v) (mAreSame v) (mAt v) (mIsWrong v) (mPosition v) (mReason v) (mCause v))] (met_X7_in l D cI p2 0 ((mS v) (f_X7_of p1 0).toNatClampNeg)) y_X7_in mw_12_2 dX7_insertFault_19 rfl n_X7_in rfl (by decide) ⟨rfl, rfl, Nat.le_of_ble_eq_true rfl, Nat.le_of_ble_eq_true rfl⟩ (Nat.le_of_ble_eq_true rfl) (z_pm [0] 1 rfl (by decide) rfl) ?_
    refine z_if_eq C dX7_insertFault_22 35 (by decide) (fun c2 => ?_) (fun c2 => ?_)
    · replace hw := hw.1 c2
      refine z_iconst C dX7_insertFault_35 (-1) (by decide +kernel) ?_
      exact z_iret C rfl ((-1), v) rfl hw rfl dX7_insertFault_36
    · replace hw := hw.2 c2
      refine z_iload_n C dX7_insertFault_25 rfl ?_
      refine z_iconst C dX7_insertFault_26 0 (by decide +kernel) ?_
      refine z_bipush C dX7_insertFault_27 25 (by decide +kernel) ?_
      refine z_callFS C [] [(wMx cI gv (mS v) (mAside v) (mBefore v) (mText v) (mLetters v) (mBys v) (mFirst v) (mCommand v) (mKnown v) (mLength v) (mLogLong v) (mAreSame v) (mAt v) (mIsWrong v) (mPosition v) (mReason v) (mCause v))] (met_X7_in l D cI p3 0 25) y_X7_in mw_12_2 dX7_insertFault_29 rfl n_X7_in rfl (by decide) ⟨rfl, rfl, Nat.le_of_ble_eq_true rfl, Nat.le_of_ble_eq_true rfl⟩ (Nat.le_of_ble_eq_true rfl) (z_pm [0] 1 rfl (by decide) rfl) ?_
      refine z_if_ne C dX7_insertFault_32 37 (by decide) (fun c3 => ?_) (fun c3 => ?_)
      · replace hw := hw.1 c3
        refine z_aload_n C dX7_insertFault_37 rfl ?_
        refine z_get C inlX7 rfl 0 (by decide) mw_4_15 dX7_insertFault_38 0 0 rfl rfl rfl ?_
        refine z_iload_n C dX7_insertFault_41 rfl ?_
        refine z_iconst C dX7_insertFault_42 0 (by decide +kernel) ?_
        refine z_callFS C [] [(wMx cI gv (mS v) (mAside v) (mBefore v) (mText v) (mLetters v) (mBys v) (mFirst v) (mCommand v) (mKnown v) (mLength v) (mLogLong v) (mAreSame v) (mAt v) (mIsWrong v) (mPosition v) (mReason v) (mCause v))] (met_X7_of l D cI p1 0) y_X7_of mw_12_5 dX7_insertFault_43 rfl n_X7_of rfl (by decide) ⟨rfl, rfl, Nat.le_of_ble_eq_true rfl, Nat.le_of_ble_eq_true rfl⟩ (Nat.le_of_ble_eq_true rfl) (z_pm [0] 1 rfl (by decide) rfl) ?_
        refine z_iald C dX7_insertFault_46 0 1 rfl rfl hw.1 ?_
        replace hw := hw.2
        refine z_bipush C dX7_insertFault_47 30 (by decide +kernel) ?_
        refine z_icmp_ge C dX7_insertFault_49 68 (by decide) (fun c4 => ?_) (fun c4 => ?_)
        · replace hw := hw.1 c4
          refine z_bipush C dX7_insertFault_68 (-3) (by decide +kernel) ?_
          refine z_goto C dX7_insertFault_70 74 (by decide) ?_
          exact z_iret C rfl ((-3), v) rfl hw rfl dX7_insertFault_74
        · replace hw := hw.2 c4
          refine z_aload_n C dX7_insertFault_52 rfl ?_
          refine z_get C inlX7 rfl 0 (by decide) mw_4_15 dX7_insertFault_53 0 0 rfl rfl rfl ?_
          refine z_iload_n C dX7_insertFault_56 rfl ?_
          refine z_bipush C dX7_insertFault_57 97 (by decide +kernel) ?_
          refine z_callFS C [] [(wMx cI gv (mS v) (mAside v) (mBefore v) (mText v) (mLetters v) (mBys v) (mFirst v) (mCommand v) (mKnown v) (mLength v) (mLogLong v) (mAreSame v) (mAt v) (mIsWrong v) (mPosition v) (mReason v) (mCause v))] (met_X7_of l D cI p1 97) y_X7_of mw_12_5 dX7_insertFault_59 rfl n_X7_of rfl (by decide) ⟨rfl, rfl, Nat.le_of_ble_eq_true rfl, Nat.le_of_ble_eq_true rfl⟩ (Nat.le_of_ble_eq_true rfl) (z_pm [0] 1 rfl (by decide) rfl) ?_
          refine z_iald C dX7_insertFault_62 0 1 rfl rfl hw.1 ?_
          replace hw := hw.2
          refine z_bipush C dX7_insertFault_63 6 (by decide +kernel) ?_
          refine z_icmp_ne C dX7_insertFault_65 73 (by decide) (fun c5 => ?_) (fun c5 => ?_)
          · replace hw := hw.1 c5
            refine z_iconst C dX7_insertFault_73 0 (by decide +kernel) ?_
            exact z_iret C rfl (0, v) rfl hw rfl dX7_insertFault_74
          · replace hw := hw.2 c5
            refine z_bipush C dX7_insertFault_68 (-3) (by decide +kernel) ?_
            refine z_goto C dX7_insertFault_70 74 (by decide) ?_
            exact z_iret C rfl ((-3), v) rfl hw rfl dX7_insertFault_74
      · replace hw := hw.2 c3
        refine z_iconst C dX7_insertFault_35 (-1) (by decide +kernel) ?_
        exact z_iret C rfl ((-1), v) rfl hw rfl dX7_insertFault_36
def rmX7_inserts : Room := { frames := 4, cells := 0, slots := 0, locals := 95 }
def wp_X7_inserts (v : zM) (p1 : Int32) (p2 : Int32) (p3 : Int32) (Q : Int32 → zM → Prop) : Prop := (wp_X7_writes v p1 (f_X7_made 1 p2 p3 p1) (fun u1 => (wp_X7_keep u1 p1 (f_X7_made 2 p2 0 p1) (fun u2 => (vp_in (f_X7_of p1 0) 445 ∧ (Q ((mS u2) (f_X7_of p1 0).toNatClampNeg) u2))))))
set_option maxHeartbeats 4000000 in
set_option maxRecDepth 100000 in
theorem met_X7_inserts (l : Launch) (D : va_G) (cI : ClassId) (gv : Nat → Nat) (v : zM) (p1 : Int32) (p2 : Int32) (p3 : Int32) (Q : Int32 → zM → Prop) (hw : wp_X7_inserts v p1 p2 p3 Q) : ZM l D cI yX7_inserts cX7_inserts 4 (some .int) rmX7_inserts [.ref (gv 0), .int p1, .int p2, .int p3] [(wMx cI gv (mS v) (mAside v) (mBefore v) (mText v) (mLetters v) (mBys v) (mFirst v) (mCommand v) (mKnown v) (mLength v) (mLogLong v) (mAreSame v) (mAt v) (mIsWrong v) (mPosition v) (mReason v) (mCause v))] (fun u : Int32 × zM => some (.int u.1)) (fun u : Int32 × zM => [(wMx cI gv (mS (u.2)) (mAside (u.2)) (mBefore (u.2)) (mText (u.2)) (mLetters (u.2)) (mBys (u.2)) (mFirst (u.2)) (mCommand (u.2)) (mKnown (u.2)) (mLength (u.2)) (mLogLong (u.2)) (mAreSame (u.2)) (mAt (u.2)) (mIsWrong (u.2)) (mPosition (u.2)) (mReason (u.2)) (mCause (u.2)))]) (fun u : Int32 × zM => Q u.1 u.2) := by
  refine z_body [some (.ref (gv 0)), some (.int p1), some (.int p2), some (.int p3)] (by decide +kernel) rfl (Nat.le_of_ble_eq_true rfl) rfl ?_
  intro p e s m args below meth c A C hin
  unfold wp_X7_inserts at hw
  refine z_aload_n C dX7_inserts_0 rfl ?_
  refine z_iload_n C dX7_inserts_1 rfl ?_
  refine z_iconst C dX7_inserts_2 1 (by decide +kernel) ?_
  refine z_iload_n C dX7_inserts_3 rfl ?_
  refine z_iload_n C dX7_inserts_4 rfl ?_
  refine z_iload_n C dX7_inserts_5 rfl ?_
  refine z_callFS C [] [(wMx cI gv (mS v) (mAside v) (mBefore v) (mText v) (mLetters v) (mBys v) (mFirst v) (mCommand v) (mKnown v) (mLength v) (mLogLong v) (mAreSame v) (mAt v) (mIsWrong v) (mPosition v) (mReason v) (mCause v))] (met_X7_made l D cI 1 p2 p3 p1) y_X7_made mw_12_17 dX7_inserts_6 rfl n_X7_made rfl (by decide) ⟨rfl, rfl, Nat.le_of_ble_eq_true rfl, Nat.le_of_ble_eq_true rfl⟩ (Nat.le_of_ble_eq_true rfl) (z_pm [0] 1 rfl (by decide) rfl) ?_
  refine z_callV0 C [(wMx cI gv (mS v) (mAside v) (mBefore v) (mText v) (mLetters v) (mBys v) (mFirst v) (mCommand v) (mKnown v) (mLength v) (mLogLong v) (mAreSame v) (mAt v) (mIsWrong v) (mPosition v) (mReason v) (mCause v))] [] rfl rfl (met_X7_writes l D cI gv v p1 (f_X7_made 1 p2 p3 p1) _ hw) y_X7_writes mw_12_20 dX7_inserts_9 rfl n_X7_writes rfl (by decide) ⟨rfl, rfl, Nat.le_of_ble_eq_true rfl, Nat.le_of_ble_eq_true rfl⟩ (Nat.le_of_ble_eq_true rfl) (z_pm [0] 1 rfl (by decide) rfl) ?_
  intro u1 hw
  try dsimp only at hw
  refine z_bs [(wMx cI gv (mS u1) (mAside u1) (mBefore u1) (mText u1) (mLetters u1) (mBys u1) (mFirst u1) (mCommand u1) (mKnown u1) (mLength u1) (mLogLong u1) (mAreSame u1) (mAt u1) (mIsWrong u1) (mPosition u1) (mReason u1) (mCause u1))] [] rfl rfl ?_
  refine z_aload_n C dX7_inserts_12 rfl ?_
  refine z_iload_n C dX7_inserts_13 rfl ?_
  refine z_iconst C dX7_inserts_14 2 (by decide +kernel) ?_
  refine z_iload_n C dX7_inserts_15 rfl ?_
  refine z_iconst C dX7_inserts_16 0 (by decide +kernel) ?_
  refine z_iload_n C dX7_inserts_17 rfl ?_
  refine z_callFS C [] [(wMx cI gv (mS u1) (mAside u1) (mBefore u1) (mText u1) (mLetters u1) (mBys u1) (mFirst u1) (mCommand u1) (mKnown u1) (mLength u1) (mLogLong u1) (mAreSame u1) (mAt u1) (mIsWrong u1) (mPosition u1) (mReason u1) (mCause u1))] (met_X7_made l D cI 2 p2 0 p1) y_X7_made mw_12_17 dX7_inserts_18 rfl n_X7_made rfl (by decide) ⟨rfl, rfl, Nat.le_of_ble_eq_true rfl, Nat.le_of_ble_eq_true rfl⟩ (Nat.le_of_ble_eq_true rfl) (z_pm [0] 1 rfl (by decide) rfl) ?_
  refine z_callV0 C [(wMx cI gv (mS u1) (mAside u1) (mBefore u1) (mText u1) (mLetters u1) (mBys u1) (mFirst u1) (mCommand u1) (mKnown u1) (mLength u1) (mLogLong u1) (mAreSame u1) (mAt u1) (mIsWrong u1) (mPosition u1) (mReason u1) (mCause u1))] [] rfl rfl (met_X7_keep l D cI gv u1 p1 (f_X7_made 2 p2 0 p1) _ hw) y_X7_keep mw_13_19 dX7_inserts_21 rfl n_X7_keep rfl (by decide) ⟨rfl, rfl, Nat.le_of_ble_eq_true rfl, Nat.le_of_ble_eq_true rfl⟩ (Nat.le_of_ble_eq_true rfl) (z_pm [0] 1 rfl (by decide) rfl) ?_
  intro u2 hw
  try dsimp only at hw
  refine z_bs [(wMx cI gv (mS u2) (mAside u2) (mBefore u2) (mText u2) (mLetters u2) (mBys u2) (mFirst u2) (mCommand u2) (mKnown u2) (mLength u2) (mLogLong u2) (mAreSame u2) (mAt u2) (mIsWrong u2) (mPosition u2) (mReason u2) (mCause u2))] [] rfl rfl ?_
  refine z_aload_n C dX7_inserts_24 rfl ?_
  refine z_get C inlX7 rfl 0 (by decide) mw_4_15 dX7_inserts_25 0 0 rfl rfl rfl ?_
  refine z_iload_n C dX7_inserts_28 rfl ?_
  refine z_iconst C dX7_inserts_29 0 (by decide +kernel) ?_
  refine z_callFS C [] [(wMx cI gv (mS u2) (mAside u2) (mBefore u2) (mText u2) (mLetters u2) (mBys u2) (mFirst u2) (mCommand u2) (mKnown u2) (mLength u2) (mLogLong u2) (mAreSame u2) (mAt u2) (mIsWrong u2) (mPosition u2) (mReason u2) (mCause u2))] (met_X7_of l D cI p1 0) y_X7_of mw_12_5 dX7_inserts_30 rfl n_X7_of rfl (by decide) ⟨rfl, rfl, Nat.le_of_ble_eq_true rfl, Nat.le_of_ble_eq_true rfl⟩ (Nat.le_of_ble_eq_true rfl) (z_pm [0] 1 rfl (by decide) rfl) ?_
  refine z_iald C dX7_inserts_33 0 1 rfl rfl hw.1 ?_
  replace hw := hw.2
  exact z_iret C rfl (((mS u2) (f_X7_of p1 0).toNatClampNeg), u2) rfl hw rfl dX7_inserts_34
def rmX7_deleteFault : Room := { frames := 2, cells := 0, slots := 0, locals := 42 }
def wp_X7_deleteFault (v : zM) (p1 : Int32) (p2 : Int32) (Q : Int32 → zM → Prop) : Prop := (((f_X7_isEditor p1) = 0 → (Q (-1) v)) ∧ (¬ (f_X7_isEditor p1) = 0 → (vp_in (f_X7_of p1 0) 445 ∧ ((¬ (f_X7_in p2 0 (((mS v) (f_X7_of p1 0).toNatClampNeg) - 1)) = 0 → (vp_in (f_X7_of p1 97) 445 ∧ ((¬ ((mS v) (f_X7_of p1 97).toNatClampNeg) = 6 → (Q 0 v)) ∧ (((mS v) (f_X7_of p1 97).toNatClampNeg) = 6 → (Q (-3) v))))) ∧ ((f_X7_in p2 0 (((mS v) (f_X7_of p1 0).toNatClampNeg) - 1)) = 0 → (Q (-1) v))))))
set_option maxHeartbeats 4000000 in
set_option maxRecDepth 100000 in
theorem met_X7_deleteFault (l : Launch) (D : va_G) (cI : ClassId) (gv : Nat → Nat) (v : zM) (p1 : Int32) (p2 : Int32) (Q : Int32 → zM → Prop) (hw : wp_X7_deleteFault v p1 p2 Q) : ZM l D cI yX7_deleteFault cX7_deleteFault 3 (some .int) rmX7_deleteFault [.ref (gv 0), .int p1, .int p2] [(wMx cI gv (mS v) (mAside v) (mBefore v) (mText v) (mLetters v) (mBys v) (mFirst v) (mCommand v) (mKnown v) (mLength v) (mLogLong v) (mAreSame v) (mAt v) (mIsWrong v) (mPosition v) (mReason v) (mCause v))] (fun u : Int32 × zM => some (.int u.1)) (fun u : Int32 × zM => [(wMx cI gv (mS (u.2)) (mAside (u.2)) (mBefore (u.2)) (mText (u.2)) (mLetters (u.2)) (mBys (u.2)) (mFirst (u.2)) (mCommand (u.2)) (mKnown (u.2)) (mLength (u.2)) (mLogLong (u.2)) (mAreSame (u.2)) (mAt (u.2)) (mIsWrong (u.2)) (mPosition (u.2)) (mReason (u.2)) (mCause (u.2)))]) (fun u : Int32 × zM => Q u.1 u.2) := by
  refine z_body [some (.ref (gv 0)), some (.int p1), some (.int p2)] (by decide +kernel) rfl (Nat.le_of_ble_eq_true rfl) rfl ?_
  intro p e s m args below meth c A C hin
  unfold wp_X7_deleteFault at hw
  refine z_iload_n C dX7_deleteFault_0 rfl ?_
  refine z_callFS C [] [(wMx cI gv (mS v) (mAside v) (mBefore v) (mText v) (mLetters v) (mBys v) (mFirst v) (mCommand v) (mKnown v) (mLength v) (mLogLong v) (mAreSame v) (mAt v) (mIsWrong v) (mPosition v) (mReason v) (mCause v))] (met_X7_isEditor l D cI p1) y_X7_isEditor mw_11_23 dX7_deleteFault_1 rfl n_X7_isEditor rfl (by decide) ⟨rfl, rfl, Nat.le_of_ble_eq_true rfl, Nat.le_of_ble_eq_true rfl⟩ (Nat.le_of_ble_eq_true rfl) (z_pm [0] 1 rfl (by decide) rfl) ?_
  refine z_if_eq C dX7_deleteFault_4 27 (by decide) (fun c1 => ?_) (fun c1 => ?_)
  · replace hw := hw.1 c1
    refine z_iconst C dX7_deleteFault_27 (-1) (by decide +kernel) ?_
    exact z_iret C rfl ((-1), v) rfl hw rfl dX7_deleteFault_28
  · replace hw := hw.2 c1
    refine z_iload_n C dX7_deleteFault_7 rfl ?_
    refine z_iconst C dX7_deleteFault_8 0 (by decide +kernel) ?_
    refine z_aload_n C dX7_deleteFault_9 rfl ?_
    refine z_get C inlX7 rfl 0 (by decide) mw_4_15 dX7_deleteFault_10 0 0 rfl rfl rfl ?_
    refine z_iload_n C dX7_deleteFault_13 rfl ?_
    refine z_iconst C dX7_deleteFault_14 0 (by decide +kernel) ?_
    refine z_callFS C [] [(wMx cI gv (mS v) (mAside v) (mBefore v) (mText v) (mLetters v) (mBys v) (mFirst v) (mCommand v) (mKnown v) (mLength v) (mLogLong v) (mAreSame v) (mAt v) (mIsWrong v) (mPosition v) (mReason v) (mCause v))] (met_X7_of l D cI p1 0) y_X7_of mw_12_5 dX7_deleteFault_15 rfl n_X7_of rfl (by decide) ⟨rfl, rfl, Nat.le_of_ble_eq_true rfl, Nat.le_of_ble_eq_true rfl⟩ (Nat.le_of_ble_eq_true rfl) (z_pm [0] 1 rfl (by decide) rfl) ?_
    refine z_iald C dX7_deleteFault_18 0 1 rfl rfl hw.1 ?_
    replace hw := hw.2
    refine z_iconst C dX7_deleteFault_19 1 (by decide +kernel) ?_
    refine z_isub C dX7_deleteFault_20 ?_
    refine z_callFS C [] [(wMx cI gv (mS v) (mAside v) (mBefore v) (mText v) (mLetters v) (mBys v) (mFirst v) (mCommand v) (mKnown v) (mLength v) (mLogLong v) (mAreSame v) (mAt v) (mIsWrong v) (mPosition v) (mReason v) (mCause v))] (met_X7_in l D cI p2 0 (((mS v) (f_X7_of p1 0).toNatClampNeg) - 1)) y_X7_in mw_12_2 dX7_deleteFault_21 rfl n_X7_in rfl (by decide) ⟨rfl, rfl, Nat.le_of_ble_eq_true rfl, Nat.le_of_ble_eq_true rfl⟩ (Nat.le_of_ble_eq_true rfl) (z_pm [0] 1 rfl (by decide) rfl) ?_
    refine z_if_ne C dX7_deleteFault_24 29 (by decide) (fun c2 => ?_) (fun c2 => ?_)
    · replace hw := hw.1 c2
      refine z_aload_n C dX7_deleteFault_29 rfl ?_
      refine z_get C inlX7 rfl 0 (by decide) mw_4_15 dX7_deleteFault_30 0 0 rfl rfl rfl ?_
      refine z_iload_n C dX7_deleteFault_33 rfl ?_
      refine z_bipush C dX7_deleteFault_34 97 (by decide +kernel) ?_
      refine z_callFS C [] [(wMx cI gv (mS v) (mAside v) (mBefore v) (mText v) (mLetters v) (mBys v) (mFirst v) (mCommand v) (mKnown v) (mLength v) (mLogLong v) (mAreSame v) (mAt v) (mIsWrong v) (mPosition v) (mReason v) (mCause v))] (met_X7_of l D cI p1 97) y_X7_of mw_12_5 dX7_deleteFault_36 rfl n_X7_of rfl (by decide) ⟨rfl, rfl, Nat.le_of_ble_eq_true rfl, Nat.le_of_ble_eq_true rfl⟩ (Nat.le_of_ble_eq_true rfl) (z_pm [0] 1 rfl (by decide) rfl) ?_
      refine z_iald C dX7_deleteFault_39 0 1 rfl rfl hw.1 ?_
      replace hw := hw.2
      refine z_bipush C dX7_deleteFault_40 6 (by decide +kernel) ?_
      refine z_icmp_ne C dX7_deleteFault_42 50 (by decide) (fun c3 => ?_) (fun c3 => ?_)
      · replace hw := hw.1 c3
        refine z_iconst C dX7_deleteFault_50 0 (by decide +kernel) ?_
        exact z_iret C rfl (0, v) rfl hw rfl dX7_deleteFault_51
      · replace hw := hw.2 c3
        refine z_bipush C dX7_deleteFault_45 (-3) (by decide +kernel) ?_
        refine z_goto C dX7_deleteFault_47 51 (by decide) ?_
        exact z_iret C rfl ((-3), v) rfl hw rfl dX7_deleteFault_51
    · replace hw := hw.2 c2
      refine z_iconst C dX7_deleteFault_27 (-1) (by decide +kernel) ?_
      exact z_iret C rfl ((-1), v) rfl hw rfl dX7_deleteFault_28
def rmX7_deletes : Room := { frames := 4, cells := 0, slots := 0, locals := 95 }
def wp_X7_deletes (v : zM) (p1 : Int32) (p2 : Int32) (Q : Int32 → zM → Prop) : Prop := (vp_in (f_X7_of p1 (1 + p2)) 445 ∧ (∀ x1 : Int32, x1 = ((mS v) (f_X7_of p1 (1 + p2)).toNatClampNeg) → (wp_X7_writes v p1 (f_X7_made 2 p2 0 p1) (fun u2 => (wp_X7_keep u2 p1 (f_X7_made 1 p2 x1 p1) (fun u3 => (Q x1 u3)))))))
set_option maxHeartbeats 4000000 in
set_option maxRecDepth 100000 in
theorem met_X7_deletes (l : Launch) (D : va_G) (cI : ClassId) (gv : Nat → Nat) (v : zM) (p1 : Int32) (p2 : Int32) (Q : Int32 → zM → Prop) (hw : wp_X7_deletes v p1 p2 Q) : ZM l D cI yX7_deletes cX7_deletes 4 (some .int) rmX7_deletes [.ref (gv 0), .int p1, .int p2] [(wMx cI gv (mS v) (mAside v) (mBefore v) (mText v) (mLetters v) (mBys v) (mFirst v) (mCommand v) (mKnown v) (mLength v) (mLogLong v) (mAreSame v) (mAt v) (mIsWrong v) (mPosition v) (mReason v) (mCause v))] (fun u : Int32 × zM => some (.int u.1)) (fun u : Int32 × zM => [(wMx cI gv (mS (u.2)) (mAside (u.2)) (mBefore (u.2)) (mText (u.2)) (mLetters (u.2)) (mBys (u.2)) (mFirst (u.2)) (mCommand (u.2)) (mKnown (u.2)) (mLength (u.2)) (mLogLong (u.2)) (mAreSame (u.2)) (mAt (u.2)) (mIsWrong (u.2)) (mPosition (u.2)) (mReason (u.2)) (mCause (u.2)))]) (fun u : Int32 × zM => Q u.1 u.2) := by
  refine z_body [some (.ref (gv 0)), some (.int p1), some (.int p2), none] (by decide +kernel) rfl (Nat.le_of_ble_eq_true rfl) rfl ?_
  intro p e s m args below meth c A C hin
  unfold wp_X7_deletes at hw
  refine z_aload_n C dX7_deletes_0 rfl ?_
  refine z_get C inlX7 rfl 0 (by decide) mw_4_15 dX7_deletes_1 0 0 rfl rfl rfl ?_
  refine z_iload_n C dX7_deletes_4 rfl ?_
  refine z_iconst C dX7_deletes_5 1 (by decide +kernel) ?_
  refine z_iload_n C dX7_deletes_6 rfl ?_
  refine z_iadd C dX7_deletes_7 ?_
  refine z_callFS C [] [(wMx cI gv (mS v) (mAside v) (mBefore v) (mText v) (mLetters v) (mBys v) (mFirst v) (mCommand v) (mKnown v) (mLength v) (mLogLong v) (mAreSame v) (mAt v) (mIsWrong v) (mPosition v) (mReason v) (mCause v))] (met_X7_of l D cI p1 (1 + p2)) y_X7_of mw_12_5 dX7_deletes_8 rfl n_X7_of rfl (by decide) ⟨rfl, rfl, Nat.le_of_ble_eq_true rfl, Nat.le_of_ble_eq_true rfl⟩ (Nat.le_of_ble_eq_true rfl) (z_pm [0] 1 rfl (by decide) rfl) ?_
  refine z_iald C dX7_deletes_11 0 1 rfl rfl hw.1 ?_
  replace hw := hw.2
  refine z_name C (fun x1 ex1 => ?_)
  replace hw := hw x1 ex1
  refine z_istore_n C dX7_deletes_12 [some (.ref (gv 0)), some (.int p1), some (.int p2), some (.int x1)] (by decide) rfl ?_
  refine z_aload_n C dX7_deletes_13 rfl ?_
  refine z_iload_n C dX7_deletes_14 rfl ?_
  refine z_iconst C dX7_deletes_15 2 (by decide +kernel) ?_
  refine z_iload_n C dX7_deletes_16 rfl ?_
  refine z_iconst C dX7_deletes_17 0 (by decide +kernel) ?_
  refine z_iload_n C dX7_deletes_18 rfl ?_
  refine z_callFS C [] [(wMx cI gv (mS v) (mAside v) (mBefore v) (mText v) (mLetters v) (mBys v) (mFirst v) (mCommand v) (mKnown v) (mLength v) (mLogLong v) (mAreSame v) (mAt v) (mIsWrong v) (mPosition v) (mReason v) (mCause v))] (met_X7_made l D cI 2 p2 0 p1) y_X7_made mw_12_17 dX7_deletes_19 rfl n_X7_made rfl (by decide) ⟨rfl, rfl, Nat.le_of_ble_eq_true rfl, Nat.le_of_ble_eq_true rfl⟩ (Nat.le_of_ble_eq_true rfl) (z_pm [0] 1 rfl (by decide) rfl) ?_
  refine z_callV0 C [(wMx cI gv (mS v) (mAside v) (mBefore v) (mText v) (mLetters v) (mBys v) (mFirst v) (mCommand v) (mKnown v) (mLength v) (mLogLong v) (mAreSame v) (mAt v) (mIsWrong v) (mPosition v) (mReason v) (mCause v))] [] rfl rfl (met_X7_writes l D cI gv v p1 (f_X7_made 2 p2 0 p1) _ hw) y_X7_writes mw_12_20 dX7_deletes_22 rfl n_X7_writes rfl (by decide) ⟨rfl, rfl, Nat.le_of_ble_eq_true rfl, Nat.le_of_ble_eq_true rfl⟩ (Nat.le_of_ble_eq_true rfl) (z_pm [0] 1 rfl (by decide) rfl) ?_
  intro u2 hw
  try dsimp only at hw
  refine z_bs [(wMx cI gv (mS u2) (mAside u2) (mBefore u2) (mText u2) (mLetters u2) (mBys u2) (mFirst u2) (mCommand u2) (mKnown u2) (mLength u2) (mLogLong u2) (mAreSame u2) (mAt u2) (mIsWrong u2) (mPosition u2) (mReason u2) (mCause u2))] [] rfl rfl ?_
  refine z_aload_n C dX7_deletes_25 rfl ?_
  refine z_iload_n C dX7_deletes_26 rfl ?_
  refine z_iconst C dX7_deletes_27 1 (by decide +kernel) ?_
  refine z_iload_n C dX7_deletes_28 rfl ?_
  refine z_iload_n C dX7_deletes_29 rfl ?_
  refine z_iload_n C dX7_deletes_30 rfl ?_
  refine z_callFS C [] [(wMx cI gv (mS u2) (mAside u2) (mBefore u2) (mText u2) (mLetters u2) (mBys u2) (mFirst u2) (mCommand u2) (mKnown u2) (mLength u2) (mLogLong u2) (mAreSame u2) (mAt u2) (mIsWrong u2) (mPosition u2) (mReason u2) (mCause u2))] (met_X7_made l D cI 1 p2 x1 p1) y_X7_made mw_12_17 dX7_deletes_31 rfl n_X7_made rfl (by decide) ⟨rfl, rfl, Nat.le_of_ble_eq_true rfl, Nat.le_of_ble_eq_true rfl⟩ (Nat.le_of_ble_eq_true rfl) (z_pm [0] 1 rfl (by decide) rfl) ?_
  refine z_callV0 C [(wMx cI gv (mS u2) (mAside u2) (mBefore u2) (mText u2) (mLetters u2) (mBys u2) (mFirst u2) (mCommand u2) (mKnown u2) (mLength u2) (mLogLong u2) (mAreSame u2) (mAt u2) (mIsWrong u2) (mPosition u2) (mReason u2) (mCause u2))] [] rfl rfl (met_X7_keep l D cI gv u2 p1 (f_X7_made 1 p2 x1 p1) _ hw) y_X7_keep mw_13_19 dX7_deletes_34 rfl n_X7_keep rfl (by decide) ⟨rfl, rfl, Nat.le_of_ble_eq_true rfl, Nat.le_of_ble_eq_true rfl⟩ (Nat.le_of_ble_eq_true rfl) (z_pm [0] 1 rfl (by decide) rfl) ?_
  intro u3 hw
  try dsimp only at hw
  refine z_bs [(wMx cI gv (mS u3) (mAside u3) (mBefore u3) (mText u3) (mLetters u3) (mBys u3) (mFirst u3) (mCommand u3) (mKnown u3) (mLength u3) (mLogLong u3) (mAreSame u3) (mAt u3) (mIsWrong u3) (mPosition u3) (mReason u3) (mCause u3))] [] rfl rfl ?_
  refine z_iload_n C dX7_deletes_37 rfl ?_
  exact z_iret C rfl (x1, u3) rfl hw rfl dX7_deletes_38
def rmX7_backFault : Room := { frames := 2, cells := 0, slots := 0, locals := 42 }
def jn_X7_backFault_70 (v : zM) (p1 : Int32)  (s70_0 : Int32) (Q : Int32 → zM → Prop)  : Prop := (vp_in (f_X7_of p1 97) 445 ∧ ((((mS v) (f_X7_of p1 97).toNatClampNeg) = 6 → (Q (-3) v)) ∧ (¬ ((mS v) (f_X7_of p1 97).toNatClampNeg) = 6 → ((s70_0 = 0 → (Q 0 v)) ∧ (¬ s70_0 = 0 → (Q (-3) v))))))
set_option maxHeartbeats 4000000 in
set_option maxRecDepth 100000 in
theorem wk_X7_backFault_70 {p : Program} {l : Launch} {e : Env} {s : State} {m : MethodId} {args : Array Value} {below : List Frame} {meth : Method} {c : Code} {D : va_G} {cI : ClassId} {A : Nat → Prop} (C : ZC p s m args meth c RX7 cX7_backFault 4 (some .int) D cI A) (gv : Nat → Nat) (v : zM) (p1 : Int32)  (s70_0 : Int32) (Q : Int32 → zM → Prop)  (hw : jn_X7_backFault_70 v p1  s70_0 Q ) : ZZ p l e rmX7_backFault s m args below meth c D A 4 0 0 (MQ below (ZQ D A (fun u : Int32 × zM => some (.int u.1)) (fun u : Int32 × zM => [(wMx cI gv (mS (u.2)) (mAside (u.2)) (mBefore (u.2)) (mText (u.2)) (mLetters (u.2)) (mBys (u.2)) (mFirst (u.2)) (mCommand (u.2)) (mKnown (u.2)) (mLength (u.2)) (mLogLong (u.2)) (mAreSame (u.2)) (mAt (u.2)) (mIsWrong (u.2)) (mPosition (u.2)) (mReason (u.2)) (mCause (u.2)))]) (fun u : Int32 × zM => Q u.1 u.2)) args s rmX7_backFault.cells rmX7_backFault.slots A) [(wMx cI gv (mS v) (mAside v) (mBefore v) (mText v) (mLetters v) (mBys v) (mFirst v) (mCommand v) (mKnown v) (mLength v) (mLogLong v) (mAreSame v) (mAt v) (mIsWrong v) (mPosition v) (mReason v) (mCause v))] 70 [some (.ref (gv 0)), some (.int p1), none, none] [.int s70_0] := by
  unfold jn_X7_backFault_70 at hw
  refine z_istore_n C dX7_backFault_70 [some (.ref (gv 0)), some (.int p1), none, some (.int s70_0)] (by decide) rfl ?_
  refine z_aload_n C dX7_backFault_71 rfl ?_
  refine z_get C inlX7 rfl 0 (by decide) mw_4_15 dX7_backFault_72 0 0 rfl rfl rfl ?_
  refine z_iload_n C dX7_backFault_75 rfl ?_
  refine z_bipush C dX7_backFault_76 97 (by decide +kernel) ?_
  refine z_callFS C [] [(wMx cI gv (mS v) (mAside v) (mBefore v) (mText v) (mLetters v) (mBys v) (mFirst v) (mCommand v) (mKnown v) (mLength v) (mLogLong v) (mAreSame v) (mAt v) (mIsWrong v) (mPosition v) (mReason v) (mCause v))] (met_X7_of l D cI p1 97) y_X7_of mw_12_5 dX7_backFault_78 rfl n_X7_of rfl (by decide) ⟨rfl, rfl, Nat.le_of_ble_eq_true rfl, Nat.le_of_ble_eq_true rfl⟩ (Nat.le_of_ble_eq_true rfl) (z_pm [0] 1 rfl (by decide) rfl) ?_
  refine z_iald C dX7_backFault_81 0 1 rfl rfl hw.1 ?_
  replace hw := hw.2
  refine z_bipush C dX7_backFault_82 6 (by decide +kernel) ?_
  refine z_icmp_eq C dX7_backFault_84 91 (by decide) (fun c5 => ?_) (fun c5 => ?_)
  · replace hw := hw.1 c5
    refine z_bipush C dX7_backFault_91 (-3) (by decide +kernel) ?_
    refine z_goto C dX7_backFault_93 97 (by decide) ?_
    exact z_iret C rfl ((-3), v) rfl hw rfl dX7_backFault_97
  · replace hw := hw.2 c5
    refine z_iload_n C dX7_backFault_87 rfl ?_
    refine z_if_eq C dX7_backFault_88 96 (by decide) (fun c6 => ?_) (fun c6 => ?_)
    · replace hw := hw.1 c6
      refine z_iconst C dX7_backFault_96 0 (by decide +kernel) ?_
      exact z_iret C rfl (0, v) rfl hw rfl dX7_backFault_97
    · replace hw := hw.2 c6
      refine z_bipush C dX7_backFault_91 (-3) (by decide +kernel) ?_
      refine z_goto C dX7_backFault_93 97 (by decide) ?_
      exact z_iret C rfl ((-3), v) rfl hw rfl dX7_backFault_97
def jn_X7_backFault_69 (v : zM) (p1 : Int32)   (Q : Int32 → zM → Prop)  : Prop := (jn_X7_backFault_70 v p1  0 Q )
set_option maxHeartbeats 4000000 in
set_option maxRecDepth 100000 in
theorem wk_X7_backFault_69 {p : Program} {l : Launch} {e : Env} {s : State} {m : MethodId} {args : Array Value} {below : List Frame} {meth : Method} {c : Code} {D : va_G} {cI : ClassId} {A : Nat → Prop} (C : ZC p s m args meth c RX7 cX7_backFault 4 (some .int) D cI A) (gv : Nat → Nat) (v : zM) (p1 : Int32)   (Q : Int32 → zM → Prop)  (hw : jn_X7_backFault_69 v p1   Q ) : ZZ p l e rmX7_backFault s m args below meth c D A 4 0 0 (MQ below (ZQ D A (fun u : Int32 × zM => some (.int u.1)) (fun u : Int32 × zM => [(wMx cI gv (mS (u.2)) (mAside (u.2)) (mBefore (u.2)) (mText (u.2)) (mLetters (u.2)) (mBys (u.2)) (mFirst (u.2)) (mCommand (u.2)) (mKnown (u.2)) (mLength (u.2)) (mLogLong (u.2)) (mAreSame (u.2)) (mAt (u.2)) (mIsWrong (u.2)) (mPosition (u.2)) (mReason (u.2)) (mCause (u.2)))]) (fun u : Int32 × zM => Q u.1 u.2)) args s rmX7_backFault.cells rmX7_backFault.slots A) [(wMx cI gv (mS v) (mAside v) (mBefore v) (mText v) (mLetters v) (mBys v) (mFirst v) (mCommand v) (mKnown v) (mLength v) (mLogLong v) (mAreSame v) (mAt v) (mIsWrong v) (mPosition v) (mReason v) (mCause v))] 69 [some (.ref (gv 0)), some (.int p1), none, none] [] := by
  unfold jn_X7_backFault_69 at hw
  refine z_iconst C dX7_backFault_69 0 (by decide +kernel) ?_
  exact wk_X7_backFault_70 C gv v p1  0 _  hw
def wp_X7_backFault (v : zM) (p1 : Int32) (Q : Int32 → zM → Prop) : Prop := ((¬ (f_X7_isEditor p1) = 0 → (vp_in (f_X7_of p1 104) 445 ∧ (∀ x2 : Int32, x2 = ((mS v) (f_X7_of p1 104).toNatClampNeg) → ((¬ x2 = 0 → (vp_in (f_X7_of p1 ((105 + x2) - 1)) 445 ∧ ((¬ (f_X7_kindOf ((mS v) (f_X7_of p1 ((105 + x2) - 1)).toNatClampNeg)) = 1 → (jn_X7_backFault_69 v p1   Q )) ∧ ((f_X7_kindOf ((mS v) (f_X7_of p1 ((105 + x2) - 1)).toNatClampNeg)) = 1 → (vp_in (f_X7_of p1 0) 445 ∧ ((((mS v) (f_X7_of p1 0).toNatClampNeg) < 30 → (jn_X7_backFault_69 v p1   Q )) ∧ (¬ ((mS v) (f_X7_of p1 0).toNatClampNeg) < 30 → (jn_X7_backFault_70 v p1  1 Q )))))))) ∧ (x2 = 0 → (Q (-2) v)))))) ∧ ((f_X7_isEditor p1) = 0 → (Q (-1) v)))
set_option maxHeartbeats 4000000 in
set_option maxRecDepth 100000 in
theorem met_X7_backFault (l : Launch) (D : va_G) (cI : ClassId) (gv : Nat → Nat) (v : zM) (p1 : Int32) (Q : Int32 → zM → Prop) (hw : wp_X7_backFault v p1 Q) : ZM l D cI yX7_backFault cX7_backFault 4 (some .int) rmX7_backFault [.ref (gv 0), .int p1] [(wMx cI gv (mS v) (mAside v) (mBefore v) (mText v) (mLetters v) (mBys v) (mFirst v) (mCommand v) (mKnown v) (mLength v) (mLogLong v) (mAreSame v) (mAt v) (mIsWrong v) (mPosition v) (mReason v) (mCause v))] (fun u : Int32 × zM => some (.int u.1)) (fun u : Int32 × zM => [(wMx cI gv (mS (u.2)) (mAside (u.2)) (mBefore (u.2)) (mText (u.2)) (mLetters (u.2)) (mBys (u.2)) (mFirst (u.2)) (mCommand (u.2)) (mKnown (u.2)) (mLength (u.2)) (mLogLong (u.2)) (mAreSame (u.2)) (mAt (u.2)) (mIsWrong (u.2)) (mPosition (u.2)) (mReason (u.2)) (mCause (u.2)))]) (fun u : Int32 × zM => Q u.1 u.2) := by
  refine z_body [some (.ref (gv 0)), some (.int p1), none, none] (by decide +kernel) rfl (Nat.le_of_ble_eq_true rfl) rfl ?_
  intro p e s m args below meth c A C hin
  unfold wp_X7_backFault at hw
  refine z_iload_n C dX7_backFault_0 rfl ?_
  refine z_callFS C [] [(wMx cI gv (mS v) (mAside v) (mBefore v) (mText v) (mLetters v) (mBys v) (mFirst v) (mCommand v) (mKnown v) (mLength v) (mLogLong v) (mAreSame v) (mAt v) (mIsWrong v) (mPosition v) (mReason v) (mCause v))] (met_X7_isEditor l D cI p1) y_X7_isEditor mw_11_23 dX7_backFault_1 rfl n_X7_isEditor rfl (by decide) ⟨rfl, rfl, Nat.le_of_ble_eq_true rfl, Nat.le_of_ble_eq_true rfl⟩ (Nat.le_of_ble_eq_true rfl) (z_pm [0] 1 rfl (by decide) rfl) ?_
  refine z_if_ne C dX7_backFault_4 9 (by decide) (fun c1 => ?_) (fun c1 => ?_)
  · replace hw := hw.1 c1
    refine z_aload_n C dX7_backFault_9 rfl ?_
    refine z_get C inlX7 rfl 0 (by decide) mw_4_15 dX7_backFault_10 0 0 rfl rfl rfl ?_
    refine z_iload_n C dX7_backFault_13 rfl ?_
    refine z_bipush C dX7_backFault_14 104 (by decide +kernel) ?_
    refine z_callFS C [] [(wMx cI gv (mS v) (mAside v) (mBefore v) (mText v) (mLetters v) (mBys v) (mFirst v) (mCommand v) (mKnown v) (mLength v) (mLogLong v) (mAreSame v) (mAt v) (mIsWrong v) (mPosition v) (mReason v) (mCause v))] (met_X7_of l D cI p1 104) y_X7_of mw_12_5 dX7_backFault_16 rfl n_X7_of rfl (by decide) ⟨rfl, rfl, Nat.le_of_ble_eq_true rfl, Nat.le_of_ble_eq_true rfl⟩ (Nat.le_of_ble_eq_true rfl) (z_pm [0] 1 rfl (by decide) rfl) ?_
    refine z_iald C dX7_backFault_19 0 1 rfl rfl hw.1 ?_
    replace hw := hw.2
    refine z_name C (fun x2 ex2 => ?_)
    replace hw := hw x2 ex2
    refine z_istore_n C dX7_backFault_20 [some (.ref (gv 0)), some (.int p1), some (.int x2), none] (by decide) rfl ?_
    refine z_iload_n C dX7_backFault_21 rfl ?_
    refine z_if_ne C dX7_backFault_22 28 (by decide) (fun c3 => ?_) (fun c3 => ?_)
    · replace hw := hw.1 c3
      refine z_aload_n C dX7_backFault_28 rfl ?_
      refine z_get C inlX7 rfl 0 (by decide) mw_4_15 dX7_backFault_29 0 0 rfl rfl rfl ?_
      refine z_iload_n C dX7_backFault_32 rfl ?_
      refine z_bipush C dX7_backFault_33 105 (by decide +kernel) ?_
      refine z_iload_n C dX7_backFault_35 rfl ?_
      refine z_iadd C dX7_backFault_36 ?_
      refine z_iconst C dX7_backFault_37 1 (by decide +kernel) ?_
      refine z_isub C dX7_backFault_38 ?_
      refine z_callFS C [] [(wMx cI gv (mS v) (mAside v) (mBefore v) (mText v) (mLetters v) (mBys v) (mFirst v) (mCommand v) (mKnown v) (mLength v) (mLogLong v) (mAreSame v) (mAt v) (mIsWrong v) (mPosition v) (mReason v) (mCause v))] (met_X7_of l D cI p1 ((105 + x2) - 1)) y_X7_of mw_12_5 dX7_backFault_39 rfl n_X7_of rfl (by decide) ⟨rfl, rfl, Nat.le_of_ble_eq_true rfl, Nat.le_of_ble_eq_true rfl⟩ (Nat.le_of_ble_eq_true rfl) (z_pm [0] 1 rfl (by decide) rfl) ?_
      refine z_iald C dX7_backFault_42 0 1 rfl rfl hw.1 ?_
      replace hw := hw.2
      refine z_callFS C [] [(wMx cI gv (mS v) (mAside v) (mBefore v) (mText v) (mLetters v) (mBys v) (mFirst v) (mCommand v) (mKnown v) (mLength v) (mLogLong v) (mAreSame v) (mAt v) (mIsWrong v) (mPosition v) (mReason v) (mCause v))] (met_X7_kindOf l D cI ((mS v) (f_X7_of p1 ((105 + x2) - 1)).toNatClampNeg)) y_X7_kindOf mw_13_7 dX7_backFault_43 rfl n_X7_kindOf rfl (by decide) ⟨rfl, rfl, Nat.le_of_ble_eq_true rfl, Nat.le_of_ble_eq_true rfl⟩ (Nat.le_of_ble_eq_true rfl) (z_pm [0] 1 rfl (by decide) rfl) ?_
      refine z_iconst C dX7_backFault_46 1 (by decide +kernel) ?_
      refine z_icmp_ne C dX7_backFault_47 69 (by decide) (fun c4 => ?_) (fun c4 => ?_)
      · replace hw := hw.1 c4
        refine z_ls C [true, true, false, false] [some (.ref (gv 0)), some (.int p1), none, none] rfl ?_
        exact wk_X7_backFault_69 C gv v p1   _  hw
      · replace hw := hw.2 c4
        refine z_aload_n C dX7_backFault_50 rfl ?_
        refine z_get C inlX7 rfl 0 (by decide) mw_4_15 dX7_backFault_51 0 0 rfl rfl rfl ?_
        refine z_iload_n C dX7_backFault_54 rfl ?_
        refine z_iconst C dX7_backFault_55 0 (by decide +kernel) ?_
        refine z_callFS C [] [(wMx cI gv (mS v) (mAside v) (mBefore v) (mText v) (mLetters v) (mBys v) (mFirst v) (mCommand v) (mKnown v) (mLength v) (mLogLong v) (mAreSame v) (mAt v) (mIsWrong v) (mPosition v) (mReason v) (mCause v))] (met_X7_of l D cI p1 0) y_X7_of mw_12_5 dX7_backFault_56 rfl n_X7_of rfl (by decide) ⟨rfl, rfl, Nat.le_of_ble_eq_true rfl, Nat.le_of_ble_eq_true rfl⟩ (Nat.le_of_ble_eq_true rfl) (z_pm [0] 1 rfl (by decide) rfl) ?_
        refine z_iald C dX7_backFault_59 0 1 rfl rfl hw.1 ?_
        replace hw := hw.2
        refine z_bipush C dX7_backFault_60 30 (by decide +kernel) ?_
        refine z_icmp_lt C dX7_backFault_62 69 (by decide) (fun c7 => ?_) (fun c7 => ?_)
        · replace hw := hw.1 c7
          refine z_ls C [true, true, false, false] [some (.ref (gv 0)), some (.int p1), none, none] rfl ?_
          exact wk_X7_backFault_69 C gv v p1   _  hw
        · replace hw := hw.2 c7
          refine z_iconst C dX7_backFault_65 1 (by decide +kernel) ?_
          refine z_goto C dX7_backFault_66 70 (by decide) ?_
          refine z_ls C [true, true, false, false] [some (.ref (gv 0)), some (.int p1), none, none] rfl ?_
          exact wk_X7_backFault_70 C gv v p1  1 _  hw
    · replace hw := hw.2 c3
      refine z_bipush C dX7_backFault_25 (-2) (by decide +kernel) ?_
      exact z_iret C rfl ((-2), v) rfl hw rfl dX7_backFault_27
  · replace hw := hw.2 c1
    refine z_iconst C dX7_backFault_7 (-1) (by decide +kernel) ?_
    exact z_iret C rfl ((-1), v) rfl hw rfl dX7_backFault_8
def rmX7_backs : Room := { frames := 4, cells := 0, slots := 0, locals := 95 }
def wp_X7_backs (v : zM) (p1 : Int32) (Q : Int32 → zM → Prop) : Prop := (vp_in (f_X7_of p1 104) 445 ∧ (vp_in (f_X7_of p1 104) 445 ∧ (vp_in (f_X7_of p1 104) 445 ∧ (vp_in (f_X7_of p1 (105 + ((upd (mS v) (f_X7_of p1 104).toNatClampNeg (((mS v) (f_X7_of p1 104).toNatClampNeg) - 1)) (f_X7_of p1 104).toNatClampNeg))) 445 ∧ (∀ x1 : Int32, x1 = ((upd (mS v) (f_X7_of p1 104).toNatClampNeg (((mS v) (f_X7_of p1 104).toNatClampNeg) - 1)) (f_X7_of p1 (105 + ((upd (mS v) (f_X7_of p1 104).toNatClampNeg (((mS v) (f_X7_of p1 104).toNatClampNeg) - 1)) (f_X7_of p1 104).toNatClampNeg))).toNatClampNeg) → (((f_X7_kindOf x1) ≤ 0 → (Q (f_X7_kindOf x1) (mSetS v (upd (mS v) (f_X7_of p1 104).toNatClampNeg (((mS v) (f_X7_of p1 104).toNatClampNeg) - 1))))) ∧ (¬ (f_X7_kindOf x1) ≤ 0 → (wp_X7_writes (mSetS v (upd (mS v) (f_X7_of p1 104).toNatClampNeg (((mS v) (f_X7_of p1 104).toNatClampNeg) - 1))) p1 x1 (fun u3 => (Q (f_X7_kindOf x1) u3))))))))))
set_option maxHeartbeats 4000000 in
set_option maxRecDepth 100000 in
theorem met_X7_backs (l : Launch) (D : va_G) (cI : ClassId) (gv : Nat → Nat) (v : zM) (p1 : Int32) (Q : Int32 → zM → Prop) (hw : wp_X7_backs v p1 Q) : ZM l D cI yX7_backs cX7_backs 3 (some .int) rmX7_backs [.ref (gv 0), .int p1] [(wMx cI gv (mS v) (mAside v) (mBefore v) (mText v) (mLetters v) (mBys v) (mFirst v) (mCommand v) (mKnown v) (mLength v) (mLogLong v) (mAreSame v) (mAt v) (mIsWrong v) (mPosition v) (mReason v) (mCause v))] (fun u : Int32 × zM => some (.int u.1)) (fun u : Int32 × zM => [(wMx cI gv (mS (u.2)) (mAside (u.2)) (mBefore (u.2)) (mText (u.2)) (mLetters (u.2)) (mBys (u.2)) (mFirst (u.2)) (mCommand (u.2)) (mKnown (u.2)) (mLength (u.2)) (mLogLong (u.2)) (mAreSame (u.2)) (mAt (u.2)) (mIsWrong (u.2)) (mPosition (u.2)) (mReason (u.2)) (mCause (u.2)))]) (fun u : Int32 × zM => Q u.1 u.2) := by
  refine z_body [some (.ref (gv 0)), some (.int p1), none] (by decide +kernel) rfl (Nat.le_of_ble_eq_true rfl) rfl ?_
  intro p e s m args below meth c A C hin
  unfold wp_X7_backs at hw
  refine z_aload_n C dX7_backs_0 rfl ?_
  refine z_get C inlX7 rfl 0 (by decide) mw_4_15 dX7_backs_1 0 0 rfl rfl rfl ?_
  refine z_iload_n C dX7_backs_4 rfl ?_
  refine z_bipush C dX7_backs_5 104 (by decide +kernel) ?_
  refine z_callFS C [] [(wMx cI gv (mS v) (mAside v) (mBefore v) (mText v) (mLetters v) (mBys v) (mFirst v) (mCommand v) (mKnown v) (mLength v) (mLogLong v) (mAreSame v) (mAt v) (mIsWrong v) (mPosition v) (mReason v) (mCause v))] (met_X7_of l D cI p1 104) y_X7_of mw_12_5 dX7_backs_7 rfl n_X7_of rfl (by decide) ⟨rfl, rfl, Nat.le_of_ble_eq_true rfl, Nat.le_of_ble_eq_true rfl⟩ (Nat.le_of_ble_eq_true rfl) (z_pm [0] 1 rfl (by decide) rfl) ?_
  refine z_dup2 C dX7_backs_10 rfl rfl ?_
  refine z_iald C dX7_backs_11 0 1 rfl rfl hw.1 ?_
  replace hw := hw.2
  refine z_iconst C dX7_backs_12 1 (by decide +kernel) ?_
  refine z_isub C dX7_backs_13 ?_
  refine z_iast C dX7_backs_14 0 1 rfl rfl hw.1 [(wMx cI gv (upd (mS v) (f_X7_of p1 104).toNatClampNeg (((mS v) (f_X7_of p1 104).toNatClampNeg) - 1)) (mAside v) (mBefore v) (mText v) (mLetters v) (mBys v) (mFirst v) (mCommand v) (mKnown v) (mLength v) (mLogLong v) (mAreSame v) (mAt v) (mIsWrong v) (mPosition v) (mReason v) (mCause v))] rfl ?_
  replace hw := hw.2
  refine z_aload_n C dX7_backs_15 rfl ?_
  refine z_get C inlX7 rfl 0 (by decide) mw_4_15 dX7_backs_16 0 0 rfl rfl rfl ?_
  refine z_iload_n C dX7_backs_19 rfl ?_
  refine z_bipush C dX7_backs_20 105 (by decide +kernel) ?_
  refine z_aload_n C dX7_backs_22 rfl ?_
  refine z_get C inlX7 rfl 0 (by decide) mw_4_15 dX7_backs_23 0 0 rfl rfl rfl ?_
  refine z_iload_n C dX7_backs_26 rfl ?_
  refine z_bipush C dX7_backs_27 104 (by decide +kernel) ?_
  refine z_callFS C [] [(wMx cI gv (upd (mS v) (f_X7_of p1 104).toNatClampNeg (((mS v) (f_X7_of p1 104).toNatClampNeg) - 1)) (mAside v) (mBefore v) (mText v) (mLetters v) (mBys v) (mFirst v) (mCommand v) (mKnown v) (mLength v) (mLogLong v) (mAreSame v) (mAt v) (mIsWrong v) (mPosition v) (mReason v) (mCause v))] (met_X7_of l D cI p1 104) y_X7_of mw_12_5 dX7_backs_29 rfl n_X7_of rfl (by decide) ⟨rfl, rfl, Nat.le_of_ble_eq_true rfl, Nat.le_of_ble_eq_true rfl⟩ (Nat.le_of_ble_eq_true rfl) (z_pm [0] 1 rfl (by decide) rfl) ?_
  refine z_iald C dX7_backs_32 0 1 rfl rfl hw.1 ?_
  replace hw := hw.2
  refine z_iadd C dX7_backs_33 ?_
  refine z_callFS C [] [(wMx cI gv (upd (mS v) (f_X7_of p1 104).toNatClampNeg (((mS v) (f_X7_of p1 104).toNatClampNeg) - 1)) (mAside v) (mBefore v) (mText v) (mLetters v) (mBys v) (mFirst v) (mCommand v) (mKnown v) (mLength v) (mLogLong v) (mAreSame v) (mAt v) (mIsWrong v) (mPosition v) (mReason v) (mCause v))] (met_X7_of l D cI p1 (105 + ((upd (mS v) (f_X7_of p1 104).toNatClampNeg (((mS v) (f_X7_of p1 104).toNatClampNeg) - 1)) (f_X7_of p1 104).toNatClampNeg))) y_X7_of mw_12_5 dX7_backs_34 rfl n_X7_of rfl (by decide) ⟨rfl, rfl, Nat.le_of_ble_eq_true rfl, Nat.le_of_ble_eq_true rfl⟩ (Nat.le_of_ble_eq_true rfl) (z_pm [0] 1 rfl (by decide) rfl) ?_
  refine z_iald C dX7_backs_37 0 1 rfl rfl hw.1 ?_
  replace hw := hw.2
  refine z_name C (fun x1 ex1 => ?_)
  replace hw := hw x1 ex1
  refine z_istore_n C dX7_backs_38 [some (.ref (gv 0)), some (.int p1), some (.int x1)] (by decide) rfl ?_
  refine z_iload_n C dX7_backs_39 rfl ?_
  refine z_callFS C [] [(wMx cI gv (upd (mS v) (f_X7_of p1 104).toNatClampNeg (((mS v) (f_X7_of p1 104).toNatClampNeg) - 1)) (mAside v) (mBefore v) (mText v) (mLetters v) (mBys v) (mFirst v) (mCommand v) (mKnown v) (mLength v) (mLogLong v) (mAreSame v) (mAt v) (mIsWrong v) (mPosition v) (mReason v) (mCause v))] (met_X7_kindOf l D cI x1) y_X7_kindOf mw_13_7 dX7_backs_40 rfl n_X7_kindOf rfl (by decide) ⟨rfl, rfl, Nat.le_of_ble_eq_true rfl, Nat.le_of_ble_eq_true rfl⟩ (Nat.le_of_ble_eq_true rfl) (z_pm [0] 1 rfl (by decide) rfl) ?_
  refine z_if_le C dX7_backs_43 52 (by decide) (fun c2 => ?_) (fun c2 => ?_)
  · replace hw := hw.1 c2
    refine z_iload_n C dX7_backs_52 rfl ?_
    refine z_callFS C [] [(wMx cI gv (upd (mS v) (f_X7_of p1 104).toNatClampNeg (((mS v) (f_X7_of p1 104).toNatClampNeg) - 1)) (mAside v) (mBefore v) (mText v) (mLetters v) (mBys v) (mFirst v) (mCommand v) (mKnown v) (mLength v) (mLogLong v) (mAreSame v) (mAt v) (mIsWrong v) (mPosition v) (mReason v) (mCause v))] (met_X7_kindOf l D cI x1) y_X7_kindOf mw_13_7 dX7_backs_53 rfl n_X7_kindOf rfl (by decide) ⟨rfl, rfl, Nat.le_of_ble_eq_true rfl, Nat.le_of_ble_eq_true rfl⟩ (Nat.le_of_ble_eq_true rfl) (z_pm [0] 1 rfl (by decide) rfl) ?_
    exact z_iret C rfl ((f_X7_kindOf x1), (mSetS v (upd (mS v) (f_X7_of p1 104).toNatClampNeg (((mS v) (f_X7_of p1 104).toNatClampNeg) - 1)))) rfl hw rfl dX7_backs_56
  · replace hw := hw.2 c2
    refine z_aload_n C dX7_backs_46 rfl ?_
    refine z_iload_n C dX7_backs_47 rfl ?_
    refine z_iload_n C dX7_backs_48 rfl ?_
    refine z_callV0 C [(wMx cI gv (upd (mS v) (f_X7_of p1 104).toNatClampNeg (((mS v) (f_X7_of p1 104).toNatClampNeg) - 1)) (mAside v) (mBefore v) (mText v) (mLetters v) (mBys v) (mFirst v) (mCommand v) (mKnown v) (mLength v) (mLogLong v) (mAreSame v) (mAt v) (mIsWrong v) (mPosition v) (mReason v) (mCause v))] [] rfl rfl (met_X7_writes l D cI gv (mSetS v (upd (mS v) (f_X7_of p1 104).toNatClampNeg (((mS v) (f_X7_of p1 104).toNatClampNeg) - 1))) p1 x1 _ hw) y_X7_writes mw_12_20 dX7_backs_49 rfl n_X7_writes rfl (by decide) ⟨rfl, rfl, Nat.le_of_ble_eq_true rfl, Nat.le_of_ble_eq_true rfl⟩ (Nat.le_of_ble_eq_true rfl) (z_pm [0] 1 rfl (by decide) rfl) ?_
    intro u3 hw
    try dsimp only at hw
    refine z_bs [(wMx cI gv (mS u3) (mAside u3) (mBefore u3) (mText u3) (mLetters u3) (mBys u3) (mFirst u3) (mCommand u3) (mKnown u3) (mLength u3) (mLogLong u3) (mAreSame u3) (mAt u3) (mIsWrong u3) (mPosition u3) (mReason u3) (mCause u3))] [] rfl rfl ?_
    refine z_iload_n C dX7_backs_52 rfl ?_
    refine z_callFS C [] [(wMx cI gv (mS u3) (mAside u3) (mBefore u3) (mText u3) (mLetters u3) (mBys u3) (mFirst u3) (mCommand u3) (mKnown u3) (mLength u3) (mLogLong u3) (mAreSame u3) (mAt u3) (mIsWrong u3) (mPosition u3) (mReason u3) (mCause u3))] (met_X7_kindOf l D cI x1) y_X7_kindOf mw_13_7 dX7_backs_53 rfl n_X7_kindOf rfl (by decide) ⟨rfl, rfl, Nat.le_of_ble_eq_true rfl, Nat.le_of_ble_eq_true rfl⟩ (Nat.le_of_ble_eq_true rfl) (z_pm [0] 1 rfl (by decide) rfl) ?_
    exact z_iret C rfl ((f_X7_kindOf x1), u3) rfl hw rfl dX7_backs_56
def rmX7_behind : Room := { frames := 2, cells := 0, slots := 0, locals := 48 }
def lb_X7_behind_15 (v : zM) (p1 : Int32) (p2 : Int32)   (Q : Int32 → zM → Prop)  (K15 : (Int32) → (Int32) → Prop) (v3 : Int32) (v4 : Int32) : Prop := (vp_in 0 445 ∧ ((((mS v) (0 : Int32).toNatClampNeg) ≤ v4 → (Q v3 v)) ∧ (¬ ((mS v) (0 : Int32).toNatClampNeg) ≤ v4 → (vp_in (1 + v4) 445 ∧ (∀ x3 : Int32, x3 = (f_X7_reshaped v3 ((mS v) (1 + v4).toNatClampNeg)) → (K15 x3 (v4 + 1)))))))
set_option maxHeartbeats 4000000 in
set_option maxRecDepth 100000 in
theorem wk_X7_behind_15 {p : Program} {l : Launch} {e : Env} {s : State} {m : MethodId} {args : Array Value} {below : List Frame} {meth : Method} {c : Code} {D : va_G} {cI : ClassId} {A : Nat → Prop} (C : ZC p s m args meth c RX7 cX7_behind 5 (some .int) D cI A) (gv : Nat → Nat) (v : zM) (p1 : Int32) (p2 : Int32)   (v3 : Int32) (v4 : Int32) (Q : Int32 → zM → Prop)  (hw : zLoop2 (lb_X7_behind_15 v p1 p2   Q ) v3 v4) : ZZ p l e rmX7_behind s m args below meth c D A 5 0 0 (MQ below (ZQ D A (fun u : Int32 × zM => some (.int u.1)) (fun u : Int32 × zM => [(wMx cI gv (mS (u.2)) (mAside (u.2)) (mBefore (u.2)) (mText (u.2)) (mLetters (u.2)) (mBys (u.2)) (mFirst (u.2)) (mCommand (u.2)) (mKnown (u.2)) (mLength (u.2)) (mLogLong (u.2)) (mAreSame (u.2)) (mAt (u.2)) (mIsWrong (u.2)) (mPosition (u.2)) (mReason (u.2)) (mCause (u.2)))]) (fun u : Int32 × zM => Q u.1 u.2)) args s rmX7_behind.cells rmX7_behind.slots A) [(wMx cI gv (mS v) (mAside v) (mBefore v) (mText v) (mLetters v) (mBys v) (mFirst v) (mCommand v) (mKnown v) (mLength v) (mLogLong v) (mAreSame v) (mAt v) (mIsWrong v) (mPosition v) (mReason v) (mCause v))] 15 [some (.ref (gv 0)), none, none, some (.int v3), some (.int v4)] [] := by
  refine zLoop2_w (fun (v3 : Int32) (v4 : Int32) => ZZ p l e rmX7_behind s m args below meth c D A 5 0 0 (MQ below (ZQ D A (fun u : Int32 × zM => some (.int u.1)) (fun u : Int32 × zM => [(wMx cI gv (mS (u.2)) (mAside (u.2)) (mBefore (u.2)) (mText (u.2)) (mLetters (u.2)) (mBys (u.2)) (mFirst (u.2)) (mCommand (u.2)) (mKnown (u.2)) (mLength (u.2)) (mLogLong (u.2)) (mAreSame (u.2)) (mAt (u.2)) (mIsWrong (u.2)) (mPosition (u.2)) (mReason (u.2)) (mCause (u.2)))]) (fun u : Int32 × zM => Q u.1 u.2)) args s rmX7_behind.cells rmX7_behind.slots A) [(wMx cI gv (mS v) (mAside v) (mBefore v) (mText v) (mLetters v) (mBys v) (mFirst v) (mCommand v) (mKnown v) (mLength v) (mLogLong v) (mAreSame v) (mAt v) (mIsWrong v) (mPosition v) (mReason v) (mCause v))] 15 [some (.ref (gv 0)), none, none, some (.int v3), some (.int v4)] []) ?_ _ _ hw
  clear hw
  intro K15 hK15 v3 v4 hw
  unfold lb_X7_behind_15 at hw
  refine z_iload C dX7_behind_15 rfl ?_
  refine z_aload_n C dX7_behind_17 rfl ?_
  refine z_get C inlX7 rfl 0 (by decide) mw_4_15 dX7_behind_18 0 0 rfl rfl rfl ?_
  refine z_iconst C dX7_behind_21 0 (by decide +kernel) ?_
  refine z_iald C dX7_behind_22 0 1 rfl rfl hw.1 ?_
  replace hw := hw.2
  refine z_icmp_ge C dX7_behind_23 46 (by decide) (fun c2 => ?_) (fun c2 => ?_)
  · replace hw := hw.1 c2
    refine z_iload_n C dX7_behind_46 rfl ?_
    exact z_iret C rfl (v3, v) rfl hw rfl dX7_behind_47
  · replace hw := hw.2 c2
    refine z_iload_n C dX7_behind_26 rfl ?_
    refine z_aload_n C dX7_behind_27 rfl ?_
    refine z_get C inlX7 rfl 0 (by decide) mw_4_15 dX7_behind_28 0 0 rfl rfl rfl ?_
    refine z_iconst C dX7_behind_31 1 (by decide +kernel) ?_
    refine z_iload C dX7_behind_32 rfl ?_
    refine z_iadd C dX7_behind_34 ?_
    refine z_iald C dX7_behind_35 0 1 rfl rfl hw.1 ?_
    replace hw := hw.2
    refine z_callFS C [] [(wMx cI gv (mS v) (mAside v) (mBefore v) (mText v) (mLetters v) (mBys v) (mFirst v) (mCommand v) (mKnown v) (mLength v) (mLogLong v) (mAreSame v) (mAt v) (mIsWrong v) (mPosition v) (mReason v) (mCause v))] (met_X7_reshaped l D cI v3 ((mS v) (1 + v4).toNatClampNeg)) y_X7_reshaped mw_13_13 dX7_behind_36 rfl n_X7_reshaped rfl (by decide) ⟨rfl, rfl, Nat.le_of_ble_eq_true rfl, Nat.le_of_ble_eq_true rfl⟩ (Nat.le_of_ble_eq_true rfl) (z_pm [0] 1 rfl (by decide) rfl) ?_
    refine z_name C (fun x3 ex3 => ?_)
    replace hw := hw x3 ex3
    refine z_istore_n C dX7_behind_39 [some (.ref (gv 0)), none, none, some (.int x3), some (.int v4)] (by decide) rfl ?_
    refine z_iinc C dX7_behind_40 rfl (v4 + 1) (by rfl) [some (.ref (gv 0)), none, none, some (.int x3), some (.int (v4 + 1))] (by decide) rfl ?_
    refine z_goto C dX7_behind_43 15 (by decide) ?_
    exact hK15 _ _ hw
def wp_X7_behind (v : zM) (p1 : Int32) (p2 : Int32) (Q : Int32 → zM → Prop) : Prop := (vp_in (f_X7_of p1 112) 445 ∧ (∀ x1 : Int32, x1 = ((mS v) (f_X7_of p1 112).toNatClampNeg) → (zLoop2 (lb_X7_behind_15 v p1 p2   Q ) p2 x1)))
set_option maxHeartbeats 4000000 in
set_option maxRecDepth 100000 in
theorem met_X7_behind (l : Launch) (D : va_G) (cI : ClassId) (gv : Nat → Nat) (v : zM) (p1 : Int32) (p2 : Int32) (Q : Int32 → zM → Prop) (hw : wp_X7_behind v p1 p2 Q) : ZM l D cI yX7_behind cX7_behind 5 (some .int) rmX7_behind [.ref (gv 0), .int p1, .int p2] [(wMx cI gv (mS v) (mAside v) (mBefore v) (mText v) (mLetters v) (mBys v) (mFirst v) (mCommand v) (mKnown v) (mLength v) (mLogLong v) (mAreSame v) (mAt v) (mIsWrong v) (mPosition v) (mReason v) (mCause v))] (fun u : Int32 × zM => some (.int u.1)) (fun u : Int32 × zM => [(wMx cI gv (mS (u.2)) (mAside (u.2)) (mBefore (u.2)) (mText (u.2)) (mLetters (u.2)) (mBys (u.2)) (mFirst (u.2)) (mCommand (u.2)) (mKnown (u.2)) (mLength (u.2)) (mLogLong (u.2)) (mAreSame (u.2)) (mAt (u.2)) (mIsWrong (u.2)) (mPosition (u.2)) (mReason (u.2)) (mCause (u.2)))]) (fun u : Int32 × zM => Q u.1 u.2) := by
  refine z_body [some (.ref (gv 0)), some (.int p1), some (.int p2), none, none] (by decide +kernel) rfl (Nat.le_of_ble_eq_true rfl) rfl ?_
  intro p e s m args below meth c A C hin
  unfold wp_X7_behind at hw
  refine z_iload_n C dX7_behind_0 rfl ?_
  refine z_istore_n C dX7_behind_1 [some (.ref (gv 0)), some (.int p1), some (.int p2), some (.int p2), none] (by decide) rfl ?_
  refine z_aload_n C dX7_behind_2 rfl ?_
  refine z_get C inlX7 rfl 0 (by decide) mw_4_15 dX7_behind_3 0 0 rfl rfl rfl ?_
  refine z_iload_n C dX7_behind_6 rfl ?_
  refine z_bipush C dX7_behind_7 112 (by decide +kernel) ?_
  refine z_callFS C [] [(wMx cI gv (mS v) (mAside v) (mBefore v) (mText v) (mLetters v) (mBys v) (mFirst v) (mCommand v) (mKnown v) (mLength v) (mLogLong v) (mAreSame v) (mAt v) (mIsWrong v) (mPosition v) (mReason v) (mCause v))] (met_X7_of l D cI p1 112) y_X7_of mw_12_5 dX7_behind_9 rfl n_X7_of rfl (by decide) ⟨rfl, rfl, Nat.le_of_ble_eq_true rfl, Nat.le_of_ble_eq_true rfl⟩ (Nat.le_of_ble_eq_true rfl) (z_pm [0] 1 rfl (by decide) rfl) ?_
  refine z_iald C dX7_behind_12 0 1 rfl rfl hw.1 ?_
  replace hw := hw.2
  refine z_name C (fun x1 ex1 => ?_)
  replace hw := hw x1 ex1
  refine z_istore C dX7_behind_13 [some (.ref (gv 0)), some (.int p1), some (.int p2), some (.int p2), some (.int x1)] (by decide) rfl ?_
  refine z_ls C [true, false, false, true, true] [some (.ref (gv 0)), none, none, some (.int p2), some (.int x1)] rfl ?_
  exact wk_X7_behind_15 C gv v p1 p2   p2 x1 _  hw
def rmX7_canSend : Room := { frames := 1, cells := 0, slots := 0, locals := 21 }
def wp_X7_canSend (v : zM) (p1 : Int32) (Q : Int32 → zM → Prop) : Prop := (vp_in (f_X7_of p1 97) 445 ∧ ((((mS v) (f_X7_of p1 97).toNatClampNeg) ≤ 0 → (Q 0 v)) ∧ (¬ ((mS v) (f_X7_of p1 97).toNatClampNeg) ≤ 0 → (vp_in (f_X7_of p1 113) 445 ∧ ((¬ ((mS v) (f_X7_of p1 113).toNatClampNeg) = 0 → (Q 0 v)) ∧ (((mS v) (f_X7_of p1 113).toNatClampNeg) = 0 → (Q 1 v)))))))
set_option maxHeartbeats 4000000 in
set_option maxRecDepth 100000 in
theorem met_X7_canSend (l : Launch) (D : va_G) (cI : ClassId) (gv : Nat → Nat) (v : zM) (p1 : Int32) (Q : Int32 → zM → Prop) (hw : wp_X7_canSend v p1 Q) : ZM l D cI yX7_canSend cX7_canSend 2 (some .boolean) rmX7_canSend [.ref (gv 0), .int p1] [(wMx cI gv (mS v) (mAside v) (mBefore v) (mText v) (mLetters v) (mBys v) (mFirst v) (mCommand v) (mKnown v) (mLength v) (mLogLong v) (mAreSame v) (mAt v) (mIsWrong v) (mPosition v) (mReason v) (mCause v))] (fun u : Int32 × zM => some (.int u.1)) (fun u : Int32 × zM => [(wMx cI gv (mS (u.2)) (mAside (u.2)) (mBefore (u.2)) (mText (u.2)) (mLetters (u.2)) (mBys (u.2)) (mFirst (u.2)) (mCommand (u.2)) (mKnown (u.2)) (mLength (u.2)) (mLogLong (u.2)) (mAreSame (u.2)) (mAt (u.2)) (mIsWrong (u.2)) (mPosition (u.2)) (mReason (u.2)) (mCause (u.2)))]) (fun u : Int32 × zM => Q u.1 u.2) := by
  refine z_body [some (.ref (gv 0)), some (.int p1)] (by decide +kernel) rfl (Nat.le_of_ble_eq_true rfl) rfl ?_
  intro p e s m args below meth c A C hin
  unfold wp_X7_canSend at hw
  refine z_aload_n C dX7_canSend_0 rfl ?_
  refine z_get C inlX7 rfl 0 (by decide) mw_4_15 dX7_canSend_1 0 0 rfl rfl rfl ?_
  refine z_iload_n C dX7_canSend_4 rfl ?_
  refine z_bipush C dX7_canSend_5 97 (by decide +kernel) ?_
  refine z_callFS C [] [(wMx cI gv (mS v) (mAside v) (mBefore v) (mText v) (mLetters v) (mBys v) (mFirst v) (mCommand v) (mKnown v) (mLength v) (mLogLong v) (mAreSame v) (mAt v) (mIsWrong v) (mPosition v) (mReason v) (mCause v))] (met_X7_of l D cI p1 97) y_X7_of mw_12_5 dX7_canSend_7 rfl n_X7_of rfl (by decide) ⟨rfl, rfl, Nat.le_of_ble_eq_true rfl, Nat.le_of_ble_eq_true rfl⟩ (Nat.le_of_ble_eq_true rfl) (z_pm [0] 1 rfl (by decide) rfl) ?_
  refine z_iald C dX7_canSend_10 0 1 rfl rfl hw.1 ?_
  replace hw := hw.2
  refine z_if_le C dX7_canSend_11 32 (by decide) (fun c1 => ?_) (fun c1 => ?_)
  · replace hw := hw.1 c1
    refine z_iconst C dX7_canSend_32 0 (by decide +kernel) ?_
    exact z_zret C rfl (by decide) (0, v) rfl hw rfl dX7_canSend_33
  · replace hw := hw.2 c1
    refine z_aload_n C dX7_canSend_14 rfl ?_
    refine z_get C inlX7 rfl 0 (by decide) mw_4_15 dX7_canSend_15 0 0 rfl rfl rfl ?_
    refine z_iload_n C dX7_canSend_18 rfl ?_
    refine z_bipush C dX7_canSend_19 113 (by decide +kernel) ?_
    refine z_callFS C [] [(wMx cI gv (mS v) (mAside v) (mBefore v) (mText v) (mLetters v) (mBys v) (mFirst v) (mCommand v) (mKnown v) (mLength v) (mLogLong v) (mAreSame v) (mAt v) (mIsWrong v) (mPosition v) (mReason v) (mCause v))] (met_X7_of l D cI p1 113) y_X7_of mw_12_5 dX7_canSend_21 rfl n_X7_of rfl (by decide) ⟨rfl, rfl, Nat.le_of_ble_eq_true rfl, Nat.le_of_ble_eq_true rfl⟩ (Nat.le_of_ble_eq_true rfl) (z_pm [0] 1 rfl (by decide) rfl) ?_
    refine z_iald C dX7_canSend_24 0 1 rfl rfl hw.1 ?_
    replace hw := hw.2
    refine z_if_ne C dX7_canSend_25 32 (by decide) (fun c2 => ?_) (fun c2 => ?_)
    · replace hw := hw.1 c2
      refine z_iconst C dX7_canSend_32 0 (by decide +kernel) ?_
      exact z_zret C rfl (by decide) (0, v) rfl hw rfl dX7_canSend_33
    · replace hw := hw.2 c2
      refine z_iconst C dX7_canSend_28 1 (by decide +kernel) ?_
      refine z_goto C dX7_canSend_29 33 (by decide) ?_
      exact z_zret C rfl (by decide) (1, v) rfl hw rfl dX7_canSend_33
def rmX7_sendFault : Room := { frames := 2, cells := 0, slots := 0, locals := 42 }
def wp_X7_sendFault (v : zM) (p1 : Int32) (Q : Int32 → zM → Prop) : Prop := ((¬ (f_X7_isEditor p1) = 0 → (wp_X7_canSend v p1 (fun r2 u3 => ((¬ r2 = 0 → (vp_in 0 445 ∧ ((((mS u3) (0 : Int32).toNatClampNeg) < 60 → (Q 0 u3)) ∧ (¬ ((mS u3) (0 : Int32).toNatClampNeg) < 60 → (Q (-3) u3))))) ∧ (r2 = 0 → (Q (-2) u3)))))) ∧ ((f_X7_isEditor p1) = 0 → (Q (-1) v)))
set_option maxHeartbeats 4000000 in
set_option maxRecDepth 100000 in
theorem met_X7_sendFault (l : Launch) (D : va_G) (cI : ClassId) (gv : Nat → Nat) (v : zM) (p1 : Int32) (Q : Int32 → zM → Prop) (hw : wp_X7_sendFault v p1 Q) : ZM l D cI yX7_sendFault cX7_sendFault 2 (some .int) rmX7_sendFault [.ref (gv 0), .int p1] [(wMx cI gv (mS v) (mAside v) (mBefore v) (mText v) (mLetters v) (mBys v) (mFirst v) (mCommand v) (mKnown v) (mLength v) (mLogLong v) (mAreSame v) (mAt v) (mIsWrong v) (mPosition v) (mReason v) (mCause v))] (fun u : Int32 × zM => some (.int u.1)) (fun u : Int32 × zM => [(wMx cI gv (mS (u.2)) (mAside (u.2)) (mBefore (u.2)) (mText (u.2)) (mLetters (u.2)) (mBys (u.2)) (mFirst (u.2)) (mCommand (u.2)) (mKnown (u.2)) (mLength (u.2)) (mLogLong (u.2)) (mAreSame (u.2)) (mAt (u.2)) (mIsWrong (u.2)) (mPosition (u.2)) (mReason (u.2)) (mCause (u.2)))]) (fun u : Int32 × zM => Q u.1 u.2) := by
  refine z_body [some (.ref (gv 0)), some (.int p1)] (by decide +kernel) rfl (Nat.le_of_ble_eq_true rfl) rfl ?_
  intro p e s m args below meth c A C hin
  unfold wp_X7_sendFault at hw
  refine z_iload_n C dX7_sendFault_0 rfl ?_
  refine z_callFS C [] [(wMx cI gv (mS v) (mAside v) (mBefore v) (mText v) (mLetters v) (mBys v) (mFirst v) (mCommand v) (mKnown v) (mLength v) (mLogLong v) (mAreSame v) (mAt v) (mIsWrong v) (mPosition v) (mReason v) (mCause v))] (met_X7_isEditor l D cI p1) y_X7_isEditor mw_11_23 dX7_sendFault_1 rfl n_X7_isEditor rfl (by decide) ⟨rfl, rfl, Nat.le_of_ble_eq_true rfl, Nat.le_of_ble_eq_true rfl⟩ (Nat.le_of_ble_eq_true rfl) (z_pm [0] 1 rfl (by decide) rfl) ?_
  refine z_if_ne C dX7_sendFault_4 11 (by decide) (fun c1 => ?_) (fun c1 => ?_)
  · replace hw := hw.1 c1
    refine z_aload_n C dX7_sendFault_11 rfl ?_
    refine z_iload_n C dX7_sendFault_12 rfl ?_
    refine z_callV0 C [(wMx cI gv (mS v) (mAside v) (mBefore v) (mText v) (mLetters v) (mBys v) (mFirst v) (mCommand v) (mKnown v) (mLength v) (mLogLong v) (mAreSame v) (mAt v) (mIsWrong v) (mPosition v) (mReason v) (mCause v))] [] rfl rfl (met_X7_canSend l D cI gv v p1 _ hw) y_X7_canSend mw_16_3 dX7_sendFault_13 rfl n_X7_canSend rfl (by decide) ⟨rfl, rfl, Nat.le_of_ble_eq_true rfl, Nat.le_of_ble_eq_true rfl⟩ (Nat.le_of_ble_eq_true rfl) (z_pm [0] 1 rfl (by decide) rfl) ?_
    intro ⟨r2, u3⟩ hw
    try dsimp only at hw
    refine z_bs [(wMx cI gv (mS u3) (mAside u3) (mBefore u3) (mText u3) (mLetters u3) (mBys u3) (mFirst u3) (mCommand u3) (mKnown u3) (mLength u3) (mLogLong u3) (mAreSame u3) (mAt u3) (mIsWrong u3) (mPosition u3) (mReason u3) (mCause u3))] [.int r2] rfl rfl ?_
    refine z_if_ne C dX7_sendFault_16 24 (by decide) (fun c4 => ?_) (fun c4 => ?_)
    · replace hw := hw.1 c4
      refine z_aload_n C dX7_sendFault_24 rfl ?_
      refine z_get C inlX7 rfl 0 (by decide) mw_4_15 dX7_sendFault_25 0 0 rfl rfl rfl ?_
      refine z_iconst C dX7_sendFault_28 0 (by decide +kernel) ?_
      refine z_iald C dX7_sendFault_29 0 1 rfl rfl hw.1 ?_
      replace hw := hw.2
      refine z_bipush C dX7_sendFault_30 60 (by decide +kernel) ?_
      refine z_icmp_lt C dX7_sendFault_32 40 (by decide) (fun c5 => ?_) (fun c5 => ?_)
      · replace hw := hw.1 c5
        refine z_iconst C dX7_sendFault_40 0 (by decide +kernel) ?_
        exact z_iret C rfl (0, u3) rfl hw rfl dX7_sendFault_41
      · replace hw := hw.2 c5
        refine z_bipush C dX7_sendFault_35 (-3) (by decide +kernel) ?_
        refine z_goto C dX7_sendFault_37 41 (by decide) ?_
        exact z_iret C rfl ((-3), u3) rfl hw rfl dX7_sendFault_41
    · replace hw := hw.2 c4
      refine z_bipush C dX7_sendFault_19 (-2) (by decide +kernel) ?_
      refine z_goto C dX7_sendFault_21 41 (by decide) ?_
      exact z_iret C rfl ((-2), u3) rfl hw rfl dX7_sendFault_41
  · replace hw := hw.2 c1
    refine z_iconst C dX7_sendFault_7 (-1) (by decide +kernel) ?_
    refine z_goto C dX7_sendFault_8 41 (by decide) ?_
    exact z_iret C rfl ((-1), v) rfl hw rfl dX7_sendFault_41
def rmX7_sends : Room := { frames := 3, cells := 0, slots := 0, locals := 72 }
def wp_X7_sends (v : zM) (p1 : Int32) (Q : Int32 → zM → Prop) : Prop := (vp_in 0 445 ∧ (vp_in (f_X7_of p1 98) 445 ∧ (wp_X7_behind v p1 ((mS v) (f_X7_of p1 98).toNatClampNeg) (fun r1 u2 => (vp_in (1 + ((mS v) (0 : Int32).toNatClampNeg)) 445 ∧ (vp_in 0 445 ∧ (vp_in 0 445 ∧ (vp_in (f_X7_of p1 113) 445 ∧ (vp_in 0 445 ∧ (Q ((upd (upd (upd (mS u2) (1 + ((mS v) (0 : Int32).toNatClampNeg)).toNatClampNeg r1) (0 : Int32).toNatClampNeg (((upd (mS u2) (1 + ((mS v) (0 : Int32).toNatClampNeg)).toNatClampNeg r1) (0 : Int32).toNatClampNeg) + 1)) (f_X7_of p1 113).toNatClampNeg 1) (0 : Int32).toNatClampNeg) (mSetS u2 (upd (upd (upd (mS u2) (1 + ((mS v) (0 : Int32).toNatClampNeg)).toNatClampNeg r1) (0 : Int32).toNatClampNeg (((upd (mS u2) (1 + ((mS v) (0 : Int32).toNatClampNeg)).toNatClampNeg r1) (0 : Int32).toNatClampNeg) + 1)) (f_X7_of p1 113).toNatClampNeg 1))))))))))))
set_option maxHeartbeats 4000000 in
set_option maxRecDepth 100000 in
theorem met_X7_sends (l : Launch) (D : va_G) (cI : ClassId) (gv : Nat → Nat) (v : zM) (p1 : Int32) (Q : Int32 → zM → Prop) (hw : wp_X7_sends v p1 Q) : ZM l D cI yX7_sends cX7_sends 2 (some .int) rmX7_sends [.ref (gv 0), .int p1] [(wMx cI gv (mS v) (mAside v) (mBefore v) (mText v) (mLetters v) (mBys v) (mFirst v) (mCommand v) (mKnown v) (mLength v) (mLogLong v) (mAreSame v) (mAt v) (mIsWrong v) (mPosition v) (mReason v) (mCause v))] (fun u : Int32 × zM => some (.int u.1)) (fun u : Int32 × zM => [(wMx cI gv (mS (u.2)) (mAside (u.2)) (mBefore (u.2)) (mText (u.2)) (mLetters (u.2)) (mBys (u.2)) (mFirst (u.2)) (mCommand (u.2)) (mKnown (u.2)) (mLength (u.2)) (mLogLong (u.2)) (mAreSame (u.2)) (mAt (u.2)) (mIsWrong (u.2)) (mPosition (u.2)) (mReason (u.2)) (mCause (u.2)))]) (fun u : Int32 × zM => Q u.1 u.2) := by
  refine z_body [some (.ref (gv 0)), some (.int p1)] (by decide +kernel) rfl (Nat.le_of_ble_eq_true rfl) rfl ?_
  intro p e s m args below meth c A C hin
  unfold wp_X7_sends at hw
  refine z_aload_n C dX7_sends_0 rfl ?_
  refine z_get C inlX7 rfl 0 (by decide) mw_4_15 dX7_sends_1 0 0 rfl rfl rfl ?_
  refine z_iconst C dX7_sends_4 1 (by decide +kernel) ?_
  refine z_aload_n C dX7_sends_5 rfl ?_
  refine z_get C inlX7 rfl 0 (by decide) mw_4_15 dX7_sends_6 0 0 rfl rfl rfl ?_
  refine z_iconst C dX7_sends_9 0 (by decide +kernel) ?_
  refine z_iald C dX7_sends_10 0 1 rfl rfl hw.1 ?_
  replace hw := hw.2
  refine z_iadd C dX7_sends_11 ?_
  refine z_aload_n C dX7_sends_12 rfl ?_
  refine z_iload_n C dX7_sends_13 rfl ?_
  refine z_aload_n C dX7_sends_14 rfl ?_
  refine z_get C inlX7 rfl 0 (by decide) mw_4_15 dX7_sends_15 0 0 rfl rfl rfl ?_
  refine z_iload_n C dX7_sends_18 rfl ?_
  refine z_bipush C dX7_sends_19 98 (by decide +kernel) ?_
  refine z_callFS C [] [(wMx cI gv (mS v) (mAside v) (mBefore v) (mText v) (mLetters v) (mBys v) (mFirst v) (mCommand v) (mKnown v) (mLength v) (mLogLong v) (mAreSame v) (mAt v) (mIsWrong v) (mPosition v) (mReason v) (mCause v))] (met_X7_of l D cI p1 98) y_X7_of mw_12_5 dX7_sends_21 rfl n_X7_of rfl (by decide) ⟨rfl, rfl, Nat.le_of_ble_eq_true rfl, Nat.le_of_ble_eq_true rfl⟩ (Nat.le_of_ble_eq_true rfl) (z_pm [0] 1 rfl (by decide) rfl) ?_
  refine z_iald C dX7_sends_24 0 1 rfl rfl hw.1 ?_
  replace hw := hw.2
  refine z_callV0 C [(wMx cI gv (mS v) (mAside v) (mBefore v) (mText v) (mLetters v) (mBys v) (mFirst v) (mCommand v) (mKnown v) (mLength v) (mLogLong v) (mAreSame v) (mAt v) (mIsWrong v) (mPosition v) (mReason v) (mCause v))] [] rfl rfl (met_X7_behind l D cI gv v p1 ((mS v) (f_X7_of p1 98).toNatClampNeg) _ hw) y_X7_behind mw_16_11 dX7_sends_25 rfl n_X7_behind rfl (by decide) ⟨rfl, rfl, Nat.le_of_ble_eq_true rfl, Nat.le_of_ble_eq_true rfl⟩ (Nat.le_of_ble_eq_true rfl) (z_pm [0] 1 rfl (by decide) rfl) ?_
  intro ⟨r1, u2⟩ hw
  try dsimp only at hw
  refine z_bs [(wMx cI gv (mS u2) (mAside u2) (mBefore u2) (mText u2) (mLetters u2) (mBys u2) (mFirst u2) (mCommand u2) (mKnown u2) (mLength u2) (mLogLong u2) (mAreSame u2) (mAt u2) (mIsWrong u2) (mPosition u2) (mReason u2) (mCause u2))] [.int r1, .int (1 + ((mS v) (0 : Int32).toNatClampNeg)), .ref (gv 1)] rfl rfl ?_
  refine z_iast C dX7_sends_28 0 1 rfl rfl hw.1 [(wMx cI gv (upd (mS u2) (1 + ((mS v) (0 : Int32).toNatClampNeg)).toNatClampNeg r1) (mAside u2) (mBefore u2) (mText u2) (mLetters u2) (mBys u2) (mFirst u2) (mCommand u2) (mKnown u2) (mLength u2) (mLogLong u2) (mAreSame u2) (mAt u2) (mIsWrong u2) (mPosition u2) (mReason u2) (mCause u2))] rfl ?_
  replace hw := hw.2
  refine z_aload_n C dX7_sends_29 rfl ?_
  refine z_get C inlX7 rfl 0 (by decide) mw_4_15 dX7_sends_30 0 0 rfl rfl rfl ?_
  refine z_iconst C dX7_sends_33 0 (by decide +kernel) ?_
  refine z_dup2 C dX7_sends_34 rfl rfl ?_
  refine z_iald C dX7_sends_35 0 1 rfl rfl hw.1 ?_
  replace hw := hw.2
  refine z_iconst C dX7_sends_36 1 (by decide +kernel) ?_
  refine z_iadd C dX7_sends_37 ?_
  refine z_iast C dX7_sends_38 0 1 rfl rfl hw.1 [(wMx cI gv (upd (upd (mS u2) (1 + ((mS v) (0 : Int32).toNatClampNeg)).toNatClampNeg r1) (0 : Int32).toNatClampNeg (((upd (mS u2) (1 + ((mS v) (0 : Int32).toNatClampNeg)).toNatClampNeg r1) (0 : Int32).toNatClampNeg) + 1)) (mAside u2) (mBefore u2) (mText u2) (mLetters u2) (mBys u2) (mFirst u2) (mCommand u2) (mKnown u2) (mLength u2) (mLogLong u2) (mAreSame u2) (mAt u2) (mIsWrong u2) (mPosition u2) (mReason u2) (mCause u2))] rfl ?_
  replace hw := hw.2
  refine z_aload_n C dX7_sends_39 rfl ?_
  refine z_get C inlX7 rfl 0 (by decide) mw_4_15 dX7_sends_40 0 0 rfl rfl rfl ?_
  refine z_iload_n C dX7_sends_43 rfl ?_
  refine z_bipush C dX7_sends_44 113 (by decide +kernel) ?_
  refine z_callFS C [] [(wMx cI gv (upd (upd (mS u2) (1 + ((mS v) (0 : Int32).toNatClampNeg)).toNatClampNeg r1) (0 : Int32).toNatClampNeg (((upd (mS u2) (1 + ((mS v) (0 : Int32).toNatClampNeg)).toNatClampNeg r1) (0 : Int32).toNatClampNeg) + 1)) (mAside u2) (mBefore u2) (mText u2) (mLetters u2) (mBys u2) (mFirst u2) (mCommand u2) (mKnown u2) (mLength u2) (mLogLong u2) (mAreSame u2) (mAt u2) (mIsWrong u2) (mPosition u2) (mReason u2) (mCause u2))] (met_X7_of l D cI p1 113) y_X7_of mw_12_5 dX7_sends_46 rfl n_X7_of rfl (by decide) ⟨rfl, rfl, Nat.le_of_ble_eq_true rfl, Nat.le_of_ble_eq_true rfl⟩ (Nat.le_of_ble_eq_true rfl) (z_pm [0] 1 rfl (by decide) rfl) ?_
  refine z_iconst C dX7_sends_49 1 (by decide +kernel) ?_
  refine z_iast C dX7_sends_50 0 1 rfl rfl hw.1 [(wMx cI gv (upd (upd (upd (mS u2) (1 + ((mS v) (0 : Int32).toNatClampNeg)).toNatClampNeg r1) (0 : Int32).toNatClampNeg (((upd (mS u2) (1 + ((mS v) (0 : Int32).toNatClampNeg)).toNatClampNeg r1) (0 : Int32).toNatClampNeg) + 1)) (f_X7_of p1 113).toNatClampNeg 1) (mAside u2) (mBefore u2) (mText u2) (mLetters u2) (mBys u2) (mFirst u2) (mCommand u2) (mKnown u2) (mLength u2) (mLogLong u2) (mAreSame u2) (mAt u2) (mIsWrong u2) (mPosition u2) (mReason u2) (mCause u2))] rfl ?_
  replace hw := hw.2
  refine z_aload_n C dX7_sends_51 rfl ?_
  refine z_get C inlX7 rfl 0 (by decide) mw_4_15 dX7_sends_52 0 0 rfl rfl rfl ?_
  refine z_iconst C dX7_sends_55 0 (by decide +kernel) ?_
  refine z_iald C dX7_sends_56 0 1 rfl rfl hw.1 ?_
  replace hw := hw.2
  exact z_iret C rfl (((upd (upd (upd (mS u2) (1 + ((mS v) (0 : Int32).toNatClampNeg)).toNatClampNeg r1) (0 : Int32).toNatClampNeg (((upd (mS u2) (1 + ((mS v) (0 : Int32).toNatClampNeg)).toNatClampNeg r1) (0 : Int32).toNatClampNeg) + 1)) (f_X7_of p1 113).toNatClampNeg 1) (0 : Int32).toNatClampNeg), (mSetS u2 (upd (upd (upd (mS u2) (1 + ((mS v) (0 : Int32).toNatClampNeg)).toNatClampNeg r1) (0 : Int32).toNatClampNeg (((upd (mS u2) (1 + ((mS v) (0 : Int32).toNatClampNeg)).toNatClampNeg r1) (0 : Int32).toNatClampNeg) + 1)) (f_X7_of p1 113).toNatClampNeg 1))) rfl hw rfl dX7_sends_57
def rmX7_hearFault : Room := { frames := 2, cells := 0, slots := 0, locals := 42 }
def wp_X7_hearFault (v : zM) (p1 : Int32) (Q : Int32 → zM → Prop) : Prop := ((¬ (f_X7_isEditor p1) = 0 → (vp_in (f_X7_of p1 112) 445 ∧ (vp_in 0 445 ∧ ((¬ ((mS v) (f_X7_of p1 112).toNatClampNeg) = ((mS v) (0 : Int32).toNatClampNeg) → (Q 0 v)) ∧ (((mS v) (f_X7_of p1 112).toNatClampNeg) = ((mS v) (0 : Int32).toNatClampNeg) → (Q (-2) v)))))) ∧ ((f_X7_isEditor p1) = 0 → (Q (-1) v)))
set_option maxHeartbeats 4000000 in
set_option maxRecDepth 100000 in
theorem met_X7_hearFault (l : Launch) (D : va_G) (cI : ClassId) (gv : Nat → Nat) (v : zM) (p1 : Int32) (Q : Int32 → zM → Prop) (hw : wp_X7_hearFault v p1 Q) : ZM l D cI yX7_hearFault cX7_hearFault 2 (some .int) rmX7_hearFault [.ref (gv 0), .int p1] [(wMx cI gv (mS v) (mAside v) (mBefore v) (mText v) (mLetters v) (mBys v) (mFirst v) (mCommand v) (mKnown v) (mLength v) (mLogLong v) (mAreSame v) (mAt v) (mIsWrong v) (mPosition v) (mReason v) (mCause v))] (fun u : Int32 × zM => some (.int u.1)) (fun u : Int32 × zM => [(wMx cI gv (mS (u.2)) (mAside (u.2)) (mBefore (u.2)) (mText (u.2)) (mLetters (u.2)) (mBys (u.2)) (mFirst (u.2)) (mCommand (u.2)) (mKnown (u.2)) (mLength (u.2)) (mLogLong (u.2)) (mAreSame (u.2)) (mAt (u.2)) (mIsWrong (u.2)) (mPosition (u.2)) (mReason (u.2)) (mCause (u.2)))]) (fun u : Int32 × zM => Q u.1 u.2) := by
  refine z_body [some (.ref (gv 0)), some (.int p1)] (by decide +kernel) rfl (Nat.le_of_ble_eq_true rfl) rfl ?_
  intro p e s m args below meth c A C hin
  unfold wp_X7_hearFault at hw
  refine z_iload_n C dX7_hearFault_0 rfl ?_
  refine z_callFS C [] [(wMx cI gv (mS v) (mAside v) (mBefore v) (mText v) (mLetters v) (mBys v) (mFirst v) (mCommand v) (mKnown v) (mLength v) (mLogLong v) (mAreSame v) (mAt v) (mIsWrong v) (mPosition v) (mReason v) (mCause v))] (met_X7_isEditor l D cI p1) y_X7_isEditor mw_11_23 dX7_hearFault_1 rfl n_X7_isEditor rfl (by decide) ⟨rfl, rfl, Nat.le_of_ble_eq_true rfl, Nat.le_of_ble_eq_true rfl⟩ (Nat.le_of_ble_eq_true rfl) (z_pm [0] 1 rfl (by decide) rfl) ?_
  refine z_if_ne C dX7_hearFault_4 11 (by decide) (fun c1 => ?_) (fun c1 => ?_)
  · replace hw := hw.1 c1
    refine z_aload_n C dX7_hearFault_11 rfl ?_
    refine z_get C inlX7 rfl 0 (by decide) mw_4_15 dX7_hearFault_12 0 0 rfl rfl rfl ?_
    refine z_iload_n C dX7_hearFault_15 rfl ?_
    refine z_bipush C dX7_hearFault_16 112 (by decide +kernel) ?_
    refine z_callFS C [] [(wMx cI gv (mS v) (mAside v) (mBefore v) (mText v) (mLetters v) (mBys v) (mFirst v) (mCommand v) (mKnown v) (mLength v) (mLogLong v) (mAreSame v) (mAt v) (mIsWrong v) (mPosition v) (mReason v) (mCause v))] (met_X7_of l D cI p1 112) y_X7_of mw_12_5 dX7_hearFault_18 rfl n_X7_of rfl (by decide) ⟨rfl, rfl, Nat.le_of_ble_eq_true rfl, Nat.le_of_ble_eq_true rfl⟩ (Nat.le_of_ble_eq_true rfl) (z_pm [0] 1 rfl (by decide) rfl) ?_
    refine z_iald C dX7_hearFault_21 0 1 rfl rfl hw.1 ?_
    replace hw := hw.2
    refine z_aload_n C dX7_hearFault_22 rfl ?_
    refine z_get C inlX7 rfl 0 (by decide) mw_4_15 dX7_hearFault_23 0 0 rfl rfl rfl ?_
    refine z_iconst C dX7_hearFault_26 0 (by decide +kernel) ?_
    refine z_iald C dX7_hearFault_27 0 1 rfl rfl hw.1 ?_
    replace hw := hw.2
    refine z_icmp_ne C dX7_hearFault_28 36 (by decide) (fun c2 => ?_) (fun c2 => ?_)
    · replace hw := hw.1 c2
      refine z_iconst C dX7_hearFault_36 0 (by decide +kernel) ?_
      exact z_iret C rfl (0, v) rfl hw rfl dX7_hearFault_37
    · replace hw := hw.2 c2
      refine z_bipush C dX7_hearFault_31 (-2) (by decide +kernel) ?_
      refine z_goto C dX7_hearFault_33 37 (by decide) ?_
      exact z_iret C rfl ((-2), v) rfl hw rfl dX7_hearFault_37
  · replace hw := hw.2 c1
    refine z_iconst C dX7_hearFault_7 (-1) (by decide +kernel) ?_
    refine z_goto C dX7_hearFault_8 37 (by decide) ?_
    exact z_iret C rfl ((-1), v) rfl hw rfl dX7_hearFault_37
def rmX7_hears : Room := { frames := 3, cells := 0, slots := 0, locals := 73 }
def lb_X7_hears_124 (v : zM) (p1 : Int32)   (Q : Int32 → zM → Prop)  (K124 : (Int32) → (Int32) → (Nat → Int32) → Prop) (v2 : Int32) (v3 : Int32) (w0S : Nat → Int32) : Prop := (vp_in (f_X7_of p1 97) 445 ∧ (((w0S (f_X7_of p1 97).toNatClampNeg) ≤ v3 → (wp_X7_perform (mSetS v w0S) p1 v2 (fun u4 => (Q (f_X7_kindOf v2) u4)))) ∧ (¬ (w0S (f_X7_of p1 97).toNatClampNeg) ≤ v3 → (vp_in (f_X7_of p1 (98 + v3)) 445 ∧ (∀ x5 : Int32, x5 = (w0S (f_X7_of p1 (98 + v3)).toNatClampNeg) → (vp_in (f_X7_of p1 (98 + v3)) 445 ∧ (∀ x6 : Int32, x6 = (f_X7_reshaped v2 x5) → (K124 x6 (v3 + 1) (upd w0S (f_X7_of p1 (98 + v3)).toNatClampNeg (f_X7_reshaped x5 v2))))))))))
set_option maxHeartbeats 4000000 in
set_option maxRecDepth 100000 in
theorem wk_X7_hears_124 {p : Program} {l : Launch} {e : Env} {s : State} {m : MethodId} {args : Array Value} {below : List Frame} {meth : Method} {c : Code} {D : va_G} {cI : ClassId} {A : Nat → Prop} (C : ZC p s m args meth c RX7 cX7_hears 5 (some .int) D cI A) (gv : Nat → Nat) (v : zM) (p1 : Int32)   (v2 : Int32) (v3 : Int32) (w0S : Nat → Int32) (Q : Int32 → zM → Prop)  (hw : zLoop3 (lb_X7_hears_124 v p1   Q ) v2 v3 w0S) : ZZ p l e rmX7_hears s m args below meth c D A 5 0 0 (MQ below (ZQ D A (fun u : Int32 × zM => some (.int u.1)) (fun u : Int32 × zM => [(wMx cI gv (mS (u.2)) (mAside (u.2)) (mBefore (u.2)) (mText (u.2)) (mLetters (u.2)) (mBys (u.2)) (mFirst (u.2)) (mCommand (u.2)) (mKnown (u.2)) (mLength (u.2)) (mLogLong (u.2)) (mAreSame (u.2)) (mAt (u.2)) (mIsWrong (u.2)) (mPosition (u.2)) (mReason (u.2)) (mCause (u.2)))]) (fun u : Int32 × zM => Q u.1 u.2)) args s rmX7_hears.cells rmX7_hears.slots A) [(wMx cI gv w0S (mAside v) (mBefore v) (mText v) (mLetters v) (mBys v) (mFirst v) (mCommand v) (mKnown v) (mLength v) (mLogLong v) (mAreSame v) (mAt v) (mIsWrong v) (mPosition v) (mReason v) (mCause v))] 124 [some (.ref (gv 0)), some (.int p1), some (.int v2), some (.int v3), none] [] := by
  refine zLoop3_w (fun (v2 : Int32) (v3 : Int32) (w0S : Nat → Int32) => ZZ p l e rmX7_hears s m args below meth c D A 5 0 0 (MQ below (ZQ D A (fun u : Int32 × zM => some (.int u.1)) (fun u : Int32 × zM => [(wMx cI gv (mS (u.2)) (mAside (u.2)) (mBefore (u.2)) (mText (u.2)) (mLetters (u.2)) (mBys (u.2)) (mFirst (u.2)) (mCommand (u.2)) (mKnown (u.2)) (mLength (u.2)) (mLogLong (u.2)) (mAreSame (u.2)) (mAt (u.2)) (mIsWrong (u.2)) (mPosition (u.2)) (mReason (u.2)) (mCause (u.2)))]) (fun u : Int32 × zM => Q u.1 u.2)) args s rmX7_hears.cells rmX7_hears.slots A) [(wMx cI gv w0S (mAside v) (mBefore v) (mText v) (mLetters v) (mBys v) (mFirst v) (mCommand v) (mKnown v) (mLength v) (mLogLong v) (mAreSame v) (mAt v) (mIsWrong v) (mPosition v) (mReason v) (mCause v))] 124 [some (.ref (gv 0)), some (.int p1), some (.int v2), some (.int v3), none] []) ?_ _ _ _ hw
  clear hw
  intro K124 hK124 v2 v3 w0S hw
  unfold lb_X7_hears_124 at hw
  refine z_iload_n C dX7_hears_124 rfl ?_
  refine z_aload_n C dX7_hears_125 rfl ?_
  refine z_get C inlX7 rfl 0 (by decide) mw_4_15 dX7_hears_126 0 0 rfl rfl rfl ?_
  refine z_iload_n C dX7_hears_129 rfl ?_
  refine z_bipush C dX7_hears_130 97 (by decide +kernel) ?_
  refine z_callFS C [] [(wMx cI gv w0S (mAside v) (mBefore v) (mText v) (mLetters v) (mBys v) (mFirst v) (mCommand v) (mKnown v) (mLength v) (mLogLong v) (mAreSame v) (mAt v) (mIsWrong v) (mPosition v) (mReason v) (mCause v))] (met_X7_of l D cI p1 97) y_X7_of mw_12_5 dX7_hears_132 rfl n_X7_of rfl (by decide) ⟨rfl, rfl, Nat.le_of_ble_eq_true rfl, Nat.le_of_ble_eq_true rfl⟩ (Nat.le_of_ble_eq_true rfl) (z_pm [0] 1 rfl (by decide) rfl) ?_
  refine z_iald C dX7_hears_135 0 1 rfl rfl hw.1 ?_
  replace hw := hw.2
  refine z_icmp_ge C dX7_hears_136 186 (by decide) (fun c3 => ?_) (fun c3 => ?_)
  · replace hw := hw.1 c3
    refine z_aload_n C dX7_hears_186 rfl ?_
    refine z_iload_n C dX7_hears_187 rfl ?_
    refine z_iload_n C dX7_hears_188 rfl ?_
    refine z_callV0 C [(wMx cI gv w0S (mAside v) (mBefore v) (mText v) (mLetters v) (mBys v) (mFirst v) (mCommand v) (mKnown v) (mLength v) (mLogLong v) (mAreSame v) (mAt v) (mIsWrong v) (mPosition v) (mReason v) (mCause v))] [] rfl rfl (met_X7_perform l D cI gv (mSetS v w0S) p1 v2 _ hw) y_X7_perform mw_13_0 dX7_hears_189 rfl n_X7_perform rfl (by decide) ⟨rfl, rfl, Nat.le_of_ble_eq_true rfl, Nat.le_of_ble_eq_true rfl⟩ (Nat.le_of_ble_eq_true rfl) (z_pm [0] 1 rfl (by decide) rfl) ?_
    intro u4 hw
    try dsimp only at hw
    refine z_bs [(wMx cI gv (mS u4) (mAside u4) (mBefore u4) (mText u4) (mLetters u4) (mBys u4) (mFirst u4) (mCommand u4) (mKnown u4) (mLength u4) (mLogLong u4) (mAreSame u4) (mAt u4) (mIsWrong u4) (mPosition u4) (mReason u4) (mCause u4))] [] rfl rfl ?_
    refine z_iload_n C dX7_hears_192 rfl ?_
    refine z_callFS C [] [(wMx cI gv (mS u4) (mAside u4) (mBefore u4) (mText u4) (mLetters u4) (mBys u4) (mFirst u4) (mCommand u4) (mKnown u4) (mLength u4) (mLogLong u4) (mAreSame u4) (mAt u4) (mIsWrong u4) (mPosition u4) (mReason u4) (mCause u4))] (met_X7_kindOf l D cI v2) y_X7_kindOf mw_13_7 dX7_hears_193 rfl n_X7_kindOf rfl (by decide) ⟨rfl, rfl, Nat.le_of_ble_eq_true rfl, Nat.le_of_ble_eq_true rfl⟩ (Nat.le_of_ble_eq_true rfl) (z_pm [0] 1 rfl (by decide) rfl) ?_
    exact z_iret C rfl ((f_X7_kindOf v2), u4) rfl hw rfl dX7_hears_196
  · replace hw := hw.2 c3
    refine z_aload_n C dX7_hears_139 rfl ?_
    refine z_get C inlX7 rfl 0 (by decide) mw_4_15 dX7_hears_140 0 0 rfl rfl rfl ?_
    refine z_iload_n C dX7_hears_143 rfl ?_
    refine z_bipush C dX7_hears_144 98 (by decide +kernel) ?_
    refine z_iload_n C dX7_hears_146 rfl ?_
    refine z_iadd C dX7_hears_147 ?_
    refine z_callFS C [] [(wMx cI gv w0S (mAside v) (mBefore v) (mText v) (mLetters v) (mBys v) (mFirst v) (mCommand v) (mKnown v) (mLength v) (mLogLong v) (mAreSame v) (mAt v) (mIsWrong v) (mPosition v) (mReason v) (mCause v))] (met_X7_of l D cI p1 (98 + v3)) y_X7_of mw_12_5 dX7_hears_148 rfl n_X7_of rfl (by decide) ⟨rfl, rfl, Nat.le_of_ble_eq_true rfl, Nat.le_of_ble_eq_true rfl⟩ (Nat.le_of_ble_eq_true rfl) (z_pm [0] 1 rfl (by decide) rfl) ?_
    refine z_iald C dX7_hears_151 0 1 rfl rfl hw.1 ?_
    replace hw := hw.2
    refine z_name C (fun x5 ex5 => ?_)
    replace hw := hw x5 ex5
    refine z_istore C dX7_hears_152 [some (.ref (gv 0)), some (.int p1), some (.int v2), some (.int v3), some (.int x5)] (by decide) rfl ?_
    refine z_aload_n C dX7_hears_154 rfl ?_
    refine z_get C inlX7 rfl 0 (by decide) mw_4_15 dX7_hears_155 0 0 rfl rfl rfl ?_
    refine z_iload_n C dX7_hears_158 rfl ?_
    refine z_bipush C dX7_hears_159 98 (by decide +kernel) ?_
    refine z_iload_n C dX7_hears_161 rfl ?_
    refine z_iadd C dX7_hears_162 ?_
    refine z_callFS C [] [(wMx cI gv w0S (mAside v) (mBefore v) (mText v) (mLetters v) (mBys v) (mFirst v) (mCommand v) (mKnown v) (mLength v) (mLogLong v) (mAreSame v) (mAt v) (mIsWrong v) (mPosition v) (mReason v) (mCause v))] (met_X7_of l D cI p1 (98 + v3)) y_X7_of mw_12_5 dX7_hears_163 rfl n_X7_of rfl (by decide) ⟨rfl, rfl, Nat.le_of_ble_eq_true rfl, Nat.le_of_ble_eq_true rfl⟩ (Nat.le_of_ble_eq_true rfl) (z_pm [0] 1 rfl (by decide) rfl) ?_
    refine z_iload C dX7_hears_166 rfl ?_
    refine z_iload_n C dX7_hears_168 rfl ?_
    refine z_callFS C [] [(wMx cI gv w0S (mAside v) (mBefore v) (mText v) (mLetters v) (mBys v) (mFirst v) (mCommand v) (mKnown v) (mLength v) (mLogLong v) (mAreSame v) (mAt v) (mIsWrong v) (mPosition v) (mReason v) (mCause v))] (met_X7_reshaped l D cI x5 v2) y_X7_reshaped mw_13_13 dX7_hears_169 rfl n_X7_reshaped rfl (by decide) ⟨rfl, rfl, Nat.le_of_ble_eq_true rfl, Nat.le_of_ble_eq_true rfl⟩ (Nat.le_of_ble_eq_true rfl) (z_pm [0] 1 rfl (by decide) rfl) ?_
    refine z_iast C dX7_hears_172 0 1 rfl rfl hw.1 [(wMx cI gv (upd w0S (f_X7_of p1 (98 + v3)).toNatClampNeg (f_X7_reshaped x5 v2)) (mAside v) (mBefore v) (mText v) (mLetters v) (mBys v) (mFirst v) (mCommand v) (mKnown v) (mLength v) (mLogLong v) (mAreSame v) (mAt v) (mIsWrong v) (mPosition v) (mReason v) (mCause v))] rfl ?_
    replace hw := hw.2
    refine z_iload_n C dX7_hears_173 rfl ?_
    refine z_iload C dX7_hears_174 rfl ?_
    refine z_callFS C [] [(wMx cI gv (upd w0S (f_X7_of p1 (98 + v3)).toNatClampNeg (f_X7_reshaped x5 v2)) (mAside v) (mBefore v) (mText v) (mLetters v) (mBys v) (mFirst v) (mCommand v) (mKnown v) (mLength v) (mLogLong v) (mAreSame v) (mAt v) (mIsWrong v) (mPosition v) (mReason v) (mCause v))] (met_X7_reshaped l D cI v2 x5) y_X7_reshaped mw_13_13 dX7_hears_176 rfl n_X7_reshaped rfl (by decide) ⟨rfl, rfl, Nat.le_of_ble_eq_true rfl, Nat.le_of_ble_eq_true rfl⟩ (Nat.le_of_ble_eq_true rfl) (z_pm [0] 1 rfl (by decide) rfl) ?_
    refine z_name C (fun x6 ex6 => ?_)
    replace hw := hw x6 ex6
    refine z_istore_n C dX7_hears_179 [some (.ref (gv 0)), some (.int p1), some (.int x6), some (.int v3), some (.int x5)] (by decide) rfl ?_
    refine z_iinc C dX7_hears_180 rfl (v3 + 1) (by rfl) [some (.ref (gv 0)), some (.int p1), some (.int x6), some (.int (v3 + 1)), some (.int x5)] (by decide) rfl ?_
    refine z_goto C dX7_hears_183 124 (by decide) ?_
    refine z_ls C [true, true, true, true, false] [some (.ref (gv 0)), some (.int p1), some (.int x6), some (.int (v3 + 1)), none] rfl ?_
    exact hK124 _ _ _ hw
def lb_X7_hears_71 (v : zM) (p1 : Int32)   (Q : Int32 → zM → Prop)  (K71 : (Int32) → (Nat → Int32) → Prop) (v3 : Int32) (w0S : Nat → Int32) : Prop := (vp_in (f_X7_of p1 97) 445 ∧ (((w0S (f_X7_of p1 97).toNatClampNeg) ≤ v3 → (Q 0 (mSetS v w0S))) ∧ (¬ (w0S (f_X7_of p1 97).toNatClampNeg) ≤ v3 → (vp_in (f_X7_of p1 ((98 + v3) + 1)) 445 ∧ (vp_in (f_X7_of p1 (98 + v3)) 445 ∧ (K71 (v3 + 1) (upd w0S (f_X7_of p1 (98 + v3)).toNatClampNeg (w0S (f_X7_of p1 ((98 + v3) + 1)).toNatClampNeg))))))))
set_option maxHeartbeats 4000000 in
set_option maxRecDepth 100000 in
theorem wk_X7_hears_71 {p : Program} {l : Launch} {e : Env} {s : State} {m : MethodId} {args : Array Value} {below : List Frame} {meth : Method} {c : Code} {D : va_G} {cI : ClassId} {A : Nat → Prop} (C : ZC p s m args meth c RX7 cX7_hears 5 (some .int) D cI A) (gv : Nat → Nat) (v : zM) (p1 : Int32)   (v3 : Int32) (w0S : Nat → Int32) (Q : Int32 → zM → Prop)  (hw : zLoop2 (lb_X7_hears_71 v p1   Q ) v3 w0S) : ZZ p l e rmX7_hears s m args below meth c D A 5 0 0 (MQ below (ZQ D A (fun u : Int32 × zM => some (.int u.1)) (fun u : Int32 × zM => [(wMx cI gv (mS (u.2)) (mAside (u.2)) (mBefore (u.2)) (mText (u.2)) (mLetters (u.2)) (mBys (u.2)) (mFirst (u.2)) (mCommand (u.2)) (mKnown (u.2)) (mLength (u.2)) (mLogLong (u.2)) (mAreSame (u.2)) (mAt (u.2)) (mIsWrong (u.2)) (mPosition (u.2)) (mReason (u.2)) (mCause (u.2)))]) (fun u : Int32 × zM => Q u.1 u.2)) args s rmX7_hears.cells rmX7_hears.slots A) [(wMx cI gv w0S (mAside v) (mBefore v) (mText v) (mLetters v) (mBys v) (mFirst v) (mCommand v) (mKnown v) (mLength v) (mLogLong v) (mAreSame v) (mAt v) (mIsWrong v) (mPosition v) (mReason v) (mCause v))] 71 [some (.ref (gv 0)), some (.int p1), none, some (.int v3), none] [] := by
  refine zLoop2_w (fun (v3 : Int32) (w0S : Nat → Int32) => ZZ p l e rmX7_hears s m args below meth c D A 5 0 0 (MQ below (ZQ D A (fun u : Int32 × zM => some (.int u.1)) (fun u : Int32 × zM => [(wMx cI gv (mS (u.2)) (mAside (u.2)) (mBefore (u.2)) (mText (u.2)) (mLetters (u.2)) (mBys (u.2)) (mFirst (u.2)) (mCommand (u.2)) (mKnown (u.2)) (mLength (u.2)) (mLogLong (u.2)) (mAreSame (u.2)) (mAt (u.2)) (mIsWrong (u.2)) (mPosition (u.2)) (mReason (u.2)) (mCause (u.2)))]) (fun u : Int32 × zM => Q u.1 u.2)) args s rmX7_hears.cells rmX7_hears.slots A) [(wMx cI gv w0S (mAside v) (mBefore v) (mText v) (mLetters v) (mBys v) (mFirst v) (mCommand v) (mKnown v) (mLength v) (mLogLong v) (mAreSame v) (mAt v) (mIsWrong v) (mPosition v) (mReason v) (mCause v))] 71 [some (.ref (gv 0)), some (.int p1), none, some (.int v3), none] []) ?_ _ _ hw
  clear hw
  intro K71 hK71 v3 w0S hw
  unfold lb_X7_hears_71 at hw
  refine z_iload_n C dX7_hears_71 rfl ?_
  refine z_aload_n C dX7_hears_72 rfl ?_
  refine z_get C inlX7 rfl 0 (by decide) mw_4_15 dX7_hears_73 0 0 rfl rfl rfl ?_
  refine z_iload_n C dX7_hears_76 rfl ?_
  refine z_bipush C dX7_hears_77 97 (by decide +kernel) ?_
  refine z_callFS C [] [(wMx cI gv w0S (mAside v) (mBefore v) (mText v) (mLetters v) (mBys v) (mFirst v) (mCommand v) (mKnown v) (mLength v) (mLogLong v) (mAreSame v) (mAt v) (mIsWrong v) (mPosition v) (mReason v) (mCause v))] (met_X7_of l D cI p1 97) y_X7_of mw_12_5 dX7_hears_79 rfl n_X7_of rfl (by decide) ⟨rfl, rfl, Nat.le_of_ble_eq_true rfl, Nat.le_of_ble_eq_true rfl⟩ (Nat.le_of_ble_eq_true rfl) (z_pm [0] 1 rfl (by decide) rfl) ?_
  refine z_iald C dX7_hears_82 0 1 rfl rfl hw.1 ?_
  replace hw := hw.2
  refine z_icmp_ge C dX7_hears_83 120 (by decide) (fun c7 => ?_) (fun c7 => ?_)
  · replace hw := hw.1 c7
    refine z_iconst C dX7_hears_120 0 (by decide +kernel) ?_
    exact z_iret C rfl (0, (mSetS v w0S)) rfl hw rfl dX7_hears_121
  · replace hw := hw.2 c7
    refine z_aload_n C dX7_hears_86 rfl ?_
    refine z_get C inlX7 rfl 0 (by decide) mw_4_15 dX7_hears_87 0 0 rfl rfl rfl ?_
    refine z_iload_n C dX7_hears_90 rfl ?_
    refine z_bipush C dX7_hears_91 98 (by decide +kernel) ?_
    refine z_iload_n C dX7_hears_93 rfl ?_
    refine z_iadd C dX7_hears_94 ?_
    refine z_callFS C [] [(wMx cI gv w0S (mAside v) (mBefore v) (mText v) (mLetters v) (mBys v) (mFirst v) (mCommand v) (mKnown v) (mLength v) (mLogLong v) (mAreSame v) (mAt v) (mIsWrong v) (mPosition v) (mReason v) (mCause v))] (met_X7_of l D cI p1 (98 + v3)) y_X7_of mw_12_5 dX7_hears_95 rfl n_X7_of rfl (by decide) ⟨rfl, rfl, Nat.le_of_ble_eq_true rfl, Nat.le_of_ble_eq_true rfl⟩ (Nat.le_of_ble_eq_true rfl) (z_pm [0] 1 rfl (by decide) rfl) ?_
    refine z_aload_n C dX7_hears_98 rfl ?_
    refine z_get C inlX7 rfl 0 (by decide) mw_4_15 dX7_hears_99 0 0 rfl rfl rfl ?_
    refine z_iload_n C dX7_hears_102 rfl ?_
    refine z_bipush C dX7_hears_103 98 (by decide +kernel) ?_
    refine z_iload_n C dX7_hears_105 rfl ?_
    refine z_iadd C dX7_hears_106 ?_
    refine z_iconst C dX7_hears_107 1 (by decide +kernel) ?_
    refine z_iadd C dX7_hears_108 ?_
    refine z_callFS C [] [(wMx cI gv w0S (mAside v) (mBefore v) (mText v) (mLetters v) (mBys v) (mFirst v) (mCommand v) (mKnown v) (mLength v) (mLogLong v) (mAreSame v) (mAt v) (mIsWrong v) (mPosition v) (mReason v) (mCause v))] (met_X7_of l D cI p1 ((98 + v3) + 1)) y_X7_of mw_12_5 dX7_hears_109 rfl n_X7_of rfl (by decide) ⟨rfl, rfl, Nat.le_of_ble_eq_true rfl, Nat.le_of_ble_eq_true rfl⟩ (Nat.le_of_ble_eq_true rfl) (z_pm [0] 1 rfl (by decide) rfl) ?_
    refine z_iald C dX7_hears_112 0 1 rfl rfl hw.1 ?_
    replace hw := hw.2
    refine z_iast C dX7_hears_113 0 1 rfl rfl hw.1 [(wMx cI gv (upd w0S (f_X7_of p1 (98 + v3)).toNatClampNeg (w0S (f_X7_of p1 ((98 + v3) + 1)).toNatClampNeg)) (mAside v) (mBefore v) (mText v) (mLetters v) (mBys v) (mFirst v) (mCommand v) (mKnown v) (mLength v) (mLogLong v) (mAreSame v) (mAt v) (mIsWrong v) (mPosition v) (mReason v) (mCause v))] rfl ?_
    replace hw := hw.2
    refine z_iinc C dX7_hears_114 rfl (v3 + 1) (by rfl) [some (.ref (gv 0)), some (.int p1), none, some (.int (v3 + 1)), none] (by decide) rfl ?_
    refine z_goto C dX7_hears_117 71 (by decide) ?_
    exact hK71 _ _ hw
def wp_X7_hears (v : zM) (p1 : Int32) (Q : Int32 → zM → Prop) : Prop := (vp_in (f_X7_of p1 112) 445 ∧ (vp_in (1 + ((mS v) (f_X7_of p1 112).toNatClampNeg)) 445 ∧ (∀ x1 : Int32, x1 = ((mS v) (1 + ((mS v) (f_X7_of p1 112).toNatClampNeg)).toNatClampNeg) → (vp_in (f_X7_of p1 112) 445 ∧ (vp_in (f_X7_of p1 112) 445 ∧ ((¬ (f_X7_editorBy x1) = p1 → (zLoop3 (lb_X7_hears_124 v p1   Q ) x1 0 (upd (mS v) (f_X7_of p1 112).toNatClampNeg (((mS v) (f_X7_of p1 112).toNatClampNeg) + 1)))) ∧ ((f_X7_editorBy x1) = p1 → (vp_in (f_X7_of p1 97) 445 ∧ (vp_in (f_X7_of p1 97) 445 ∧ (vp_in (f_X7_of p1 113) 445 ∧ (zLoop2 (lb_X7_hears_71 v p1   Q ) 0 (upd (upd (upd (mS v) (f_X7_of p1 112).toNatClampNeg (((mS v) (f_X7_of p1 112).toNatClampNeg) + 1)) (f_X7_of p1 97).toNatClampNeg (((upd (mS v) (f_X7_of p1 112).toNatClampNeg (((mS v) (f_X7_of p1 112).toNatClampNeg) + 1)) (f_X7_of p1 97).toNatClampNeg) - 1)) (f_X7_of p1 113).toNatClampNeg 0))))))))))))
set_option maxHeartbeats 4000000 in
set_option maxRecDepth 100000 in
theorem met_X7_hears (l : Launch) (D : va_G) (cI : ClassId) (gv : Nat → Nat) (v : zM) (p1 : Int32) (Q : Int32 → zM → Prop) (hw : wp_X7_hears v p1 Q) : ZM l D cI yX7_hears cX7_hears 5 (some .int) rmX7_hears [.ref (gv 0), .int p1] [(wMx cI gv (mS v) (mAside v) (mBefore v) (mText v) (mLetters v) (mBys v) (mFirst v) (mCommand v) (mKnown v) (mLength v) (mLogLong v) (mAreSame v) (mAt v) (mIsWrong v) (mPosition v) (mReason v) (mCause v))] (fun u : Int32 × zM => some (.int u.1)) (fun u : Int32 × zM => [(wMx cI gv (mS (u.2)) (mAside (u.2)) (mBefore (u.2)) (mText (u.2)) (mLetters (u.2)) (mBys (u.2)) (mFirst (u.2)) (mCommand (u.2)) (mKnown (u.2)) (mLength (u.2)) (mLogLong (u.2)) (mAreSame (u.2)) (mAt (u.2)) (mIsWrong (u.2)) (mPosition (u.2)) (mReason (u.2)) (mCause (u.2)))]) (fun u : Int32 × zM => Q u.1 u.2) := by
  refine z_body [some (.ref (gv 0)), some (.int p1), none, none, none] (by decide +kernel) rfl (Nat.le_of_ble_eq_true rfl) rfl ?_
  intro p e s m args below meth c A C hin
  unfold wp_X7_hears at hw
  refine z_aload_n C dX7_hears_0 rfl ?_
  refine z_get C inlX7 rfl 0 (by decide) mw_4_15 dX7_hears_1 0 0 rfl rfl rfl ?_
  refine z_iconst C dX7_hears_4 1 (by decide +kernel) ?_
  refine z_aload_n C dX7_hears_5 rfl ?_
  refine z_get C inlX7 rfl 0 (by decide) mw_4_15 dX7_hears_6 0 0 rfl rfl rfl ?_
  refine z_iload_n C dX7_hears_9 rfl ?_
  refine z_bipush C dX7_hears_10 112 (by decide +kernel) ?_
  refine z_callFS C [] [(wMx cI gv (mS v) (mAside v) (mBefore v) (mText v) (mLetters v) (mBys v) (mFirst v) (mCommand v) (mKnown v) (mLength v) (mLogLong v) (mAreSame v) (mAt v) (mIsWrong v) (mPosition v) (mReason v) (mCause v))] (met_X7_of l D cI p1 112) y_X7_of mw_12_5 dX7_hears_12 rfl n_X7_of rfl (by decide) ⟨rfl, rfl, Nat.le_of_ble_eq_true rfl, Nat.le_of_ble_eq_true rfl⟩ (Nat.le_of_ble_eq_true rfl) (z_pm [0] 1 rfl (by decide) rfl) ?_
  refine z_iald C dX7_hears_15 0 1 rfl rfl hw.1 ?_
  replace hw := hw.2
  refine z_iadd C dX7_hears_16 ?_
  refine z_iald C dX7_hears_17 0 1 rfl rfl hw.1 ?_
  replace hw := hw.2
  refine z_name C (fun x1 ex1 => ?_)
  replace hw := hw x1 ex1
  refine z_istore_n C dX7_hears_18 [some (.ref (gv 0)), some (.int p1), some (.int x1), none, none] (by decide) rfl ?_
  refine z_aload_n C dX7_hears_19 rfl ?_
  refine z_get C inlX7 rfl 0 (by decide) mw_4_15 dX7_hears_20 0 0 rfl rfl rfl ?_
  refine z_iload_n C dX7_hears_23 rfl ?_
  refine z_bipush C dX7_hears_24 112 (by decide +kernel) ?_
  refine z_callFS C [] [(wMx cI gv (mS v) (mAside v) (mBefore v) (mText v) (mLetters v) (mBys v) (mFirst v) (mCommand v) (mKnown v) (mLength v) (mLogLong v) (mAreSame v) (mAt v) (mIsWrong v) (mPosition v) (mReason v) (mCause v))] (met_X7_of l D cI p1 112) y_X7_of mw_12_5 dX7_hears_26 rfl n_X7_of rfl (by decide) ⟨rfl, rfl, Nat.le_of_ble_eq_true rfl, Nat.le_of_ble_eq_true rfl⟩ (Nat.le_of_ble_eq_true rfl) (z_pm [0] 1 rfl (by decide) rfl) ?_
  refine z_dup2 C dX7_hears_29 rfl rfl ?_
  refine z_iald C dX7_hears_30 0 1 rfl rfl hw.1 ?_
  replace hw := hw.2
  refine z_iconst C dX7_hears_31 1 (by decide +kernel) ?_
  refine z_iadd C dX7_hears_32 ?_
  refine z_iast C dX7_hears_33 0 1 rfl rfl hw.1 [(wMx cI gv (upd (mS v) (f_X7_of p1 112).toNatClampNeg (((mS v) (f_X7_of p1 112).toNatClampNeg) + 1)) (mAside v) (mBefore v) (mText v) (mLetters v) (mBys v) (mFirst v) (mCommand v) (mKnown v) (mLength v) (mLogLong v) (mAreSame v) (mAt v) (mIsWrong v) (mPosition v) (mReason v) (mCause v))] rfl ?_
  replace hw := hw.2
  refine z_iload_n C dX7_hears_34 rfl ?_
  refine z_callFS C [] [(wMx cI gv (upd (mS v) (f_X7_of p1 112).toNatClampNeg (((mS v) (f_X7_of p1 112).toNatClampNeg) + 1)) (mAside v) (mBefore v) (mText v) (mLetters v) (mBys v) (mFirst v) (mCommand v) (mKnown v) (mLength v) (mLogLong v) (mAreSame v) (mAt v) (mIsWrong v) (mPosition v) (mReason v) (mCause v))] (met_X7_editorBy l D cI x1) y_X7_editorBy mw_13_16 dX7_hears_35 rfl n_X7_editorBy rfl (by decide) ⟨rfl, rfl, Nat.le_of_ble_eq_true rfl, Nat.le_of_ble_eq_true rfl⟩ (Nat.le_of_ble_eq_true rfl) (z_pm [0] 1 rfl (by decide) rfl) ?_
  refine z_iload_n C dX7_hears_38 rfl ?_
  refine z_icmp_ne C dX7_hears_39 122 (by decide) (fun c2 => ?_) (fun c2 => ?_)
  · replace hw := hw.1 c2
    refine z_iconst C dX7_hears_122 0 (by decide +kernel) ?_
    refine z_istore_n C dX7_hears_123 [some (.ref (gv 0)), some (.int p1), some (.int x1), some (.int 0), none] (by decide) rfl ?_
    exact wk_X7_hears_124 C gv v p1   x1 0 (upd (mS v) (f_X7_of p1 112).toNatClampNeg (((mS v) (f_X7_of p1 112).toNatClampNeg) + 1)) _  hw
  · replace hw := hw.2 c2
    refine z_aload_n C dX7_hears_42 rfl ?_
    refine z_get C inlX7 rfl 0 (by decide) mw_4_15 dX7_hears_43 0 0 rfl rfl rfl ?_
    refine z_iload_n C dX7_hears_46 rfl ?_
    refine z_bipush C dX7_hears_47 97 (by decide +kernel) ?_
    refine z_callFS C [] [(wMx cI gv (upd (mS v) (f_X7_of p1 112).toNatClampNeg (((mS v) (f_X7_of p1 112).toNatClampNeg) + 1)) (mAside v) (mBefore v) (mText v) (mLetters v) (mBys v) (mFirst v) (mCommand v) (mKnown v) (mLength v) (mLogLong v) (mAreSame v) (mAt v) (mIsWrong v) (mPosition v) (mReason v) (mCause v))] (met_X7_of l D cI p1 97) y_X7_of mw_12_5 dX7_hears_49 rfl n_X7_of rfl (by decide) ⟨rfl, rfl, Nat.le_of_ble_eq_true rfl, Nat.le_of_ble_eq_true rfl⟩ (Nat.le_of_ble_eq_true rfl) (z_pm [0] 1 rfl (by decide) rfl) ?_
    refine z_dup2 C dX7_hears_52 rfl rfl ?_
    refine z_iald C dX7_hears_53 0 1 rfl rfl hw.1 ?_
    replace hw := hw.2
    refine z_iconst C dX7_hears_54 1 (by decide +kernel) ?_
    refine z_isub C dX7_hears_55 ?_
    refine z_iast C dX7_hears_56 0 1 rfl rfl hw.1 [(wMx cI gv (upd (upd (mS v) (f_X7_of p1 112).toNatClampNeg (((mS v) (f_X7_of p1 112).toNatClampNeg) + 1)) (f_X7_of p1 97).toNatClampNeg (((upd (mS v) (f_X7_of p1 112).toNatClampNeg (((mS v) (f_X7_of p1 112).toNatClampNeg) + 1)) (f_X7_of p1 97).toNatClampNeg) - 1)) (mAside v) (mBefore v) (mText v) (mLetters v) (mBys v) (mFirst v) (mCommand v) (mKnown v) (mLength v) (mLogLong v) (mAreSame v) (mAt v) (mIsWrong v) (mPosition v) (mReason v) (mCause v))] rfl ?_
    replace hw := hw.2
    refine z_aload_n C dX7_hears_57 rfl ?_
    refine z_get C inlX7 rfl 0 (by decide) mw_4_15 dX7_hears_58 0 0 rfl rfl rfl ?_
    refine z_iload_n C dX7_hears_61 rfl ?_
    refine z_bipush C dX7_hears_62 113 (by decide +kernel) ?_
    refine z_callFS C [] [(wMx cI gv (upd (upd (mS v) (f_X7_of p1 112).toNatClampNeg (((mS v) (f_X7_of p1 112).toNatClampNeg) + 1)) (f_X7_of p1 97).toNatClampNeg (((upd (mS v) (f_X7_of p1 112).toNatClampNeg (((mS v) (f_X7_of p1 112).toNatClampNeg) + 1)) (f_X7_of p1 97).toNatClampNeg) - 1)) (mAside v) (mBefore v) (mText v) (mLetters v) (mBys v) (mFirst v) (mCommand v) (mKnown v) (mLength v) (mLogLong v) (mAreSame v) (mAt v) (mIsWrong v) (mPosition v) (mReason v) (mCause v))] (met_X7_of l D cI p1 113) y_X7_of mw_12_5 dX7_hears_64 rfl n_X7_of rfl (by decide) ⟨rfl, rfl, Nat.le_of_ble_eq_true rfl, Nat.le_of_ble_eq_true rfl⟩ (Nat.le_of_ble_eq_true rfl) (z_pm [0] 1 rfl (by decide) rfl) ?_
    refine z_iconst C dX7_hears_67 0 (by decide +kernel) ?_
    refine z_iast C dX7_hears_68 0 1 rfl rfl hw.1 [(wMx cI gv (upd (upd (upd (mS v) (f_X7_of p1 112).toNatClampNeg (((mS v) (f_X7_of p1 112).toNatClampNeg) + 1)) (f_X7_of p1 97).toNatClampNeg (((upd (mS v) (f_X7_of p1 112).toNatClampNeg (((mS v) (f_X7_of p1 112).toNatClampNeg) + 1)) (f_X7_of p1 97).toNatClampNeg) - 1)) (f_X7_of p1 113).toNatClampNeg 0) (mAside v) (mBefore v) (mText v) (mLetters v) (mBys v) (mFirst v) (mCommand v) (mKnown v) (mLength v) (mLogLong v) (mAreSame v) (mAt v) (mIsWrong v) (mPosition v) (mReason v) (mCause v))] rfl ?_
    replace hw := hw.2
    refine z_iconst C dX7_hears_69 0 (by decide +kernel) ?_
    refine z_istore_n C dX7_hears_70 [some (.ref (gv 0)), some (.int p1), some (.int x1), some (.int 0), none] (by decide) rfl ?_
    refine z_ls C [true, true, false, true, false] [some (.ref (gv 0)), some (.int p1), none, some (.int 0), none] rfl ?_
    exact wk_X7_hears_71 C gv v p1   0 (upd (upd (upd (mS v) (f_X7_of p1 112).toNatClampNeg (((mS v) (f_X7_of p1 112).toNatClampNeg) + 1)) (f_X7_of p1 97).toNatClampNeg (((upd (mS v) (f_X7_of p1 112).toNatClampNeg (((mS v) (f_X7_of p1 112).toNatClampNeg) + 1)) (f_X7_of p1 97).toNatClampNeg) - 1)) (f_X7_of p1 113).toNatClampNeg 0) _  hw
def rmX7_hearsAll : Room := { frames := 4, cells := 0, slots := 0, locals := 97 }
def lb_X7_hearsAll_2 (v : zM) (p1 : Int32)   (Q : Int32 → zM → Prop)  (K2 : (Int32) → (zM) → Prop) (v2 : Int32) (w0 : zM) : Prop := (vp_in (f_X7_of p1 112) 445 ∧ (vp_in 0 445 ∧ ((((mS w0) (0 : Int32).toNatClampNeg) ≤ ((mS w0) (f_X7_of p1 112).toNatClampNeg) → (Q v2 w0)) ∧ (¬ ((mS w0) (0 : Int32).toNatClampNeg) ≤ ((mS w0) (f_X7_of p1 112).toNatClampNeg) → (wp_X7_hears w0 p1 (fun r2 u3 => (K2 (v2 + 1) u3)))))))
set_option maxHeartbeats 4000000 in
set_option maxRecDepth 100000 in
theorem wk_X7_hearsAll_2 {p : Program} {l : Launch} {e : Env} {s : State} {m : MethodId} {args : Array Value} {below : List Frame} {meth : Method} {c : Code} {D : va_G} {cI : ClassId} {A : Nat → Prop} (C : ZC p s m args meth c RX7 cX7_hearsAll 4 (some .int) D cI A) (gv : Nat → Nat) (v : zM) (p1 : Int32)   (v2 : Int32) (w0 : zM) (Q : Int32 → zM → Prop)  (hw : zLoop2 (lb_X7_hearsAll_2 v p1   Q ) v2 w0) : ZZ p l e rmX7_hearsAll s m args below meth c D A 4 0 0 (MQ below (ZQ D A (fun u : Int32 × zM => some (.int u.1)) (fun u : Int32 × zM => [(wMx cI gv (mS (u.2)) (mAside (u.2)) (mBefore (u.2)) (mText (u.2)) (mLetters (u.2)) (mBys (u.2)) (mFirst (u.2)) (mCommand (u.2)) (mKnown (u.2)) (mLength (u.2)) (mLogLong (u.2)) (mAreSame (u.2)) (mAt (u.2)) (mIsWrong (u.2)) (mPosition (u.2)) (mReason (u.2)) (mCause (u.2)))]) (fun u : Int32 × zM => Q u.1 u.2)) args s rmX7_hearsAll.cells rmX7_hearsAll.slots A) [(wMx cI gv (mS w0) (mAside w0) (mBefore w0) (mText w0) (mLetters w0) (mBys w0) (mFirst w0) (mCommand w0) (mKnown w0) (mLength w0) (mLogLong w0) (mAreSame w0) (mAt w0) (mIsWrong w0) (mPosition w0) (mReason w0) (mCause w0))] 2 [some (.ref (gv 0)), some (.int p1), some (.int v2), none] [] := by
  refine zLoop2_w (fun (v2 : Int32) (w0 : zM) => ZZ p l e rmX7_hearsAll s m args below meth c D A 4 0 0 (MQ below (ZQ D A (fun u : Int32 × zM => some (.int u.1)) (fun u : Int32 × zM => [(wMx cI gv (mS (u.2)) (mAside (u.2)) (mBefore (u.2)) (mText (u.2)) (mLetters (u.2)) (mBys (u.2)) (mFirst (u.2)) (mCommand (u.2)) (mKnown (u.2)) (mLength (u.2)) (mLogLong (u.2)) (mAreSame (u.2)) (mAt (u.2)) (mIsWrong (u.2)) (mPosition (u.2)) (mReason (u.2)) (mCause (u.2)))]) (fun u : Int32 × zM => Q u.1 u.2)) args s rmX7_hearsAll.cells rmX7_hearsAll.slots A) [(wMx cI gv (mS w0) (mAside w0) (mBefore w0) (mText w0) (mLetters w0) (mBys w0) (mFirst w0) (mCommand w0) (mKnown w0) (mLength w0) (mLogLong w0) (mAreSame w0) (mAt w0) (mIsWrong w0) (mPosition w0) (mReason w0) (mCause w0))] 2 [some (.ref (gv 0)), some (.int p1), some (.int v2), none] []) ?_ _ _ hw
  clear hw
  intro K2 hK2 v2 w0 hw
  unfold lb_X7_hearsAll_2 at hw
  refine z_aload_n C dX7_hearsAll_2 rfl ?_
  refine z_get C inlX7 rfl 0 (by decide) mw_4_15 dX7_hearsAll_3 0 0 rfl rfl rfl ?_
  refine z_iload_n C dX7_hearsAll_6 rfl ?_
  refine z_bipush C dX7_hearsAll_7 112 (by decide +kernel) ?_
  refine z_callFS C [] [(wMx cI gv (mS w0) (mAside w0) (mBefore w0) (mText w0) (mLetters w0) (mBys w0) (mFirst w0) (mCommand w0) (mKnown w0) (mLength w0) (mLogLong w0) (mAreSame w0) (mAt w0) (mIsWrong w0) (mPosition w0) (mReason w0) (mCause w0))] (met_X7_of l D cI p1 112) y_X7_of mw_12_5 dX7_hearsAll_9 rfl n_X7_of rfl (by decide) ⟨rfl, rfl, Nat.le_of_ble_eq_true rfl, Nat.le_of_ble_eq_true rfl⟩ (Nat.le_of_ble_eq_true rfl) (z_pm [0] 1 rfl (by decide) rfl) ?_
  refine z_iald C dX7_hearsAll_12 0 1 rfl rfl hw.1 ?_
  replace hw := hw.2
  refine z_aload_n C dX7_hearsAll_13 rfl ?_
  refine z_get C inlX7 rfl 0 (by decide) mw_4_15 dX7_hearsAll_14 0 0 rfl rfl rfl ?_
  refine z_iconst C dX7_hearsAll_17 0 (by decide +kernel) ?_
  refine z_iald C dX7_hearsAll_18 0 1 rfl rfl hw.1 ?_
  replace hw := hw.2
  refine z_icmp_ge C dX7_hearsAll_19 34 (by decide) (fun c1 => ?_) (fun c1 => ?_)
  · replace hw := hw.1 c1
    refine z_iload_n C dX7_hearsAll_34 rfl ?_
    exact z_iret C rfl (v2, w0) rfl hw rfl dX7_hearsAll_35
  · replace hw := hw.2 c1
    refine z_aload_n C dX7_hearsAll_22 rfl ?_
    refine z_iload_n C dX7_hearsAll_23 rfl ?_
    refine z_callV0 C [(wMx cI gv (mS w0) (mAside w0) (mBefore w0) (mText w0) (mLetters w0) (mBys w0) (mFirst w0) (mCommand w0) (mKnown w0) (mLength w0) (mLogLong w0) (mAreSame w0) (mAt w0) (mIsWrong w0) (mPosition w0) (mReason w0) (mCause w0))] [] rfl rfl (met_X7_hears l D cI gv w0 p1 _ hw) y_X7_hears mw_17_3 dX7_hearsAll_24 rfl n_X7_hears rfl (by decide) ⟨rfl, rfl, Nat.le_of_ble_eq_true rfl, Nat.le_of_ble_eq_true rfl⟩ (Nat.le_of_ble_eq_true rfl) (z_pm [0] 1 rfl (by decide) rfl) ?_
    intro ⟨r2, u3⟩ hw
    try dsimp only at hw
    refine z_bs [(wMx cI gv (mS u3) (mAside u3) (mBefore u3) (mText u3) (mLetters u3) (mBys u3) (mFirst u3) (mCommand u3) (mKnown u3) (mLength u3) (mLogLong u3) (mAreSame u3) (mAt u3) (mIsWrong u3) (mPosition u3) (mReason u3) (mCause u3))] [.int r2] rfl rfl ?_
    refine z_istore_n C dX7_hearsAll_27 [some (.ref (gv 0)), some (.int p1), some (.int v2), some (.int r2)] (by decide) rfl ?_
    refine z_iinc C dX7_hearsAll_28 rfl (v2 + 1) (by rfl) [some (.ref (gv 0)), some (.int p1), some (.int (v2 + 1)), some (.int r2)] (by decide) rfl ?_
    refine z_goto C dX7_hearsAll_31 2 (by decide) ?_
    refine z_ls C [true, true, true, false] [some (.ref (gv 0)), some (.int p1), some (.int (v2 + 1)), none] rfl ?_
    exact hK2 _ _ hw
def wp_X7_hearsAll (v : zM) (p1 : Int32) (Q : Int32 → zM → Prop) : Prop := (zLoop2 (lb_X7_hearsAll_2 v p1   Q ) 0 v)
set_option maxHeartbeats 4000000 in
set_option maxRecDepth 100000 in
theorem met_X7_hearsAll (l : Launch) (D : va_G) (cI : ClassId) (gv : Nat → Nat) (v : zM) (p1 : Int32) (Q : Int32 → zM → Prop) (hw : wp_X7_hearsAll v p1 Q) : ZM l D cI yX7_hearsAll cX7_hearsAll 4 (some .int) rmX7_hearsAll [.ref (gv 0), .int p1] [(wMx cI gv (mS v) (mAside v) (mBefore v) (mText v) (mLetters v) (mBys v) (mFirst v) (mCommand v) (mKnown v) (mLength v) (mLogLong v) (mAreSame v) (mAt v) (mIsWrong v) (mPosition v) (mReason v) (mCause v))] (fun u : Int32 × zM => some (.int u.1)) (fun u : Int32 × zM => [(wMx cI gv (mS (u.2)) (mAside (u.2)) (mBefore (u.2)) (mText (u.2)) (mLetters (u.2)) (mBys (u.2)) (mFirst (u.2)) (mCommand (u.2)) (mKnown (u.2)) (mLength (u.2)) (mLogLong (u.2)) (mAreSame (u.2)) (mAt (u.2)) (mIsWrong (u.2)) (mPosition (u.2)) (mReason (u.2)) (mCause (u.2)))]) (fun u : Int32 × zM => Q u.1 u.2) := by
  refine z_body [some (.ref (gv 0)), some (.int p1), none, none] (by decide +kernel) rfl (Nat.le_of_ble_eq_true rfl) rfl ?_
  intro p e s m args below meth c A C hin
  unfold wp_X7_hearsAll at hw
  refine z_iconst C dX7_hearsAll_0 0 (by decide +kernel) ?_
  refine z_istore_n C dX7_hearsAll_1 [some (.ref (gv 0)), some (.int p1), some (.int 0), none] (by decide) rfl ?_
  exact wk_X7_hearsAll_2 C gv v p1   0 v _  hw
def rmX7_insert : Room := { frames := 5, cells := 0, slots := 0, locals := 118 }
def wp_X7_insert (v : zM) (p1 : Int32) (p2 : Int32) (p3 : Int32) (Q : Int32 → zM → Prop) : Prop := (wp_X7_insertFault v p1 p2 p3 (fun r1 u2 => ((0 ≤ r1 → (wp_X7_know u2 (fun u4 => (wp_X7_inserts u4 p1 p2 p3 (fun r5 u6 => (Q r5 u6)))))) ∧ (¬ 0 ≤ r1 → (Q r1 u2)))))
set_option maxHeartbeats 4000000 in
set_option maxRecDepth 100000 in
theorem met_X7_insert (l : Launch) (D : va_G) (cI : ClassId) (gv : Nat → Nat) (v : zM) (p1 : Int32) (p2 : Int32) (p3 : Int32) (Q : Int32 → zM → Prop) (hw : wp_X7_insert v p1 p2 p3 Q) : ZM l D cI yX7_insert cX7_insert 5 (some .int) rmX7_insert [.ref (gv 0), .int p1, .int p2, .int p3] [(wMx cI gv (mS v) (mAside v) (mBefore v) (mText v) (mLetters v) (mBys v) (mFirst v) (mCommand v) (mKnown v) (mLength v) (mLogLong v) (mAreSame v) (mAt v) (mIsWrong v) (mPosition v) (mReason v) (mCause v))] (fun u : Int32 × zM => some (.int u.1)) (fun u : Int32 × zM => [(wMx cI gv (mS (u.2)) (mAside (u.2)) (mBefore (u.2)) (mText (u.2)) (mLetters (u.2)) (mBys (u.2)) (mFirst (u.2)) (mCommand (u.2)) (mKnown (u.2)) (mLength (u.2)) (mLogLong (u.2)) (mAreSame (u.2)) (mAt (u.2)) (mIsWrong (u.2)) (mPosition (u.2)) (mReason (u.2)) (mCause (u.2)))]) (fun u : Int32 × zM => Q u.1 u.2) := by
  refine z_body [some (.ref (gv 0)), some (.int p1), some (.int p2), some (.int p3), none] (by decide +kernel) rfl (Nat.le_of_ble_eq_true rfl) rfl ?_
  intro p e s m args below meth c A C hin
  unfold wp_X7_insert at hw
  refine z_aload_n C dX7_insert_0 rfl ?_
  refine z_iload_n C dX7_insert_1 rfl ?_
  refine z_iload_n C dX7_insert_2 rfl ?_
  refine z_iload_n C dX7_insert_3 rfl ?_
  refine z_callV0 C [(wMx cI gv (mS v) (mAside v) (mBefore v) (mText v) (mLetters v) (mBys v) (mFirst v) (mCommand v) (mKnown v) (mLength v) (mLogLong v) (mAreSame v) (mAt v) (mIsWrong v) (mPosition v) (mReason v) (mCause v))] [] rfl rfl (met_X7_insertFault l D cI gv v p1 p2 p3 _ hw) y_X7_insertFault mw_11_19 dX7_insert_4 rfl n_X7_insertFault rfl (by decide) ⟨rfl, rfl, Nat.le_of_ble_eq_true rfl, Nat.le_of_ble_eq_true rfl⟩ (Nat.le_of_ble_eq_true rfl) (z_pm [0] 1 rfl (by decide) rfl) ?_
  intro ⟨r1, u2⟩ hw
  try dsimp only at hw
  refine z_bs [(wMx cI gv (mS u2) (mAside u2) (mBefore u2) (mText u2) (mLetters u2) (mBys u2) (mFirst u2) (mCommand u2) (mKnown u2) (mLength u2) (mLogLong u2) (mAreSame u2) (mAt u2) (mIsWrong u2) (mPosition u2) (mReason u2) (mCause u2))] [.int r1] rfl rfl ?_
  refine z_istore C dX7_insert_7 [some (.ref (gv 0)), some (.int p1), some (.int p2), some (.int p3), some (.int r1)] (by decide) rfl ?_
  refine z_iload C dX7_insert_9 rfl ?_
  refine z_if_ge C dX7_insert_11 17 (by decide) (fun c3 => ?_) (fun c3 => ?_)
  · replace hw := hw.1 c3
    refine z_aload_n C dX7_insert_17 rfl ?_
    refine z_callV0 C [(wMx cI gv (mS u2) (mAside u2) (mBefore u2) (mText u2) (mLetters u2) (mBys u2) (mFirst u2) (mCommand u2) (mKnown u2) (mLength u2) (mLogLong u2) (mAreSame u2) (mAt u2) (mIsWrong u2) (mPosition u2) (mReason u2) (mCause u2))] [] rfl rfl (met_X7_know l D cI gv u2 _ hw) y_X7_know mw_12_8 dX7_insert_18 rfl n_X7_know rfl (by decide) ⟨rfl, rfl, Nat.le_of_ble_eq_true rfl, Nat.le_of_ble_eq_true rfl⟩ (Nat.le_of_ble_eq_true rfl) (z_pm [0] 1 rfl (by decide) rfl) ?_
    intro u4 hw
    try dsimp only at hw
    refine z_bs [(wMx cI gv (mS u4) (mAside u4) (mBefore u4) (mText u4) (mLetters u4) (mBys u4) (mFirst u4) (mCommand u4) (mKnown u4) (mLength u4) (mLogLong u4) (mAreSame u4) (mAt u4) (mIsWrong u4) (mPosition u4) (mReason u4) (mCause u4))] [] rfl rfl ?_
    refine z_aload_n C dX7_insert_21 rfl ?_
    refine z_iload_n C dX7_insert_22 rfl ?_
    refine z_iload_n C dX7_insert_23 rfl ?_
    refine z_iload_n C dX7_insert_24 rfl ?_
    refine z_callV0 C [(wMx cI gv (mS u4) (mAside u4) (mBefore u4) (mText u4) (mLetters u4) (mBys u4) (mFirst u4) (mCommand u4) (mKnown u4) (mLength u4) (mLogLong u4) (mAreSame u4) (mAt u4) (mIsWrong u4) (mPosition u4) (mReason u4) (mCause u4))] [] rfl rfl (met_X7_inserts l D cI gv u4 p1 p2 p3 _ hw) y_X7_inserts mw_12_13 dX7_insert_25 rfl n_X7_inserts rfl (by decide) ⟨rfl, rfl, Nat.le_of_ble_eq_true rfl, Nat.le_of_ble_eq_true rfl⟩ (Nat.le_of_ble_eq_true rfl) (z_pm [0] 1 rfl (by decide) rfl) ?_
    intro ⟨r5, u6⟩ hw
    try dsimp only at hw
    refine z_bs [(wMx cI gv (mS u6) (mAside u6) (mBefore u6) (mText u6) (mLetters u6) (mBys u6) (mFirst u6) (mCommand u6) (mKnown u6) (mLength u6) (mLogLong u6) (mAreSame u6) (mAt u6) (mIsWrong u6) (mPosition u6) (mReason u6) (mCause u6))] [.int r5] rfl rfl ?_
    exact z_iret C rfl (r5, u6) rfl hw rfl dX7_insert_28
  · replace hw := hw.2 c3
    refine z_iload C dX7_insert_14 rfl ?_
    exact z_iret C rfl (r1, u2) rfl hw rfl dX7_insert_16
def rmX7_delete : Room := { frames := 5, cells := 0, slots := 0, locals := 118 }
def wp_X7_delete (v : zM) (p1 : Int32) (p2 : Int32) (Q : Int32 → zM → Prop) : Prop := (wp_X7_deleteFault v p1 p2 (fun r1 u2 => ((0 ≤ r1 → (wp_X7_know u2 (fun u4 => (wp_X7_deletes u4 p1 p2 (fun r5 u6 => (Q r5 u6)))))) ∧ (¬ 0 ≤ r1 → (Q r1 u2)))))
set_option maxHeartbeats 4000000 in
set_option maxRecDepth 100000 in
theorem met_X7_delete (l : Launch) (D : va_G) (cI : ClassId) (gv : Nat → Nat) (v : zM) (p1 : Int32) (p2 : Int32) (Q : Int32 → zM → Prop) (hw : wp_X7_delete v p1 p2 Q) : ZM l D cI yX7_delete cX7_delete 4 (some .int) rmX7_delete [.ref (gv 0), .int p1, .int p2] [(wMx cI gv (mS v) (mAside v) (mBefore v) (mText v) (mLetters v) (mBys v) (mFirst v) (mCommand v) (mKnown v) (mLength v) (mLogLong v) (mAreSame v) (mAt v) (mIsWrong v) (mPosition v) (mReason v) (mCause v))] (fun u : Int32 × zM => some (.int u.1)) (fun u : Int32 × zM => [(wMx cI gv (mS (u.2)) (mAside (u.2)) (mBefore (u.2)) (mText (u.2)) (mLetters (u.2)) (mBys (u.2)) (mFirst (u.2)) (mCommand (u.2)) (mKnown (u.2)) (mLength (u.2)) (mLogLong (u.2)) (mAreSame (u.2)) (mAt (u.2)) (mIsWrong (u.2)) (mPosition (u.2)) (mReason (u.2)) (mCause (u.2)))]) (fun u : Int32 × zM => Q u.1 u.2) := by
  refine z_body [some (.ref (gv 0)), some (.int p1), some (.int p2), none] (by decide +kernel) rfl (Nat.le_of_ble_eq_true rfl) rfl ?_
  intro p e s m args below meth c A C hin
  unfold wp_X7_delete at hw
  refine z_aload_n C dX7_delete_0 rfl ?_
  refine z_iload_n C dX7_delete_1 rfl ?_
  refine z_iload_n C dX7_delete_2 rfl ?_
  refine z_callV0 C [(wMx cI gv (mS v) (mAside v) (mBefore v) (mText v) (mLetters v) (mBys v) (mFirst v) (mCommand v) (mKnown v) (mLength v) (mLogLong v) (mAreSame v) (mAt v) (mIsWrong v) (mPosition v) (mReason v) (mCause v))] [] rfl rfl (met_X7_deleteFault l D cI gv v p1 p2 _ hw) y_X7_deleteFault mw_14_7 dX7_delete_3 rfl n_X7_deleteFault rfl (by decide) ⟨rfl, rfl, Nat.le_of_ble_eq_true rfl, Nat.le_of_ble_eq_true rfl⟩ (Nat.le_of_ble_eq_true rfl) (z_pm [0] 1 rfl (by decide) rfl) ?_
  intro ⟨r1, u2⟩ hw
  try dsimp only at hw
  refine z_bs [(wMx cI gv (mS u2) (mAside u2) (mBefore u2) (mText u2) (mLetters u2) (mBys u2) (mFirst u2) (mCommand u2) (mKnown u2) (mLength u2) (mLogLong u2) (mAreSame u2) (mAt u2) (mIsWrong u2) (mPosition u2) (mReason u2) (mCause u2))] [.int r1] rfl rfl ?_
  refine z_istore_n C dX7_delete_6 [some (.ref (gv 0)), some (.int p1), some (.int p2), some (.int r1)] (by decide) rfl ?_
  refine z_iload_n C dX7_delete_7 rfl ?_
  refine z_if_ge C dX7_delete_8 13 (by decide) (fun c3 => ?_) (fun c3 => ?_)
  · replace hw := hw.1 c3
    refine z_aload_n C dX7_delete_13 rfl ?_
    refine z_callV0 C [(wMx cI gv (mS u2) (mAside u2) (mBefore u2) (mText u2) (mLetters u2) (mBys u2) (mFirst u2) (mCommand u2) (mKnown u2) (mLength u2) (mLogLong u2) (mAreSame u2) (mAt u2) (mIsWrong u2) (mPosition u2) (mReason u2) (mCause u2))] [] rfl rfl (met_X7_know l D cI gv u2 _ hw) y_X7_know mw_12_8 dX7_delete_14 rfl n_X7_know rfl (by decide) ⟨rfl, rfl, Nat.le_of_ble_eq_true rfl, Nat.le_of_ble_eq_true rfl⟩ (Nat.le_of_ble_eq_true rfl) (z_pm [0] 1 rfl (by decide) rfl) ?_
    intro u4 hw
    try dsimp only at hw
    refine z_bs [(wMx cI gv (mS u4) (mAside u4) (mBefore u4) (mText u4) (mLetters u4) (mBys u4) (mFirst u4) (mCommand u4) (mKnown u4) (mLength u4) (mLogLong u4) (mAreSame u4) (mAt u4) (mIsWrong u4) (mPosition u4) (mReason u4) (mCause u4))] [] rfl rfl ?_
    refine z_aload_n C dX7_delete_17 rfl ?_
    refine z_iload_n C dX7_delete_18 rfl ?_
    refine z_iload_n C dX7_delete_19 rfl ?_
    refine z_callV0 C [(wMx cI gv (mS u4) (mAside u4) (mBefore u4) (mText u4) (mLetters u4) (mBys u4) (mFirst u4) (mCommand u4) (mKnown u4) (mLength u4) (mLogLong u4) (mAreSame u4) (mAt u4) (mIsWrong u4) (mPosition u4) (mReason u4) (mCause u4))] [] rfl rfl (met_X7_deletes l D cI gv u4 p1 p2 _ hw) y_X7_deletes mw_14_11 dX7_delete_20 rfl n_X7_deletes rfl (by decide) ⟨rfl, rfl, Nat.le_of_ble_eq_true rfl, Nat.le_of_ble_eq_true rfl⟩ (Nat.le_of_ble_eq_true rfl) (z_pm [0] 1 rfl (by decide) rfl) ?_
    intro ⟨r5, u6⟩ hw
    try dsimp only at hw
    refine z_bs [(wMx cI gv (mS u6) (mAside u6) (mBefore u6) (mText u6) (mLetters u6) (mBys u6) (mFirst u6) (mCommand u6) (mKnown u6) (mLength u6) (mLogLong u6) (mAreSame u6) (mAt u6) (mIsWrong u6) (mPosition u6) (mReason u6) (mCause u6))] [.int r5] rfl rfl ?_
    exact z_iret C rfl (r5, u6) rfl hw rfl dX7_delete_23
  · replace hw := hw.2 c3
    refine z_iload_n C dX7_delete_11 rfl ?_
    exact z_iret C rfl (r1, u2) rfl hw rfl dX7_delete_12
def rmX7_takeBack : Room := { frames := 5, cells := 0, slots := 0, locals := 117 }
def wp_X7_takeBack (v : zM) (p1 : Int32) (Q : Int32 → zM → Prop) : Prop := (wp_X7_backFault v p1 (fun r1 u2 => ((0 ≤ r1 → (wp_X7_know u2 (fun u4 => (wp_X7_backs u4 p1 (fun r5 u6 => (Q r5 u6)))))) ∧ (¬ 0 ≤ r1 → (Q r1 u2)))))
set_option maxHeartbeats 4000000 in
set_option maxRecDepth 100000 in
theorem met_X7_takeBack (l : Launch) (D : va_G) (cI : ClassId) (gv : Nat → Nat) (v : zM) (p1 : Int32) (Q : Int32 → zM → Prop) (hw : wp_X7_takeBack v p1 Q) : ZM l D cI yX7_takeBack cX7_takeBack 3 (some .int) rmX7_takeBack [.ref (gv 0), .int p1] [(wMx cI gv (mS v) (mAside v) (mBefore v) (mText v) (mLetters v) (mBys v) (mFirst v) (mCommand v) (mKnown v) (mLength v) (mLogLong v) (mAreSame v) (mAt v) (mIsWrong v) (mPosition v) (mReason v) (mCause v))] (fun u : Int32 × zM => some (.int u.1)) (fun u : Int32 × zM => [(wMx cI gv (mS (u.2)) (mAside (u.2)) (mBefore (u.2)) (mText (u.2)) (mLetters (u.2)) (mBys (u.2)) (mFirst (u.2)) (mCommand (u.2)) (mKnown (u.2)) (mLength (u.2)) (mLogLong (u.2)) (mAreSame (u.2)) (mAt (u.2)) (mIsWrong (u.2)) (mPosition (u.2)) (mReason (u.2)) (mCause (u.2)))]) (fun u : Int32 × zM => Q u.1 u.2) := by
  refine z_body [some (.ref (gv 0)), some (.int p1), none] (by decide +kernel) rfl (Nat.le_of_ble_eq_true rfl) rfl ?_
  intro p e s m args below meth c A C hin
  unfold wp_X7_takeBack at hw
  refine z_aload_n C dX7_takeBack_0 rfl ?_
  refine z_iload_n C dX7_takeBack_1 rfl ?_
  refine z_callV0 C [(wMx cI gv (mS v) (mAside v) (mBefore v) (mText v) (mLetters v) (mBys v) (mFirst v) (mCommand v) (mKnown v) (mLength v) (mLogLong v) (mAreSame v) (mAt v) (mIsWrong v) (mPosition v) (mReason v) (mCause v))] [] rfl rfl (met_X7_backFault l D cI gv v p1 _ hw) y_X7_backFault mw_14_23 dX7_takeBack_2 rfl n_X7_backFault rfl (by decide) ⟨rfl, rfl, Nat.le_of_ble_eq_true rfl, Nat.le_of_ble_eq_true rfl⟩ (Nat.le_of_ble_eq_true rfl) (z_pm [0] 1 rfl (by decide) rfl) ?_
  intro ⟨r1, u2⟩ hw
  try dsimp only at hw
  refine z_bs [(wMx cI gv (mS u2) (mAside u2) (mBefore u2) (mText u2) (mLetters u2) (mBys u2) (mFirst u2) (mCommand u2) (mKnown u2) (mLength u2) (mLogLong u2) (mAreSame u2) (mAt u2) (mIsWrong u2) (mPosition u2) (mReason u2) (mCause u2))] [.int r1] rfl rfl ?_
  refine z_istore_n C dX7_takeBack_5 [some (.ref (gv 0)), some (.int p1), some (.int r1)] (by decide) rfl ?_
  refine z_iload_n C dX7_takeBack_6 rfl ?_
  refine z_if_ge C dX7_takeBack_7 12 (by decide) (fun c3 => ?_) (fun c3 => ?_)
  · replace hw := hw.1 c3
    refine z_aload_n C dX7_takeBack_12 rfl ?_
    refine z_callV0 C [(wMx cI gv (mS u2) (mAside u2) (mBefore u2) (mText u2) (mLetters u2) (mBys u2) (mFirst u2) (mCommand u2) (mKnown u2) (mLength u2) (mLogLong u2) (mAreSame u2) (mAt u2) (mIsWrong u2) (mPosition u2) (mReason u2) (mCause u2))] [] rfl rfl (met_X7_know l D cI gv u2 _ hw) y_X7_know mw_12_8 dX7_takeBack_13 rfl n_X7_know rfl (by decide) ⟨rfl, rfl, Nat.le_of_ble_eq_true rfl, Nat.le_of_ble_eq_true rfl⟩ (Nat.le_of_ble_eq_true rfl) (z_pm [0] 1 rfl (by decide) rfl) ?_
    intro u4 hw
    try dsimp only at hw
    refine z_bs [(wMx cI gv (mS u4) (mAside u4) (mBefore u4) (mText u4) (mLetters u4) (mBys u4) (mFirst u4) (mCommand u4) (mKnown u4) (mLength u4) (mLogLong u4) (mAreSame u4) (mAt u4) (mIsWrong u4) (mPosition u4) (mReason u4) (mCause u4))] [] rfl rfl ?_
    refine z_aload_n C dX7_takeBack_16 rfl ?_
    refine z_iload_n C dX7_takeBack_17 rfl ?_
    refine z_callV0 C [(wMx cI gv (mS u4) (mAside u4) (mBefore u4) (mText u4) (mLetters u4) (mBys u4) (mFirst u4) (mCommand u4) (mKnown u4) (mLength u4) (mLogLong u4) (mAreSame u4) (mAt u4) (mIsWrong u4) (mPosition u4) (mReason u4) (mCause u4))] [] rfl rfl (met_X7_backs l D cI gv u4 p1 _ hw) y_X7_backs mw_15_3 dX7_takeBack_18 rfl n_X7_backs rfl (by decide) ⟨rfl, rfl, Nat.le_of_ble_eq_true rfl, Nat.le_of_ble_eq_true rfl⟩ (Nat.le_of_ble_eq_true rfl) (z_pm [0] 1 rfl (by decide) rfl) ?_
    intro ⟨r5, u6⟩ hw
    try dsimp only at hw
    refine z_bs [(wMx cI gv (mS u6) (mAside u6) (mBefore u6) (mText u6) (mLetters u6) (mBys u6) (mFirst u6) (mCommand u6) (mKnown u6) (mLength u6) (mLogLong u6) (mAreSame u6) (mAt u6) (mIsWrong u6) (mPosition u6) (mReason u6) (mCause u6))] [.int r5] rfl rfl ?_
    exact z_iret C rfl (r5, u6) rfl hw rfl dX7_takeBack_21
  · replace hw := hw.2 c3
    refine z_iload_n C dX7_takeBack_10 rfl ?_
    exact z_iret C rfl (r1, u2) rfl hw rfl dX7_takeBack_11
def rmX7_mark : Room := { frames := 2, cells := 0, slots := 0, locals := 42 }
def wp_X7_mark (v : zM) (p1 : Int32) (p2 : Int32) (Q : Int32 → zM → Prop) : Prop := (((f_X7_isEditor p1) = 0 → (Q (-1) v)) ∧ (¬ (f_X7_isEditor p1) = 0 → (vp_in (f_X7_of p1 0) 445 ∧ ((¬ (f_X7_in p2 0 ((mS v) (f_X7_of p1 0).toNatClampNeg)) = 0 → (wp_X7_know v (fun u3 => (vp_in (f_X7_of p1 114) 445 ∧ (∀ x4 : Int32, x4 = ((mS u3) (f_X7_of p1 114).toNatClampNeg) → (vp_in (f_X7_of p1 114) 445 ∧ (Q x4 (mSetS u3 (upd (mS u3) (f_X7_of p1 114).toNatClampNeg p2))))))))) ∧ ((f_X7_in p2 0 ((mS v) (f_X7_of p1 0).toNatClampNeg)) = 0 → (Q (-1) v))))))
set_option maxHeartbeats 4000000 in
set_option maxRecDepth 100000 in
theorem met_X7_mark (l : Launch) (D : va_G) (cI : ClassId) (gv : Nat → Nat) (v : zM) (p1 : Int32) (p2 : Int32) (Q : Int32 → zM → Prop) (hw : wp_X7_mark v p1 p2 Q) : ZM l D cI yX7_mark cX7_mark 4 (some .int) rmX7_mark [.ref (gv 0), .int p1, .int p2] [(wMx cI gv (mS v) (mAside v) (mBefore v) (mText v) (mLetters v) (mBys v) (mFirst v) (mCommand v) (mKnown v) (mLength v) (mLogLong v) (mAreSame v) (mAt v) (mIsWrong v) (mPosition v) (mReason v) (mCause v))] (fun u : Int32 × zM => some (.int u.1)) (fun u : Int32 × zM => [(wMx cI gv (mS (u.2)) (mAside (u.2)) (mBefore (u.2)) (mText (u.2)) (mLetters (u.2)) (mBys (u.2)) (mFirst (u.2)) (mCommand (u.2)) (mKnown (u.2)) (mLength (u.2)) (mLogLong (u.2)) (mAreSame (u.2)) (mAt (u.2)) (mIsWrong (u.2)) (mPosition (u.2)) (mReason (u.2)) (mCause (u.2)))]) (fun u : Int32 × zM => Q u.1 u.2) := by
  refine z_body [some (.ref (gv 0)), some (.int p1), some (.int p2), none] (by decide +kernel) rfl (Nat.le_of_ble_eq_true rfl) rfl ?_
  intro p e s m args below meth c A C hin
  unfold wp_X7_mark at hw
  refine z_iload_n C dX7_mark_0 rfl ?_
  refine z_callFS C [] [(wMx cI gv (mS v) (mAside v) (mBefore v) (mText v) (mLetters v) (mBys v) (mFirst v) (mCommand v) (mKnown v) (mLength v) (mLogLong v) (mAreSame v) (mAt v) (mIsWrong v) (mPosition v) (mReason v) (mCause v))] (met_X7_isEditor l D cI p1) y_X7_isEditor mw_11_23 dX7_mark_1 rfl n_X7_isEditor rfl (by decide) ⟨rfl, rfl, Nat.le_of_ble_eq_true rfl, Nat.le_of_ble_eq_true rfl⟩ (Nat.le_of_ble_eq_true rfl) (z_pm [0] 1 rfl (by decide) rfl) ?_
  refine z_if_eq C dX7_mark_4 25 (by decide) (fun c1 => ?_) (fun c1 => ?_)
  · replace hw := hw.1 c1
    refine z_iconst C dX7_mark_25 (-1) (by decide +kernel) ?_
    exact z_iret C rfl ((-1), v) rfl hw rfl dX7_mark_26
  · replace hw := hw.2 c1
    refine z_iload_n C dX7_mark_7 rfl ?_
    refine z_iconst C dX7_mark_8 0 (by decide +kernel) ?_
    refine z_aload_n C dX7_mark_9 rfl ?_
    refine z_get C inlX7 rfl 0 (by decide) mw_4_15 dX7_mark_10 0 0 rfl rfl rfl ?_
    refine z_iload_n C dX7_mark_13 rfl ?_
    refine z_iconst C dX7_mark_14 0 (by decide +kernel) ?_
    refine z_callFS C [] [(wMx cI gv (mS v) (mAside v) (mBefore v) (mText v) (mLetters v) (mBys v) (mFirst v) (mCommand v) (mKnown v) (mLength v) (mLogLong v) (mAreSame v) (mAt v) (mIsWrong v) (mPosition v) (mReason v) (mCause v))] (met_X7_of l D cI p1 0) y_X7_of mw_12_5 dX7_mark_15 rfl n_X7_of rfl (by decide) ⟨rfl, rfl, Nat.le_of_ble_eq_true rfl, Nat.le_of_ble_eq_true rfl⟩ (Nat.le_of_ble_eq_true rfl) (z_pm [0] 1 rfl (by decide) rfl) ?_
    refine z_iald C dX7_mark_18 0 1 rfl rfl hw.1 ?_
    replace hw := hw.2
    refine z_callFS C [] [(wMx cI gv (mS v) (mAside v) (mBefore v) (mText v) (mLetters v) (mBys v) (mFirst v) (mCommand v) (mKnown v) (mLength v) (mLogLong v) (mAreSame v) (mAt v) (mIsWrong v) (mPosition v) (mReason v) (mCause v))] (met_X7_in l D cI p2 0 ((mS v) (f_X7_of p1 0).toNatClampNeg)) y_X7_in mw_12_2 dX7_mark_19 rfl n_X7_in rfl (by decide) ⟨rfl, rfl, Nat.le_of_ble_eq_true rfl, Nat.le_of_ble_eq_true rfl⟩ (Nat.le_of_ble_eq_true rfl) (z_pm [0] 1 rfl (by decide) rfl) ?_
    refine z_if_ne C dX7_mark_22 27 (by decide) (fun c2 => ?_) (fun c2 => ?_)
    · replace hw := hw.1 c2
      refine z_aload_n C dX7_mark_27 rfl ?_
      refine z_callV0 C [(wMx cI gv (mS v) (mAside v) (mBefore v) (mText v) (mLetters v) (mBys v) (mFirst v) (mCommand v) (mKnown v) (mLength v) (mLogLong v) (mAreSame v) (mAt v) (mIsWrong v) (mPosition v) (mReason v) (mCause v))] [] rfl rfl (met_X7_know l D cI gv v _ hw) y_X7_know mw_12_8 dX7_mark_28 rfl n_X7_know rfl (by decide) ⟨rfl, rfl, Nat.le_of_ble_eq_true rfl, Nat.le_of_ble_eq_true rfl⟩ (Nat.le_of_ble_eq_true rfl) (z_pm [0] 1 rfl (by decide) rfl) ?_
      intro u3 hw
      try dsimp only at hw
      refine z_bs [(wMx cI gv (mS u3) (mAside u3) (mBefore u3) (mText u3) (mLetters u3) (mBys u3) (mFirst u3) (mCommand u3) (mKnown u3) (mLength u3) (mLogLong u3) (mAreSame u3) (mAt u3) (mIsWrong u3) (mPosition u3) (mReason u3) (mCause u3))] [] rfl rfl ?_
      refine z_aload_n C dX7_mark_31 rfl ?_
      refine z_get C inlX7 rfl 0 (by decide) mw_4_15 dX7_mark_32 0 0 rfl rfl rfl ?_
      refine z_iload_n C dX7_mark_35 rfl ?_
      refine z_bipush C dX7_mark_36 114 (by decide +kernel) ?_
      refine z_callFS C [] [(wMx cI gv (mS u3) (mAside u3) (mBefore u3) (mText u3) (mLetters u3) (mBys u3) (mFirst u3) (mCommand u3) (mKnown u3) (mLength u3) (mLogLong u3) (mAreSame u3) (mAt u3) (mIsWrong u3) (mPosition u3) (mReason u3) (mCause u3))] (met_X7_of l D cI p1 114) y_X7_of mw_12_5 dX7_mark_38 rfl n_X7_of rfl (by decide) ⟨rfl, rfl, Nat.le_of_ble_eq_true rfl, Nat.le_of_ble_eq_true rfl⟩ (Nat.le_of_ble_eq_true rfl) (z_pm [0] 1 rfl (by decide) rfl) ?_
      refine z_iald C dX7_mark_41 0 1 rfl rfl hw.1 ?_
      replace hw := hw.2
      refine z_name C (fun x4 ex4 => ?_)
      replace hw := hw x4 ex4
      refine z_istore_n C dX7_mark_42 [some (.ref (gv 0)), some (.int p1), some (.int p2), some (.int x4)] (by decide) rfl ?_
      refine z_aload_n C dX7_mark_43 rfl ?_
      refine z_get C inlX7 rfl 0 (by decide) mw_4_15 dX7_mark_44 0 0 rfl rfl rfl ?_
      refine z_iload_n C dX7_mark_47 rfl ?_
      refine z_bipush C dX7_mark_48 114 (by decide +kernel) ?_
      refine z_callFS C [] [(wMx cI gv (mS u3) (mAside u3) (mBefore u3) (mText u3) (mLetters u3) (mBys u3) (mFirst u3) (mCommand u3) (mKnown u3) (mLength u3) (mLogLong u3) (mAreSame u3) (mAt u3) (mIsWrong u3) (mPosition u3) (mReason u3) (mCause u3))] (met_X7_of l D cI p1 114) y_X7_of mw_12_5 dX7_mark_50 rfl n_X7_of rfl (by decide) ⟨rfl, rfl, Nat.le_of_ble_eq_true rfl, Nat.le_of_ble_eq_true rfl⟩ (Nat.le_of_ble_eq_true rfl) (z_pm [0] 1 rfl (by decide) rfl) ?_
      refine z_iload_n C dX7_mark_53 rfl ?_
      refine z_iast C dX7_mark_54 0 1 rfl rfl hw.1 [(wMx cI gv (upd (mS u3) (f_X7_of p1 114).toNatClampNeg p2) (mAside u3) (mBefore u3) (mText u3) (mLetters u3) (mBys u3) (mFirst u3) (mCommand u3) (mKnown u3) (mLength u3) (mLogLong u3) (mAreSame u3) (mAt u3) (mIsWrong u3) (mPosition u3) (mReason u3) (mCause u3))] rfl ?_
      replace hw := hw.2
      refine z_iload_n C dX7_mark_55 rfl ?_
      exact z_iret C rfl (x4, (mSetS u3 (upd (mS u3) (f_X7_of p1 114).toNatClampNeg p2))) rfl hw rfl dX7_mark_56
    · replace hw := hw.2 c2
      refine z_iconst C dX7_mark_25 (-1) (by decide +kernel) ?_
      exact z_iret C rfl ((-1), v) rfl hw rfl dX7_mark_26
def rmX7_send : Room := { frames := 4, cells := 0, slots := 0, locals := 93 }
def wp_X7_send (v : zM) (p1 : Int32) (Q : Int32 → zM → Prop) : Prop := (wp_X7_sendFault v p1 (fun r1 u2 => ((0 ≤ r1 → (wp_X7_know u2 (fun u4 => (wp_X7_sends u4 p1 (fun r5 u6 => (Q r5 u6)))))) ∧ (¬ 0 ≤ r1 → (Q r1 u2)))))
set_option maxHeartbeats 4000000 in
set_option maxRecDepth 100000 in
theorem met_X7_send (l : Launch) (D : va_G) (cI : ClassId) (gv : Nat → Nat) (v : zM) (p1 : Int32) (Q : Int32 → zM → Prop) (hw : wp_X7_send v p1 Q) : ZM l D cI yX7_send cX7_send 3 (some .int) rmX7_send [.ref (gv 0), .int p1] [(wMx cI gv (mS v) (mAside v) (mBefore v) (mText v) (mLetters v) (mBys v) (mFirst v) (mCommand v) (mKnown v) (mLength v) (mLogLong v) (mAreSame v) (mAt v) (mIsWrong v) (mPosition v) (mReason v) (mCause v))] (fun u : Int32 × zM => some (.int u.1)) (fun u : Int32 × zM => [(wMx cI gv (mS (u.2)) (mAside (u.2)) (mBefore (u.2)) (mText (u.2)) (mLetters (u.2)) (mBys (u.2)) (mFirst (u.2)) (mCommand (u.2)) (mKnown (u.2)) (mLength (u.2)) (mLogLong (u.2)) (mAreSame (u.2)) (mAt (u.2)) (mIsWrong (u.2)) (mPosition (u.2)) (mReason (u.2)) (mCause (u.2)))]) (fun u : Int32 × zM => Q u.1 u.2) := by
  refine z_body [some (.ref (gv 0)), some (.int p1), none] (by decide +kernel) rfl (Nat.le_of_ble_eq_true rfl) rfl ?_
  intro p e s m args below meth c A C hin
  unfold wp_X7_send at hw
  refine z_aload_n C dX7_send_0 rfl ?_
  refine z_iload_n C dX7_send_1 rfl ?_
  refine z_callV0 C [(wMx cI gv (mS v) (mAside v) (mBefore v) (mText v) (mLetters v) (mBys v) (mFirst v) (mCommand v) (mKnown v) (mLength v) (mLogLong v) (mAreSame v) (mAt v) (mIsWrong v) (mPosition v) (mReason v) (mCause v))] [] rfl rfl (met_X7_sendFault l D cI gv v p1 _ hw) y_X7_sendFault mw_15_23 dX7_send_2 rfl n_X7_sendFault rfl (by decide) ⟨rfl, rfl, Nat.le_of_ble_eq_true rfl, Nat.le_of_ble_eq_true rfl⟩ (Nat.le_of_ble_eq_true rfl) (z_pm [0] 1 rfl (by decide) rfl) ?_
  intro ⟨r1, u2⟩ hw
  try dsimp only at hw
  refine z_bs [(wMx cI gv (mS u2) (mAside u2) (mBefore u2) (mText u2) (mLetters u2) (mBys u2) (mFirst u2) (mCommand u2) (mKnown u2) (mLength u2) (mLogLong u2) (mAreSame u2) (mAt u2) (mIsWrong u2) (mPosition u2) (mReason u2) (mCause u2))] [.int r1] rfl rfl ?_
  refine z_istore_n C dX7_send_5 [some (.ref (gv 0)), some (.int p1), some (.int r1)] (by decide) rfl ?_
  refine z_iload_n C dX7_send_6 rfl ?_
  refine z_if_ge C dX7_send_7 12 (by decide) (fun c3 => ?_) (fun c3 => ?_)
  · replace hw := hw.1 c3
    refine z_aload_n C dX7_send_12 rfl ?_
    refine z_callV0 C [(wMx cI gv (mS u2) (mAside u2) (mBefore u2) (mText u2) (mLetters u2) (mBys u2) (mFirst u2) (mCommand u2) (mKnown u2) (mLength u2) (mLogLong u2) (mAreSame u2) (mAt u2) (mIsWrong u2) (mPosition u2) (mReason u2) (mCause u2))] [] rfl rfl (met_X7_know l D cI gv u2 _ hw) y_X7_know mw_12_8 dX7_send_13 rfl n_X7_know rfl (by decide) ⟨rfl, rfl, Nat.le_of_ble_eq_true rfl, Nat.le_of_ble_eq_true rfl⟩ (Nat.le_of_ble_eq_true rfl) (z_pm [0] 1 rfl (by decide) rfl) ?_
    intro u4 hw
    try dsimp only at hw
    refine z_bs [(wMx cI gv (mS u4) (mAside u4) (mBefore u4) (mText u4) (mLetters u4) (mBys u4) (mFirst u4) (mCommand u4) (mKnown u4) (mLength u4) (mLogLong u4) (mAreSame u4) (mAt u4) (mIsWrong u4) (mPosition u4) (mReason u4) (mCause u4))] [] rfl rfl ?_
    refine z_aload_n C dX7_send_16 rfl ?_
    refine z_iload_n C dX7_send_17 rfl ?_
    refine z_callV0 C [(wMx cI gv (mS u4) (mAside u4) (mBefore u4) (mText u4) (mLetters u4) (mBys u4) (mFirst u4) (mCommand u4) (mKnown u4) (mLength u4) (mLogLong u4) (mAreSame u4) (mAt u4) (mIsWrong u4) (mPosition u4) (mReason u4) (mCause u4))] [] rfl rfl (met_X7_sends l D cI gv u4 p1 _ hw) y_X7_sends mw_16_7 dX7_send_18 rfl n_X7_sends rfl (by decide) ⟨rfl, rfl, Nat.le_of_ble_eq_true rfl, Nat.le_of_ble_eq_true rfl⟩ (Nat.le_of_ble_eq_true rfl) (z_pm [0] 1 rfl (by decide) rfl) ?_
    intro ⟨r5, u6⟩ hw
    try dsimp only at hw
    refine z_bs [(wMx cI gv (mS u6) (mAside u6) (mBefore u6) (mText u6) (mLetters u6) (mBys u6) (mFirst u6) (mCommand u6) (mKnown u6) (mLength u6) (mLogLong u6) (mAreSame u6) (mAt u6) (mIsWrong u6) (mPosition u6) (mReason u6) (mCause u6))] [.int r5] rfl rfl ?_
    exact z_iret C rfl (r5, u6) rfl hw rfl dX7_send_21
  · replace hw := hw.2 c3
    refine z_iload_n C dX7_send_10 rfl ?_
    exact z_iret C rfl (r1, u2) rfl hw rfl dX7_send_11
def rmX7_hear : Room := { frames := 4, cells := 0, slots := 0, locals := 97 }
def wp_X7_hear (v : zM) (p1 : Int32) (Q : Int32 → zM → Prop) : Prop := (wp_X7_hearFault v p1 (fun r1 u2 => ((0 ≤ r1 → (wp_X7_know u2 (fun u4 => (wp_X7_hears u4 p1 (fun r5 u6 => (Q r5 u6)))))) ∧ (¬ 0 ≤ r1 → (Q r1 u2)))))
set_option maxHeartbeats 4000000 in
set_option maxRecDepth 100000 in
theorem met_X7_hear (l : Launch) (D : va_G) (cI : ClassId) (gv : Nat → Nat) (v : zM) (p1 : Int32) (Q : Int32 → zM → Prop) (hw : wp_X7_hear v p1 Q) : ZM l D cI yX7_hear cX7_hear 3 (some .int) rmX7_hear [.ref (gv 0), .int p1] [(wMx cI gv (mS v) (mAside v) (mBefore v) (mText v) (mLetters v) (mBys v) (mFirst v) (mCommand v) (mKnown v) (mLength v) (mLogLong v) (mAreSame v) (mAt v) (mIsWrong v) (mPosition v) (mReason v) (mCause v))] (fun u : Int32 × zM => some (.int u.1)) (fun u : Int32 × zM => [(wMx cI gv (mS (u.2)) (mAside (u.2)) (mBefore (u.2)) (mText (u.2)) (mLetters (u.2)) (mBys (u.2)) (mFirst (u.2)) (mCommand (u.2)) (mKnown (u.2)) (mLength (u.2)) (mLogLong (u.2)) (mAreSame (u.2)) (mAt (u.2)) (mIsWrong (u.2)) (mPosition (u.2)) (mReason (u.2)) (mCause (u.2)))]) (fun u : Int32 × zM => Q u.1 u.2) := by
  refine z_body [some (.ref (gv 0)), some (.int p1), none] (by decide +kernel) rfl (Nat.le_of_ble_eq_true rfl) rfl ?_
  intro p e s m args below meth c A C hin
  unfold wp_X7_hear at hw
  refine z_aload_n C dX7_hear_0 rfl ?_
  refine z_iload_n C dX7_hear_1 rfl ?_
  refine z_callV0 C [(wMx cI gv (mS v) (mAside v) (mBefore v) (mText v) (mLetters v) (mBys v) (mFirst v) (mCommand v) (mKnown v) (mLength v) (mLogLong v) (mAreSame v) (mAt v) (mIsWrong v) (mPosition v) (mReason v) (mCause v))] [] rfl rfl (met_X7_hearFault l D cI gv v p1 _ hw) y_X7_hearFault mw_16_23 dX7_hear_2 rfl n_X7_hearFault rfl (by decide) ⟨rfl, rfl, Nat.le_of_ble_eq_true rfl, Nat.le_of_ble_eq_true rfl⟩ (Nat.le_of_ble_eq_true rfl) (z_pm [0] 1 rfl (by decide) rfl) ?_
  intro ⟨r1, u2⟩ hw
  try dsimp only at hw
  refine z_bs [(wMx cI gv (mS u2) (mAside u2) (mBefore u2) (mText u2) (mLetters u2) (mBys u2) (mFirst u2) (mCommand u2) (mKnown u2) (mLength u2) (mLogLong u2) (mAreSame u2) (mAt u2) (mIsWrong u2) (mPosition u2) (mReason u2) (mCause u2))] [.int r1] rfl rfl ?_
  refine z_istore_n C dX7_hear_5 [some (.ref (gv 0)), some (.int p1), some (.int r1)] (by decide) rfl ?_
  refine z_iload_n C dX7_hear_6 rfl ?_
  refine z_if_ge C dX7_hear_7 12 (by decide) (fun c3 => ?_) (fun c3 => ?_)
  · replace hw := hw.1 c3
    refine z_aload_n C dX7_hear_12 rfl ?_
    refine z_callV0 C [(wMx cI gv (mS u2) (mAside u2) (mBefore u2) (mText u2) (mLetters u2) (mBys u2) (mFirst u2) (mCommand u2) (mKnown u2) (mLength u2) (mLogLong u2) (mAreSame u2) (mAt u2) (mIsWrong u2) (mPosition u2) (mReason u2) (mCause u2))] [] rfl rfl (met_X7_know l D cI gv u2 _ hw) y_X7_know mw_12_8 dX7_hear_13 rfl n_X7_know rfl (by decide) ⟨rfl, rfl, Nat.le_of_ble_eq_true rfl, Nat.le_of_ble_eq_true rfl⟩ (Nat.le_of_ble_eq_true rfl) (z_pm [0] 1 rfl (by decide) rfl) ?_
    intro u4 hw
    try dsimp only at hw
    refine z_bs [(wMx cI gv (mS u4) (mAside u4) (mBefore u4) (mText u4) (mLetters u4) (mBys u4) (mFirst u4) (mCommand u4) (mKnown u4) (mLength u4) (mLogLong u4) (mAreSame u4) (mAt u4) (mIsWrong u4) (mPosition u4) (mReason u4) (mCause u4))] [] rfl rfl ?_
    refine z_aload_n C dX7_hear_16 rfl ?_
    refine z_iload_n C dX7_hear_17 rfl ?_
    refine z_callV0 C [(wMx cI gv (mS u4) (mAside u4) (mBefore u4) (mText u4) (mLetters u4) (mBys u4) (mFirst u4) (mCommand u4) (mKnown u4) (mLength u4) (mLogLong u4) (mAreSame u4) (mAt u4) (mIsWrong u4) (mPosition u4) (mReason u4) (mCause u4))] [] rfl rfl (met_X7_hears l D cI gv u4 p1 _ hw) y_X7_hears mw_17_3 dX7_hear_18 rfl n_X7_hears rfl (by decide) ⟨rfl, rfl, Nat.le_of_ble_eq_true rfl, Nat.le_of_ble_eq_true rfl⟩ (Nat.le_of_ble_eq_true rfl) (z_pm [0] 1 rfl (by decide) rfl) ?_
    intro ⟨r5, u6⟩ hw
    try dsimp only at hw
    refine z_bs [(wMx cI gv (mS u6) (mAside u6) (mBefore u6) (mText u6) (mLetters u6) (mBys u6) (mFirst u6) (mCommand u6) (mKnown u6) (mLength u6) (mLogLong u6) (mAreSame u6) (mAt u6) (mIsWrong u6) (mPosition u6) (mReason u6) (mCause u6))] [.int r5] rfl rfl ?_
    exact z_iret C rfl (r5, u6) rfl hw rfl dX7_hear_21
  · replace hw := hw.2 c3
    refine z_iload_n C dX7_hear_10 rfl ?_
    exact z_iret C rfl (r1, u2) rfl hw rfl dX7_hear_11
def rmX7_hearAll : Room := { frames := 5, cells := 0, slots := 0, locals := 120 }
def wp_X7_hearAll (v : zM) (p1 : Int32) (Q : Int32 → zM → Prop) : Prop := (wp_X7_hearFault v p1 (fun r1 u2 => ((0 ≤ r1 → (wp_X7_know u2 (fun u4 => (wp_X7_hearsAll u4 p1 (fun r5 u6 => (Q r5 u6)))))) ∧ (¬ 0 ≤ r1 → (Q r1 u2)))))
set_option maxHeartbeats 4000000 in
set_option maxRecDepth 100000 in
theorem met_X7_hearAll (l : Launch) (D : va_G) (cI : ClassId) (gv : Nat → Nat) (v : zM) (p1 : Int32) (Q : Int32 → zM → Prop) (hw : wp_X7_hearAll v p1 Q) : ZM l D cI yX7_hearAll cX7_hearAll 3 (some .int) rmX7_hearAll [.ref (gv 0), .int p1] [(wMx cI gv (mS v) (mAside v) (mBefore v) (mText v) (mLetters v) (mBys v) (mFirst v) (mCommand v) (mKnown v) (mLength v) (mLogLong v) (mAreSame v) (mAt v) (mIsWrong v) (mPosition v) (mReason v) (mCause v))] (fun u : Int32 × zM => some (.int u.1)) (fun u : Int32 × zM => [(wMx cI gv (mS (u.2)) (mAside (u.2)) (mBefore (u.2)) (mText (u.2)) (mLetters (u.2)) (mBys (u.2)) (mFirst (u.2)) (mCommand (u.2)) (mKnown (u.2)) (mLength (u.2)) (mLogLong (u.2)) (mAreSame (u.2)) (mAt (u.2)) (mIsWrong (u.2)) (mPosition (u.2)) (mReason (u.2)) (mCause (u.2)))]) (fun u : Int32 × zM => Q u.1 u.2) := by
  refine z_body [some (.ref (gv 0)), some (.int p1), none] (by decide +kernel) rfl (Nat.le_of_ble_eq_true rfl) rfl ?_
  intro p e s m args below meth c A C hin
  unfold wp_X7_hearAll at hw
  refine z_aload_n C dX7_hearAll_0 rfl ?_
  refine z_iload_n C dX7_hearAll_1 rfl ?_
  refine z_callV0 C [(wMx cI gv (mS v) (mAside v) (mBefore v) (mText v) (mLetters v) (mBys v) (mFirst v) (mCommand v) (mKnown v) (mLength v) (mLogLong v) (mAreSame v) (mAt v) (mIsWrong v) (mPosition v) (mReason v) (mCause v))] [] rfl rfl (met_X7_hearFault l D cI gv v p1 _ hw) y_X7_hearFault mw_16_23 dX7_hearAll_2 rfl n_X7_hearFault rfl (by decide) ⟨rfl, rfl, Nat.le_of_ble_eq_true rfl, Nat.le_of_ble_eq_true rfl⟩ (Nat.le_of_ble_eq_true rfl) (z_pm [0] 1 rfl (by decide) rfl) ?_
  intro ⟨r1, u2⟩ hw
  try dsimp only at hw
  refine z_bs [(wMx cI gv (mS u2) (mAside u2) (mBefore u2) (mText u2) (mLetters u2) (mBys u2) (mFirst u2) (mCommand u2) (mKnown u2) (mLength u2) (mLogLong u2) (mAreSame u2) (mAt u2) (mIsWrong u2) (mPosition u2) (mReason u2) (mCause u2))] [.int r1] rfl rfl ?_
  refine z_istore_n C dX7_hearAll_5 [some (.ref (gv 0)), some (.int p1), some (.int r1)] (by decide) rfl ?_
  refine z_iload_n C dX7_hearAll_6 rfl ?_
  refine z_if_ge C dX7_hearAll_7 12 (by decide) (fun c3 => ?_) (fun c3 => ?_)
  · replace hw := hw.1 c3
    refine z_aload_n C dX7_hearAll_12 rfl ?_
    refine z_callV0 C [(wMx cI gv (mS u2) (mAside u2) (mBefore u2) (mText u2) (mLetters u2) (mBys u2) (mFirst u2) (mCommand u2) (mKnown u2) (mLength u2) (mLogLong u2) (mAreSame u2) (mAt u2) (mIsWrong u2) (mPosition u2) (mReason u2) (mCause u2))] [] rfl rfl (met_X7_know l D cI gv u2 _ hw) y_X7_know mw_12_8 dX7_hearAll_13 rfl n_X7_know rfl (by decide) ⟨rfl, rfl, Nat.le_of_ble_eq_true rfl, Nat.le_of_ble_eq_true rfl⟩ (Nat.le_of_ble_eq_true rfl) (z_pm [0] 1 rfl (by decide) rfl) ?_
    intro u4 hw
    try dsimp only at hw
    refine z_bs [(wMx cI gv (mS u4) (mAside u4) (mBefore u4) (mText u4) (mLetters u4) (mBys u4) (mFirst u4) (mCommand u4) (mKnown u4) (mLength u4) (mLogLong u4) (mAreSame u4) (mAt u4) (mIsWrong u4) (mPosition u4) (mReason u4) (mCause u4))] [] rfl rfl ?_
    refine z_aload_n C dX7_hearAll_16 rfl ?_
    refine z_iload_n C dX7_hearAll_17 rfl ?_
    refine z_callV0 C [(wMx cI gv (mS u4) (mAside u4) (mBefore u4) (mText u4) (mLetters u4) (mBys u4) (mFirst u4) (mCommand u4) (mKnown u4) (mLength u4) (mLogLong u4) (mAreSame u4) (mAt u4) (mIsWrong u4) (mPosition u4) (mReason u4) (mCause u4))] [] rfl rfl (met_X7_hearsAll l D cI gv u4 p1 _ hw) y_X7_hearsAll mw_17_15 dX7_hearAll_18 rfl n_X7_hearsAll rfl (by decide) ⟨rfl, rfl, Nat.le_of_ble_eq_true rfl, Nat.le_of_ble_eq_true rfl⟩ (Nat.le_of_ble_eq_true rfl) (z_pm [0] 1 rfl (by decide) rfl) ?_
    intro ⟨r5, u6⟩ hw
    try dsimp only at hw
    refine z_bs [(wMx cI gv (mS u6) (mAside u6) (mBefore u6) (mText u6) (mLetters u6) (mBys u6) (mFirst u6) (mCommand u6) (mKnown u6) (mLength u6) (mLogLong u6) (mAreSame u6) (mAt u6) (mIsWrong u6) (mPosition u6) (mReason u6) (mCause u6))] [.int r5] rfl rfl ?_
    exact z_iret C rfl (r5, u6) rfl hw rfl dX7_hearAll_21
  · replace hw := hw.2 c3
    refine z_iload_n C dX7_hearAll_10 rfl ?_
    exact z_iret C rfl (r1, u2) rfl hw rfl dX7_hearAll_11
def rmX7_clear : Room := { frames := 1, cells := 0, slots := 0, locals := 21 }
def lb_X7_clear_13 (v : zM) (v1 : Int32)  (Q : Int32 → zM → Prop)  (K13 : (Int32) → (zM) → Prop) (v2 : Int32) (w0 : zM) : Prop := ((445 ≤ v2 → (Q v1 w0)) ∧ (¬ 445 ≤ v2 → (vp_in v2 445 ∧ (K13 (v2 + 1) (mSetS w0 (upd (mS w0) v2.toNatClampNeg 0))))))
set_option maxHeartbeats 4000000 in
set_option maxRecDepth 100000 in
theorem wk_X7_clear_13 {p : Program} {l : Launch} {e : Env} {s : State} {m : MethodId} {args : Array Value} {below : List Frame} {meth : Method} {c : Code} {D : va_G} {cI : ClassId} {A : Nat → Prop} (C : ZC p s m args meth c RX7 cX7_clear 3 (some .int) D cI A) (gv : Nat → Nat) (v : zM) (v1 : Int32)  (v2 : Int32) (w0 : zM) (Q : Int32 → zM → Prop)  (hw : zLoop2 (lb_X7_clear_13 v v1  Q ) v2 w0) : ZZ p l e rmX7_clear s m args below meth c D A 3 0 0 (MQ below (ZQ D A (fun u : Int32 × zM => some (.int u.1)) (fun u : Int32 × zM => [(wMx cI gv (mS (u.2)) (mAside (u.2)) (mBefore (u.2)) (mText (u.2)) (mLetters (u.2)) (mBys (u.2)) (mFirst (u.2)) (mCommand (u.2)) (mKnown (u.2)) (mLength (u.2)) (mLogLong (u.2)) (mAreSame (u.2)) (mAt (u.2)) (mIsWrong (u.2)) (mPosition (u.2)) (mReason (u.2)) (mCause (u.2)))]) (fun u : Int32 × zM => Q u.1 u.2)) args s rmX7_clear.cells rmX7_clear.slots A) [(wMx cI gv (mS w0) (mAside w0) (mBefore w0) (mText w0) (mLetters w0) (mBys w0) (mFirst w0) (mCommand w0) (mKnown w0) (mLength w0) (mLogLong w0) (mAreSame w0) (mAt w0) (mIsWrong w0) (mPosition w0) (mReason w0) (mCause w0))] 13 [some (.ref (gv 0)), some (.int v1), some (.int v2)] [] := by
  refine zLoop2_w (fun (v2 : Int32) (w0 : zM) => ZZ p l e rmX7_clear s m args below meth c D A 3 0 0 (MQ below (ZQ D A (fun u : Int32 × zM => some (.int u.1)) (fun u : Int32 × zM => [(wMx cI gv (mS (u.2)) (mAside (u.2)) (mBefore (u.2)) (mText (u.2)) (mLetters (u.2)) (mBys (u.2)) (mFirst (u.2)) (mCommand (u.2)) (mKnown (u.2)) (mLength (u.2)) (mLogLong (u.2)) (mAreSame (u.2)) (mAt (u.2)) (mIsWrong (u.2)) (mPosition (u.2)) (mReason (u.2)) (mCause (u.2)))]) (fun u : Int32 × zM => Q u.1 u.2)) args s rmX7_clear.cells rmX7_clear.slots A) [(wMx cI gv (mS w0) (mAside w0) (mBefore w0) (mText w0) (mLetters w0) (mBys w0) (mFirst w0) (mCommand w0) (mKnown w0) (mLength w0) (mLogLong w0) (mAreSame w0) (mAt w0) (mIsWrong w0) (mPosition w0) (mReason w0) (mCause w0))] 13 [some (.ref (gv 0)), some (.int v1), some (.int v2)] []) ?_ _ _ hw
  clear hw
  intro K13 hK13 v2 w0 hw
  unfold lb_X7_clear_13 at hw
  refine z_iload_n C dX7_clear_13 rfl ?_
  refine z_sipush C dX7_clear_14 445 (by decide +kernel) ?_
  refine z_icmp_ge C dX7_clear_17 33 (by decide) (fun c3 => ?_) (fun c3 => ?_)
  · replace hw := hw.1 c3
    refine z_iload_n C dX7_clear_33 rfl ?_
    exact z_iret C rfl (v1, w0) rfl hw rfl dX7_clear_34
  · replace hw := hw.2 c3
    refine z_aload_n C dX7_clear_20 rfl ?_
    refine z_get C inlX7 rfl 0 (by decide) mw_4_15 dX7_clear_21 0 0 rfl rfl rfl ?_
    refine z_iload_n C dX7_clear_24 rfl ?_
    refine z_iconst C dX7_clear_25 0 (by decide +kernel) ?_
    refine z_iast C dX7_clear_26 0 1 rfl rfl hw.1 [(wMx cI gv (upd (mS w0) v2.toNatClampNeg 0) (mAside w0) (mBefore w0) (mText w0) (mLetters w0) (mBys w0) (mFirst w0) (mCommand w0) (mKnown w0) (mLength w0) (mLogLong w0) (mAreSame w0) (mAt w0) (mIsWrong w0) (mPosition w0) (mReason w0) (mCause w0))] rfl ?_
    replace hw := hw.2
    refine z_iinc C dX7_clear_27 rfl (v2 + 1) (by rfl) [some (.ref (gv 0)), some (.int v1), some (.int (v2 + 1))] (by decide) rfl ?_
    refine z_goto C dX7_clear_30 13 (by decide) ?_
    exact hK13 _ _ hw
def wp_X7_clear (v : zM)  (Q : Int32 → zM → Prop) : Prop := (wp_X7_know v (fun u1 => (vp_in 0 445 ∧ (∀ x2 : Int32, x2 = ((mS u1) (0 : Int32).toNatClampNeg) → (zLoop2 (lb_X7_clear_13 v x2  Q ) 0 u1)))))
set_option maxHeartbeats 4000000 in
set_option maxRecDepth 100000 in
theorem met_X7_clear (l : Launch) (D : va_G) (cI : ClassId) (gv : Nat → Nat) (v : zM)  (Q : Int32 → zM → Prop) (hw : wp_X7_clear v Q) : ZM l D cI yX7_clear cX7_clear 3 (some .int) rmX7_clear [.ref (gv 0)] [(wMx cI gv (mS v) (mAside v) (mBefore v) (mText v) (mLetters v) (mBys v) (mFirst v) (mCommand v) (mKnown v) (mLength v) (mLogLong v) (mAreSame v) (mAt v) (mIsWrong v) (mPosition v) (mReason v) (mCause v))] (fun u : Int32 × zM => some (.int u.1)) (fun u : Int32 × zM => [(wMx cI gv (mS (u.2)) (mAside (u.2)) (mBefore (u.2)) (mText (u.2)) (mLetters (u.2)) (mBys (u.2)) (mFirst (u.2)) (mCommand (u.2)) (mKnown (u.2)) (mLength (u.2)) (mLogLong (u.2)) (mAreSame (u.2)) (mAt (u.2)) (mIsWrong (u.2)) (mPosition (u.2)) (mReason (u.2)) (mCause (u.2)))]) (fun u : Int32 × zM => Q u.1 u.2) := by
  refine z_body [some (.ref (gv 0)), none, none] (by decide +kernel) rfl (Nat.le_of_ble_eq_true rfl) rfl ?_
  intro p e s m args below meth c A C hin
  unfold wp_X7_clear at hw
  refine z_aload_n C dX7_clear_0 rfl ?_
  refine z_callV0 C [(wMx cI gv (mS v) (mAside v) (mBefore v) (mText v) (mLetters v) (mBys v) (mFirst v) (mCommand v) (mKnown v) (mLength v) (mLogLong v) (mAreSame v) (mAt v) (mIsWrong v) (mPosition v) (mReason v) (mCause v))] [] rfl rfl (met_X7_know l D cI gv v _ hw) y_X7_know mw_12_8 dX7_clear_1 rfl n_X7_know rfl (by decide) ⟨rfl, rfl, Nat.le_of_ble_eq_true rfl, Nat.le_of_ble_eq_true rfl⟩ (Nat.le_of_ble_eq_true rfl) (z_pm [0] 1 rfl (by decide) rfl) ?_
  intro u1 hw
  try dsimp only at hw
  refine z_bs [(wMx cI gv (mS u1) (mAside u1) (mBefore u1) (mText u1) (mLetters u1) (mBys u1) (mFirst u1) (mCommand u1) (mKnown u1) (mLength u1) (mLogLong u1) (mAreSame u1) (mAt u1) (mIsWrong u1) (mPosition u1) (mReason u1) (mCause u1))] [] rfl rfl ?_
  refine z_aload_n C dX7_clear_4 rfl ?_
  refine z_get C inlX7 rfl 0 (by decide) mw_4_15 dX7_clear_5 0 0 rfl rfl rfl ?_
  refine z_iconst C dX7_clear_8 0 (by decide +kernel) ?_
  refine z_iald C dX7_clear_9 0 1 rfl rfl hw.1 ?_
  replace hw := hw.2
  refine z_name C (fun x2 ex2 => ?_)
  replace hw := hw x2 ex2
  refine z_istore_n C dX7_clear_10 [some (.ref (gv 0)), some (.int x2), none] (by decide) rfl ?_
  refine z_iconst C dX7_clear_11 0 (by decide +kernel) ?_
  refine z_istore_n C dX7_clear_12 [some (.ref (gv 0)), some (.int x2), some (.int 0)] (by decide) rfl ?_
  exact wk_X7_clear_13 C gv v x2  0 u1 _  hw
def rmX7_lay : Room := { frames := 1, cells := 0, slots := 0, locals := 20 }
def lb_X7_lay_133 (v : zM) (v1 : Int32) (w0LogLong : Int32)  (Q : zM → Prop) (K7 : (Int32) → (Nat → Int32) → (Nat → Int32) → (Int32) → Prop) (K133 : (Int32) → (Nat → Int32) → (Nat → Int32) → Prop) (v4 : Int32) (w0Letters : Nat → Int32) (w0Bys : Nat → Int32) : Prop := (((w0LogLong - 1) ≤ v4 → (K7 (v1 + 1) w0Letters w0Bys (w0LogLong - 1))) ∧ (¬ (w0LogLong - 1) ≤ v4 → (vp_in (v4 + 1) 96 ∧ (vp_in v4 96 ∧ (vp_in (v4 + 1) 96 ∧ (vp_in v4 96 ∧ (K133 (v4 + 1) (upd w0Letters v4.toNatClampNeg (w0Letters (v4 + 1).toNatClampNeg)) (upd w0Bys v4.toNatClampNeg (w0Bys (v4 + 1).toNatClampNeg)))))))))
set_option maxHeartbeats 4000000 in
set_option maxRecDepth 100000 in
theorem wk_X7_lay_133 {p : Program} {l : Launch} {e : Env} {s : State} {m : MethodId} {args : Array Value} {below : List Frame} {meth : Method} {c : Code} {D : va_G} {cI : ClassId} {A : Nat → Prop} (C : ZC p s m args meth c RX7 cX7_lay 5 none D cI A) (gv : Nat → Nat) (v : zM) (v1 : Int32) (w0LogLong : Int32)  (v4 : Int32) (w0Letters : Nat → Int32) (w0Bys : Nat → Int32) (Q : zM → Prop) (K7 : (Int32) → (Nat → Int32) → (Nat → Int32) → (Int32) → Prop) (hK7 : ∀ (v1 : Int32) (w0Letters : Nat → Int32) (w0Bys : Nat → Int32) (w0LogLong : Int32), K7 v1 w0Letters w0Bys w0LogLong → ZZ p l e rmX7_lay s m args below meth c D A 5 0 0 (MQ below (ZQ D A (fun _ : zM => none) (fun u : zM => [(wMx cI gv (mS u) (mAside u) (mBefore u) (mText u) (mLetters u) (mBys u) (mFirst u) (mCommand u) (mKnown u) (mLength u) (mLogLong u) (mAreSame u) (mAt u) (mIsWrong u) (mPosition u) (mReason u) (mCause u))]) (fun u : zM => Q u)) args s rmX7_lay.cells rmX7_lay.slots A) [(wMx cI gv (mS v) (mAside v) (mBefore v) (mText v) w0Letters w0Bys (mFirst v) (mCommand v) (mKnown v) (mLength v) w0LogLong (mAreSame v) (mAt v) (mIsWrong v) (mPosition v) (mReason v) (mCause v))] 7 [some (.ref (gv 0)), some (.int v1), none, none, none] []) (hw : zLoop3 (lb_X7_lay_133 v v1 w0LogLong  Q K7) v4 w0Letters w0Bys) : ZZ p l e rmX7_lay s m args below meth c D A 5 0 0 (MQ below (ZQ D A (fun _ : zM => none) (fun u : zM => [(wMx cI gv (mS u) (mAside u) (mBefore u) (mText u) (mLetters u) (mBys u) (mFirst u) (mCommand u) (mKnown u) (mLength u) (mLogLong u) (mAreSame u) (mAt u) (mIsWrong u) (mPosition u) (mReason u) (mCause u))]) (fun u : zM => Q u)) args s rmX7_lay.cells rmX7_lay.slots A) [(wMx cI gv (mS v) (mAside v) (mBefore v) (mText v) w0Letters w0Bys (mFirst v) (mCommand v) (mKnown v) (mLength v) w0LogLong (mAreSame v) (mAt v) (mIsWrong v) (mPosition v) (mReason v) (mCause v))] 133 [some (.ref (gv 0)), some (.int v1), none, none, some (.int v4)] [] := by
  refine zLoop3_w (fun (v4 : Int32) (w0Letters : Nat → Int32) (w0Bys : Nat → Int32) => ZZ p l e rmX7_lay s m args below meth c D A 5 0 0 (MQ below (ZQ D A (fun _ : zM => none) (fun u : zM => [(wMx cI gv (mS u) (mAside u) (mBefore u) (mText u) (mLetters u) (mBys u) (mFirst u) (mCommand u) (mKnown u) (mLength u) (mLogLong u) (mAreSame u) (mAt u) (mIsWrong u) (mPosition u) (mReason u) (mCause u))]) (fun u : zM => Q u)) args s rmX7_lay.cells rmX7_lay.slots A) [(wMx cI gv (mS v) (mAside v) (mBefore v) (mText v) w0Letters w0Bys (mFirst v) (mCommand v) (mKnown v) (mLength v) w0LogLong (mAreSame v) (mAt v) (mIsWrong v) (mPosition v) (mReason v) (mCause v))] 133 [some (.ref (gv 0)), some (.int v1), none, none, some (.int v4)] []) ?_ _ _ _ hw
  clear hw
  intro K133 hK133 v4 w0Letters w0Bys hw
  unfold lb_X7_lay_133 at hw
  refine z_iload C dX7_lay_133 rfl ?_
  refine z_aload_n C dX7_lay_135 rfl ?_
  refine z_get C inlX7 rfl 8 (by decide) mw_19_4 dX7_lay_136 0 0 rfl rfl rfl ?_
  refine z_iconst C dX7_lay_139 1 (by decide +kernel) ?_
  refine z_isub C dX7_lay_140 ?_
  refine z_icmp_ge C dX7_lay_141 182 (by decide) (fun c6 => ?_) (fun c6 => ?_)
  · replace hw := hw.1 c6
    refine z_aload_n C dX7_lay_182 rfl ?_
    refine z_dup C dX7_lay_183 rfl ?_
    refine z_get C inlX7 rfl 8 (by decide) mw_19_4 dX7_lay_184 0 0 rfl rfl rfl ?_
    refine z_iconst C dX7_lay_187 1 (by decide +kernel) ?_
    refine z_isub C dX7_lay_188 ?_
    refine z_put C inlX7 rfl tyX7 tyX7_ok nmX7 8 (by decide) mw_19_4 rfl rfl rfl rfl dX7_lay_189 0 0 rfl rfl (Nat.le_of_ble_eq_true rfl) [(wMx cI gv (mS v) (mAside v) (mBefore v) (mText v) w0Letters w0Bys (mFirst v) (mCommand v) (mKnown v) (mLength v) (w0LogLong - 1) (mAreSame v) (mAt v) (mIsWrong v) (mPosition v) (mReason v) (mCause v))] rfl ?_
    refine z_iinc C dX7_lay_192 rfl (v1 + 1) (by rfl) [some (.ref (gv 0)), some (.int (v1 + 1)), none, none, some (.int v4)] (by decide) rfl ?_
    refine z_goto C dX7_lay_195 7 (by decide) ?_
    refine z_ls C [true, true, false, false, false] [some (.ref (gv 0)), some (.int (v1 + 1)), none, none, none] rfl ?_
    exact hK7 _ _ _ _ hw
  · replace hw := hw.2 c6
    refine z_aload_n C dX7_lay_144 rfl ?_
    refine z_get C inlX7 rfl 6 (by decide) mw_4_19 dX7_lay_145 0 0 rfl rfl rfl ?_
    refine z_iload C dX7_lay_148 rfl ?_
    refine z_aload_n C dX7_lay_150 rfl ?_
    refine z_get C inlX7 rfl 6 (by decide) mw_4_19 dX7_lay_151 0 0 rfl rfl rfl ?_
    refine z_iload C dX7_lay_154 rfl ?_
    refine z_iconst C dX7_lay_156 1 (by decide +kernel) ?_
    refine z_iadd C dX7_lay_157 ?_
    refine z_iald C dX7_lay_158 0 5 rfl rfl hw.1 ?_
    replace hw := hw.2
    refine z_iast C dX7_lay_159 0 5 rfl rfl hw.1 [(wMx cI gv (mS v) (mAside v) (mBefore v) (mText v) (upd w0Letters v4.toNatClampNeg (w0Letters (v4 + 1).toNatClampNeg)) w0Bys (mFirst v) (mCommand v) (mKnown v) (mLength v) w0LogLong (mAreSame v) (mAt v) (mIsWrong v) (mPosition v) (mReason v) (mCause v))] rfl ?_
    replace hw := hw.2
    refine z_aload_n C dX7_lay_160 rfl ?_
    refine z_get C inlX7 rfl 7 (by decide) mw_4_20 dX7_lay_161 0 0 rfl rfl rfl ?_
    refine z_iload C dX7_lay_164 rfl ?_
    refine z_aload_n C dX7_lay_166 rfl ?_
    refine z_get C inlX7 rfl 7 (by decide) mw_4_20 dX7_lay_167 0 0 rfl rfl rfl ?_
    refine z_iload C dX7_lay_170 rfl ?_
    refine z_iconst C dX7_lay_172 1 (by decide +kernel) ?_
    refine z_iadd C dX7_lay_173 ?_
    refine z_iald C dX7_lay_174 0 6 rfl rfl hw.1 ?_
    replace hw := hw.2
    refine z_iast C dX7_lay_175 0 6 rfl rfl hw.1 [(wMx cI gv (mS v) (mAside v) (mBefore v) (mText v) (upd w0Letters v4.toNatClampNeg (w0Letters (v4 + 1).toNatClampNeg)) (upd w0Bys v4.toNatClampNeg (w0Bys (v4 + 1).toNatClampNeg)) (mFirst v) (mCommand v) (mKnown v) (mLength v) w0LogLong (mAreSame v) (mAt v) (mIsWrong v) (mPosition v) (mReason v) (mCause v))] rfl ?_
    replace hw := hw.2
    refine z_iinc C dX7_lay_176 rfl (v4 + 1) (by rfl) [some (.ref (gv 0)), some (.int v1), none, none, some (.int (v4 + 1))] (by decide) rfl ?_
    refine z_goto C dX7_lay_179 133 (by decide) ?_
    exact hK133 _ _ _ hw
def lb_X7_lay_45 (v : zM) (v1 : Int32) (v2 : Int32) (v3 : Int32) (w0LogLong : Int32)  (Q : zM → Prop) (K7 : (Int32) → (Nat → Int32) → (Nat → Int32) → (Int32) → Prop) (K45 : (Int32) → (Nat → Int32) → (Nat → Int32) → Prop) (v4 : Int32) (w0Letters : Nat → Int32) (w0Bys : Nat → Int32) : Prop := ((v4 ≤ v3 → (vp_in v3 96 ∧ (vp_in v3 96 ∧ (K7 (v1 + 1) (upd w0Letters v3.toNatClampNeg (f_X7_letterOf v2)) (upd w0Bys v3.toNatClampNeg (f_X7_editorBy v2)) (w0LogLong + 1))))) ∧ (¬ v4 ≤ v3 → (vp_in (v4 - 1) 96 ∧ (vp_in v4 96 ∧ (vp_in (v4 - 1) 96 ∧ (vp_in v4 96 ∧ (K45 (v4 + (-1)) (upd w0Letters v4.toNatClampNeg (w0Letters (v4 - 1).toNatClampNeg)) (upd w0Bys v4.toNatClampNeg (w0Bys (v4 - 1).toNatClampNeg)))))))))
set_option maxHeartbeats 4000000 in
set_option maxRecDepth 100000 in
theorem wk_X7_lay_45 {p : Program} {l : Launch} {e : Env} {s : State} {m : MethodId} {args : Array Value} {below : List Frame} {meth : Method} {c : Code} {D : va_G} {cI : ClassId} {A : Nat → Prop} (C : ZC p s m args meth c RX7 cX7_lay 5 none D cI A) (gv : Nat → Nat) (v : zM) (v1 : Int32) (v2 : Int32) (v3 : Int32) (w0LogLong : Int32)  (v4 : Int32) (w0Letters : Nat → Int32) (w0Bys : Nat → Int32) (Q : zM → Prop) (K7 : (Int32) → (Nat → Int32) → (Nat → Int32) → (Int32) → Prop) (hK7 : ∀ (v1 : Int32) (w0Letters : Nat → Int32) (w0Bys : Nat → Int32) (w0LogLong : Int32), K7 v1 w0Letters w0Bys w0LogLong → ZZ p l e rmX7_lay s m args below meth c D A 5 0 0 (MQ below (ZQ D A (fun _ : zM => none) (fun u : zM => [(wMx cI gv (mS u) (mAside u) (mBefore u) (mText u) (mLetters u) (mBys u) (mFirst u) (mCommand u) (mKnown u) (mLength u) (mLogLong u) (mAreSame u) (mAt u) (mIsWrong u) (mPosition u) (mReason u) (mCause u))]) (fun u : zM => Q u)) args s rmX7_lay.cells rmX7_lay.slots A) [(wMx cI gv (mS v) (mAside v) (mBefore v) (mText v) w0Letters w0Bys (mFirst v) (mCommand v) (mKnown v) (mLength v) w0LogLong (mAreSame v) (mAt v) (mIsWrong v) (mPosition v) (mReason v) (mCause v))] 7 [some (.ref (gv 0)), some (.int v1), none, none, none] []) (hw : zLoop3 (lb_X7_lay_45 v v1 v2 v3 w0LogLong  Q K7) v4 w0Letters w0Bys) : ZZ p l e rmX7_lay s m args below meth c D A 5 0 0 (MQ below (ZQ D A (fun _ : zM => none) (fun u : zM => [(wMx cI gv (mS u) (mAside u) (mBefore u) (mText u) (mLetters u) (mBys u) (mFirst u) (mCommand u) (mKnown u) (mLength u) (mLogLong u) (mAreSame u) (mAt u) (mIsWrong u) (mPosition u) (mReason u) (mCause u))]) (fun u : zM => Q u)) args s rmX7_lay.cells rmX7_lay.slots A) [(wMx cI gv (mS v) (mAside v) (mBefore v) (mText v) w0Letters w0Bys (mFirst v) (mCommand v) (mKnown v) (mLength v) w0LogLong (mAreSame v) (mAt v) (mIsWrong v) (mPosition v) (mReason v) (mCause v))] 45 [some (.ref (gv 0)), some (.int v1), some (.int v2), some (.int v3), some (.int v4)] [] := by
  refine zLoop3_w (fun (v4 : Int32) (w0Letters : Nat → Int32) (w0Bys : Nat → Int32) => ZZ p l e rmX7_lay s m args below meth c D A 5 0 0 (MQ below (ZQ D A (fun _ : zM => none) (fun u : zM => [(wMx cI gv (mS u) (mAside u) (mBefore u) (mText u) (mLetters u) (mBys u) (mFirst u) (mCommand u) (mKnown u) (mLength u) (mLogLong u) (mAreSame u) (mAt u) (mIsWrong u) (mPosition u) (mReason u) (mCause u))]) (fun u : zM => Q u)) args s rmX7_lay.cells rmX7_lay.slots A) [(wMx cI gv (mS v) (mAside v) (mBefore v) (mText v) w0Letters w0Bys (mFirst v) (mCommand v) (mKnown v) (mLength v) w0LogLong (mAreSame v) (mAt v) (mIsWrong v) (mPosition v) (mReason v) (mCause v))] 45 [some (.ref (gv 0)), some (.int v1), some (.int v2), some (.int v3), some (.int v4)] []) ?_ _ _ _ hw
  clear hw
  intro K45 hK45 v4 w0Letters w0Bys hw
  unfold lb_X7_lay_45 at hw
  refine z_iload C dX7_lay_45 rfl ?_
  refine z_iload_n C dX7_lay_47 rfl ?_
  refine z_icmp_le C dX7_lay_48 89 (by decide) (fun c7 => ?_) (fun c7 => ?_)
  · replace hw := hw.1 c7
    refine z_aload_n C dX7_lay_89 rfl ?_
    refine z_get C inlX7 rfl 6 (by decide) mw_4_19 dX7_lay_90 0 0 rfl rfl rfl ?_
    refine z_iload_n C dX7_lay_93 rfl ?_
    refine z_iload_n C dX7_lay_94 rfl ?_
    refine z_callFS C [] [(wMx cI gv (mS v) (mAside v) (mBefore v) (mText v) w0Letters w0Bys (mFirst v) (mCommand v) (mKnown v) (mLength v) w0LogLong (mAreSame v) (mAt v) (mIsWrong v) (mPosition v) (mReason v) (mCause v))] (met_X7_letterOf l D cI v2) y_X7_letterOf mw_13_10 dX7_lay_95 rfl n_X7_letterOf rfl (by decide) ⟨rfl, rfl, Nat.le_of_ble_eq_true rfl, Nat.le_of_ble_eq_true rfl⟩ (Nat.le_of_ble_eq_true rfl) (z_pm [0] 1 rfl (by decide) rfl) ?_
    refine z_iast C dX7_lay_98 0 5 rfl rfl hw.1 [(wMx cI gv (mS v) (mAside v) (mBefore v) (mText v) (upd w0Letters v3.toNatClampNeg (f_X7_letterOf v2)) w0Bys (mFirst v) (mCommand v) (mKnown v) (mLength v) w0LogLong (mAreSame v) (mAt v) (mIsWrong v) (mPosition v) (mReason v) (mCause v))] rfl ?_
    replace hw := hw.2
    refine z_aload_n C dX7_lay_99 rfl ?_
    refine z_get C inlX7 rfl 7 (by decide) mw_4_20 dX7_lay_100 0 0 rfl rfl rfl ?_
    refine z_iload_n C dX7_lay_103 rfl ?_
    refine z_iload_n C dX7_lay_104 rfl ?_
    refine z_callFS C [] [(wMx cI gv (mS v) (mAside v) (mBefore v) (mText v) (upd w0Letters v3.toNatClampNeg (f_X7_letterOf v2)) w0Bys (mFirst v) (mCommand v) (mKnown v) (mLength v) w0LogLong (mAreSame v) (mAt v) (mIsWrong v) (mPosition v) (mReason v) (mCause v))] (met_X7_editorBy l D cI v2) y_X7_editorBy mw_13_16 dX7_lay_105 rfl n_X7_editorBy rfl (by decide) ⟨rfl, rfl, Nat.le_of_ble_eq_true rfl, Nat.le_of_ble_eq_true rfl⟩ (Nat.le_of_ble_eq_true rfl) (z_pm [0] 1 rfl (by decide) rfl) ?_
    refine z_iast C dX7_lay_108 0 6 rfl rfl hw.1 [(wMx cI gv (mS v) (mAside v) (mBefore v) (mText v) (upd w0Letters v3.toNatClampNeg (f_X7_letterOf v2)) (upd w0Bys v3.toNatClampNeg (f_X7_editorBy v2)) (mFirst v) (mCommand v) (mKnown v) (mLength v) w0LogLong (mAreSame v) (mAt v) (mIsWrong v) (mPosition v) (mReason v) (mCause v))] rfl ?_
    replace hw := hw.2
    refine z_aload_n C dX7_lay_109 rfl ?_
    refine z_dup C dX7_lay_110 rfl ?_
    refine z_get C inlX7 rfl 8 (by decide) mw_19_4 dX7_lay_111 0 0 rfl rfl rfl ?_
    refine z_iconst C dX7_lay_114 1 (by decide +kernel) ?_
    refine z_iadd C dX7_lay_115 ?_
    refine z_put C inlX7 rfl tyX7 tyX7_ok nmX7 8 (by decide) mw_19_4 rfl rfl rfl rfl dX7_lay_116 0 0 rfl rfl (Nat.le_of_ble_eq_true rfl) [(wMx cI gv (mS v) (mAside v) (mBefore v) (mText v) (upd w0Letters v3.toNatClampNeg (f_X7_letterOf v2)) (upd w0Bys v3.toNatClampNeg (f_X7_editorBy v2)) (mFirst v) (mCommand v) (mKnown v) (mLength v) (w0LogLong + 1) (mAreSame v) (mAt v) (mIsWrong v) (mPosition v) (mReason v) (mCause v))] rfl ?_
    refine z_goto C dX7_lay_119 192 (by decide) ?_
    refine z_iinc C dX7_lay_192 rfl (v1 + 1) (by rfl) [some (.ref (gv 0)), some (.int (v1 + 1)), some (.int v2), some (.int v3), some (.int v4)] (by decide) rfl ?_
    refine z_goto C dX7_lay_195 7 (by decide) ?_
    refine z_ls C [true, true, false, false, false] [some (.ref (gv 0)), some (.int (v1 + 1)), none, none, none] rfl ?_
    exact hK7 _ _ _ _ hw
  · replace hw := hw.2 c7
    refine z_aload_n C dX7_lay_51 rfl ?_
    refine z_get C inlX7 rfl 6 (by decide) mw_4_19 dX7_lay_52 0 0 rfl rfl rfl ?_
    refine z_iload C dX7_lay_55 rfl ?_
    refine z_aload_n C dX7_lay_57 rfl ?_
    refine z_get C inlX7 rfl 6 (by decide) mw_4_19 dX7_lay_58 0 0 rfl rfl rfl ?_
    refine z_iload C dX7_lay_61 rfl ?_
    refine z_iconst C dX7_lay_63 1 (by decide +kernel) ?_
    refine z_isub C dX7_lay_64 ?_
    refine z_iald C dX7_lay_65 0 5 rfl rfl hw.1 ?_
    replace hw := hw.2
    refine z_iast C dX7_lay_66 0 5 rfl rfl hw.1 [(wMx cI gv (mS v) (mAside v) (mBefore v) (mText v) (upd w0Letters v4.toNatClampNeg (w0Letters (v4 - 1).toNatClampNeg)) w0Bys (mFirst v) (mCommand v) (mKnown v) (mLength v) w0LogLong (mAreSame v) (mAt v) (mIsWrong v) (mPosition v) (mReason v) (mCause v))] rfl ?_
    replace hw := hw.2
    refine z_aload_n C dX7_lay_67 rfl ?_
    refine z_get C inlX7 rfl 7 (by decide) mw_4_20 dX7_lay_68 0 0 rfl rfl rfl ?_
    refine z_iload C dX7_lay_71 rfl ?_
    refine z_aload_n C dX7_lay_73 rfl ?_
    refine z_get C inlX7 rfl 7 (by decide) mw_4_20 dX7_lay_74 0 0 rfl rfl rfl ?_
    refine z_iload C dX7_lay_77 rfl ?_
    refine z_iconst C dX7_lay_79 1 (by decide +kernel) ?_
    refine z_isub C dX7_lay_80 ?_
    refine z_iald C dX7_lay_81 0 6 rfl rfl hw.1 ?_
    replace hw := hw.2
    refine z_iast C dX7_lay_82 0 6 rfl rfl hw.1 [(wMx cI gv (mS v) (mAside v) (mBefore v) (mText v) (upd w0Letters v4.toNatClampNeg (w0Letters (v4 - 1).toNatClampNeg)) (upd w0Bys v4.toNatClampNeg (w0Bys (v4 - 1).toNatClampNeg)) (mFirst v) (mCommand v) (mKnown v) (mLength v) w0LogLong (mAreSame v) (mAt v) (mIsWrong v) (mPosition v) (mReason v) (mCause v))] rfl ?_
    replace hw := hw.2
    refine z_iinc C dX7_lay_83 rfl (v4 + (-1)) (by rfl) [some (.ref (gv 0)), some (.int v1), some (.int v2), some (.int v3), some (.int (v4 + (-1)))] (by decide) rfl ?_
    refine z_goto C dX7_lay_86 45 (by decide) ?_
    exact hK45 _ _ _ hw
def lb_X7_lay_7 (v : zM)   (Q : zM → Prop)  (K7 : (Int32) → (Nat → Int32) → (Nat → Int32) → (Int32) → Prop) (v1 : Int32) (w0Letters : Nat → Int32) (w0Bys : Nat → Int32) (w0LogLong : Int32) : Prop := (vp_in 0 445 ∧ ((((mS v) (0 : Int32).toNatClampNeg) ≤ v1 → (Q (mSetLogLong (mSetBys (mSetLetters v w0Letters) w0Bys) w0LogLong))) ∧ (¬ ((mS v) (0 : Int32).toNatClampNeg) ≤ v1 → (vp_in (1 + v1) 445 ∧ (∀ x2 : Int32, x2 = ((mS v) (1 + v1).toNatClampNeg) → (∀ x3 : Int32, x3 = (f_X7_placeOf x2) → ((¬ (f_X7_kindOf x2) = 1 → ((¬ (f_X7_kindOf x2) = 2 → (K7 (v1 + 1) w0Letters w0Bys w0LogLong)) ∧ ((f_X7_kindOf x2) = 2 → (zLoop3 (lb_X7_lay_133 v v1 w0LogLong  Q K7) x3 w0Letters w0Bys)))) ∧ ((f_X7_kindOf x2) = 1 → (zLoop3 (lb_X7_lay_45 v v1 x2 x3 w0LogLong  Q K7) w0LogLong w0Letters w0Bys)))))))))
set_option maxHeartbeats 4000000 in
set_option maxRecDepth 100000 in
theorem wk_X7_lay_7 {p : Program} {l : Launch} {e : Env} {s : State} {m : MethodId} {args : Array Value} {below : List Frame} {meth : Method} {c : Code} {D : va_G} {cI : ClassId} {A : Nat → Prop} (C : ZC p s m args meth c RX7 cX7_lay 5 none D cI A) (gv : Nat → Nat) (v : zM)   (v1 : Int32) (w0Letters : Nat → Int32) (w0Bys : Nat → Int32) (w0LogLong : Int32) (Q : zM → Prop)  (hw : zLoop4 (lb_X7_lay_7 v   Q ) v1 w0Letters w0Bys w0LogLong) : ZZ p l e rmX7_lay s m args below meth c D A 5 0 0 (MQ below (ZQ D A (fun _ : zM => none) (fun u : zM => [(wMx cI gv (mS u) (mAside u) (mBefore u) (mText u) (mLetters u) (mBys u) (mFirst u) (mCommand u) (mKnown u) (mLength u) (mLogLong u) (mAreSame u) (mAt u) (mIsWrong u) (mPosition u) (mReason u) (mCause u))]) (fun u : zM => Q u)) args s rmX7_lay.cells rmX7_lay.slots A) [(wMx cI gv (mS v) (mAside v) (mBefore v) (mText v) w0Letters w0Bys (mFirst v) (mCommand v) (mKnown v) (mLength v) w0LogLong (mAreSame v) (mAt v) (mIsWrong v) (mPosition v) (mReason v) (mCause v))] 7 [some (.ref (gv 0)), some (.int v1), none, none, none] [] := by
  refine zLoop4_w (fun (v1 : Int32) (w0Letters : Nat → Int32) (w0Bys : Nat → Int32) (w0LogLong : Int32) => ZZ p l e rmX7_lay s m args below meth c D A 5 0 0 (MQ below (ZQ D A (fun _ : zM => none) (fun u : zM => [(wMx cI gv (mS u) (mAside u) (mBefore u) (mText u) (mLetters u) (mBys u) (mFirst u) (mCommand u) (mKnown u) (mLength u) (mLogLong u) (mAreSame u) (mAt u) (mIsWrong u) (mPosition u) (mReason u) (mCause u))]) (fun u : zM => Q u)) args s rmX7_lay.cells rmX7_lay.slots A) [(wMx cI gv (mS v) (mAside v) (mBefore v) (mText v) w0Letters w0Bys (mFirst v) (mCommand v) (mKnown v) (mLength v) w0LogLong (mAreSame v) (mAt v) (mIsWrong v) (mPosition v) (mReason v) (mCause v))] 7 [some (.ref (gv 0)), some (.int v1), none, none, none] []) ?_ _ _ _ _ hw
  clear hw
  intro K7 hK7 v1 w0Letters w0Bys w0LogLong hw
  unfold lb_X7_lay_7 at hw
  refine z_iload_n C dX7_lay_7 rfl ?_
  refine z_aload_n C dX7_lay_8 rfl ?_
  refine z_get C inlX7 rfl 0 (by decide) mw_4_15 dX7_lay_9 0 0 rfl rfl rfl ?_
  refine z_iconst C dX7_lay_12 0 (by decide +kernel) ?_
  refine z_iald C dX7_lay_13 0 1 rfl rfl hw.1 ?_
  replace hw := hw.2
  refine z_icmp_ge C dX7_lay_14 198 (by decide) (fun c1 => ?_) (fun c1 => ?_)
  · replace hw := hw.1 c1
    exact z_vret C rfl ((mSetLogLong (mSetBys (mSetLetters v w0Letters) w0Bys) w0LogLong)) rfl hw rfl dX7_lay_198
  · replace hw := hw.2 c1
    refine z_aload_n C dX7_lay_17 rfl ?_
    refine z_get C inlX7 rfl 0 (by decide) mw_4_15 dX7_lay_18 0 0 rfl rfl rfl ?_
    refine z_iconst C dX7_lay_21 1 (by decide +kernel) ?_
    refine z_iload_n C dX7_lay_22 rfl ?_
    refine z_iadd C dX7_lay_23 ?_
    refine z_iald C dX7_lay_24 0 1 rfl rfl hw.1 ?_
    replace hw := hw.2
    refine z_name C (fun x2 ex2 => ?_)
    replace hw := hw x2 ex2
    refine z_istore_n C dX7_lay_25 [some (.ref (gv 0)), some (.int v1), some (.int x2), none, none] (by decide) rfl ?_
    refine z_iload_n C dX7_lay_26 rfl ?_
    refine z_callFS C [] [(wMx cI gv (mS v) (mAside v) (mBefore v) (mText v) w0Letters w0Bys (mFirst v) (mCommand v) (mKnown v) (mLength v) w0LogLong (mAreSame v) (mAt v) (mIsWrong v) (mPosition v) (mReason v) (mCause v))] (met_X7_placeOf l D cI x2) y_X7_placeOf mw_13_4 dX7_lay_27 rfl n_X7_placeOf rfl (by decide) ⟨rfl, rfl, Nat.le_of_ble_eq_true rfl, Nat.le_of_ble_eq_true rfl⟩ (Nat.le_of_ble_eq_true rfl) (z_pm [0] 1 rfl (by decide) rfl) ?_
    refine z_name C (fun x3 ex3 => ?_)
    replace hw := hw x3 ex3
    refine z_istore_n C dX7_lay_30 [some (.ref (gv 0)), some (.int v1), some (.int x2), some (.int x3), none] (by decide) rfl ?_
    refine z_iload_n C dX7_lay_31 rfl ?_
    refine z_callFS C [] [(wMx cI gv (mS v) (mAside v) (mBefore v) (mText v) w0Letters w0Bys (mFirst v) (mCommand v) (mKnown v) (mLength v) w0LogLong (mAreSame v) (mAt v) (mIsWrong v) (mPosition v) (mReason v) (mCause v))] (met_X7_kindOf l D cI x2) y_X7_kindOf mw_13_7 dX7_lay_32 rfl n_X7_kindOf rfl (by decide) ⟨rfl, rfl, Nat.le_of_ble_eq_true rfl, Nat.le_of_ble_eq_true rfl⟩ (Nat.le_of_ble_eq_true rfl) (z_pm [0] 1 rfl (by decide) rfl) ?_
    refine z_iconst C dX7_lay_35 1 (by decide +kernel) ?_
    refine z_icmp_ne C dX7_lay_36 122 (by decide) (fun c4 => ?_) (fun c4 => ?_)
    · replace hw := hw.1 c4
      refine z_iload_n C dX7_lay_122 rfl ?_
      refine z_callFS C [] [(wMx cI gv (mS v) (mAside v) (mBefore v) (mText v) w0Letters w0Bys (mFirst v) (mCommand v) (mKnown v) (mLength v) w0LogLong (mAreSame v) (mAt v) (mIsWrong v) (mPosition v) (mReason v) (mCause v))] (met_X7_kindOf l D cI x2) y_X7_kindOf mw_13_7 dX7_lay_123 rfl n_X7_kindOf rfl (by decide) ⟨rfl, rfl, Nat.le_of_ble_eq_true rfl, Nat.le_of_ble_eq_true rfl⟩ (Nat.le_of_ble_eq_true rfl) (z_pm [0] 1 rfl (by decide) rfl) ?_
      refine z_iconst C dX7_lay_126 2 (by decide +kernel) ?_
      refine z_icmp_ne C dX7_lay_127 192 (by decide) (fun c5 => ?_) (fun c5 => ?_)
      · replace hw := hw.1 c5
        refine z_iinc C dX7_lay_192 rfl (v1 + 1) (by rfl) [some (.ref (gv 0)), some (.int (v1 + 1)), some (.int x2), some (.int x3), none] (by decide) rfl ?_
        refine z_goto C dX7_lay_195 7 (by decide) ?_
        refine z_ls C [true, true, false, false, false] [some (.ref (gv 0)), some (.int (v1 + 1)), none, none, none] rfl ?_
        exact hK7 _ _ _ _ hw
      · replace hw := hw.2 c5
        refine z_iload_n C dX7_lay_130 rfl ?_
        refine z_istore C dX7_lay_131 [some (.ref (gv 0)), some (.int v1), some (.int x2), some (.int x3), some (.int x3)] (by decide) rfl ?_
        refine z_ls C [true, true, false, false, true] [some (.ref (gv 0)), some (.int v1), none, none, some (.int x3)] rfl ?_
        exact wk_X7_lay_133 C gv v v1 w0LogLong  x3 w0Letters w0Bys _ K7 hK7 hw
    · replace hw := hw.2 c4
      refine z_aload_n C dX7_lay_39 rfl ?_
      refine z_get C inlX7 rfl 8 (by decide) mw_19_4 dX7_lay_40 0 0 rfl rfl rfl ?_
      refine z_istore C dX7_lay_43 [some (.ref (gv 0)), some (.int v1), some (.int x2), some (.int x3), some (.int w0LogLong)] (by decide) rfl ?_
      exact wk_X7_lay_45 C gv v v1 x2 x3 w0LogLong  w0LogLong w0Letters w0Bys _ K7 hK7 hw
def wp_X7_lay (v : zM)  (Q : zM → Prop) : Prop := (zLoop4 (lb_X7_lay_7 v   Q ) 0 (mLetters v) (mBys v) 0)
set_option maxHeartbeats 4000000 in
set_option maxRecDepth 100000 in
theorem met_X7_lay (l : Launch) (D : va_G) (cI : ClassId) (gv : Nat → Nat) (v : zM)  (Q : zM → Prop) (hw : wp_X7_lay v Q) : ZM l D cI yX7_lay cX7_lay 5 none rmX7_lay [.ref (gv 0)] [(wMx cI gv (mS v) (mAside v) (mBefore v) (mText v) (mLetters v) (mBys v) (mFirst v) (mCommand v) (mKnown v) (mLength v) (mLogLong v) (mAreSame v) (mAt v) (mIsWrong v) (mPosition v) (mReason v) (mCause v))] (fun _ : zM => none) (fun u : zM => [(wMx cI gv (mS u) (mAside u) (mBefore u) (mText u) (mLetters u) (mBys u) (mFirst u) (mCommand u) (mKnown u) (mLength u) (mLogLong u) (mAreSame u) (mAt u) (mIsWrong u) (mPosition u) (mReason u) (mCause u))]) (fun u : zM => Q u) := by
  refine z_body [some (.ref (gv 0)), none, none, none, none] (by decide +kernel) rfl (Nat.le_of_ble_eq_true rfl) rfl ?_
  intro p e s m args below meth c A C hin
  unfold wp_X7_lay at hw
  refine z_aload_n C dX7_lay_0 rfl ?_
  refine z_iconst C dX7_lay_1 0 (by decide +kernel) ?_
  refine z_put C inlX7 rfl tyX7 tyX7_ok nmX7 8 (by decide) mw_19_4 rfl rfl rfl rfl dX7_lay_2 0 0 rfl rfl (Nat.le_of_ble_eq_true rfl) [(wMx cI gv (mS v) (mAside v) (mBefore v) (mText v) (mLetters v) (mBys v) (mFirst v) (mCommand v) (mKnown v) (mLength v) 0 (mAreSame v) (mAt v) (mIsWrong v) (mPosition v) (mReason v) (mCause v))] rfl ?_
  refine z_iconst C dX7_lay_5 0 (by decide +kernel) ?_
  refine z_istore_n C dX7_lay_6 [some (.ref (gv 0)), some (.int 0), none, none, none] (by decide) rfl ?_
  exact wk_X7_lay_7 C gv v   0 (mLetters v) (mBys v) 0 _  hw
def rmX7_isSame : Room := { frames := 1, cells := 0, slots := 0, locals := 21 }
def lb_X7_isSame_25 (v : zM) (p1 : Int32)   (Q : Int32 → zM → Prop)  (K25 : (Int32) → (Int32) → Prop) (v2 : Int32) (v3 : Int32) : Prop := (((mLogLong v) ≤ v3 → (zB v2 ∧ (Q v2 v))) ∧ (¬ (mLogLong v) ≤ v3 → ((v2 = 0 → (zB v2 ∧ (Q v2 v))) ∧ (¬ v2 = 0 → (vp_in (f_X7_of p1 (1 + v3)) 445 ∧ (vp_in v3 96 ∧ ((¬ ((mS v) (f_X7_of p1 (1 + v3)).toNatClampNeg) = ((mLetters v) v3.toNatClampNeg) → (K25 0 (v3 + 1))) ∧ (((mS v) (f_X7_of p1 (1 + v3)).toNatClampNeg) = ((mLetters v) v3.toNatClampNeg) → (K25 1 (v3 + 1))))))))))
set_option maxHeartbeats 4000000 in
set_option maxRecDepth 100000 in
theorem wk_X7_isSame_25 {p : Program} {l : Launch} {e : Env} {s : State} {m : MethodId} {args : Array Value} {below : List Frame} {meth : Method} {c : Code} {D : va_G} {cI : ClassId} {A : Nat → Prop} (C : ZC p s m args meth c RX7 cX7_isSame 4 (some .boolean) D cI A) (gv : Nat → Nat) (v : zM) (p1 : Int32)   (v2 : Int32) (v3 : Int32) (Q : Int32 → zM → Prop)  (hw : zLoop2 (lb_X7_isSame_25 v p1   Q ) v2 v3) : ZZ p l e rmX7_isSame s m args below meth c D A 4 0 0 (MQ below (ZQ D A (fun u : Int32 × zM => some (.int u.1)) (fun u : Int32 × zM => [(wMx cI gv (mS (u.2)) (mAside (u.2)) (mBefore (u.2)) (mText (u.2)) (mLetters (u.2)) (mBys (u.2)) (mFirst (u.2)) (mCommand (u.2)) (mKnown (u.2)) (mLength (u.2)) (mLogLong (u.2)) (mAreSame (u.2)) (mAt (u.2)) (mIsWrong (u.2)) (mPosition (u.2)) (mReason (u.2)) (mCause (u.2)))]) (fun u : Int32 × zM => Q u.1 u.2)) args s rmX7_isSame.cells rmX7_isSame.slots A) [(wMx cI gv (mS v) (mAside v) (mBefore v) (mText v) (mLetters v) (mBys v) (mFirst v) (mCommand v) (mKnown v) (mLength v) (mLogLong v) (mAreSame v) (mAt v) (mIsWrong v) (mPosition v) (mReason v) (mCause v))] 25 [some (.ref (gv 0)), some (.int p1), some (.int v2), some (.int v3)] [] := by
  refine zLoop2_w (fun (v2 : Int32) (v3 : Int32) => ZZ p l e rmX7_isSame s m args below meth c D A 4 0 0 (MQ below (ZQ D A (fun u : Int32 × zM => some (.int u.1)) (fun u : Int32 × zM => [(wMx cI gv (mS (u.2)) (mAside (u.2)) (mBefore (u.2)) (mText (u.2)) (mLetters (u.2)) (mBys (u.2)) (mFirst (u.2)) (mCommand (u.2)) (mKnown (u.2)) (mLength (u.2)) (mLogLong (u.2)) (mAreSame (u.2)) (mAt (u.2)) (mIsWrong (u.2)) (mPosition (u.2)) (mReason (u.2)) (mCause (u.2)))]) (fun u : Int32 × zM => Q u.1 u.2)) args s rmX7_isSame.cells rmX7_isSame.slots A) [(wMx cI gv (mS v) (mAside v) (mBefore v) (mText v) (mLetters v) (mBys v) (mFirst v) (mCommand v) (mKnown v) (mLength v) (mLogLong v) (mAreSame v) (mAt v) (mIsWrong v) (mPosition v) (mReason v) (mCause v))] 25 [some (.ref (gv 0)), some (.int p1), some (.int v2), some (.int v3)] []) ?_ _ _ hw
  clear hw
  intro K25 hK25 v2 v3 hw
  unfold lb_X7_isSame_25 at hw
  refine z_iload_n C dX7_isSame_25 rfl ?_
  refine z_aload_n C dX7_isSame_26 rfl ?_
  refine z_get C inlX7 rfl 8 (by decide) mw_19_4 dX7_isSame_27 0 0 rfl rfl rfl ?_
  refine z_icmp_ge C dX7_isSame_30 70 (by decide) (fun c2 => ?_) (fun c2 => ?_)
  · replace hw := hw.1 c2
    refine z_iload_n C dX7_isSame_70 rfl ?_
    exact z_zret C rfl hw.1.1 (v2, v) rfl hw.2 rfl dX7_isSame_71
  · replace hw := hw.2 c2
    refine z_iload_n C dX7_isSame_33 rfl ?_
    refine z_if_eq C dX7_isSame_34 70 (by decide) (fun c3 => ?_) (fun c3 => ?_)
    · replace hw := hw.1 c3
      refine z_iload_n C dX7_isSame_70 rfl ?_
      exact z_zret C rfl hw.1.1 (v2, v) rfl hw.2 rfl dX7_isSame_71
    · replace hw := hw.2 c3
      refine z_aload_n C dX7_isSame_37 rfl ?_
      refine z_get C inlX7 rfl 0 (by decide) mw_4_15 dX7_isSame_38 0 0 rfl rfl rfl ?_
      refine z_iload_n C dX7_isSame_41 rfl ?_
      refine z_iconst C dX7_isSame_42 1 (by decide +kernel) ?_
      refine z_iload_n C dX7_isSame_43 rfl ?_
      refine z_iadd C dX7_isSame_44 ?_
      refine z_callFS C [] [(wMx cI gv (mS v) (mAside v) (mBefore v) (mText v) (mLetters v) (mBys v) (mFirst v) (mCommand v) (mKnown v) (mLength v) (mLogLong v) (mAreSame v) (mAt v) (mIsWrong v) (mPosition v) (mReason v) (mCause v))] (met_X7_of l D cI p1 (1 + v3)) y_X7_of mw_12_5 dX7_isSame_45 rfl n_X7_of rfl (by decide) ⟨rfl, rfl, Nat.le_of_ble_eq_true rfl, Nat.le_of_ble_eq_true rfl⟩ (Nat.le_of_ble_eq_true rfl) (z_pm [0] 1 rfl (by decide) rfl) ?_
      refine z_iald C dX7_isSame_48 0 1 rfl rfl hw.1 ?_
      replace hw := hw.2
      refine z_aload_n C dX7_isSame_49 rfl ?_
      refine z_get C inlX7 rfl 6 (by decide) mw_4_19 dX7_isSame_50 0 0 rfl rfl rfl ?_
      refine z_iload_n C dX7_isSame_53 rfl ?_
      refine z_iald C dX7_isSame_54 0 5 rfl rfl hw.1 ?_
      replace hw := hw.2
      refine z_icmp_ne C dX7_isSame_55 62 (by decide) (fun c4 => ?_) (fun c4 => ?_)
      · replace hw := hw.1 c4
        refine z_iconst C dX7_isSame_62 0 (by decide +kernel) ?_
        refine z_istore_n C dX7_isSame_63 [some (.ref (gv 0)), some (.int p1), some (.int 0), some (.int v3)] (by decide) rfl ?_
        refine z_iinc C dX7_isSame_64 rfl (v3 + 1) (by rfl) [some (.ref (gv 0)), some (.int p1), some (.int 0), some (.int (v3 + 1))] (by decide) rfl ?_
        refine z_goto C dX7_isSame_67 25 (by decide) ?_
        exact hK25 _ _ hw
      · replace hw := hw.2 c4
        refine z_iconst C dX7_isSame_58 1 (by decide +kernel) ?_
        refine z_goto C dX7_isSame_59 63 (by decide) ?_
        refine z_istore_n C dX7_isSame_63 [some (.ref (gv 0)), some (.int p1), some (.int 1), some (.int v3)] (by decide) rfl ?_
        refine z_iinc C dX7_isSame_64 rfl (v3 + 1) (by rfl) [some (.ref (gv 0)), some (.int p1), some (.int 1), some (.int (v3 + 1))] (by decide) rfl ?_
        refine z_goto C dX7_isSame_67 25 (by decide) ?_
        exact hK25 _ _ hw
def wp_X7_isSame (v : zM) (p1 : Int32) (Q : Int32 → zM → Prop) : Prop := (vp_in (f_X7_of p1 0) 445 ∧ ((¬ ((mS v) (f_X7_of p1 0).toNatClampNeg) = (mLogLong v) → (zLoop2 (lb_X7_isSame_25 v p1   Q ) 0 0)) ∧ (((mS v) (f_X7_of p1 0).toNatClampNeg) = (mLogLong v) → (zLoop2 (lb_X7_isSame_25 v p1   Q ) 1 0))))
set_option maxHeartbeats 4000000 in
set_option maxRecDepth 100000 in
theorem met_X7_isSame (l : Launch) (D : va_G) (cI : ClassId) (gv : Nat → Nat) (v : zM) (p1 : Int32) (Q : Int32 → zM → Prop) (hw : wp_X7_isSame v p1 Q) : ZM l D cI yX7_isSame cX7_isSame 4 (some .boolean) rmX7_isSame [.ref (gv 0), .int p1] [(wMx cI gv (mS v) (mAside v) (mBefore v) (mText v) (mLetters v) (mBys v) (mFirst v) (mCommand v) (mKnown v) (mLength v) (mLogLong v) (mAreSame v) (mAt v) (mIsWrong v) (mPosition v) (mReason v) (mCause v))] (fun u : Int32 × zM => some (.int u.1)) (fun u : Int32 × zM => [(wMx cI gv (mS (u.2)) (mAside (u.2)) (mBefore (u.2)) (mText (u.2)) (mLetters (u.2)) (mBys (u.2)) (mFirst (u.2)) (mCommand (u.2)) (mKnown (u.2)) (mLength (u.2)) (mLogLong (u.2)) (mAreSame (u.2)) (mAt (u.2)) (mIsWrong (u.2)) (mPosition (u.2)) (mReason (u.2)) (mCause (u.2)))]) (fun u : Int32 × zM => Q u.1 u.2) := by
  refine z_body [some (.ref (gv 0)), some (.int p1), none, none] (by decide +kernel) rfl (Nat.le_of_ble_eq_true rfl) rfl ?_
  intro p e s m args below meth c A C hin
  unfold wp_X7_isSame at hw
  refine z_aload_n C dX7_isSame_0 rfl ?_
  refine z_get C inlX7 rfl 0 (by decide) mw_4_15 dX7_isSame_1 0 0 rfl rfl rfl ?_
  refine z_iload_n C dX7_isSame_4 rfl ?_
  refine z_iconst C dX7_isSame_5 0 (by decide +kernel) ?_
  refine z_callFS C [] [(wMx cI gv (mS v) (mAside v) (mBefore v) (mText v) (mLetters v) (mBys v) (mFirst v) (mCommand v) (mKnown v) (mLength v) (mLogLong v) (mAreSame v) (mAt v) (mIsWrong v) (mPosition v) (mReason v) (mCause v))] (met_X7_of l D cI p1 0) y_X7_of mw_12_5 dX7_isSame_6 rfl n_X7_of rfl (by decide) ⟨rfl, rfl, Nat.le_of_ble_eq_true rfl, Nat.le_of_ble_eq_true rfl⟩ (Nat.le_of_ble_eq_true rfl) (z_pm [0] 1 rfl (by decide) rfl) ?_
  refine z_iald C dX7_isSame_9 0 1 rfl rfl hw.1 ?_
  replace hw := hw.2
  refine z_aload_n C dX7_isSame_10 rfl ?_
  refine z_get C inlX7 rfl 8 (by decide) mw_19_4 dX7_isSame_11 0 0 rfl rfl rfl ?_
  refine z_icmp_ne C dX7_isSame_14 21 (by decide) (fun c1 => ?_) (fun c1 => ?_)
  · replace hw := hw.1 c1
    refine z_iconst C dX7_isSame_21 0 (by decide +kernel) ?_
    refine z_istore_n C dX7_isSame_22 [some (.ref (gv 0)), some (.int p1), some (.int 0), none] (by decide) rfl ?_
    refine z_iconst C dX7_isSame_23 0 (by decide +kernel) ?_
    refine z_istore_n C dX7_isSame_24 [some (.ref (gv 0)), some (.int p1), some (.int 0), some (.int 0)] (by decide) rfl ?_
    exact wk_X7_isSame_25 C gv v p1   0 0 _  hw
  · replace hw := hw.2 c1
    refine z_iconst C dX7_isSame_17 1 (by decide +kernel) ?_
    refine z_goto C dX7_isSame_18 22 (by decide) ?_
    refine z_istore_n C dX7_isSame_22 [some (.ref (gv 0)), some (.int p1), some (.int 1), none] (by decide) rfl ?_
    refine z_iconst C dX7_isSame_23 0 (by decide +kernel) ?_
    refine z_istore_n C dX7_isSame_24 [some (.ref (gv 0)), some (.int p1), some (.int 1), some (.int 0)] (by decide) rfl ?_
    exact wk_X7_isSame_25 C gv v p1   1 0 _  hw
def rmX7_letter : Room := { frames := 2, cells := 0, slots := 0, locals := 44 }
def wp_X7_letter (v : zM) (p1 : Int32) (p2 : Int32) (Q : Int32 → zM → Prop) : Prop := (((f_X7_in p1 0 3) = 0 → (Q (-1) v)) ∧ (¬ (f_X7_in p1 0 3) = 0 → ((0 ≤ p2 → ((3 ≤ p1 → (wp_X7_lay v (fun u4 => (((mLogLong u4) ≤ p2 → (Q (-4) u4)) ∧ (¬ (mLogLong u4) ≤ p2 → (vp_in p2 96 ∧ (Q ((mLetters u4) p2.toNatClampNeg) u4))))))) ∧ (¬ 3 ≤ p1 → (vp_in (f_X7_of p1 0) 445 ∧ ((((mS v) (f_X7_of p1 0).toNatClampNeg) ≤ p2 → (Q (-4) v)) ∧ (¬ ((mS v) (f_X7_of p1 0).toNatClampNeg) ≤ p2 → (vp_in (f_X7_of p1 (1 + p2)) 445 ∧ (Q ((mS v) (f_X7_of p1 (1 + p2)).toNatClampNeg) v)))))))) ∧ (¬ 0 ≤ p2 → (Q (-1) v)))))
set_option maxHeartbeats 4000000 in
set_option maxRecDepth 100000 in
theorem met_X7_letter (l : Launch) (D : va_G) (cI : ClassId) (gv : Nat → Nat) (v : zM) (p1 : Int32) (p2 : Int32) (Q : Int32 → zM → Prop) (hw : wp_X7_letter v p1 p2 Q) : ZM l D cI yX7_letter cX7_letter 3 (some .int) rmX7_letter [.ref (gv 0), .int p1, .int p2] [(wMx cI gv (mS v) (mAside v) (mBefore v) (mText v) (mLetters v) (mBys v) (mFirst v) (mCommand v) (mKnown v) (mLength v) (mLogLong v) (mAreSame v) (mAt v) (mIsWrong v) (mPosition v) (mReason v) (mCause v))] (fun u : Int32 × zM => some (.int u.1)) (fun u : Int32 × zM => [(wMx cI gv (mS (u.2)) (mAside (u.2)) (mBefore (u.2)) (mText (u.2)) (mLetters (u.2)) (mBys (u.2)) (mFirst (u.2)) (mCommand (u.2)) (mKnown (u.2)) (mLength (u.2)) (mLogLong (u.2)) (mAreSame (u.2)) (mAt (u.2)) (mIsWrong (u.2)) (mPosition (u.2)) (mReason (u.2)) (mCause (u.2)))]) (fun u : Int32 × zM => Q u.1 u.2) := by
  refine z_body [some (.ref (gv 0)), some (.int p1), some (.int p2)] (by decide +kernel) rfl (Nat.le_of_ble_eq_true rfl) rfl ?_
  intro p e s m args below meth c A C hin
  unfold wp_X7_letter at hw
  refine z_iload_n C dX7_letter_0 rfl ?_
  refine z_iconst C dX7_letter_1 0 (by decide +kernel) ?_
  refine z_iconst C dX7_letter_2 3 (by decide +kernel) ?_
  refine z_callFS C [] [(wMx cI gv (mS v) (mAside v) (mBefore v) (mText v) (mLetters v) (mBys v) (mFirst v) (mCommand v) (mKnown v) (mLength v) (mLogLong v) (mAreSame v) (mAt v) (mIsWrong v) (mPosition v) (mReason v) (mCause v))] (met_X7_in l D cI p1 0 3) y_X7_in mw_12_2 dX7_letter_3 rfl n_X7_in rfl (by decide) ⟨rfl, rfl, Nat.le_of_ble_eq_true rfl, Nat.le_of_ble_eq_true rfl⟩ (Nat.le_of_ble_eq_true rfl) (z_pm [0] 1 rfl (by decide) rfl) ?_
  refine z_if_eq C dX7_letter_6 13 (by decide) (fun c1 => ?_) (fun c1 => ?_)
  · replace hw := hw.1 c1
    refine z_iconst C dX7_letter_13 (-1) (by decide +kernel) ?_
    exact z_iret C rfl ((-1), v) rfl hw rfl dX7_letter_14
  · replace hw := hw.2 c1
    refine z_iload_n C dX7_letter_9 rfl ?_
    refine z_if_ge C dX7_letter_10 15 (by decide) (fun c2 => ?_) (fun c2 => ?_)
    · replace hw := hw.1 c2
      refine z_iload_n C dX7_letter_15 rfl ?_
      refine z_iconst C dX7_letter_16 3 (by decide +kernel) ?_
      refine z_icmp_ge C dX7_letter_17 52 (by decide) (fun c3 => ?_) (fun c3 => ?_)
      · replace hw := hw.1 c3
        refine z_aload_n C dX7_letter_52 rfl ?_
        refine z_callV0 C [(wMx cI gv (mS v) (mAside v) (mBefore v) (mText v) (mLetters v) (mBys v) (mFirst v) (mCommand v) (mKnown v) (mLength v) (mLogLong v) (mAreSame v) (mAt v) (mIsWrong v) (mPosition v) (mReason v) (mCause v))] [] rfl rfl (met_X7_lay l D cI gv v _ hw) y_X7_lay mw_19_5 dX7_letter_53 rfl n_X7_lay rfl (by decide) ⟨rfl, rfl, Nat.le_of_ble_eq_true rfl, Nat.le_of_ble_eq_true rfl⟩ (Nat.le_of_ble_eq_true rfl) (z_pm [0] 1 rfl (by decide) rfl) ?_
        intro u4 hw
        try dsimp only at hw
        refine z_bs [(wMx cI gv (mS u4) (mAside u4) (mBefore u4) (mText u4) (mLetters u4) (mBys u4) (mFirst u4) (mCommand u4) (mKnown u4) (mLength u4) (mLogLong u4) (mAreSame u4) (mAt u4) (mIsWrong u4) (mPosition u4) (mReason u4) (mCause u4))] [] rfl rfl ?_
        refine z_iload_n C dX7_letter_56 rfl ?_
        refine z_aload_n C dX7_letter_57 rfl ?_
        refine z_get C inlX7 rfl 8 (by decide) mw_19_4 dX7_letter_58 0 0 rfl rfl rfl ?_
        refine z_icmp_ge C dX7_letter_61 73 (by decide) (fun c5 => ?_) (fun c5 => ?_)
        · replace hw := hw.1 c5
          refine z_bipush C dX7_letter_73 (-4) (by decide +kernel) ?_
          exact z_iret C rfl ((-4), u4) rfl hw rfl dX7_letter_75
        · replace hw := hw.2 c5
          refine z_aload_n C dX7_letter_64 rfl ?_
          refine z_get C inlX7 rfl 6 (by decide) mw_4_19 dX7_letter_65 0 0 rfl rfl rfl ?_
          refine z_iload_n C dX7_letter_68 rfl ?_
          refine z_iald C dX7_letter_69 0 5 rfl rfl hw.1 ?_
          replace hw := hw.2
          refine z_goto C dX7_letter_70 75 (by decide) ?_
          exact z_iret C rfl (((mLetters u4) p2.toNatClampNeg), u4) rfl hw rfl dX7_letter_75
      · replace hw := hw.2 c3
        refine z_iload_n C dX7_letter_20 rfl ?_
        refine z_aload_n C dX7_letter_21 rfl ?_
        refine z_get C inlX7 rfl 0 (by decide) mw_4_15 dX7_letter_22 0 0 rfl rfl rfl ?_
        refine z_iload_n C dX7_letter_25 rfl ?_
        refine z_iconst C dX7_letter_26 0 (by decide +kernel) ?_
        refine z_callFS C [] [(wMx cI gv (mS v) (mAside v) (mBefore v) (mText v) (mLetters v) (mBys v) (mFirst v) (mCommand v) (mKnown v) (mLength v) (mLogLong v) (mAreSame v) (mAt v) (mIsWrong v) (mPosition v) (mReason v) (mCause v))] (met_X7_of l D cI p1 0) y_X7_of mw_12_5 dX7_letter_27 rfl n_X7_of rfl (by decide) ⟨rfl, rfl, Nat.le_of_ble_eq_true rfl, Nat.le_of_ble_eq_true rfl⟩ (Nat.le_of_ble_eq_true rfl) (z_pm [0] 1 rfl (by decide) rfl) ?_
        refine z_iald C dX7_letter_30 0 1 rfl rfl hw.1 ?_
        replace hw := hw.2
        refine z_icmp_ge C dX7_letter_31 49 (by decide) (fun c6 => ?_) (fun c6 => ?_)
        · replace hw := hw.1 c6
          refine z_bipush C dX7_letter_49 (-4) (by decide +kernel) ?_
          exact z_iret C rfl ((-4), v) rfl hw rfl dX7_letter_51
        · replace hw := hw.2 c6
          refine z_aload_n C dX7_letter_34 rfl ?_
          refine z_get C inlX7 rfl 0 (by decide) mw_4_15 dX7_letter_35 0 0 rfl rfl rfl ?_
          refine z_iload_n C dX7_letter_38 rfl ?_
          refine z_iconst C dX7_letter_39 1 (by decide +kernel) ?_
          refine z_iload_n C dX7_letter_40 rfl ?_
          refine z_iadd C dX7_letter_41 ?_
          refine z_callFS C [] [(wMx cI gv (mS v) (mAside v) (mBefore v) (mText v) (mLetters v) (mBys v) (mFirst v) (mCommand v) (mKnown v) (mLength v) (mLogLong v) (mAreSame v) (mAt v) (mIsWrong v) (mPosition v) (mReason v) (mCause v))] (met_X7_of l D cI p1 (1 + p2)) y_X7_of mw_12_5 dX7_letter_42 rfl n_X7_of rfl (by decide) ⟨rfl, rfl, Nat.le_of_ble_eq_true rfl, Nat.le_of_ble_eq_true rfl⟩ (Nat.le_of_ble_eq_true rfl) (z_pm [0] 1 rfl (by decide) rfl) ?_
          refine z_iald C dX7_letter_45 0 1 rfl rfl hw.1 ?_
          replace hw := hw.2
          refine z_goto C dX7_letter_46 51 (by decide) ?_
          exact z_iret C rfl (((mS v) (f_X7_of p1 (1 + p2)).toNatClampNeg), v) rfl hw rfl dX7_letter_51
    · replace hw := hw.2 c2
      refine z_iconst C dX7_letter_13 (-1) (by decide +kernel) ?_
      exact z_iret C rfl ((-1), v) rfl hw rfl dX7_letter_14
def rmX7_editorOf : Room := { frames := 2, cells := 0, slots := 0, locals := 44 }
def wp_X7_editorOf (v : zM) (p1 : Int32) (p2 : Int32) (Q : Int32 → zM → Prop) : Prop := ((¬ (f_X7_isEditor p1) = 0 → ((p2 = 0 → (vp_in (f_X7_of p1 0) 445 ∧ (Q ((mS v) (f_X7_of p1 0).toNatClampNeg) v))) ∧ (¬ p2 = 0 → ((p2 = 1 → (vp_in (f_X7_of p1 97) 445 ∧ (Q ((mS v) (f_X7_of p1 97).toNatClampNeg) v))) ∧ (¬ p2 = 1 → ((p2 = 2 → (vp_in (f_X7_of p1 113) 445 ∧ (Q ((mS v) (f_X7_of p1 113).toNatClampNeg) v))) ∧ (¬ p2 = 2 → ((p2 = 3 → (vp_in (f_X7_of p1 112) 445 ∧ (Q ((mS v) (f_X7_of p1 112).toNatClampNeg) v))) ∧ (¬ p2 = 3 → ((p2 = 4 → (vp_in 0 445 ∧ (vp_in (f_X7_of p1 112) 445 ∧ (Q (((mS v) (0 : Int32).toNatClampNeg) - ((mS v) (f_X7_of p1 112).toNatClampNeg)) v)))) ∧ (¬ p2 = 4 → ((p2 = 5 → (vp_in (f_X7_of p1 114) 445 ∧ (Q ((mS v) (f_X7_of p1 114).toNatClampNeg) v))) ∧ (¬ p2 = 5 → ((p2 = 6 → (vp_in (f_X7_of p1 104) 445 ∧ (Q ((mS v) (f_X7_of p1 104).toNatClampNeg) v))) ∧ (¬ p2 = 6 → ((p2 = 7 → (wp_X7_lay v (fun u10 => (wp_X7_isSame u10 p1 (fun r11 u12 => ((r11 = 0 → (Q 0 u12)) ∧ (¬ r11 = 0 → (Q 1 u12)))))))) ∧ (¬ p2 = 7 → ((p2 = 8 → (vp_in (f_X7_of p1 115) 445 ∧ (Q ((mS v) (f_X7_of p1 115).toNatClampNeg) v))) ∧ (¬ p2 = 8 → (Q (-1) v)))))))))))))))))))) ∧ ((f_X7_isEditor p1) = 0 → (Q (-1) v)))
set_option maxHeartbeats 4000000 in
set_option maxRecDepth 100000 in
theorem met_X7_editorOf (l : Launch) (D : va_G) (cI : ClassId) (gv : Nat → Nat) (v : zM) (p1 : Int32) (p2 : Int32) (Q : Int32 → zM → Prop) (hw : wp_X7_editorOf v p1 p2 Q) : ZM l D cI yX7_editorOf cX7_editorOf 3 (some .int) rmX7_editorOf [.ref (gv 0), .int p1, .int p2] [(wMx cI gv (mS v) (mAside v) (mBefore v) (mText v) (mLetters v) (mBys v) (mFirst v) (mCommand v) (mKnown v) (mLength v) (mLogLong v) (mAreSame v) (mAt v) (mIsWrong v) (mPosition v) (mReason v) (mCause v))] (fun u : Int32 × zM => some (.int u.1)) (fun u : Int32 × zM => [(wMx cI gv (mS (u.2)) (mAside (u.2)) (mBefore (u.2)) (mText (u.2)) (mLetters (u.2)) (mBys (u.2)) (mFirst (u.2)) (mCommand (u.2)) (mKnown (u.2)) (mLength (u.2)) (mLogLong (u.2)) (mAreSame (u.2)) (mAt (u.2)) (mIsWrong (u.2)) (mPosition (u.2)) (mReason (u.2)) (mCause (u.2)))]) (fun u : Int32 × zM => Q u.1 u.2) := by
  refine z_body [some (.ref (gv 0)), some (.int p1), some (.int p2)] (by decide +kernel) rfl (Nat.le_of_ble_eq_true rfl) rfl ?_
  intro p e s m args below meth c A C hin
  unfold wp_X7_editorOf at hw
  refine z_iload_n C dX7_editorOf_0 rfl ?_
  refine z_callFS C [] [(wMx cI gv (mS v) (mAside v) (mBefore v) (mText v) (mLetters v) (mBys v) (mFirst v) (mCommand v) (mKnown v) (mLength v) (mLogLong v) (mAreSame v) (mAt v) (mIsWrong v) (mPosition v) (mReason v) (mCause v))] (met_X7_isEditor l D cI p1) y_X7_isEditor mw_11_23 dX7_editorOf_1 rfl n_X7_isEditor rfl (by decide) ⟨rfl, rfl, Nat.le_of_ble_eq_true rfl, Nat.le_of_ble_eq_true rfl⟩ (Nat.le_of_ble_eq_true rfl) (z_pm [0] 1 rfl (by decide) rfl) ?_
  refine z_if_ne C dX7_editorOf_4 9 (by decide) (fun c1 => ?_) (fun c1 => ?_)
  · replace hw := hw.1 c1
    refine z_iload_n C dX7_editorOf_9 rfl ?_
    by_cases c2 : p2 = 0
    · refine z_tableAt C dX7_editorOf_10 0 c2 (by decide) (by decide) 50 rfl 60 (by decide) ?_
      replace hw := hw.1 c2
      refine z_aload_n C dX7_editorOf_60 rfl ?_
      refine z_get C inlX7 rfl 0 (by decide) mw_4_15 dX7_editorOf_61 0 0 rfl rfl rfl ?_
      refine z_iload_n C dX7_editorOf_64 rfl ?_
      refine z_iconst C dX7_editorOf_65 0 (by decide +kernel) ?_
      refine z_callFS C [] [(wMx cI gv (mS v) (mAside v) (mBefore v) (mText v) (mLetters v) (mBys v) (mFirst v) (mCommand v) (mKnown v) (mLength v) (mLogLong v) (mAreSame v) (mAt v) (mIsWrong v) (mPosition v) (mReason v) (mCause v))] (met_X7_of l D cI p1 0) y_X7_of mw_12_5 dX7_editorOf_66 rfl n_X7_of rfl (by decide) ⟨rfl, rfl, Nat.le_of_ble_eq_true rfl, Nat.le_of_ble_eq_true rfl⟩ (Nat.le_of_ble_eq_true rfl) (z_pm [0] 1 rfl (by decide) rfl) ?_
      refine z_iald C dX7_editorOf_69 0 1 rfl rfl hw.1 ?_
      replace hw := hw.2
      exact z_iret C rfl (((mS v) (f_X7_of p1 0).toNatClampNeg), v) rfl hw rfl dX7_editorOf_70
    replace hw := hw.2 c2
    by_cases c3 : p2 = 1
    · refine z_tableAt C dX7_editorOf_10 1 c3 (by decide) (by decide) 61 rfl 71 (by decide) ?_
      replace hw := hw.1 c3
      refine z_aload_n C dX7_editorOf_71 rfl ?_
      refine z_get C inlX7 rfl 0 (by decide) mw_4_15 dX7_editorOf_72 0 0 rfl rfl rfl ?_
      refine z_iload_n C dX7_editorOf_75 rfl ?_
      refine z_bipush C dX7_editorOf_76 97 (by decide +kernel) ?_
      refine z_callFS C [] [(wMx cI gv (mS v) (mAside v) (mBefore v) (mText v) (mLetters v) (mBys v) (mFirst v) (mCommand v) (mKnown v) (mLength v) (mLogLong v) (mAreSame v) (mAt v) (mIsWrong v) (mPosition v) (mReason v) (mCause v))] (met_X7_of l D cI p1 97) y_X7_of mw_12_5 dX7_editorOf_78 rfl n_X7_of rfl (by decide) ⟨rfl, rfl, Nat.le_of_ble_eq_true rfl, Nat.le_of_ble_eq_true rfl⟩ (Nat.le_of_ble_eq_true rfl) (z_pm [0] 1 rfl (by decide) rfl) ?_
      refine z_iald C dX7_editorOf_81 0 1 rfl rfl hw.1 ?_
      replace hw := hw.2
      exact z_iret C rfl (((mS v) (f_X7_of p1 97).toNatClampNeg), v) rfl hw rfl dX7_editorOf_82
    replace hw := hw.2 c3
    by_cases c4 : p2 = 2
    · refine z_tableAt C dX7_editorOf_10 2 c4 (by decide) (by decide) 73 rfl 83 (by decide) ?_
      replace hw := hw.1 c4
      refine z_aload_n C dX7_editorOf_83 rfl ?_
      refine z_get C inlX7 rfl 0 (by decide) mw_4_15 dX7_editorOf_84 0 0 rfl rfl rfl ?_
      refine z_iload_n C dX7_editorOf_87 rfl ?_
      refine z_bipush C dX7_editorOf_88 113 (by decide +kernel) ?_
      refine z_callFS C [] [(wMx cI gv (mS v) (mAside v) (mBefore v) (mText v) (mLetters v) (mBys v) (mFirst v) (mCommand v) (mKnown v) (mLength v) (mLogLong v) (mAreSame v) (mAt v) (mIsWrong v) (mPosition v) (mReason v) (mCause v))] (met_X7_of l D cI p1 113) y_X7_of mw_12_5 dX7_editorOf_90 rfl n_X7_of rfl (by decide) ⟨rfl, rfl, Nat.le_of_ble_eq_true rfl, Nat.le_of_ble_eq_true rfl⟩ (Nat.le_of_ble_eq_true rfl) (z_pm [0] 1 rfl (by decide) rfl) ?_
      refine z_iald C dX7_editorOf_93 0 1 rfl rfl hw.1 ?_
      replace hw := hw.2
      exact z_iret C rfl (((mS v) (f_X7_of p1 113).toNatClampNeg), v) rfl hw rfl dX7_editorOf_94
    replace hw := hw.2 c4
    by_cases c5 : p2 = 3
    · refine z_tableAt C dX7_editorOf_10 3 c5 (by decide) (by decide) 85 rfl 95 (by decide) ?_
      replace hw := hw.1 c5
      refine z_aload_n C dX7_editorOf_95 rfl ?_
      refine z_get C inlX7 rfl 0 (by decide) mw_4_15 dX7_editorOf_96 0 0 rfl rfl rfl ?_
      refine z_iload_n C dX7_editorOf_99 rfl ?_
      refine z_bipush C dX7_editorOf_100 112 (by decide +kernel) ?_
      refine z_callFS C [] [(wMx cI gv (mS v) (mAside v) (mBefore v) (mText v) (mLetters v) (mBys v) (mFirst v) (mCommand v) (mKnown v) (mLength v) (mLogLong v) (mAreSame v) (mAt v) (mIsWrong v) (mPosition v) (mReason v) (mCause v))] (met_X7_of l D cI p1 112) y_X7_of mw_12_5 dX7_editorOf_102 rfl n_X7_of rfl (by decide) ⟨rfl, rfl, Nat.le_of_ble_eq_true rfl, Nat.le_of_ble_eq_true rfl⟩ (Nat.le_of_ble_eq_true rfl) (z_pm [0] 1 rfl (by decide) rfl) ?_
      refine z_iald C dX7_editorOf_105 0 1 rfl rfl hw.1 ?_
      replace hw := hw.2
      exact z_iret C rfl (((mS v) (f_X7_of p1 112).toNatClampNeg), v) rfl hw rfl dX7_editorOf_106
    replace hw := hw.2 c5
    by_cases c6 : p2 = 4
    · refine z_tableAt C dX7_editorOf_10 4 c6 (by decide) (by decide) 97 rfl 107 (by decide) ?_
      replace hw := hw.1 c6
      refine z_aload_n C dX7_editorOf_107 rfl ?_
      refine z_get C inlX7 rfl 0 (by decide) mw_4_15 dX7_editorOf_108 0 0 rfl rfl rfl ?_
      refine z_iconst C dX7_editorOf_111 0 (by decide +kernel) ?_
      refine z_iald C dX7_editorOf_112 0 1 rfl rfl hw.1 ?_
      replace hw := hw.2
      refine z_aload_n C dX7_editorOf_113 rfl ?_
      refine z_get C inlX7 rfl 0 (by decide) mw_4_15 dX7_editorOf_114 0 0 rfl rfl rfl ?_
      refine z_iload_n C dX7_editorOf_117 rfl ?_
      refine z_bipush C dX7_editorOf_118 112 (by decide +kernel) ?_
      refine z_callFS C [] [(wMx cI gv (mS v) (mAside v) (mBefore v) (mText v) (mLetters v) (mBys v) (mFirst v) (mCommand v) (mKnown v) (mLength v) (mLogLong v) (mAreSame v) (mAt v) (mIsWrong v) (mPosition v) (mReason v) (mCause v))] (met_X7_of l D cI p1 112) y_X7_of mw_12_5 dX7_editorOf_120 rfl n_X7_of rfl (by decide) ⟨rfl, rfl, Nat.le_of_ble_eq_true rfl, Nat.le_of_ble_eq_true rfl⟩ (Nat.le_of_ble_eq_true rfl) (z_pm [0] 1 rfl (by decide) rfl) ?_
      refine z_iald C dX7_editorOf_123 0 1 rfl rfl hw.1 ?_
      replace hw := hw.2
      refine z_isub C dX7_editorOf_124 ?_
      exact z_iret C rfl ((((mS v) (0 : Int32).toNatClampNeg) - ((mS v) (f_X7_of p1 112).toNatClampNeg)), v) rfl hw rfl dX7_editorOf_125
    replace hw := hw.2 c6
    by_cases c7 : p2 = 5
    · refine z_tableAt C dX7_editorOf_10 5 c7 (by decide) (by decide) 116 rfl 126 (by decide) ?_
      replace hw := hw.1 c7
      refine z_aload_n C dX7_editorOf_126 rfl ?_
      refine z_get C inlX7 rfl 0 (by decide) mw_4_15 dX7_editorOf_127 0 0 rfl rfl rfl ?_
      refine z_iload_n C dX7_editorOf_130 rfl ?_
      refine z_bipush C dX7_editorOf_131 114 (by decide +kernel) ?_
      refine z_callFS C [] [(wMx cI gv (mS v) (mAside v) (mBefore v) (mText v) (mLetters v) (mBys v) (mFirst v) (mCommand v) (mKnown v) (mLength v) (mLogLong v) (mAreSame v) (mAt v) (mIsWrong v) (mPosition v) (mReason v) (mCause v))] (met_X7_of l D cI p1 114) y_X7_of mw_12_5 dX7_editorOf_133 rfl n_X7_of rfl (by decide) ⟨rfl, rfl, Nat.le_of_ble_eq_true rfl, Nat.le_of_ble_eq_true rfl⟩ (Nat.le_of_ble_eq_true rfl) (z_pm [0] 1 rfl (by decide) rfl) ?_
      refine z_iald C dX7_editorOf_136 0 1 rfl rfl hw.1 ?_
      replace hw := hw.2
      exact z_iret C rfl (((mS v) (f_X7_of p1 114).toNatClampNeg), v) rfl hw rfl dX7_editorOf_137
    replace hw := hw.2 c7
    by_cases c8 : p2 = 6
    · refine z_tableAt C dX7_editorOf_10 6 c8 (by decide) (by decide) 128 rfl 138 (by decide) ?_
      replace hw := hw.1 c8
      refine z_aload_n C dX7_editorOf_138 rfl ?_
      refine z_get C inlX7 rfl 0 (by decide) mw_4_15 dX7_editorOf_139 0 0 rfl rfl rfl ?_
      refine z_iload_n C dX7_editorOf_142 rfl ?_
      refine z_bipush C dX7_editorOf_143 104 (by decide +kernel) ?_
      refine z_callFS C [] [(wMx cI gv (mS v) (mAside v) (mBefore v) (mText v) (mLetters v) (mBys v) (mFirst v) (mCommand v) (mKnown v) (mLength v) (mLogLong v) (mAreSame v) (mAt v) (mIsWrong v) (mPosition v) (mReason v) (mCause v))] (met_X7_of l D cI p1 104) y_X7_of mw_12_5 dX7_editorOf_145 rfl n_X7_of rfl (by decide) ⟨rfl, rfl, Nat.le_of_ble_eq_true rfl, Nat.le_of_ble_eq_true rfl⟩ (Nat.le_of_ble_eq_true rfl) (z_pm [0] 1 rfl (by decide) rfl) ?_
      refine z_iald C dX7_editorOf_148 0 1 rfl rfl hw.1 ?_
      replace hw := hw.2
      exact z_iret C rfl (((mS v) (f_X7_of p1 104).toNatClampNeg), v) rfl hw rfl dX7_editorOf_149
    replace hw := hw.2 c8
    by_cases c9 : p2 = 7
    · refine z_tableAt C dX7_editorOf_10 7 c9 (by decide) (by decide) 140 rfl 150 (by decide) ?_
      replace hw := hw.1 c9
      refine z_aload_n C dX7_editorOf_150 rfl ?_
      refine z_callV0 C [(wMx cI gv (mS v) (mAside v) (mBefore v) (mText v) (mLetters v) (mBys v) (mFirst v) (mCommand v) (mKnown v) (mLength v) (mLogLong v) (mAreSame v) (mAt v) (mIsWrong v) (mPosition v) (mReason v) (mCause v))] [] rfl rfl (met_X7_lay l D cI gv v _ hw) y_X7_lay mw_19_5 dX7_editorOf_151 rfl n_X7_lay rfl (by decide) ⟨rfl, rfl, Nat.le_of_ble_eq_true rfl, Nat.le_of_ble_eq_true rfl⟩ (Nat.le_of_ble_eq_true rfl) (z_pm [0] 1 rfl (by decide) rfl) ?_
      intro u10 hw
      try dsimp only at hw
      refine z_bs [(wMx cI gv (mS u10) (mAside u10) (mBefore u10) (mText u10) (mLetters u10) (mBys u10) (mFirst u10) (mCommand u10) (mKnown u10) (mLength u10) (mLogLong u10) (mAreSame u10) (mAt u10) (mIsWrong u10) (mPosition u10) (mReason u10) (mCause u10))] [] rfl rfl ?_
      refine z_aload_n C dX7_editorOf_154 rfl ?_
      refine z_iload_n C dX7_editorOf_155 rfl ?_
      refine z_callV0 C [(wMx cI gv (mS u10) (mAside u10) (mBefore u10) (mText u10) (mLetters u10) (mBys u10) (mFirst u10) (mCommand u10) (mKnown u10) (mLength u10) (mLogLong u10) (mAreSame u10) (mAt u10) (mIsWrong u10) (mPosition u10) (mReason u10) (mCause u10))] [] rfl rfl (met_X7_isSame l D cI gv u10 p1 _ hw) y_X7_isSame mw_19_22 dX7_editorOf_156 rfl n_X7_isSame rfl (by decide) ⟨rfl, rfl, Nat.le_of_ble_eq_true rfl, Nat.le_of_ble_eq_true rfl⟩ (Nat.le_of_ble_eq_true rfl) (z_pm [0] 1 rfl (by decide) rfl) ?_
      intro ⟨r11, u12⟩ hw
      try dsimp only at hw
      refine z_bs [(wMx cI gv (mS u12) (mAside u12) (mBefore u12) (mText u12) (mLetters u12) (mBys u12) (mFirst u12) (mCommand u12) (mKnown u12) (mLength u12) (mLogLong u12) (mAreSame u12) (mAt u12) (mIsWrong u12) (mPosition u12) (mReason u12) (mCause u12))] [.int r11] rfl rfl ?_
      refine z_if_eq C dX7_editorOf_159 166 (by decide) (fun c13 => ?_) (fun c13 => ?_)
      · replace hw := hw.1 c13
        refine z_iconst C dX7_editorOf_166 0 (by decide +kernel) ?_
        exact z_iret C rfl (0, u12) rfl hw rfl dX7_editorOf_167
      · replace hw := hw.2 c13
        refine z_iconst C dX7_editorOf_162 1 (by decide +kernel) ?_
        refine z_goto C dX7_editorOf_163 167 (by decide) ?_
        exact z_iret C rfl (1, u12) rfl hw rfl dX7_editorOf_167
    replace hw := hw.2 c9
    by_cases c14 : p2 = 8
    · refine z_tableAt C dX7_editorOf_10 8 c14 (by decide) (by decide) 158 rfl 168 (by decide) ?_
      replace hw := hw.1 c14
      refine z_aload_n C dX7_editorOf_168 rfl ?_
      refine z_get C inlX7 rfl 0 (by decide) mw_4_15 dX7_editorOf_169 0 0 rfl rfl rfl ?_
      refine z_iload_n C dX7_editorOf_172 rfl ?_
      refine z_bipush C dX7_editorOf_173 115 (by decide +kernel) ?_
      refine z_callFS C [] [(wMx cI gv (mS v) (mAside v) (mBefore v) (mText v) (mLetters v) (mBys v) (mFirst v) (mCommand v) (mKnown v) (mLength v) (mLogLong v) (mAreSame v) (mAt v) (mIsWrong v) (mPosition v) (mReason v) (mCause v))] (met_X7_of l D cI p1 115) y_X7_of mw_12_5 dX7_editorOf_175 rfl n_X7_of rfl (by decide) ⟨rfl, rfl, Nat.le_of_ble_eq_true rfl, Nat.le_of_ble_eq_true rfl⟩ (Nat.le_of_ble_eq_true rfl) (z_pm [0] 1 rfl (by decide) rfl) ?_
      refine z_iald C dX7_editorOf_178 0 1 rfl rfl hw.1 ?_
      replace hw := hw.2
      exact z_iret C rfl (((mS v) (f_X7_of p1 115).toNatClampNeg), v) rfl hw rfl dX7_editorOf_179
    replace hw := hw.2 c14
    refine z_tableOut C dX7_editorOf_10 (by
    have nc2 := lv_neT (a := 0) c2 rfl
    have nc3 := lv_neT (a := 1) c3 rfl
    have nc4 := lv_neT (a := 2) c4 rfl
    have nc5 := lv_neT (a := 3) c5 rfl
    have nc6 := lv_neT (a := 4) c6 rfl
    have nc7 := lv_neT (a := 5) c7 rfl
    have nc8 := lv_neT (a := 6) c8 rfl
    have nc9 := lv_neT (a := 7) c9 rfl
    have nc14 := lv_neT (a := 8) c14 rfl
    omega) 180 (by decide) ?_
    refine z_iconst C dX7_editorOf_180 (-1) (by decide +kernel) ?_
    exact z_iret C rfl ((-1), v) rfl hw rfl dX7_editorOf_181
  · replace hw := hw.2 c1
    refine z_iconst C dX7_editorOf_7 (-1) (by decide +kernel) ?_
    exact z_iret C rfl ((-1), v) rfl hw rfl dX7_editorOf_8
def rmX7_waitingOf : Room := { frames := 2, cells := 0, slots := 0, locals := 42 }
def wp_X7_waitingOf (v : zM) (p1 : Int32) (p2 : Int32) (p3 : Int32) (Q : Int32 → zM → Prop) : Prop := (((f_X7_isEditor p1) = 0 → (Q (-1) v)) ∧ (¬ (f_X7_isEditor p1) = 0 → ((p2 < 0 → (Q (-1) v)) ∧ (¬ p2 < 0 → ((¬ (f_X7_in p3 0 2) = 0 → (vp_in (f_X7_of p1 97) 445 ∧ ((((mS v) (f_X7_of p1 97).toNatClampNeg) ≤ p2 → (Q (-4) v)) ∧ (¬ ((mS v) (f_X7_of p1 97).toNatClampNeg) ≤ p2 → (vp_in (f_X7_of p1 (98 + p2)) 445 ∧ (Q (f_X7_told ((mS v) (f_X7_of p1 (98 + p2)).toNatClampNeg) p3) v)))))) ∧ ((f_X7_in p3 0 2) = 0 → (Q (-1) v)))))))
set_option maxHeartbeats 4000000 in
set_option maxRecDepth 100000 in
theorem met_X7_waitingOf (l : Launch) (D : va_G) (cI : ClassId) (gv : Nat → Nat) (v : zM) (p1 : Int32) (p2 : Int32) (p3 : Int32) (Q : Int32 → zM → Prop) (hw : wp_X7_waitingOf v p1 p2 p3 Q) : ZM l D cI yX7_waitingOf cX7_waitingOf 4 (some .int) rmX7_waitingOf [.ref (gv 0), .int p1, .int p2, .int p3] [(wMx cI gv (mS v) (mAside v) (mBefore v) (mText v) (mLetters v) (mBys v) (mFirst v) (mCommand v) (mKnown v) (mLength v) (mLogLong v) (mAreSame v) (mAt v) (mIsWrong v) (mPosition v) (mReason v) (mCause v))] (fun u : Int32 × zM => some (.int u.1)) (fun u : Int32 × zM => [(wMx cI gv (mS (u.2)) (mAside (u.2)) (mBefore (u.2)) (mText (u.2)) (mLetters (u.2)) (mBys (u.2)) (mFirst (u.2)) (mCommand (u.2)) (mKnown (u.2)) (mLength (u.2)) (mLogLong (u.2)) (mAreSame (u.2)) (mAt (u.2)) (mIsWrong (u.2)) (mPosition (u.2)) (mReason (u.2)) (mCause (u.2)))]) (fun u : Int32 × zM => Q u.1 u.2) := by
  refine z_body [some (.ref (gv 0)), some (.int p1), some (.int p2), some (.int p3)] (by decide +kernel) rfl (Nat.le_of_ble_eq_true rfl) rfl ?_
  intro p e s m args below meth c A C hin
  unfold wp_X7_waitingOf at hw
  refine z_iload_n C dX7_waitingOf_0 rfl ?_
  refine z_callFS C [] [(wMx cI gv (mS v) (mAside v) (mBefore v) (mText v) (mLetters v) (mBys v) (mFirst v) (mCommand v) (mKnown v) (mLength v) (mLogLong v) (mAreSame v) (mAt v) (mIsWrong v) (mPosition v) (mReason v) (mCause v))] (met_X7_isEditor l D cI p1) y_X7_isEditor mw_11_23 dX7_waitingOf_1 rfl n_X7_isEditor rfl (by decide) ⟨rfl, rfl, Nat.le_of_ble_eq_true rfl, Nat.le_of_ble_eq_true rfl⟩ (Nat.le_of_ble_eq_true rfl) (z_pm [0] 1 rfl (by decide) rfl) ?_
  refine z_if_eq C dX7_waitingOf_4 20 (by decide) (fun c1 => ?_) (fun c1 => ?_)
  · replace hw := hw.1 c1
    refine z_iconst C dX7_waitingOf_20 (-1) (by decide +kernel) ?_
    exact z_iret C rfl ((-1), v) rfl hw rfl dX7_waitingOf_21
  · replace hw := hw.2 c1
    refine z_iload_n C dX7_waitingOf_7 rfl ?_
    refine z_if_lt C dX7_waitingOf_8 20 (by decide) (fun c2 => ?_) (fun c2 => ?_)
    · replace hw := hw.1 c2
      refine z_iconst C dX7_waitingOf_20 (-1) (by decide +kernel) ?_
      exact z_iret C rfl ((-1), v) rfl hw rfl dX7_waitingOf_21
    · replace hw := hw.2 c2
      refine z_iload_n C dX7_waitingOf_11 rfl ?_
      refine z_iconst C dX7_waitingOf_12 0 (by decide +kernel) ?_
      refine z_iconst C dX7_waitingOf_13 2 (by decide +kernel) ?_
      refine z_callFS C [] [(wMx cI gv (mS v) (mAside v) (mBefore v) (mText v) (mLetters v) (mBys v) (mFirst v) (mCommand v) (mKnown v) (mLength v) (mLogLong v) (mAreSame v) (mAt v) (mIsWrong v) (mPosition v) (mReason v) (mCause v))] (met_X7_in l D cI p3 0 2) y_X7_in mw_12_2 dX7_waitingOf_14 rfl n_X7_in rfl (by decide) ⟨rfl, rfl, Nat.le_of_ble_eq_true rfl, Nat.le_of_ble_eq_true rfl⟩ (Nat.le_of_ble_eq_true rfl) (z_pm [0] 1 rfl (by decide) rfl) ?_
      refine z_if_ne C dX7_waitingOf_17 22 (by decide) (fun c3 => ?_) (fun c3 => ?_)
      · replace hw := hw.1 c3
        refine z_iload_n C dX7_waitingOf_22 rfl ?_
        refine z_aload_n C dX7_waitingOf_23 rfl ?_
        refine z_get C inlX7 rfl 0 (by decide) mw_4_15 dX7_waitingOf_24 0 0 rfl rfl rfl ?_
        refine z_iload_n C dX7_waitingOf_27 rfl ?_
        refine z_bipush C dX7_waitingOf_28 97 (by decide +kernel) ?_
        refine z_callFS C [] [(wMx cI gv (mS v) (mAside v) (mBefore v) (mText v) (mLetters v) (mBys v) (mFirst v) (mCommand v) (mKnown v) (mLength v) (mLogLong v) (mAreSame v) (mAt v) (mIsWrong v) (mPosition v) (mReason v) (mCause v))] (met_X7_of l D cI p1 97) y_X7_of mw_12_5 dX7_waitingOf_30 rfl n_X7_of rfl (by decide) ⟨rfl, rfl, Nat.le_of_ble_eq_true rfl, Nat.le_of_ble_eq_true rfl⟩ (Nat.le_of_ble_eq_true rfl) (z_pm [0] 1 rfl (by decide) rfl) ?_
        refine z_iald C dX7_waitingOf_33 0 1 rfl rfl hw.1 ?_
        replace hw := hw.2
        refine z_icmp_ge C dX7_waitingOf_34 57 (by decide) (fun c4 => ?_) (fun c4 => ?_)
        · replace hw := hw.1 c4
          refine z_bipush C dX7_waitingOf_57 (-4) (by decide +kernel) ?_
          exact z_iret C rfl ((-4), v) rfl hw rfl dX7_waitingOf_59
        · replace hw := hw.2 c4
          refine z_aload_n C dX7_waitingOf_37 rfl ?_
          refine z_get C inlX7 rfl 0 (by decide) mw_4_15 dX7_waitingOf_38 0 0 rfl rfl rfl ?_
          refine z_iload_n C dX7_waitingOf_41 rfl ?_
          refine z_bipush C dX7_waitingOf_42 98 (by decide +kernel) ?_
          refine z_iload_n C dX7_waitingOf_44 rfl ?_
          refine z_iadd C dX7_waitingOf_45 ?_
          refine z_callFS C [] [(wMx cI gv (mS v) (mAside v) (mBefore v) (mText v) (mLetters v) (mBys v) (mFirst v) (mCommand v) (mKnown v) (mLength v) (mLogLong v) (mAreSame v) (mAt v) (mIsWrong v) (mPosition v) (mReason v) (mCause v))] (met_X7_of l D cI p1 (98 + p2)) y_X7_of mw_12_5 dX7_waitingOf_46 rfl n_X7_of rfl (by decide) ⟨rfl, rfl, Nat.le_of_ble_eq_true rfl, Nat.le_of_ble_eq_true rfl⟩ (Nat.le_of_ble_eq_true rfl) (z_pm [0] 1 rfl (by decide) rfl) ?_
          refine z_iald C dX7_waitingOf_49 0 1 rfl rfl hw.1 ?_
          replace hw := hw.2
          refine z_iload_n C dX7_waitingOf_50 rfl ?_
          refine z_callFS C [] [(wMx cI gv (mS v) (mAside v) (mBefore v) (mText v) (mLetters v) (mBys v) (mFirst v) (mCommand v) (mKnown v) (mLength v) (mLogLong v) (mAreSame v) (mAt v) (mIsWrong v) (mPosition v) (mReason v) (mCause v))] (met_X7_told l D cI ((mS v) (f_X7_of p1 (98 + p2)).toNatClampNeg) p3) y_X7_told mw_20_20 dX7_waitingOf_51 rfl n_X7_told rfl (by decide) ⟨rfl, rfl, Nat.le_of_ble_eq_true rfl, Nat.le_of_ble_eq_true rfl⟩ (Nat.le_of_ble_eq_true rfl) (z_pm [0] 1 rfl (by decide) rfl) ?_
          refine z_goto C dX7_waitingOf_54 59 (by decide) ?_
          exact z_iret C rfl ((f_X7_told ((mS v) (f_X7_of p1 (98 + p2)).toNatClampNeg) p3), v) rfl hw rfl dX7_waitingOf_59
      · replace hw := hw.2 c3
        refine z_iconst C dX7_waitingOf_20 (-1) (by decide +kernel) ?_
        exact z_iret C rfl ((-1), v) rfl hw rfl dX7_waitingOf_21
def rmX7_logOf : Room := { frames := 2, cells := 0, slots := 0, locals := 42 }
def wp_X7_logOf (v : zM) (p1 : Int32) (p2 : Int32) (Q : Int32 → zM → Prop) : Prop := ((p1 < 0 → (Q (-1) v)) ∧ (¬ p1 < 0 → ((¬ (f_X7_in p2 0 3) = 0 → (vp_in 0 445 ∧ ((((mS v) (0 : Int32).toNatClampNeg) ≤ p1 → (Q (-4) v)) ∧ (¬ ((mS v) (0 : Int32).toNatClampNeg) ≤ p1 → (vp_in (1 + p1) 445 ∧ (Q (f_X7_told ((mS v) (1 + p1).toNatClampNeg) p2) v)))))) ∧ ((f_X7_in p2 0 3) = 0 → (Q (-1) v)))))
set_option maxHeartbeats 4000000 in
set_option maxRecDepth 100000 in
theorem met_X7_logOf (l : Launch) (D : va_G) (cI : ClassId) (gv : Nat → Nat) (v : zM) (p1 : Int32) (p2 : Int32) (Q : Int32 → zM → Prop) (hw : wp_X7_logOf v p1 p2 Q) : ZM l D cI yX7_logOf cX7_logOf 3 (some .int) rmX7_logOf [.ref (gv 0), .int p1, .int p2] [(wMx cI gv (mS v) (mAside v) (mBefore v) (mText v) (mLetters v) (mBys v) (mFirst v) (mCommand v) (mKnown v) (mLength v) (mLogLong v) (mAreSame v) (mAt v) (mIsWrong v) (mPosition v) (mReason v) (mCause v))] (fun u : Int32 × zM => some (.int u.1)) (fun u : Int32 × zM => [(wMx cI gv (mS (u.2)) (mAside (u.2)) (mBefore (u.2)) (mText (u.2)) (mLetters (u.2)) (mBys (u.2)) (mFirst (u.2)) (mCommand (u.2)) (mKnown (u.2)) (mLength (u.2)) (mLogLong (u.2)) (mAreSame (u.2)) (mAt (u.2)) (mIsWrong (u.2)) (mPosition (u.2)) (mReason (u.2)) (mCause (u.2)))]) (fun u : Int32 × zM => Q u.1 u.2) := by
  refine z_body [some (.ref (gv 0)), some (.int p1), some (.int p2)] (by decide +kernel) rfl (Nat.le_of_ble_eq_true rfl) rfl ?_
  intro p e s m args below meth c A C hin
  unfold wp_X7_logOf at hw
  refine z_iload_n C dX7_logOf_0 rfl ?_
  refine z_if_lt C dX7_logOf_1 13 (by decide) (fun c1 => ?_) (fun c1 => ?_)
  · replace hw := hw.1 c1
    refine z_iconst C dX7_logOf_13 (-1) (by decide +kernel) ?_
    exact z_iret C rfl ((-1), v) rfl hw rfl dX7_logOf_14
  · replace hw := hw.2 c1
    refine z_iload_n C dX7_logOf_4 rfl ?_
    refine z_iconst C dX7_logOf_5 0 (by decide +kernel) ?_
    refine z_iconst C dX7_logOf_6 3 (by decide +kernel) ?_
    refine z_callFS C [] [(wMx cI gv (mS v) (mAside v) (mBefore v) (mText v) (mLetters v) (mBys v) (mFirst v) (mCommand v) (mKnown v) (mLength v) (mLogLong v) (mAreSame v) (mAt v) (mIsWrong v) (mPosition v) (mReason v) (mCause v))] (met_X7_in l D cI p2 0 3) y_X7_in mw_12_2 dX7_logOf_7 rfl n_X7_in rfl (by decide) ⟨rfl, rfl, Nat.le_of_ble_eq_true rfl, Nat.le_of_ble_eq_true rfl⟩ (Nat.le_of_ble_eq_true rfl) (z_pm [0] 1 rfl (by decide) rfl) ?_
    refine z_if_ne C dX7_logOf_10 15 (by decide) (fun c2 => ?_) (fun c2 => ?_)
    · replace hw := hw.1 c2
      refine z_iload_n C dX7_logOf_15 rfl ?_
      refine z_aload_n C dX7_logOf_16 rfl ?_
      refine z_get C inlX7 rfl 0 (by decide) mw_4_15 dX7_logOf_17 0 0 rfl rfl rfl ?_
      refine z_iconst C dX7_logOf_20 0 (by decide +kernel) ?_
      refine z_iald C dX7_logOf_21 0 1 rfl rfl hw.1 ?_
      replace hw := hw.2
      refine z_icmp_ge C dX7_logOf_22 40 (by decide) (fun c3 => ?_) (fun c3 => ?_)
      · replace hw := hw.1 c3
        refine z_bipush C dX7_logOf_40 (-4) (by decide +kernel) ?_
        exact z_iret C rfl ((-4), v) rfl hw rfl dX7_logOf_42
      · replace hw := hw.2 c3
        refine z_aload_n C dX7_logOf_25 rfl ?_
        refine z_get C inlX7 rfl 0 (by decide) mw_4_15 dX7_logOf_26 0 0 rfl rfl rfl ?_
        refine z_iconst C dX7_logOf_29 1 (by decide +kernel) ?_
        refine z_iload_n C dX7_logOf_30 rfl ?_
        refine z_iadd C dX7_logOf_31 ?_
        refine z_iald C dX7_logOf_32 0 1 rfl rfl hw.1 ?_
        replace hw := hw.2
        refine z_iload_n C dX7_logOf_33 rfl ?_
        refine z_callFS C [] [(wMx cI gv (mS v) (mAside v) (mBefore v) (mText v) (mLetters v) (mBys v) (mFirst v) (mCommand v) (mKnown v) (mLength v) (mLogLong v) (mAreSame v) (mAt v) (mIsWrong v) (mPosition v) (mReason v) (mCause v))] (met_X7_told l D cI ((mS v) (1 + p1).toNatClampNeg) p2) y_X7_told mw_20_20 dX7_logOf_34 rfl n_X7_told rfl (by decide) ⟨rfl, rfl, Nat.le_of_ble_eq_true rfl, Nat.le_of_ble_eq_true rfl⟩ (Nat.le_of_ble_eq_true rfl) (z_pm [0] 1 rfl (by decide) rfl) ?_
        refine z_goto C dX7_logOf_37 42 (by decide) ?_
        exact z_iret C rfl ((f_X7_told ((mS v) (1 + p1).toNatClampNeg) p2), v) rfl hw rfl dX7_logOf_42
    · replace hw := hw.2 c2
      refine z_iconst C dX7_logOf_13 (-1) (by decide +kernel) ?_
      exact z_iret C rfl ((-1), v) rfl hw rfl dX7_logOf_14
def rmX7_by : Room := { frames := 2, cells := 0, slots := 0, locals := 44 }
def wp_X7_by (v : zM) (p1 : Int32) (Q : Int32 → zM → Prop) : Prop := ((0 ≤ p1 → (wp_X7_lay v (fun u2 => (((mLogLong u2) ≤ p1 → (Q (-4) u2)) ∧ (¬ (mLogLong u2) ≤ p1 → (vp_in p1 96 ∧ (Q ((mBys u2) p1.toNatClampNeg) u2))))))) ∧ (¬ 0 ≤ p1 → (Q (-1) v)))
set_option maxHeartbeats 4000000 in
set_option maxRecDepth 100000 in
theorem met_X7_by (l : Launch) (D : va_G) (cI : ClassId) (gv : Nat → Nat) (v : zM) (p1 : Int32) (Q : Int32 → zM → Prop) (hw : wp_X7_by v p1 Q) : ZM l D cI yX7_by cX7_by 2 (some .int) rmX7_by [.ref (gv 0), .int p1] [(wMx cI gv (mS v) (mAside v) (mBefore v) (mText v) (mLetters v) (mBys v) (mFirst v) (mCommand v) (mKnown v) (mLength v) (mLogLong v) (mAreSame v) (mAt v) (mIsWrong v) (mPosition v) (mReason v) (mCause v))] (fun u : Int32 × zM => some (.int u.1)) (fun u : Int32 × zM => [(wMx cI gv (mS (u.2)) (mAside (u.2)) (mBefore (u.2)) (mText (u.2)) (mLetters (u.2)) (mBys (u.2)) (mFirst (u.2)) (mCommand (u.2)) (mKnown (u.2)) (mLength (u.2)) (mLogLong (u.2)) (mAreSame (u.2)) (mAt (u.2)) (mIsWrong (u.2)) (mPosition (u.2)) (mReason (u.2)) (mCause (u.2)))]) (fun u : Int32 × zM => Q u.1 u.2) := by
  refine z_body [some (.ref (gv 0)), some (.int p1)] (by decide +kernel) rfl (Nat.le_of_ble_eq_true rfl) rfl ?_
  intro p e s m args below meth c A C hin
  unfold wp_X7_by at hw
  refine z_iload_n C dX7_by_0 rfl ?_
  refine z_if_ge C dX7_by_1 6 (by decide) (fun c1 => ?_) (fun c1 => ?_)
  · replace hw := hw.1 c1
    refine z_aload_n C dX7_by_6 rfl ?_
    refine z_callV0 C [(wMx cI gv (mS v) (mAside v) (mBefore v) (mText v) (mLetters v) (mBys v) (mFirst v) (mCommand v) (mKnown v) (mLength v) (mLogLong v) (mAreSame v) (mAt v) (mIsWrong v) (mPosition v) (mReason v) (mCause v))] [] rfl rfl (met_X7_lay l D cI gv v _ hw) y_X7_lay mw_19_5 dX7_by_7 rfl n_X7_lay rfl (by decide) ⟨rfl, rfl, Nat.le_of_ble_eq_true rfl, Nat.le_of_ble_eq_true rfl⟩ (Nat.le_of_ble_eq_true rfl) (z_pm [0] 1 rfl (by decide) rfl) ?_
    intro u2 hw
    try dsimp only at hw
    refine z_bs [(wMx cI gv (mS u2) (mAside u2) (mBefore u2) (mText u2) (mLetters u2) (mBys u2) (mFirst u2) (mCommand u2) (mKnown u2) (mLength u2) (mLogLong u2) (mAreSame u2) (mAt u2) (mIsWrong u2) (mPosition u2) (mReason u2) (mCause u2))] [] rfl rfl ?_
    refine z_iload_n C dX7_by_10 rfl ?_
    refine z_aload_n C dX7_by_11 rfl ?_
    refine z_get C inlX7 rfl 8 (by decide) mw_19_4 dX7_by_12 0 0 rfl rfl rfl ?_
    refine z_icmp_ge C dX7_by_15 27 (by decide) (fun c3 => ?_) (fun c3 => ?_)
    · replace hw := hw.1 c3
      refine z_bipush C dX7_by_27 (-4) (by decide +kernel) ?_
      exact z_iret C rfl ((-4), u2) rfl hw rfl dX7_by_29
    · replace hw := hw.2 c3
      refine z_aload_n C dX7_by_18 rfl ?_
      refine z_get C inlX7 rfl 7 (by decide) mw_4_20 dX7_by_19 0 0 rfl rfl rfl ?_
      refine z_iload_n C dX7_by_22 rfl ?_
      refine z_iald C dX7_by_23 0 6 rfl rfl hw.1 ?_
      replace hw := hw.2
      refine z_goto C dX7_by_24 29 (by decide) ?_
      exact z_iret C rfl (((mBys u2) p1.toNatClampNeg), u2) rfl hw rfl dX7_by_29
  · replace hw := hw.2 c1
    refine z_iconst C dX7_by_4 (-1) (by decide +kernel) ?_
    exact z_iret C rfl ((-1), v) rfl hw rfl dX7_by_5
def rmX7_sum : Room := { frames := 1, cells := 0, slots := 0, locals := 21 }
def jn_X7_sum_98 (v : zM) (p1 : Int32) (v2 : Int32) (v3 : Int32) (s98_0 : Int32) (Q : Int32 → zM → Prop) (K49 : (Int32) → (Int32) → Prop) : Prop := ((¬ p1 = 3 → ((s98_0 = 0 → (∀ x7 : Int32, x7 = (v2 + 0) → (K49 x7 (v3 + 1)))) ∧ (¬ s98_0 = 0 → (∀ x8 : Int32, x8 = (v2 + 1) → (K49 x8 (v3 + 1)))))) ∧ (p1 = 3 → (vp_in (f_X7_of v3 97) 445 ∧ (∀ x9 : Int32, x9 = (v2 + ((mS v) (f_X7_of v3 97).toNatClampNeg)) → (K49 x9 (v3 + 1))))))
set_option maxHeartbeats 4000000 in
set_option maxRecDepth 100000 in
theorem wk_X7_sum_98 {p : Program} {l : Launch} {e : Env} {s : State} {m : MethodId} {args : Array Value} {below : List Frame} {meth : Method} {c : Code} {D : va_G} {cI : ClassId} {A : Nat → Prop} (C : ZC p s m args meth c RX7 cX7_sum 5 (some .int) D cI A) (gv : Nat → Nat) (v : zM) (p1 : Int32) (v2 : Int32) (v3 : Int32) (s98_0 : Int32) (Q : Int32 → zM → Prop) (K49 : (Int32) → (Int32) → Prop) (hK49 : ∀ (v2 : Int32) (v3 : Int32), K49 v2 v3 → ZZ p l e rmX7_sum s m args below meth c D A 5 0 0 (MQ below (ZQ D A (fun u : Int32 × zM => some (.int u.1)) (fun u : Int32 × zM => [(wMx cI gv (mS (u.2)) (mAside (u.2)) (mBefore (u.2)) (mText (u.2)) (mLetters (u.2)) (mBys (u.2)) (mFirst (u.2)) (mCommand (u.2)) (mKnown (u.2)) (mLength (u.2)) (mLogLong (u.2)) (mAreSame (u.2)) (mAt (u.2)) (mIsWrong (u.2)) (mPosition (u.2)) (mReason (u.2)) (mCause (u.2)))]) (fun u : Int32 × zM => Q u.1 u.2)) args s rmX7_sum.cells rmX7_sum.slots A) [(wMx cI gv (mS v) (mAside v) (mBefore v) (mText v) (mLetters v) (mBys v) (mFirst v) (mCommand v) (mKnown v) (mLength v) (mLogLong v) (mAreSame v) (mAt v) (mIsWrong v) (mPosition v) (mReason v) (mCause v))] 49 [some (.ref (gv 0)), some (.int p1), some (.int v2), some (.int v3), none] []) (hw : jn_X7_sum_98 v p1 v2 v3 s98_0 Q K49) : ZZ p l e rmX7_sum s m args below meth c D A 5 0 0 (MQ below (ZQ D A (fun u : Int32 × zM => some (.int u.1)) (fun u : Int32 × zM => [(wMx cI gv (mS (u.2)) (mAside (u.2)) (mBefore (u.2)) (mText (u.2)) (mLetters (u.2)) (mBys (u.2)) (mFirst (u.2)) (mCommand (u.2)) (mKnown (u.2)) (mLength (u.2)) (mLogLong (u.2)) (mAreSame (u.2)) (mAt (u.2)) (mIsWrong (u.2)) (mPosition (u.2)) (mReason (u.2)) (mCause (u.2)))]) (fun u : Int32 × zM => Q u.1 u.2)) args s rmX7_sum.cells rmX7_sum.slots A) [(wMx cI gv (mS v) (mAside v) (mBefore v) (mText v) (mLetters v) (mBys v) (mFirst v) (mCommand v) (mKnown v) (mLength v) (mLogLong v) (mAreSame v) (mAt v) (mIsWrong v) (mPosition v) (mReason v) (mCause v))] 98 [some (.ref (gv 0)), some (.int p1), some (.int v2), some (.int v3), none] [.int s98_0] := by
  unfold jn_X7_sum_98 at hw
  refine z_istore C dX7_sum_98 [some (.ref (gv 0)), some (.int p1), some (.int v2), some (.int v3), some (.int s98_0)] (by decide) rfl ?_
  refine z_iload_n C dX7_sum_100 rfl ?_
  refine z_iload_n C dX7_sum_101 rfl ?_
  refine z_iconst C dX7_sum_102 3 (by decide +kernel) ?_
  refine z_icmp_ne C dX7_sum_103 120 (by decide) (fun c5 => ?_) (fun c5 => ?_)
  · replace hw := hw.1 c5
    refine z_iload C dX7_sum_120 rfl ?_
    refine z_if_eq C dX7_sum_122 129 (by decide) (fun c6 => ?_) (fun c6 => ?_)
    · replace hw := hw.1 c6
      refine z_iconst C dX7_sum_129 0 (by decide +kernel) ?_
      refine z_iadd C dX7_sum_130 ?_
      refine z_name C (fun x7 ex7 => ?_)
      replace hw := hw x7 ex7
      refine z_istore_n C dX7_sum_131 [some (.ref (gv 0)), some (.int p1), some (.int x7), some (.int v3), some (.int s98_0)] (by decide) rfl ?_
      refine z_iinc C dX7_sum_132 rfl (v3 + 1) (by rfl) [some (.ref (gv 0)), some (.int p1), some (.int x7), some (.int (v3 + 1)), some (.int s98_0)] (by decide) rfl ?_
      refine z_goto C dX7_sum_135 49 (by decide) ?_
      refine z_ls C [true, true, true, true, false] [some (.ref (gv 0)), some (.int p1), some (.int x7), some (.int (v3 + 1)), none] rfl ?_
      exact hK49 _ _ hw
    · replace hw := hw.2 c6
      refine z_iconst C dX7_sum_125 1 (by decide +kernel) ?_
      refine z_goto C dX7_sum_126 130 (by decide) ?_
      refine z_iadd C dX7_sum_130 ?_
      refine z_name C (fun x8 ex8 => ?_)
      replace hw := hw x8 ex8
      refine z_istore_n C dX7_sum_131 [some (.ref (gv 0)), some (.int p1), some (.int x8), some (.int v3), some (.int s98_0)] (by decide) rfl ?_
      refine z_iinc C dX7_sum_132 rfl (v3 + 1) (by rfl) [some (.ref (gv 0)), some (.int p1), some (.int x8), some (.int (v3 + 1)), some (.int s98_0)] (by decide) rfl ?_
      refine z_goto C dX7_sum_135 49 (by decide) ?_
      refine z_ls C [true, true, true, true, false] [some (.ref (gv 0)), some (.int p1), some (.int x8), some (.int (v3 + 1)), none] rfl ?_
      exact hK49 _ _ hw
  · replace hw := hw.2 c5
    refine z_aload_n C dX7_sum_106 rfl ?_
    refine z_get C inlX7 rfl 0 (by decide) mw_4_15 dX7_sum_107 0 0 rfl rfl rfl ?_
    refine z_iload_n C dX7_sum_110 rfl ?_
    refine z_bipush C dX7_sum_111 97 (by decide +kernel) ?_
    refine z_callFS C [] [(wMx cI gv (mS v) (mAside v) (mBefore v) (mText v) (mLetters v) (mBys v) (mFirst v) (mCommand v) (mKnown v) (mLength v) (mLogLong v) (mAreSame v) (mAt v) (mIsWrong v) (mPosition v) (mReason v) (mCause v))] (met_X7_of l D cI v3 97) y_X7_of mw_12_5 dX7_sum_113 rfl n_X7_of rfl (by decide) ⟨rfl, rfl, Nat.le_of_ble_eq_true rfl, Nat.le_of_ble_eq_true rfl⟩ (Nat.le_of_ble_eq_true rfl) (z_pm [0] 1 rfl (by decide) rfl) ?_
    refine z_iald C dX7_sum_116 0 1 rfl rfl hw.1 ?_
    replace hw := hw.2
    refine z_goto C dX7_sum_117 130 (by decide) ?_
    refine z_iadd C dX7_sum_130 ?_
    refine z_name C (fun x9 ex9 => ?_)
    replace hw := hw x9 ex9
    refine z_istore_n C dX7_sum_131 [some (.ref (gv 0)), some (.int p1), some (.int x9), some (.int v3), some (.int s98_0)] (by decide) rfl ?_
    refine z_iinc C dX7_sum_132 rfl (v3 + 1) (by rfl) [some (.ref (gv 0)), some (.int p1), some (.int x9), some (.int (v3 + 1)), some (.int s98_0)] (by decide) rfl ?_
    refine z_goto C dX7_sum_135 49 (by decide) ?_
    refine z_ls C [true, true, true, true, false] [some (.ref (gv 0)), some (.int p1), some (.int x9), some (.int (v3 + 1)), none] rfl ?_
    exact hK49 _ _ hw
def jn_X7_sum_97 (v : zM) (p1 : Int32) (v2 : Int32) (v3 : Int32)  (Q : Int32 → zM → Prop) (K49 : (Int32) → (Int32) → Prop) : Prop := (jn_X7_sum_98 v p1 v2 v3 0 Q K49)
set_option maxHeartbeats 4000000 in
set_option maxRecDepth 100000 in
theorem wk_X7_sum_97 {p : Program} {l : Launch} {e : Env} {s : State} {m : MethodId} {args : Array Value} {below : List Frame} {meth : Method} {c : Code} {D : va_G} {cI : ClassId} {A : Nat → Prop} (C : ZC p s m args meth c RX7 cX7_sum 5 (some .int) D cI A) (gv : Nat → Nat) (v : zM) (p1 : Int32) (v2 : Int32) (v3 : Int32)  (Q : Int32 → zM → Prop) (K49 : (Int32) → (Int32) → Prop) (hK49 : ∀ (v2 : Int32) (v3 : Int32), K49 v2 v3 → ZZ p l e rmX7_sum s m args below meth c D A 5 0 0 (MQ below (ZQ D A (fun u : Int32 × zM => some (.int u.1)) (fun u : Int32 × zM => [(wMx cI gv (mS (u.2)) (mAside (u.2)) (mBefore (u.2)) (mText (u.2)) (mLetters (u.2)) (mBys (u.2)) (mFirst (u.2)) (mCommand (u.2)) (mKnown (u.2)) (mLength (u.2)) (mLogLong (u.2)) (mAreSame (u.2)) (mAt (u.2)) (mIsWrong (u.2)) (mPosition (u.2)) (mReason (u.2)) (mCause (u.2)))]) (fun u : Int32 × zM => Q u.1 u.2)) args s rmX7_sum.cells rmX7_sum.slots A) [(wMx cI gv (mS v) (mAside v) (mBefore v) (mText v) (mLetters v) (mBys v) (mFirst v) (mCommand v) (mKnown v) (mLength v) (mLogLong v) (mAreSame v) (mAt v) (mIsWrong v) (mPosition v) (mReason v) (mCause v))] 49 [some (.ref (gv 0)), some (.int p1), some (.int v2), some (.int v3), none] []) (hw : jn_X7_sum_97 v p1 v2 v3  Q K49) : ZZ p l e rmX7_sum s m args below meth c D A 5 0 0 (MQ below (ZQ D A (fun u : Int32 × zM => some (.int u.1)) (fun u : Int32 × zM => [(wMx cI gv (mS (u.2)) (mAside (u.2)) (mBefore (u.2)) (mText (u.2)) (mLetters (u.2)) (mBys (u.2)) (mFirst (u.2)) (mCommand (u.2)) (mKnown (u.2)) (mLength (u.2)) (mLogLong (u.2)) (mAreSame (u.2)) (mAt (u.2)) (mIsWrong (u.2)) (mPosition (u.2)) (mReason (u.2)) (mCause (u.2)))]) (fun u : Int32 × zM => Q u.1 u.2)) args s rmX7_sum.cells rmX7_sum.slots A) [(wMx cI gv (mS v) (mAside v) (mBefore v) (mText v) (mLetters v) (mBys v) (mFirst v) (mCommand v) (mKnown v) (mLength v) (mLogLong v) (mAreSame v) (mAt v) (mIsWrong v) (mPosition v) (mReason v) (mCause v))] 97 [some (.ref (gv 0)), some (.int p1), some (.int v2), some (.int v3), none] [] := by
  unfold jn_X7_sum_97 at hw
  refine z_iconst C dX7_sum_97 0 (by decide +kernel) ?_
  exact wk_X7_sum_98 C gv v p1 v2 v3 0 _ K49 hK49 hw
def lb_X7_sum_49 (v : zM) (p1 : Int32)   (Q : Int32 → zM → Prop)  (K49 : (Int32) → (Int32) → Prop) (v2 : Int32) (v3 : Int32) : Prop := ((3 ≤ v3 → (Q v2 v)) ∧ (¬ 3 ≤ v3 → ((p1 ≤ 2 → (Q v2 v)) ∧ (¬ p1 ≤ 2 → (vp_in (f_X7_of v3 112) 445 ∧ (vp_in 0 445 ∧ ((¬ ((mS v) (f_X7_of v3 112).toNatClampNeg) = ((mS v) (0 : Int32).toNatClampNeg) → (jn_X7_sum_97 v p1 v2 v3  Q K49)) ∧ (((mS v) (f_X7_of v3 112).toNatClampNeg) = ((mS v) (0 : Int32).toNatClampNeg) → (vp_in (f_X7_of v3 97) 445 ∧ ((¬ ((mS v) (f_X7_of v3 97).toNatClampNeg) = 0 → (jn_X7_sum_97 v p1 v2 v3  Q K49)) ∧ (((mS v) (f_X7_of v3 97).toNatClampNeg) = 0 → (jn_X7_sum_98 v p1 v2 v3 1 Q K49))))))))))))
set_option maxHeartbeats 4000000 in
set_option maxRecDepth 100000 in
theorem wk_X7_sum_49 {p : Program} {l : Launch} {e : Env} {s : State} {m : MethodId} {args : Array Value} {below : List Frame} {meth : Method} {c : Code} {D : va_G} {cI : ClassId} {A : Nat → Prop} (C : ZC p s m args meth c RX7 cX7_sum 5 (some .int) D cI A) (gv : Nat → Nat) (v : zM) (p1 : Int32)   (v2 : Int32) (v3 : Int32) (Q : Int32 → zM → Prop)  (hw : zLoop2 (lb_X7_sum_49 v p1   Q ) v2 v3) : ZZ p l e rmX7_sum s m args below meth c D A 5 0 0 (MQ below (ZQ D A (fun u : Int32 × zM => some (.int u.1)) (fun u : Int32 × zM => [(wMx cI gv (mS (u.2)) (mAside (u.2)) (mBefore (u.2)) (mText (u.2)) (mLetters (u.2)) (mBys (u.2)) (mFirst (u.2)) (mCommand (u.2)) (mKnown (u.2)) (mLength (u.2)) (mLogLong (u.2)) (mAreSame (u.2)) (mAt (u.2)) (mIsWrong (u.2)) (mPosition (u.2)) (mReason (u.2)) (mCause (u.2)))]) (fun u : Int32 × zM => Q u.1 u.2)) args s rmX7_sum.cells rmX7_sum.slots A) [(wMx cI gv (mS v) (mAside v) (mBefore v) (mText v) (mLetters v) (mBys v) (mFirst v) (mCommand v) (mKnown v) (mLength v) (mLogLong v) (mAreSame v) (mAt v) (mIsWrong v) (mPosition v) (mReason v) (mCause v))] 49 [some (.ref (gv 0)), some (.int p1), some (.int v2), some (.int v3), none] [] := by
  refine zLoop2_w (fun (v2 : Int32) (v3 : Int32) => ZZ p l e rmX7_sum s m args below meth c D A 5 0 0 (MQ below (ZQ D A (fun u : Int32 × zM => some (.int u.1)) (fun u : Int32 × zM => [(wMx cI gv (mS (u.2)) (mAside (u.2)) (mBefore (u.2)) (mText (u.2)) (mLetters (u.2)) (mBys (u.2)) (mFirst (u.2)) (mCommand (u.2)) (mKnown (u.2)) (mLength (u.2)) (mLogLong (u.2)) (mAreSame (u.2)) (mAt (u.2)) (mIsWrong (u.2)) (mPosition (u.2)) (mReason (u.2)) (mCause (u.2)))]) (fun u : Int32 × zM => Q u.1 u.2)) args s rmX7_sum.cells rmX7_sum.slots A) [(wMx cI gv (mS v) (mAside v) (mBefore v) (mText v) (mLetters v) (mBys v) (mFirst v) (mCommand v) (mKnown v) (mLength v) (mLogLong v) (mAreSame v) (mAt v) (mIsWrong v) (mPosition v) (mReason v) (mCause v))] 49 [some (.ref (gv 0)), some (.int p1), some (.int v2), some (.int v3), none] []) ?_ _ _ hw
  clear hw
  intro K49 hK49 v2 v3 hw
  unfold lb_X7_sum_49 at hw
  refine z_iload_n C dX7_sum_49 rfl ?_
  refine z_iconst C dX7_sum_50 3 (by decide +kernel) ?_
  refine z_icmp_ge C dX7_sum_51 138 (by decide) (fun c2 => ?_) (fun c2 => ?_)
  · replace hw := hw.1 c2
    refine z_iload_n C dX7_sum_138 rfl ?_
    exact z_iret C rfl (v2, v) rfl hw rfl dX7_sum_139
  · replace hw := hw.2 c2
    refine z_iload_n C dX7_sum_54 rfl ?_
    refine z_iconst C dX7_sum_55 2 (by decide +kernel) ?_
    refine z_icmp_le C dX7_sum_56 138 (by decide) (fun c3 => ?_) (fun c3 => ?_)
    · replace hw := hw.1 c3
      refine z_iload_n C dX7_sum_138 rfl ?_
      exact z_iret C rfl (v2, v) rfl hw rfl dX7_sum_139
    · replace hw := hw.2 c3
      refine z_aload_n C dX7_sum_59 rfl ?_
      refine z_get C inlX7 rfl 0 (by decide) mw_4_15 dX7_sum_60 0 0 rfl rfl rfl ?_
      refine z_iload_n C dX7_sum_63 rfl ?_
      refine z_bipush C dX7_sum_64 112 (by decide +kernel) ?_
      refine z_callFS C [] [(wMx cI gv (mS v) (mAside v) (mBefore v) (mText v) (mLetters v) (mBys v) (mFirst v) (mCommand v) (mKnown v) (mLength v) (mLogLong v) (mAreSame v) (mAt v) (mIsWrong v) (mPosition v) (mReason v) (mCause v))] (met_X7_of l D cI v3 112) y_X7_of mw_12_5 dX7_sum_66 rfl n_X7_of rfl (by decide) ⟨rfl, rfl, Nat.le_of_ble_eq_true rfl, Nat.le_of_ble_eq_true rfl⟩ (Nat.le_of_ble_eq_true rfl) (z_pm [0] 1 rfl (by decide) rfl) ?_
      refine z_iald C dX7_sum_69 0 1 rfl rfl hw.1 ?_
      replace hw := hw.2
      refine z_aload_n C dX7_sum_70 rfl ?_
      refine z_get C inlX7 rfl 0 (by decide) mw_4_15 dX7_sum_71 0 0 rfl rfl rfl ?_
      refine z_iconst C dX7_sum_74 0 (by decide +kernel) ?_
      refine z_iald C dX7_sum_75 0 1 rfl rfl hw.1 ?_
      replace hw := hw.2
      refine z_icmp_ne C dX7_sum_76 97 (by decide) (fun c4 => ?_) (fun c4 => ?_)
      · replace hw := hw.1 c4
        exact wk_X7_sum_97 C gv v p1 v2 v3  _ K49 hK49 hw
      · replace hw := hw.2 c4
        refine z_aload_n C dX7_sum_79 rfl ?_
        refine z_get C inlX7 rfl 0 (by decide) mw_4_15 dX7_sum_80 0 0 rfl rfl rfl ?_
        refine z_iload_n C dX7_sum_83 rfl ?_
        refine z_bipush C dX7_sum_84 97 (by decide +kernel) ?_
        refine z_callFS C [] [(wMx cI gv (mS v) (mAside v) (mBefore v) (mText v) (mLetters v) (mBys v) (mFirst v) (mCommand v) (mKnown v) (mLength v) (mLogLong v) (mAreSame v) (mAt v) (mIsWrong v) (mPosition v) (mReason v) (mCause v))] (met_X7_of l D cI v3 97) y_X7_of mw_12_5 dX7_sum_86 rfl n_X7_of rfl (by decide) ⟨rfl, rfl, Nat.le_of_ble_eq_true rfl, Nat.le_of_ble_eq_true rfl⟩ (Nat.le_of_ble_eq_true rfl) (z_pm [0] 1 rfl (by decide) rfl) ?_
        refine z_iald C dX7_sum_89 0 1 rfl rfl hw.1 ?_
        replace hw := hw.2
        refine z_if_ne C dX7_sum_90 97 (by decide) (fun c10 => ?_) (fun c10 => ?_)
        · replace hw := hw.1 c10
          exact wk_X7_sum_97 C gv v p1 v2 v3  _ K49 hK49 hw
        · replace hw := hw.2 c10
          refine z_iconst C dX7_sum_93 1 (by decide +kernel) ?_
          refine z_goto C dX7_sum_94 98 (by decide) ?_
          exact wk_X7_sum_98 C gv v p1 v2 v3 1 _ K49 hK49 hw
def lb_X7_sum_4 (v : zM) (p1 : Int32)   (Q : Int32 → zM → Prop)  (K4 : (Int32) → (Int32) → Prop) (v2 : Int32) (v3 : Int32) : Prop := (vp_in 0 445 ∧ ((((mS v) (0 : Int32).toNatClampNeg) ≤ v3 → (zLoop2 (lb_X7_sum_49 v p1   Q ) v2 0)) ∧ (¬ ((mS v) (0 : Int32).toNatClampNeg) ≤ v3 → ((¬ p1 = 2 → (zLoop2 (lb_X7_sum_49 v p1   Q ) v2 0)) ∧ (p1 = 2 → (vp_in (1 + v3) 445 ∧ ((¬ (f_X7_kindOf ((mS v) (1 + v3).toNatClampNeg)) = 0 → (∀ x13 : Int32, x13 = (v2 + 0) → (K4 x13 (v3 + 1)))) ∧ ((f_X7_kindOf ((mS v) (1 + v3).toNatClampNeg)) = 0 → (∀ x14 : Int32, x14 = (v2 + 1) → (K4 x14 (v3 + 1)))))))))))
set_option maxHeartbeats 4000000 in
set_option maxRecDepth 100000 in
theorem wk_X7_sum_4 {p : Program} {l : Launch} {e : Env} {s : State} {m : MethodId} {args : Array Value} {below : List Frame} {meth : Method} {c : Code} {D : va_G} {cI : ClassId} {A : Nat → Prop} (C : ZC p s m args meth c RX7 cX7_sum 5 (some .int) D cI A) (gv : Nat → Nat) (v : zM) (p1 : Int32)   (v2 : Int32) (v3 : Int32) (Q : Int32 → zM → Prop)  (hw : zLoop2 (lb_X7_sum_4 v p1   Q ) v2 v3) : ZZ p l e rmX7_sum s m args below meth c D A 5 0 0 (MQ below (ZQ D A (fun u : Int32 × zM => some (.int u.1)) (fun u : Int32 × zM => [(wMx cI gv (mS (u.2)) (mAside (u.2)) (mBefore (u.2)) (mText (u.2)) (mLetters (u.2)) (mBys (u.2)) (mFirst (u.2)) (mCommand (u.2)) (mKnown (u.2)) (mLength (u.2)) (mLogLong (u.2)) (mAreSame (u.2)) (mAt (u.2)) (mIsWrong (u.2)) (mPosition (u.2)) (mReason (u.2)) (mCause (u.2)))]) (fun u : Int32 × zM => Q u.1 u.2)) args s rmX7_sum.cells rmX7_sum.slots A) [(wMx cI gv (mS v) (mAside v) (mBefore v) (mText v) (mLetters v) (mBys v) (mFirst v) (mCommand v) (mKnown v) (mLength v) (mLogLong v) (mAreSame v) (mAt v) (mIsWrong v) (mPosition v) (mReason v) (mCause v))] 4 [some (.ref (gv 0)), some (.int p1), some (.int v2), some (.int v3), none] [] := by
  refine zLoop2_w (fun (v2 : Int32) (v3 : Int32) => ZZ p l e rmX7_sum s m args below meth c D A 5 0 0 (MQ below (ZQ D A (fun u : Int32 × zM => some (.int u.1)) (fun u : Int32 × zM => [(wMx cI gv (mS (u.2)) (mAside (u.2)) (mBefore (u.2)) (mText (u.2)) (mLetters (u.2)) (mBys (u.2)) (mFirst (u.2)) (mCommand (u.2)) (mKnown (u.2)) (mLength (u.2)) (mLogLong (u.2)) (mAreSame (u.2)) (mAt (u.2)) (mIsWrong (u.2)) (mPosition (u.2)) (mReason (u.2)) (mCause (u.2)))]) (fun u : Int32 × zM => Q u.1 u.2)) args s rmX7_sum.cells rmX7_sum.slots A) [(wMx cI gv (mS v) (mAside v) (mBefore v) (mText v) (mLetters v) (mBys v) (mFirst v) (mCommand v) (mKnown v) (mLength v) (mLogLong v) (mAreSame v) (mAt v) (mIsWrong v) (mPosition v) (mReason v) (mCause v))] 4 [some (.ref (gv 0)), some (.int p1), some (.int v2), some (.int v3), none] []) ?_ _ _ hw
  clear hw
  intro K4 hK4 v2 v3 hw
  unfold lb_X7_sum_4 at hw
  refine z_iload_n C dX7_sum_4 rfl ?_
  refine z_aload_n C dX7_sum_5 rfl ?_
  refine z_get C inlX7 rfl 0 (by decide) mw_4_15 dX7_sum_6 0 0 rfl rfl rfl ?_
  refine z_iconst C dX7_sum_9 0 (by decide +kernel) ?_
  refine z_iald C dX7_sum_10 0 1 rfl rfl hw.1 ?_
  replace hw := hw.2
  refine z_icmp_ge C dX7_sum_11 47 (by decide) (fun c1 => ?_) (fun c1 => ?_)
  · replace hw := hw.1 c1
    refine z_iconst C dX7_sum_47 0 (by decide +kernel) ?_
    refine z_istore_n C dX7_sum_48 [some (.ref (gv 0)), some (.int p1), some (.int v2), some (.int 0), none] (by decide) rfl ?_
    exact wk_X7_sum_49 C gv v p1   v2 0 _  hw
  · replace hw := hw.2 c1
    refine z_iload_n C dX7_sum_14 rfl ?_
    refine z_iconst C dX7_sum_15 2 (by decide +kernel) ?_
    refine z_icmp_ne C dX7_sum_16 47 (by decide) (fun c11 => ?_) (fun c11 => ?_)
    · replace hw := hw.1 c11
      refine z_iconst C dX7_sum_47 0 (by decide +kernel) ?_
      refine z_istore_n C dX7_sum_48 [some (.ref (gv 0)), some (.int p1), some (.int v2), some (.int 0), none] (by decide) rfl ?_
      exact wk_X7_sum_49 C gv v p1   v2 0 _  hw
    · replace hw := hw.2 c11
      refine z_iload_n C dX7_sum_19 rfl ?_
      refine z_aload_n C dX7_sum_20 rfl ?_
      refine z_get C inlX7 rfl 0 (by decide) mw_4_15 dX7_sum_21 0 0 rfl rfl rfl ?_
      refine z_iconst C dX7_sum_24 1 (by decide +kernel) ?_
      refine z_iload_n C dX7_sum_25 rfl ?_
      refine z_iadd C dX7_sum_26 ?_
      refine z_iald C dX7_sum_27 0 1 rfl rfl hw.1 ?_
      replace hw := hw.2
      refine z_callFS C [] [(wMx cI gv (mS v) (mAside v) (mBefore v) (mText v) (mLetters v) (mBys v) (mFirst v) (mCommand v) (mKnown v) (mLength v) (mLogLong v) (mAreSame v) (mAt v) (mIsWrong v) (mPosition v) (mReason v) (mCause v))] (met_X7_kindOf l D cI ((mS v) (1 + v3).toNatClampNeg)) y_X7_kindOf mw_13_7 dX7_sum_28 rfl n_X7_kindOf rfl (by decide) ⟨rfl, rfl, Nat.le_of_ble_eq_true rfl, Nat.le_of_ble_eq_true rfl⟩ (Nat.le_of_ble_eq_true rfl) (z_pm [0] 1 rfl (by decide) rfl) ?_
      refine z_if_ne C dX7_sum_31 38 (by decide) (fun c12 => ?_) (fun c12 => ?_)
      · replace hw := hw.1 c12
        refine z_iconst C dX7_sum_38 0 (by decide +kernel) ?_
        refine z_iadd C dX7_sum_39 ?_
        refine z_name C (fun x13 ex13 => ?_)
        replace hw := hw x13 ex13
        refine z_istore_n C dX7_sum_40 [some (.ref (gv 0)), some (.int p1), some (.int x13), some (.int v3), none] (by decide) rfl ?_
        refine z_iinc C dX7_sum_41 rfl (v3 + 1) (by rfl) [some (.ref (gv 0)), some (.int p1), some (.int x13), some (.int (v3 + 1)), none] (by decide) rfl ?_
        refine z_goto C dX7_sum_44 4 (by decide) ?_
        exact hK4 _ _ hw
      · replace hw := hw.2 c12
        refine z_iconst C dX7_sum_34 1 (by decide +kernel) ?_
        refine z_goto C dX7_sum_35 39 (by decide) ?_
        refine z_iadd C dX7_sum_39 ?_
        refine z_name C (fun x14 ex14 => ?_)
        replace hw := hw x14 ex14
        refine z_istore_n C dX7_sum_40 [some (.ref (gv 0)), some (.int p1), some (.int x14), some (.int v3), none] (by decide) rfl ?_
        refine z_iinc C dX7_sum_41 rfl (v3 + 1) (by rfl) [some (.ref (gv 0)), some (.int p1), some (.int x14), some (.int (v3 + 1)), none] (by decide) rfl ?_
        refine z_goto C dX7_sum_44 4 (by decide) ?_
        exact hK4 _ _ hw
def wp_X7_sum (v : zM) (p1 : Int32) (Q : Int32 → zM → Prop) : Prop := (zLoop2 (lb_X7_sum_4 v p1   Q ) 0 0)
set_option maxHeartbeats 4000000 in
set_option maxRecDepth 100000 in
theorem met_X7_sum (l : Launch) (D : va_G) (cI : ClassId) (gv : Nat → Nat) (v : zM) (p1 : Int32) (Q : Int32 → zM → Prop) (hw : wp_X7_sum v p1 Q) : ZM l D cI yX7_sum cX7_sum 5 (some .int) rmX7_sum [.ref (gv 0), .int p1] [(wMx cI gv (mS v) (mAside v) (mBefore v) (mText v) (mLetters v) (mBys v) (mFirst v) (mCommand v) (mKnown v) (mLength v) (mLogLong v) (mAreSame v) (mAt v) (mIsWrong v) (mPosition v) (mReason v) (mCause v))] (fun u : Int32 × zM => some (.int u.1)) (fun u : Int32 × zM => [(wMx cI gv (mS (u.2)) (mAside (u.2)) (mBefore (u.2)) (mText (u.2)) (mLetters (u.2)) (mBys (u.2)) (mFirst (u.2)) (mCommand (u.2)) (mKnown (u.2)) (mLength (u.2)) (mLogLong (u.2)) (mAreSame (u.2)) (mAt (u.2)) (mIsWrong (u.2)) (mPosition (u.2)) (mReason (u.2)) (mCause (u.2)))]) (fun u : Int32 × zM => Q u.1 u.2) := by
  refine z_body [some (.ref (gv 0)), some (.int p1), none, none, none] (by decide +kernel) rfl (Nat.le_of_ble_eq_true rfl) rfl ?_
  intro p e s m args below meth c A C hin
  unfold wp_X7_sum at hw
  refine z_iconst C dX7_sum_0 0 (by decide +kernel) ?_
  refine z_istore_n C dX7_sum_1 [some (.ref (gv 0)), some (.int p1), some (.int 0), none, none] (by decide) rfl ?_
  refine z_iconst C dX7_sum_2 0 (by decide +kernel) ?_
  refine z_istore_n C dX7_sum_3 [some (.ref (gv 0)), some (.int p1), some (.int 0), some (.int 0), none] (by decide) rfl ?_
  exact wk_X7_sum_4 C gv v p1   0 0 _  hw
def rmX7_count : Room := { frames := 2, cells := 0, slots := 0, locals := 45 }
def wp_X7_count (v : zM) (p1 : Int32) (Q : Int32 → zM → Prop) : Prop := ((p1 = 0 → (vp_in 0 445 ∧ (Q ((mS v) (0 : Int32).toNatClampNeg) v))) ∧ (¬ p1 = 0 → ((p1 = 1 → (wp_X7_lay v (fun u3 => (Q (mLogLong u3) u3)))) ∧ (¬ p1 = 1 → ((p1 = 2 → (wp_X7_sum v p1 (fun r5 u6 => (Q r5 u6)))) ∧ (¬ p1 = 2 → ((p1 = 3 → (wp_X7_sum v p1 (fun r8 u9 => (Q r8 u9)))) ∧ (¬ p1 = 3 → ((p1 = 4 → (wp_X7_sum v p1 (fun r11 u12 => (Q r11 u12)))) ∧ (¬ p1 = 4 → ((p1 = 5 → (Q (mKnown v) v)) ∧ (¬ p1 = 5 → ((p1 = 6 → (Q (mLength v) v)) ∧ (¬ p1 = 6 → (Q (-1) v)))))))))))))))
set_option maxHeartbeats 4000000 in
set_option maxRecDepth 100000 in
theorem met_X7_count (l : Launch) (D : va_G) (cI : ClassId) (gv : Nat → Nat) (v : zM) (p1 : Int32) (Q : Int32 → zM → Prop) (hw : wp_X7_count v p1 Q) : ZM l D cI yX7_count cX7_count 2 (some .int) rmX7_count [.ref (gv 0), .int p1] [(wMx cI gv (mS v) (mAside v) (mBefore v) (mText v) (mLetters v) (mBys v) (mFirst v) (mCommand v) (mKnown v) (mLength v) (mLogLong v) (mAreSame v) (mAt v) (mIsWrong v) (mPosition v) (mReason v) (mCause v))] (fun u : Int32 × zM => some (.int u.1)) (fun u : Int32 × zM => [(wMx cI gv (mS (u.2)) (mAside (u.2)) (mBefore (u.2)) (mText (u.2)) (mLetters (u.2)) (mBys (u.2)) (mFirst (u.2)) (mCommand (u.2)) (mKnown (u.2)) (mLength (u.2)) (mLogLong (u.2)) (mAreSame (u.2)) (mAt (u.2)) (mIsWrong (u.2)) (mPosition (u.2)) (mReason (u.2)) (mCause (u.2)))]) (fun u : Int32 × zM => Q u.1 u.2) := by
  refine z_body [some (.ref (gv 0)), some (.int p1)] (by decide +kernel) rfl (Nat.le_of_ble_eq_true rfl) rfl ?_
  intro p e s m args below meth c A C hin
  unfold wp_X7_count at hw
  refine z_iload_n C dX7_count_0 rfl ?_
  by_cases c1 : p1 = 0
  · refine z_tableAt C dX7_count_1 0 c1 (by decide) (by decide) 43 rfl 44 (by decide) ?_
    replace hw := hw.1 c1
    refine z_aload_n C dX7_count_44 rfl ?_
    refine z_get C inlX7 rfl 0 (by decide) mw_4_15 dX7_count_45 0 0 rfl rfl rfl ?_
    refine z_iconst C dX7_count_48 0 (by decide +kernel) ?_
    refine z_iald C dX7_count_49 0 1 rfl rfl hw.1 ?_
    replace hw := hw.2
    exact z_iret C rfl (((mS v) (0 : Int32).toNatClampNeg), v) rfl hw rfl dX7_count_50
  replace hw := hw.2 c1
  by_cases c2 : p1 = 1
  · refine z_tableAt C dX7_count_1 1 c2 (by decide) (by decide) 50 rfl 51 (by decide) ?_
    replace hw := hw.1 c2
    refine z_aload_n C dX7_count_51 rfl ?_
    refine z_callV0 C [(wMx cI gv (mS v) (mAside v) (mBefore v) (mText v) (mLetters v) (mBys v) (mFirst v) (mCommand v) (mKnown v) (mLength v) (mLogLong v) (mAreSame v) (mAt v) (mIsWrong v) (mPosition v) (mReason v) (mCause v))] [] rfl rfl (met_X7_lay l D cI gv v _ hw) y_X7_lay mw_19_5 dX7_count_52 rfl n_X7_lay rfl (by decide) ⟨rfl, rfl, Nat.le_of_ble_eq_true rfl, Nat.le_of_ble_eq_true rfl⟩ (Nat.le_of_ble_eq_true rfl) (z_pm [0] 1 rfl (by decide) rfl) ?_
    intro u3 hw
    try dsimp only at hw
    refine z_bs [(wMx cI gv (mS u3) (mAside u3) (mBefore u3) (mText u3) (mLetters u3) (mBys u3) (mFirst u3) (mCommand u3) (mKnown u3) (mLength u3) (mLogLong u3) (mAreSame u3) (mAt u3) (mIsWrong u3) (mPosition u3) (mReason u3) (mCause u3))] [] rfl rfl ?_
    refine z_aload_n C dX7_count_55 rfl ?_
    refine z_get C inlX7 rfl 8 (by decide) mw_19_4 dX7_count_56 0 0 rfl rfl rfl ?_
    exact z_iret C rfl ((mLogLong u3), u3) rfl hw rfl dX7_count_59
  replace hw := hw.2 c2
  by_cases c4 : p1 = 2
  · refine z_tableAt C dX7_count_1 2 c4 (by decide) (by decide) 59 rfl 60 (by decide) ?_
    replace hw := hw.1 c4
    refine z_aload_n C dX7_count_60 rfl ?_
    refine z_iload_n C dX7_count_61 rfl ?_
    refine z_callV0 C [(wMx cI gv (mS v) (mAside v) (mBefore v) (mText v) (mLetters v) (mBys v) (mFirst v) (mCommand v) (mKnown v) (mLength v) (mLogLong v) (mAreSame v) (mAt v) (mIsWrong v) (mPosition v) (mReason v) (mCause v))] [] rfl rfl (met_X7_sum l D cI gv v p1 _ hw) y_X7_sum mw_22_17 dX7_count_62 rfl n_X7_sum rfl (by decide) ⟨rfl, rfl, Nat.le_of_ble_eq_true rfl, Nat.le_of_ble_eq_true rfl⟩ (Nat.le_of_ble_eq_true rfl) (z_pm [0] 1 rfl (by decide) rfl) ?_
    intro ⟨r5, u6⟩ hw
    try dsimp only at hw
    refine z_bs [(wMx cI gv (mS u6) (mAside u6) (mBefore u6) (mText u6) (mLetters u6) (mBys u6) (mFirst u6) (mCommand u6) (mKnown u6) (mLength u6) (mLogLong u6) (mAreSame u6) (mAt u6) (mIsWrong u6) (mPosition u6) (mReason u6) (mCause u6))] [.int r5] rfl rfl ?_
    exact z_iret C rfl (r5, u6) rfl hw rfl dX7_count_65
  replace hw := hw.2 c4
  by_cases c7 : p1 = 3
  · refine z_tableAt C dX7_count_1 3 c7 (by decide) (by decide) 59 rfl 60 (by decide) ?_
    replace hw := hw.1 c7
    refine z_aload_n C dX7_count_60 rfl ?_
    refine z_iload_n C dX7_count_61 rfl ?_
    refine z_callV0 C [(wMx cI gv (mS v) (mAside v) (mBefore v) (mText v) (mLetters v) (mBys v) (mFirst v) (mCommand v) (mKnown v) (mLength v) (mLogLong v) (mAreSame v) (mAt v) (mIsWrong v) (mPosition v) (mReason v) (mCause v))] [] rfl rfl (met_X7_sum l D cI gv v p1 _ hw) y_X7_sum mw_22_17 dX7_count_62 rfl n_X7_sum rfl (by decide) ⟨rfl, rfl, Nat.le_of_ble_eq_true rfl, Nat.le_of_ble_eq_true rfl⟩ (Nat.le_of_ble_eq_true rfl) (z_pm [0] 1 rfl (by decide) rfl) ?_
    intro ⟨r8, u9⟩ hw
    try dsimp only at hw
    refine z_bs [(wMx cI gv (mS u9) (mAside u9) (mBefore u9) (mText u9) (mLetters u9) (mBys u9) (mFirst u9) (mCommand u9) (mKnown u9) (mLength u9) (mLogLong u9) (mAreSame u9) (mAt u9) (mIsWrong u9) (mPosition u9) (mReason u9) (mCause u9))] [.int r8] rfl rfl ?_
    exact z_iret C rfl (r8, u9) rfl hw rfl dX7_count_65
  replace hw := hw.2 c7
  by_cases c10 : p1 = 4
  · refine z_tableAt C dX7_count_1 4 c10 (by decide) (by decide) 59 rfl 60 (by decide) ?_
    replace hw := hw.1 c10
    refine z_aload_n C dX7_count_60 rfl ?_
    refine z_iload_n C dX7_count_61 rfl ?_
    refine z_callV0 C [(wMx cI gv (mS v) (mAside v) (mBefore v) (mText v) (mLetters v) (mBys v) (mFirst v) (mCommand v) (mKnown v) (mLength v) (mLogLong v) (mAreSame v) (mAt v) (mIsWrong v) (mPosition v) (mReason v) (mCause v))] [] rfl rfl (met_X7_sum l D cI gv v p1 _ hw) y_X7_sum mw_22_17 dX7_count_62 rfl n_X7_sum rfl (by decide) ⟨rfl, rfl, Nat.le_of_ble_eq_true rfl, Nat.le_of_ble_eq_true rfl⟩ (Nat.le_of_ble_eq_true rfl) (z_pm [0] 1 rfl (by decide) rfl) ?_
    intro ⟨r11, u12⟩ hw
    try dsimp only at hw
    refine z_bs [(wMx cI gv (mS u12) (mAside u12) (mBefore u12) (mText u12) (mLetters u12) (mBys u12) (mFirst u12) (mCommand u12) (mKnown u12) (mLength u12) (mLogLong u12) (mAreSame u12) (mAt u12) (mIsWrong u12) (mPosition u12) (mReason u12) (mCause u12))] [.int r11] rfl rfl ?_
    exact z_iret C rfl (r11, u12) rfl hw rfl dX7_count_65
  replace hw := hw.2 c10
  by_cases c13 : p1 = 5
  · refine z_tableAt C dX7_count_1 5 c13 (by decide) (by decide) 65 rfl 66 (by decide) ?_
    replace hw := hw.1 c13
    refine z_aload_n C dX7_count_66 rfl ?_
    refine z_get C inlX7 rfl 3 (by decide) mw_12_12 dX7_count_67 0 0 rfl rfl rfl ?_
    exact z_iret C rfl ((mKnown v), v) rfl hw rfl dX7_count_70
  replace hw := hw.2 c13
  by_cases c14 : p1 = 6
  · refine z_tableAt C dX7_count_1 6 c14 (by decide) (by decide) 70 rfl 71 (by decide) ?_
    replace hw := hw.1 c14
    refine z_aload_n C dX7_count_71 rfl ?_
    refine z_get C inlX7 rfl 5 (by decide) mw_22_16 dX7_count_72 0 0 rfl rfl rfl ?_
    exact z_iret C rfl ((mLength v), v) rfl hw rfl dX7_count_75
  replace hw := hw.2 c14
  refine z_tableOut C dX7_count_1 (by
    have nc1 := lv_neT (a := 0) c1 rfl
    have nc2 := lv_neT (a := 1) c2 rfl
    have nc4 := lv_neT (a := 2) c4 rfl
    have nc7 := lv_neT (a := 3) c7 rfl
    have nc10 := lv_neT (a := 4) c10 rfl
    have nc13 := lv_neT (a := 5) c13 rfl
    have nc14 := lv_neT (a := 6) c14 rfl
    omega) 76 (by decide) ?_
  refine z_iconst C dX7_count_76 (-1) (by decide +kernel) ?_
  exact z_iret C rfl ((-1), v) rfl hw rfl dX7_count_77
def rmX7_end : Room := { frames := 5, cells := 0, slots := 0, locals := 120 }
def lb_X7_end_99 (v : zM) (p1 : Int32)   (Q : zM → Prop)  (K99 : (Int32) → (zM) → Prop) (v2 : Int32) (w0 : zM) : Prop := ((3 ≤ v2 → (wp_X7_putBack w0 (fun u5 => (Q u5)))) ∧ (¬ 3 ≤ v2 → (wp_X7_hearsAll w0 v2 (fun r6 u7 => (((mAreSame u7) = 0 → (K99 (v2 + 1) (mSetAreSame u7 0))) ∧ (¬ (mAreSame u7) = 0 → (wp_X7_isSame u7 v2 (fun r9 u10 => ((r9 = 0 → (K99 (v2 + 1) (mSetAreSame u10 0))) ∧ (¬ r9 = 0 → (K99 (v2 + 1) (mSetAreSame u10 1))))))))))))
set_option maxHeartbeats 4000000 in
set_option maxRecDepth 100000 in
theorem wk_X7_end_99 {p : Program} {l : Launch} {e : Env} {s : State} {m : MethodId} {args : Array Value} {below : List Frame} {meth : Method} {c : Code} {D : va_G} {cI : ClassId} {A : Nat → Prop} (C : ZC p s m args meth c RX7 cX7_end 5 none D cI A) (gv : Nat → Nat) (v : zM) (p1 : Int32)   (v2 : Int32) (w0 : zM) (Q : zM → Prop)  (hw : zLoop2 (lb_X7_end_99 v p1   Q ) v2 w0) : ZZ p l e rmX7_end s m args below meth c D A 5 0 0 (MQ below (ZQ D A (fun _ : zM => none) (fun u : zM => [(wMx cI gv (mS u) (mAside u) (mBefore u) (mText u) (mLetters u) (mBys u) (mFirst u) (mCommand u) (mKnown u) (mLength u) (mLogLong u) (mAreSame u) (mAt u) (mIsWrong u) (mPosition u) (mReason u) (mCause u))]) (fun u : zM => Q u)) args s rmX7_end.cells rmX7_end.slots A) [(wMx cI gv (mS w0) (mAside w0) (mBefore w0) (mText w0) (mLetters w0) (mBys w0) (mFirst w0) (mCommand w0) (mKnown w0) (mLength w0) (mLogLong w0) (mAreSame w0) (mAt w0) (mIsWrong w0) (mPosition w0) (mReason w0) (mCause w0))] 99 [some (.ref (gv 0)), none, some (.int v2), none, none] [] := by
  refine zLoop2_w (fun (v2 : Int32) (w0 : zM) => ZZ p l e rmX7_end s m args below meth c D A 5 0 0 (MQ below (ZQ D A (fun _ : zM => none) (fun u : zM => [(wMx cI gv (mS u) (mAside u) (mBefore u) (mText u) (mLetters u) (mBys u) (mFirst u) (mCommand u) (mKnown u) (mLength u) (mLogLong u) (mAreSame u) (mAt u) (mIsWrong u) (mPosition u) (mReason u) (mCause u))]) (fun u : zM => Q u)) args s rmX7_end.cells rmX7_end.slots A) [(wMx cI gv (mS w0) (mAside w0) (mBefore w0) (mText w0) (mLetters w0) (mBys w0) (mFirst w0) (mCommand w0) (mKnown w0) (mLength w0) (mLogLong w0) (mAreSame w0) (mAt w0) (mIsWrong w0) (mPosition w0) (mReason w0) (mCause w0))] 99 [some (.ref (gv 0)), none, some (.int v2), none, none] []) ?_ _ _ hw
  clear hw
  intro K99 hK99 v2 w0 hw
  unfold lb_X7_end_99 at hw
  refine z_iload_n C dX7_end_99 rfl ?_
  refine z_iconst C dX7_end_100 3 (by decide +kernel) ?_
  refine z_icmp_ge C dX7_end_101 140 (by decide) (fun c4 => ?_) (fun c4 => ?_)
  · replace hw := hw.1 c4
    refine z_aload_n C dX7_end_140 rfl ?_
    refine z_callV0 C [(wMx cI gv (mS w0) (mAside w0) (mBefore w0) (mText w0) (mLetters w0) (mBys w0) (mFirst w0) (mCommand w0) (mKnown w0) (mLength w0) (mLogLong w0) (mAreSame w0) (mAt w0) (mIsWrong w0) (mPosition w0) (mReason w0) (mCause w0))] [] rfl rfl (met_X7_putBack l D cI gv w0 _ hw) y_X7_putBack mw_23_19 dX7_end_141 rfl n_X7_putBack rfl (by decide) ⟨rfl, rfl, Nat.le_of_ble_eq_true rfl, Nat.le_of_ble_eq_true rfl⟩ (Nat.le_of_ble_eq_true rfl) (z_pm [0] 1 rfl (by decide) rfl) ?_
    intro u5 hw
    try dsimp only at hw
    refine z_bs [(wMx cI gv (mS u5) (mAside u5) (mBefore u5) (mText u5) (mLetters u5) (mBys u5) (mFirst u5) (mCommand u5) (mKnown u5) (mLength u5) (mLogLong u5) (mAreSame u5) (mAt u5) (mIsWrong u5) (mPosition u5) (mReason u5) (mCause u5))] [] rfl rfl ?_
    exact z_vret C rfl (u5) rfl hw rfl dX7_end_144
  · replace hw := hw.2 c4
    refine z_aload_n C dX7_end_104 rfl ?_
    refine z_iload_n C dX7_end_105 rfl ?_
    refine z_callV0 C [(wMx cI gv (mS w0) (mAside w0) (mBefore w0) (mText w0) (mLetters w0) (mBys w0) (mFirst w0) (mCommand w0) (mKnown w0) (mLength w0) (mLogLong w0) (mAreSame w0) (mAt w0) (mIsWrong w0) (mPosition w0) (mReason w0) (mCause w0))] [] rfl rfl (met_X7_hearsAll l D cI gv w0 v2 _ hw) y_X7_hearsAll mw_17_15 dX7_end_106 rfl n_X7_hearsAll rfl (by decide) ⟨rfl, rfl, Nat.le_of_ble_eq_true rfl, Nat.le_of_ble_eq_true rfl⟩ (Nat.le_of_ble_eq_true rfl) (z_pm [0] 1 rfl (by decide) rfl) ?_
    intro ⟨r6, u7⟩ hw
    try dsimp only at hw
    refine z_bs [(wMx cI gv (mS u7) (mAside u7) (mBefore u7) (mText u7) (mLetters u7) (mBys u7) (mFirst u7) (mCommand u7) (mKnown u7) (mLength u7) (mLogLong u7) (mAreSame u7) (mAt u7) (mIsWrong u7) (mPosition u7) (mReason u7) (mCause u7))] [.int r6] rfl rfl ?_
    refine z_istore_n C dX7_end_109 [some (.ref (gv 0)), none, some (.int v2), some (.int r6), none] (by decide) rfl ?_
    refine z_aload_n C dX7_end_110 rfl ?_
    refine z_aload_n C dX7_end_111 rfl ?_
    refine z_get C inlX7 rfl 9 (by decide) mw_23_14 dX7_end_112 0 0 rfl rfl rfl ?_
    refine z_if_eq C dX7_end_115 130 (by decide) (fun c8 => ?_) (fun c8 => ?_)
    · replace hw := hw.1 c8
      refine z_iconst C dX7_end_130 0 (by decide +kernel) ?_
      refine z_put C inlX7 rfl tyX7 tyX7_ok nmX7 9 (by decide) mw_23_14 rfl rfl (by decide) (by decide) dX7_end_131 0 0 rfl rfl (Nat.le_of_ble_eq_true rfl) [(wMx cI gv (mS u7) (mAside u7) (mBefore u7) (mText u7) (mLetters u7) (mBys u7) (mFirst u7) (mCommand u7) (mKnown u7) (mLength u7) (mLogLong u7) 0 (mAt u7) (mIsWrong u7) (mPosition u7) (mReason u7) (mCause u7))] rfl ?_
      refine z_iinc C dX7_end_134 rfl (v2 + 1) (by rfl) [some (.ref (gv 0)), none, some (.int (v2 + 1)), some (.int r6), none] (by decide) rfl ?_
      refine z_goto C dX7_end_137 99 (by decide) ?_
      refine z_ls C [true, false, true, false, false] [some (.ref (gv 0)), none, some (.int (v2 + 1)), none, none] rfl ?_
      exact hK99 _ _ hw
    · replace hw := hw.2 c8
      refine z_aload_n C dX7_end_118 rfl ?_
      refine z_iload_n C dX7_end_119 rfl ?_
      refine z_callV0 C [(wMx cI gv (mS u7) (mAside u7) (mBefore u7) (mText u7) (mLetters u7) (mBys u7) (mFirst u7) (mCommand u7) (mKnown u7) (mLength u7) (mLogLong u7) (mAreSame u7) (mAt u7) (mIsWrong u7) (mPosition u7) (mReason u7) (mCause u7))] [] rfl rfl (met_X7_isSame l D cI gv u7 v2 _ hw) y_X7_isSame mw_19_22 dX7_end_120 rfl n_X7_isSame rfl (by decide) ⟨rfl, rfl, Nat.le_of_ble_eq_true rfl, Nat.le_of_ble_eq_true rfl⟩ (Nat.le_of_ble_eq_true rfl) (z_pm [0] 1 rfl (by decide) rfl) ?_
      intro ⟨r9, u10⟩ hw
      try dsimp only at hw
      refine z_bs [(wMx cI gv (mS u10) (mAside u10) (mBefore u10) (mText u10) (mLetters u10) (mBys u10) (mFirst u10) (mCommand u10) (mKnown u10) (mLength u10) (mLogLong u10) (mAreSame u10) (mAt u10) (mIsWrong u10) (mPosition u10) (mReason u10) (mCause u10))] [.int r9, .ref (gv 0)] rfl rfl ?_
      refine z_if_eq C dX7_end_123 130 (by decide) (fun c11 => ?_) (fun c11 => ?_)
      · replace hw := hw.1 c11
        refine z_iconst C dX7_end_130 0 (by decide +kernel) ?_
        refine z_put C inlX7 rfl tyX7 tyX7_ok nmX7 9 (by decide) mw_23_14 rfl rfl (by decide) (by decide) dX7_end_131 0 0 rfl rfl (Nat.le_of_ble_eq_true rfl) [(wMx cI gv (mS u10) (mAside u10) (mBefore u10) (mText u10) (mLetters u10) (mBys u10) (mFirst u10) (mCommand u10) (mKnown u10) (mLength u10) (mLogLong u10) 0 (mAt u10) (mIsWrong u10) (mPosition u10) (mReason u10) (mCause u10))] rfl ?_
        refine z_iinc C dX7_end_134 rfl (v2 + 1) (by rfl) [some (.ref (gv 0)), none, some (.int (v2 + 1)), some (.int r6), none] (by decide) rfl ?_
        refine z_goto C dX7_end_137 99 (by decide) ?_
        refine z_ls C [true, false, true, false, false] [some (.ref (gv 0)), none, some (.int (v2 + 1)), none, none] rfl ?_
        exact hK99 _ _ hw
      · replace hw := hw.2 c11
        refine z_iconst C dX7_end_126 1 (by decide +kernel) ?_
        refine z_goto C dX7_end_127 131 (by decide) ?_
        refine z_put C inlX7 rfl tyX7 tyX7_ok nmX7 9 (by decide) mw_23_14 rfl rfl (by decide) (by decide) dX7_end_131 0 0 rfl rfl (Nat.le_of_ble_eq_true rfl) [(wMx cI gv (mS u10) (mAside u10) (mBefore u10) (mText u10) (mLetters u10) (mBys u10) (mFirst u10) (mCommand u10) (mKnown u10) (mLength u10) (mLogLong u10) 1 (mAt u10) (mIsWrong u10) (mPosition u10) (mReason u10) (mCause u10))] rfl ?_
        refine z_iinc C dX7_end_134 rfl (v2 + 1) (by rfl) [some (.ref (gv 0)), none, some (.int (v2 + 1)), some (.int r6), none] (by decide) rfl ?_
        refine z_goto C dX7_end_137 99 (by decide) ?_
        refine z_ls C [true, false, true, false, false] [some (.ref (gv 0)), none, some (.int (v2 + 1)), none, none] rfl ?_
        exact hK99 _ _ hw
def jn_X7_end_57 (v : zM) (p1 : Int32) (v2 : Int32) (v3 : Int32) (w0 : zM)  (Q : zM → Prop) (K6 : (Int32) → (zM) → Prop) (K23 : (zM) → Prop) : Prop := (wp_X7_canSend w0 v3 (fun r15 u16 => ((r15 = 0 → (wp_X7_hearsAll u16 v3 (fun r18 u19 => (K23 u19)))) ∧ (¬ r15 = 0 → (wp_X7_sends u16 v3 (fun r20 u21 => (wp_X7_hearsAll u21 v3 (fun r22 u23 => (K23 u23)))))))))
set_option maxHeartbeats 4000000 in
set_option maxRecDepth 100000 in
theorem wk_X7_end_57 {p : Program} {l : Launch} {e : Env} {s : State} {m : MethodId} {args : Array Value} {below : List Frame} {meth : Method} {c : Code} {D : va_G} {cI : ClassId} {A : Nat → Prop} (C : ZC p s m args meth c RX7 cX7_end 5 none D cI A) (gv : Nat → Nat) (v : zM) (p1 : Int32) (v2 : Int32) (v3 : Int32) (w0 : zM)  (Q : zM → Prop) (K6 : (Int32) → (zM) → Prop) (hK6 : ∀ (v2 : Int32) (w0 : zM), K6 v2 w0 → ZZ p l e rmX7_end s m args below meth c D A 5 0 0 (MQ below (ZQ D A (fun _ : zM => none) (fun u : zM => [(wMx cI gv (mS u) (mAside u) (mBefore u) (mText u) (mLetters u) (mBys u) (mFirst u) (mCommand u) (mKnown u) (mLength u) (mLogLong u) (mAreSame u) (mAt u) (mIsWrong u) (mPosition u) (mReason u) (mCause u))]) (fun u : zM => Q u)) args s rmX7_end.cells rmX7_end.slots A) [(wMx cI gv (mS w0) (mAside w0) (mBefore w0) (mText w0) (mLetters w0) (mBys w0) (mFirst w0) (mCommand w0) (mKnown w0) (mLength w0) (mLogLong w0) (mAreSame w0) (mAt w0) (mIsWrong w0) (mPosition w0) (mReason w0) (mCause w0))] 6 [some (.ref (gv 0)), some (.int p1), some (.int v2), none, none] []) (K23 : (zM) → Prop) (hK23 : ∀ (w0 : zM), K23 w0 → ZZ p l e rmX7_end s m args below meth c D A 5 0 0 (MQ below (ZQ D A (fun _ : zM => none) (fun u : zM => [(wMx cI gv (mS u) (mAside u) (mBefore u) (mText u) (mLetters u) (mBys u) (mFirst u) (mCommand u) (mKnown u) (mLength u) (mLogLong u) (mAreSame u) (mAt u) (mIsWrong u) (mPosition u) (mReason u) (mCause u))]) (fun u : zM => Q u)) args s rmX7_end.cells rmX7_end.slots A) [(wMx cI gv (mS w0) (mAside w0) (mBefore w0) (mText w0) (mLetters w0) (mBys w0) (mFirst w0) (mCommand w0) (mKnown w0) (mLength w0) (mLogLong w0) (mAreSame w0) (mAt w0) (mIsWrong w0) (mPosition w0) (mReason w0) (mCause w0))] 23 [some (.ref (gv 0)), some (.int p1), some (.int v2), some (.int v3), none] []) (hw : jn_X7_end_57 v p1 v2 v3 w0  Q K6 K23) : ZZ p l e rmX7_end s m args below meth c D A 5 0 0 (MQ below (ZQ D A (fun _ : zM => none) (fun u : zM => [(wMx cI gv (mS u) (mAside u) (mBefore u) (mText u) (mLetters u) (mBys u) (mFirst u) (mCommand u) (mKnown u) (mLength u) (mLogLong u) (mAreSame u) (mAt u) (mIsWrong u) (mPosition u) (mReason u) (mCause u))]) (fun u : zM => Q u)) args s rmX7_end.cells rmX7_end.slots A) [(wMx cI gv (mS w0) (mAside w0) (mBefore w0) (mText w0) (mLetters w0) (mBys w0) (mFirst w0) (mCommand w0) (mKnown w0) (mLength w0) (mLogLong w0) (mAreSame w0) (mAt w0) (mIsWrong w0) (mPosition w0) (mReason w0) (mCause w0))] 57 [some (.ref (gv 0)), some (.int p1), some (.int v2), some (.int v3), none] [] := by
  unfold jn_X7_end_57 at hw
  refine z_aload_n C dX7_end_57 rfl ?_
  refine z_iload_n C dX7_end_58 rfl ?_
  refine z_callV0 C [(wMx cI gv (mS w0) (mAside w0) (mBefore w0) (mText w0) (mLetters w0) (mBys w0) (mFirst w0) (mCommand w0) (mKnown w0) (mLength w0) (mLogLong w0) (mAreSame w0) (mAt w0) (mIsWrong w0) (mPosition w0) (mReason w0) (mCause w0))] [] rfl rfl (met_X7_canSend l D cI gv w0 v3 _ hw) y_X7_canSend mw_16_3 dX7_end_59 rfl n_X7_canSend rfl (by decide) ⟨rfl, rfl, Nat.le_of_ble_eq_true rfl, Nat.le_of_ble_eq_true rfl⟩ (Nat.le_of_ble_eq_true rfl) (z_pm [0] 1 rfl (by decide) rfl) ?_
  intro ⟨r15, u16⟩ hw
  try dsimp only at hw
  refine z_bs [(wMx cI gv (mS u16) (mAside u16) (mBefore u16) (mText u16) (mLetters u16) (mBys u16) (mFirst u16) (mCommand u16) (mKnown u16) (mLength u16) (mLogLong u16) (mAreSame u16) (mAt u16) (mIsWrong u16) (mPosition u16) (mReason u16) (mCause u16))] [.int r15] rfl rfl ?_
  refine z_if_eq C dX7_end_62 72 (by decide) (fun c17 => ?_) (fun c17 => ?_)
  · replace hw := hw.1 c17
    refine z_aload_n C dX7_end_72 rfl ?_
    refine z_iload_n C dX7_end_73 rfl ?_
    refine z_callV0 C [(wMx cI gv (mS u16) (mAside u16) (mBefore u16) (mText u16) (mLetters u16) (mBys u16) (mFirst u16) (mCommand u16) (mKnown u16) (mLength u16) (mLogLong u16) (mAreSame u16) (mAt u16) (mIsWrong u16) (mPosition u16) (mReason u16) (mCause u16))] [] rfl rfl (met_X7_hearsAll l D cI gv u16 v3 _ hw) y_X7_hearsAll mw_17_15 dX7_end_74 rfl n_X7_hearsAll rfl (by decide) ⟨rfl, rfl, Nat.le_of_ble_eq_true rfl, Nat.le_of_ble_eq_true rfl⟩ (Nat.le_of_ble_eq_true rfl) (z_pm [0] 1 rfl (by decide) rfl) ?_
    intro ⟨r18, u19⟩ hw
    try dsimp only at hw
    refine z_bs [(wMx cI gv (mS u19) (mAside u19) (mBefore u19) (mText u19) (mLetters u19) (mBys u19) (mFirst u19) (mCommand u19) (mKnown u19) (mLength u19) (mLogLong u19) (mAreSame u19) (mAt u19) (mIsWrong u19) (mPosition u19) (mReason u19) (mCause u19))] [.int r18] rfl rfl ?_
    refine z_istore C dX7_end_77 [some (.ref (gv 0)), some (.int p1), some (.int v2), some (.int v3), some (.int r18)] (by decide) rfl ?_
    refine z_goto C dX7_end_79 23 (by decide) ?_
    refine z_ls C [true, true, true, true, false] [some (.ref (gv 0)), some (.int p1), some (.int v2), some (.int v3), none] rfl ?_
    exact hK23 _ hw
  · replace hw := hw.2 c17
    refine z_aload_n C dX7_end_65 rfl ?_
    refine z_iload_n C dX7_end_66 rfl ?_
    refine z_callV0 C [(wMx cI gv (mS u16) (mAside u16) (mBefore u16) (mText u16) (mLetters u16) (mBys u16) (mFirst u16) (mCommand u16) (mKnown u16) (mLength u16) (mLogLong u16) (mAreSame u16) (mAt u16) (mIsWrong u16) (mPosition u16) (mReason u16) (mCause u16))] [] rfl rfl (met_X7_sends l D cI gv u16 v3 _ hw) y_X7_sends mw_16_7 dX7_end_67 rfl n_X7_sends rfl (by decide) ⟨rfl, rfl, Nat.le_of_ble_eq_true rfl, Nat.le_of_ble_eq_true rfl⟩ (Nat.le_of_ble_eq_true rfl) (z_pm [0] 1 rfl (by decide) rfl) ?_
    intro ⟨r20, u21⟩ hw
    try dsimp only at hw
    refine z_bs [(wMx cI gv (mS u21) (mAside u21) (mBefore u21) (mText u21) (mLetters u21) (mBys u21) (mFirst u21) (mCommand u21) (mKnown u21) (mLength u21) (mLogLong u21) (mAreSame u21) (mAt u21) (mIsWrong u21) (mPosition u21) (mReason u21) (mCause u21))] [.int r20] rfl rfl ?_
    refine z_istore C dX7_end_70 [some (.ref (gv 0)), some (.int p1), some (.int v2), some (.int v3), some (.int r20)] (by decide) rfl ?_
    refine z_aload_n C dX7_end_72 rfl ?_
    refine z_iload_n C dX7_end_73 rfl ?_
    refine z_callV0 C [(wMx cI gv (mS u21) (mAside u21) (mBefore u21) (mText u21) (mLetters u21) (mBys u21) (mFirst u21) (mCommand u21) (mKnown u21) (mLength u21) (mLogLong u21) (mAreSame u21) (mAt u21) (mIsWrong u21) (mPosition u21) (mReason u21) (mCause u21))] [] rfl rfl (met_X7_hearsAll l D cI gv u21 v3 _ hw) y_X7_hearsAll mw_17_15 dX7_end_74 rfl n_X7_hearsAll rfl (by decide) ⟨rfl, rfl, Nat.le_of_ble_eq_true rfl, Nat.le_of_ble_eq_true rfl⟩ (Nat.le_of_ble_eq_true rfl) (z_pm [0] 1 rfl (by decide) rfl) ?_
    intro ⟨r22, u23⟩ hw
    try dsimp only at hw
    refine z_bs [(wMx cI gv (mS u23) (mAside u23) (mBefore u23) (mText u23) (mLetters u23) (mBys u23) (mFirst u23) (mCommand u23) (mKnown u23) (mLength u23) (mLogLong u23) (mAreSame u23) (mAt u23) (mIsWrong u23) (mPosition u23) (mReason u23) (mCause u23))] [.int r22] rfl rfl ?_
    refine z_istore C dX7_end_77 [some (.ref (gv 0)), some (.int p1), some (.int v2), some (.int v3), some (.int r22)] (by decide) rfl ?_
    refine z_goto C dX7_end_79 23 (by decide) ?_
    refine z_ls C [true, true, true, true, false] [some (.ref (gv 0)), some (.int p1), some (.int v2), some (.int v3), none] rfl ?_
    exact hK23 _ hw
def lb_X7_end_23 (v : zM) (p1 : Int32) (v2 : Int32) (v3 : Int32)  (Q : zM → Prop) (K6 : (Int32) → (zM) → Prop) (K23 : (zM) → Prop) (w0 : zM) : Prop := (vp_in (f_X7_of v3 97) 445 ∧ ((0 < ((mS w0) (f_X7_of v3 97).toNatClampNeg) → (jn_X7_end_57 v p1 v2 v3 w0  Q K6 K23)) ∧ (¬ 0 < ((mS w0) (f_X7_of v3 97).toNatClampNeg) → (vp_in (f_X7_of v3 112) 445 ∧ (vp_in 0 445 ∧ ((((mS w0) (0 : Int32).toNatClampNeg) ≤ ((mS w0) (f_X7_of v3 112).toNatClampNeg) → (K6 (v2 + 1) w0)) ∧ (¬ ((mS w0) (0 : Int32).toNatClampNeg) ≤ ((mS w0) (f_X7_of v3 112).toNatClampNeg) → (jn_X7_end_57 v p1 v2 v3 w0  Q K6 K23))))))))
set_option maxHeartbeats 4000000 in
set_option maxRecDepth 100000 in
theorem wk_X7_end_23 {p : Program} {l : Launch} {e : Env} {s : State} {m : MethodId} {args : Array Value} {below : List Frame} {meth : Method} {c : Code} {D : va_G} {cI : ClassId} {A : Nat → Prop} (C : ZC p s m args meth c RX7 cX7_end 5 none D cI A) (gv : Nat → Nat) (v : zM) (p1 : Int32) (v2 : Int32) (v3 : Int32)  (w0 : zM) (Q : zM → Prop) (K6 : (Int32) → (zM) → Prop) (hK6 : ∀ (v2 : Int32) (w0 : zM), K6 v2 w0 → ZZ p l e rmX7_end s m args below meth c D A 5 0 0 (MQ below (ZQ D A (fun _ : zM => none) (fun u : zM => [(wMx cI gv (mS u) (mAside u) (mBefore u) (mText u) (mLetters u) (mBys u) (mFirst u) (mCommand u) (mKnown u) (mLength u) (mLogLong u) (mAreSame u) (mAt u) (mIsWrong u) (mPosition u) (mReason u) (mCause u))]) (fun u : zM => Q u)) args s rmX7_end.cells rmX7_end.slots A) [(wMx cI gv (mS w0) (mAside w0) (mBefore w0) (mText w0) (mLetters w0) (mBys w0) (mFirst w0) (mCommand w0) (mKnown w0) (mLength w0) (mLogLong w0) (mAreSame w0) (mAt w0) (mIsWrong w0) (mPosition w0) (mReason w0) (mCause w0))] 6 [some (.ref (gv 0)), some (.int p1), some (.int v2), none, none] []) (hw : zLoop1 (lb_X7_end_23 v p1 v2 v3  Q K6) w0) : ZZ p l e rmX7_end s m args below meth c D A 5 0 0 (MQ below (ZQ D A (fun _ : zM => none) (fun u : zM => [(wMx cI gv (mS u) (mAside u) (mBefore u) (mText u) (mLetters u) (mBys u) (mFirst u) (mCommand u) (mKnown u) (mLength u) (mLogLong u) (mAreSame u) (mAt u) (mIsWrong u) (mPosition u) (mReason u) (mCause u))]) (fun u : zM => Q u)) args s rmX7_end.cells rmX7_end.slots A) [(wMx cI gv (mS w0) (mAside w0) (mBefore w0) (mText w0) (mLetters w0) (mBys w0) (mFirst w0) (mCommand w0) (mKnown w0) (mLength w0) (mLogLong w0) (mAreSame w0) (mAt w0) (mIsWrong w0) (mPosition w0) (mReason w0) (mCause w0))] 23 [some (.ref (gv 0)), some (.int p1), some (.int v2), some (.int v3), none] [] := by
  refine zLoop1_w (fun (w0 : zM) => ZZ p l e rmX7_end s m args below meth c D A 5 0 0 (MQ below (ZQ D A (fun _ : zM => none) (fun u : zM => [(wMx cI gv (mS u) (mAside u) (mBefore u) (mText u) (mLetters u) (mBys u) (mFirst u) (mCommand u) (mKnown u) (mLength u) (mLogLong u) (mAreSame u) (mAt u) (mIsWrong u) (mPosition u) (mReason u) (mCause u))]) (fun u : zM => Q u)) args s rmX7_end.cells rmX7_end.slots A) [(wMx cI gv (mS w0) (mAside w0) (mBefore w0) (mText w0) (mLetters w0) (mBys w0) (mFirst w0) (mCommand w0) (mKnown w0) (mLength w0) (mLogLong w0) (mAreSame w0) (mAt w0) (mIsWrong w0) (mPosition w0) (mReason w0) (mCause w0))] 23 [some (.ref (gv 0)), some (.int p1), some (.int v2), some (.int v3), none] []) ?_ _ hw
  clear hw
  intro K23 hK23 w0 hw
  unfold lb_X7_end_23 at hw
  refine z_aload_n C dX7_end_23 rfl ?_
  refine z_get C inlX7 rfl 0 (by decide) mw_4_15 dX7_end_24 0 0 rfl rfl rfl ?_
  refine z_iload_n C dX7_end_27 rfl ?_
  refine z_bipush C dX7_end_28 97 (by decide +kernel) ?_
  refine z_callFS C [] [(wMx cI gv (mS w0) (mAside w0) (mBefore w0) (mText w0) (mLetters w0) (mBys w0) (mFirst w0) (mCommand w0) (mKnown w0) (mLength w0) (mLogLong w0) (mAreSame w0) (mAt w0) (mIsWrong w0) (mPosition w0) (mReason w0) (mCause w0))] (met_X7_of l D cI v3 97) y_X7_of mw_12_5 dX7_end_30 rfl n_X7_of rfl (by decide) ⟨rfl, rfl, Nat.le_of_ble_eq_true rfl, Nat.le_of_ble_eq_true rfl⟩ (Nat.le_of_ble_eq_true rfl) (z_pm [0] 1 rfl (by decide) rfl) ?_
  refine z_iald C dX7_end_33 0 1 rfl rfl hw.1 ?_
  replace hw := hw.2
  refine z_if_gt C dX7_end_34 57 (by decide) (fun c14 => ?_) (fun c14 => ?_)
  · replace hw := hw.1 c14
    exact wk_X7_end_57 C gv v p1 v2 v3 w0  _ K6 hK6 K23 hK23 hw
  · replace hw := hw.2 c14
    refine z_aload_n C dX7_end_37 rfl ?_
    refine z_get C inlX7 rfl 0 (by decide) mw_4_15 dX7_end_38 0 0 rfl rfl rfl ?_
    refine z_iload_n C dX7_end_41 rfl ?_
    refine z_bipush C dX7_end_42 112 (by decide +kernel) ?_
    refine z_callFS C [] [(wMx cI gv (mS w0) (mAside w0) (mBefore w0) (mText w0) (mLetters w0) (mBys w0) (mFirst w0) (mCommand w0) (mKnown w0) (mLength w0) (mLogLong w0) (mAreSame w0) (mAt w0) (mIsWrong w0) (mPosition w0) (mReason w0) (mCause w0))] (met_X7_of l D cI v3 112) y_X7_of mw_12_5 dX7_end_44 rfl n_X7_of rfl (by decide) ⟨rfl, rfl, Nat.le_of_ble_eq_true rfl, Nat.le_of_ble_eq_true rfl⟩ (Nat.le_of_ble_eq_true rfl) (z_pm [0] 1 rfl (by decide) rfl) ?_
    refine z_iald C dX7_end_47 0 1 rfl rfl hw.1 ?_
    replace hw := hw.2
    refine z_aload_n C dX7_end_48 rfl ?_
    refine z_get C inlX7 rfl 0 (by decide) mw_4_15 dX7_end_49 0 0 rfl rfl rfl ?_
    refine z_iconst C dX7_end_52 0 (by decide +kernel) ?_
    refine z_iald C dX7_end_53 0 1 rfl rfl hw.1 ?_
    replace hw := hw.2
    refine z_icmp_ge C dX7_end_54 82 (by decide) (fun c24 => ?_) (fun c24 => ?_)
    · replace hw := hw.1 c24
      refine z_iinc C dX7_end_82 rfl (v2 + 1) (by rfl) [some (.ref (gv 0)), some (.int p1), some (.int (v2 + 1)), some (.int v3), none] (by decide) rfl ?_
      refine z_goto C dX7_end_85 6 (by decide) ?_
      refine z_ls C [true, true, true, false, false] [some (.ref (gv 0)), some (.int p1), some (.int (v2 + 1)), none, none] rfl ?_
      exact hK6 _ _ hw
    · replace hw := hw.2 c24
      exact wk_X7_end_57 C gv v p1 v2 v3 w0  _ K6 hK6 K23 hK23 hw
def lb_X7_end_6 (v : zM) (p1 : Int32)   (Q : zM → Prop)  (K6 : (Int32) → (zM) → Prop) (v2 : Int32) (w0 : zM) : Prop := ((3 ≤ v2 → (wp_X7_lay w0 (fun u3 => (zLoop2 (lb_X7_end_99 v p1   Q ) 0 (mSetAreSame u3 1))))) ∧ (¬ 3 ≤ v2 → ((¬ p1 = 0 → (∀ x13 : Int32, x13 = (2 - v2) → (zLoop1 (lb_X7_end_23 v p1 v2 x13  Q K6) w0))) ∧ (p1 = 0 → (zLoop1 (lb_X7_end_23 v p1 v2 v2  Q K6) w0)))))
set_option maxHeartbeats 4000000 in
set_option maxRecDepth 100000 in
theorem wk_X7_end_6 {p : Program} {l : Launch} {e : Env} {s : State} {m : MethodId} {args : Array Value} {below : List Frame} {meth : Method} {c : Code} {D : va_G} {cI : ClassId} {A : Nat → Prop} (C : ZC p s m args meth c RX7 cX7_end 5 none D cI A) (gv : Nat → Nat) (v : zM) (p1 : Int32)   (v2 : Int32) (w0 : zM) (Q : zM → Prop)  (hw : zLoop2 (lb_X7_end_6 v p1   Q ) v2 w0) : ZZ p l e rmX7_end s m args below meth c D A 5 0 0 (MQ below (ZQ D A (fun _ : zM => none) (fun u : zM => [(wMx cI gv (mS u) (mAside u) (mBefore u) (mText u) (mLetters u) (mBys u) (mFirst u) (mCommand u) (mKnown u) (mLength u) (mLogLong u) (mAreSame u) (mAt u) (mIsWrong u) (mPosition u) (mReason u) (mCause u))]) (fun u : zM => Q u)) args s rmX7_end.cells rmX7_end.slots A) [(wMx cI gv (mS w0) (mAside w0) (mBefore w0) (mText w0) (mLetters w0) (mBys w0) (mFirst w0) (mCommand w0) (mKnown w0) (mLength w0) (mLogLong w0) (mAreSame w0) (mAt w0) (mIsWrong w0) (mPosition w0) (mReason w0) (mCause w0))] 6 [some (.ref (gv 0)), some (.int p1), some (.int v2), none, none] [] := by
  refine zLoop2_w (fun (v2 : Int32) (w0 : zM) => ZZ p l e rmX7_end s m args below meth c D A 5 0 0 (MQ below (ZQ D A (fun _ : zM => none) (fun u : zM => [(wMx cI gv (mS u) (mAside u) (mBefore u) (mText u) (mLetters u) (mBys u) (mFirst u) (mCommand u) (mKnown u) (mLength u) (mLogLong u) (mAreSame u) (mAt u) (mIsWrong u) (mPosition u) (mReason u) (mCause u))]) (fun u : zM => Q u)) args s rmX7_end.cells rmX7_end.slots A) [(wMx cI gv (mS w0) (mAside w0) (mBefore w0) (mText w0) (mLetters w0) (mBys w0) (mFirst w0) (mCommand w0) (mKnown w0) (mLength w0) (mLogLong w0) (mAreSame w0) (mAt w0) (mIsWrong w0) (mPosition w0) (mReason w0) (mCause w0))] 6 [some (.ref (gv 0)), some (.int p1), some (.int v2), none, none] []) ?_ _ _ hw
  clear hw
  intro K6 hK6 v2 w0 hw
  unfold lb_X7_end_6 at hw
  refine z_iload_n C dX7_end_6 rfl ?_
  refine z_iconst C dX7_end_7 3 (by decide +kernel) ?_
  refine z_icmp_ge C dX7_end_8 88 (by decide) (fun c2 => ?_) (fun c2 => ?_)
  · replace hw := hw.1 c2
    refine z_aload_n C dX7_end_88 rfl ?_
    refine z_callV0 C [(wMx cI gv (mS w0) (mAside w0) (mBefore w0) (mText w0) (mLetters w0) (mBys w0) (mFirst w0) (mCommand w0) (mKnown w0) (mLength w0) (mLogLong w0) (mAreSame w0) (mAt w0) (mIsWrong w0) (mPosition w0) (mReason w0) (mCause w0))] [] rfl rfl (met_X7_lay l D cI gv w0 _ hw) y_X7_lay mw_19_5 dX7_end_89 rfl n_X7_lay rfl (by decide) ⟨rfl, rfl, Nat.le_of_ble_eq_true rfl, Nat.le_of_ble_eq_true rfl⟩ (Nat.le_of_ble_eq_true rfl) (z_pm [0] 1 rfl (by decide) rfl) ?_
    intro u3 hw
    try dsimp only at hw
    refine z_bs [(wMx cI gv (mS u3) (mAside u3) (mBefore u3) (mText u3) (mLetters u3) (mBys u3) (mFirst u3) (mCommand u3) (mKnown u3) (mLength u3) (mLogLong u3) (mAreSame u3) (mAt u3) (mIsWrong u3) (mPosition u3) (mReason u3) (mCause u3))] [] rfl rfl ?_
    refine z_aload_n C dX7_end_92 rfl ?_
    refine z_iconst C dX7_end_93 1 (by decide +kernel) ?_
    refine z_put C inlX7 rfl tyX7 tyX7_ok nmX7 9 (by decide) mw_23_14 rfl rfl (by decide) (by decide) dX7_end_94 0 0 rfl rfl (Nat.le_of_ble_eq_true rfl) [(wMx cI gv (mS u3) (mAside u3) (mBefore u3) (mText u3) (mLetters u3) (mBys u3) (mFirst u3) (mCommand u3) (mKnown u3) (mLength u3) (mLogLong u3) 1 (mAt u3) (mIsWrong u3) (mPosition u3) (mReason u3) (mCause u3))] rfl ?_
    refine z_iconst C dX7_end_97 0 (by decide +kernel) ?_
    refine z_istore_n C dX7_end_98 [some (.ref (gv 0)), some (.int p1), some (.int 0), none, none] (by decide) rfl ?_
    refine z_ls C [true, false, true, false, false] [some (.ref (gv 0)), none, some (.int 0), none, none] rfl ?_
    exact wk_X7_end_99 C gv v p1   0 (mSetAreSame u3 1) _  hw
  · replace hw := hw.2 c2
    refine z_iload_n C dX7_end_11 rfl ?_
    refine z_if_ne C dX7_end_12 19 (by decide) (fun c12 => ?_) (fun c12 => ?_)
    · replace hw := hw.1 c12
      refine z_iconst C dX7_end_19 2 (by decide +kernel) ?_
      refine z_iload_n C dX7_end_20 rfl ?_
      refine z_isub C dX7_end_21 ?_
      refine z_name C (fun x13 ex13 => ?_)
      replace hw := hw x13 ex13
      refine z_istore_n C dX7_end_22 [some (.ref (gv 0)), some (.int p1), some (.int v2), some (.int x13), none] (by decide) rfl ?_
      exact wk_X7_end_23 C gv v p1 v2 x13  w0 _ K6 hK6 hw
    · replace hw := hw.2 c12
      refine z_iload_n C dX7_end_15 rfl ?_
      refine z_goto C dX7_end_16 22 (by decide) ?_
      refine z_istore_n C dX7_end_22 [some (.ref (gv 0)), some (.int p1), some (.int v2), some (.int v2), none] (by decide) rfl ?_
      exact wk_X7_end_23 C gv v p1 v2 v2  w0 _ K6 hK6 hw
def wp_X7_end (v : zM) (p1 : Int32) (Q : zM → Prop) : Prop := (wp_X7_putAside v (fun u1 => (zLoop2 (lb_X7_end_6 v p1   Q ) 0 u1)))
set_option maxHeartbeats 4000000 in
set_option maxRecDepth 100000 in
theorem met_X7_end (l : Launch) (D : va_G) (cI : ClassId) (gv : Nat → Nat) (v : zM) (p1 : Int32) (Q : zM → Prop) (hw : wp_X7_end v p1 Q) : ZM l D cI yX7_end cX7_end 5 none rmX7_end [.ref (gv 0), .int p1] [(wMx cI gv (mS v) (mAside v) (mBefore v) (mText v) (mLetters v) (mBys v) (mFirst v) (mCommand v) (mKnown v) (mLength v) (mLogLong v) (mAreSame v) (mAt v) (mIsWrong v) (mPosition v) (mReason v) (mCause v))] (fun _ : zM => none) (fun u : zM => [(wMx cI gv (mS u) (mAside u) (mBefore u) (mText u) (mLetters u) (mBys u) (mFirst u) (mCommand u) (mKnown u) (mLength u) (mLogLong u) (mAreSame u) (mAt u) (mIsWrong u) (mPosition u) (mReason u) (mCause u))]) (fun u : zM => Q u) := by
  refine z_body [some (.ref (gv 0)), some (.int p1), none, none, none] (by decide +kernel) rfl (Nat.le_of_ble_eq_true rfl) rfl ?_
  intro p e s m args below meth c A C hin
  unfold wp_X7_end at hw
  refine z_aload_n C dX7_end_0 rfl ?_
  refine z_callV0 C [(wMx cI gv (mS v) (mAside v) (mBefore v) (mText v) (mLetters v) (mBys v) (mFirst v) (mCommand v) (mKnown v) (mLength v) (mLogLong v) (mAreSame v) (mAt v) (mIsWrong v) (mPosition v) (mReason v) (mCause v))] [] rfl rfl (met_X7_putAside l D cI gv v _ hw) y_X7_putAside mw_23_15 dX7_end_1 rfl n_X7_putAside rfl (by decide) ⟨rfl, rfl, Nat.le_of_ble_eq_true rfl, Nat.le_of_ble_eq_true rfl⟩ (Nat.le_of_ble_eq_true rfl) (z_pm [0] 1 rfl (by decide) rfl) ?_
  intro u1 hw
  try dsimp only at hw
  refine z_bs [(wMx cI gv (mS u1) (mAside u1) (mBefore u1) (mText u1) (mLetters u1) (mBys u1) (mFirst u1) (mCommand u1) (mKnown u1) (mLength u1) (mLogLong u1) (mAreSame u1) (mAt u1) (mIsWrong u1) (mPosition u1) (mReason u1) (mCause u1))] [] rfl rfl ?_
  refine z_iconst C dX7_end_4 0 (by decide +kernel) ?_
  refine z_istore_n C dX7_end_5 [some (.ref (gv 0)), some (.int p1), some (.int 0), none, none] (by decide) rfl ?_
  exact wk_X7_end_6 C gv v p1   0 u1 _  hw
def rmX7_inTheEnd : Room := { frames := 6, cells := 0, slots := 0, locals := 144 }
def wp_X7_inTheEnd (v : zM) (p1 : Int32) (p2 : Int32) (Q : Int32 → zM → Prop) : Prop := (((f_X7_in p1 0 1) = 0 → (Q (-1) v)) ∧ (¬ (f_X7_in p1 0 1) = 0 → ((0 ≤ p2 → (wp_X7_end v p1 (fun u3 => (((mLogLong u3) ≤ p2 → (Q (-4) u3)) ∧ (¬ (mLogLong u3) ≤ p2 → (vp_in p2 96 ∧ (Q ((mLetters u3) p2.toNatClampNeg) u3))))))) ∧ (¬ 0 ≤ p2 → (Q (-1) v)))))
set_option maxHeartbeats 4000000 in
set_option maxRecDepth 100000 in
theorem met_X7_inTheEnd (l : Launch) (D : va_G) (cI : ClassId) (gv : Nat → Nat) (v : zM) (p1 : Int32) (p2 : Int32) (Q : Int32 → zM → Prop) (hw : wp_X7_inTheEnd v p1 p2 Q) : ZM l D cI yX7_inTheEnd cX7_inTheEnd 3 (some .int) rmX7_inTheEnd [.ref (gv 0), .int p1, .int p2] [(wMx cI gv (mS v) (mAside v) (mBefore v) (mText v) (mLetters v) (mBys v) (mFirst v) (mCommand v) (mKnown v) (mLength v) (mLogLong v) (mAreSame v) (mAt v) (mIsWrong v) (mPosition v) (mReason v) (mCause v))] (fun u : Int32 × zM => some (.int u.1)) (fun u : Int32 × zM => [(wMx cI gv (mS (u.2)) (mAside (u.2)) (mBefore (u.2)) (mText (u.2)) (mLetters (u.2)) (mBys (u.2)) (mFirst (u.2)) (mCommand (u.2)) (mKnown (u.2)) (mLength (u.2)) (mLogLong (u.2)) (mAreSame (u.2)) (mAt (u.2)) (mIsWrong (u.2)) (mPosition (u.2)) (mReason (u.2)) (mCause (u.2)))]) (fun u : Int32 × zM => Q u.1 u.2) := by
  refine z_body [some (.ref (gv 0)), some (.int p1), some (.int p2)] (by decide +kernel) rfl (Nat.le_of_ble_eq_true rfl) rfl ?_
  intro p e s m args below meth c A C hin
  unfold wp_X7_inTheEnd at hw
  refine z_iload_n C dX7_inTheEnd_0 rfl ?_
  refine z_iconst C dX7_inTheEnd_1 0 (by decide +kernel) ?_
  refine z_iconst C dX7_inTheEnd_2 1 (by decide +kernel) ?_
  refine z_callFS C [] [(wMx cI gv (mS v) (mAside v) (mBefore v) (mText v) (mLetters v) (mBys v) (mFirst v) (mCommand v) (mKnown v) (mLength v) (mLogLong v) (mAreSame v) (mAt v) (mIsWrong v) (mPosition v) (mReason v) (mCause v))] (met_X7_in l D cI p1 0 1) y_X7_in mw_12_2 dX7_inTheEnd_3 rfl n_X7_in rfl (by decide) ⟨rfl, rfl, Nat.le_of_ble_eq_true rfl, Nat.le_of_ble_eq_true rfl⟩ (Nat.le_of_ble_eq_true rfl) (z_pm [0] 1 rfl (by decide) rfl) ?_
  refine z_if_eq C dX7_inTheEnd_6 13 (by decide) (fun c1 => ?_) (fun c1 => ?_)
  · replace hw := hw.1 c1
    refine z_iconst C dX7_inTheEnd_13 (-1) (by decide +kernel) ?_
    exact z_iret C rfl ((-1), v) rfl hw rfl dX7_inTheEnd_14
  · replace hw := hw.2 c1
    refine z_iload_n C dX7_inTheEnd_9 rfl ?_
    refine z_if_ge C dX7_inTheEnd_10 15 (by decide) (fun c2 => ?_) (fun c2 => ?_)
    · replace hw := hw.1 c2
      refine z_aload_n C dX7_inTheEnd_15 rfl ?_
      refine z_iload_n C dX7_inTheEnd_16 rfl ?_
      refine z_callV0 C [(wMx cI gv (mS v) (mAside v) (mBefore v) (mText v) (mLetters v) (mBys v) (mFirst v) (mCommand v) (mKnown v) (mLength v) (mLogLong v) (mAreSame v) (mAt v) (mIsWrong v) (mPosition v) (mReason v) (mCause v))] [] rfl rfl (met_X7_end l D cI gv v p1 _ hw) y_X7_end mw_23_10 dX7_inTheEnd_17 rfl n_X7_end rfl (by decide) ⟨rfl, rfl, Nat.le_of_ble_eq_true rfl, Nat.le_of_ble_eq_true rfl⟩ (Nat.le_of_ble_eq_true rfl) (z_pm [0] 1 rfl (by decide) rfl) ?_
      intro u3 hw
      try dsimp only at hw
      refine z_bs [(wMx cI gv (mS u3) (mAside u3) (mBefore u3) (mText u3) (mLetters u3) (mBys u3) (mFirst u3) (mCommand u3) (mKnown u3) (mLength u3) (mLogLong u3) (mAreSame u3) (mAt u3) (mIsWrong u3) (mPosition u3) (mReason u3) (mCause u3))] [] rfl rfl ?_
      refine z_iload_n C dX7_inTheEnd_20 rfl ?_
      refine z_aload_n C dX7_inTheEnd_21 rfl ?_
      refine z_get C inlX7 rfl 8 (by decide) mw_19_4 dX7_inTheEnd_22 0 0 rfl rfl rfl ?_
      refine z_icmp_ge C dX7_inTheEnd_25 37 (by decide) (fun c4 => ?_) (fun c4 => ?_)
      · replace hw := hw.1 c4
        refine z_bipush C dX7_inTheEnd_37 (-4) (by decide +kernel) ?_
        exact z_iret C rfl ((-4), u3) rfl hw rfl dX7_inTheEnd_39
      · replace hw := hw.2 c4
        refine z_aload_n C dX7_inTheEnd_28 rfl ?_
        refine z_get C inlX7 rfl 6 (by decide) mw_4_19 dX7_inTheEnd_29 0 0 rfl rfl rfl ?_
        refine z_iload_n C dX7_inTheEnd_32 rfl ?_
        refine z_iald C dX7_inTheEnd_33 0 5 rfl rfl hw.1 ?_
        replace hw := hw.2
        refine z_goto C dX7_inTheEnd_34 39 (by decide) ?_
        exact z_iret C rfl (((mLetters u3) p2.toNatClampNeg), u3) rfl hw rfl dX7_inTheEnd_39
    · replace hw := hw.2 c2
      refine z_iconst C dX7_inTheEnd_13 (-1) (by decide +kernel) ?_
      exact z_iret C rfl ((-1), v) rfl hw rfl dX7_inTheEnd_14
def rmX7_both : Room := { frames := 6, cells := 0, slots := 0, locals := 144 }
def jn_X7_both_125 (v : zM) (p1 : Int32) (v2 : Int32) (v3 : Int32) (v4 : Int32) (w0 : zM)  (Q : Int32 → zM → Prop)  : Prop := ((¬ p1 = 0 → ((¬ p1 = 1 → ((¬ p1 = 2 → ((v3 = 0 → (Q 0 w0)) ∧ (¬ v3 = 0 → (((mAreSame w0) = 0 → (Q 0 w0)) ∧ (¬ (mAreSame w0) = 0 → (Q 1 w0)))))) ∧ (p1 = 2 → ((v4 = 0 → (Q 0 w0)) ∧ (¬ v4 = 0 → (Q 1 w0)))))) ∧ (p1 = 1 → (Q (mLogLong w0) w0)))) ∧ (p1 = 0 → (Q v2 w0)))
set_option maxHeartbeats 4000000 in
set_option maxRecDepth 100000 in
theorem wk_X7_both_125 {p : Program} {l : Launch} {e : Env} {s : State} {m : MethodId} {args : Array Value} {below : List Frame} {meth : Method} {c : Code} {D : va_G} {cI : ClassId} {A : Nat → Prop} (C : ZC p s m args meth c RX7 cX7_both 6 (some .int) D cI A) (gv : Nat → Nat) (v : zM) (p1 : Int32) (v2 : Int32) (v3 : Int32) (v4 : Int32) (w0 : zM)  (Q : Int32 → zM → Prop)  (hw : jn_X7_both_125 v p1 v2 v3 v4 w0  Q ) : ZZ p l e rmX7_both s m args below meth c D A 6 0 0 (MQ below (ZQ D A (fun u : Int32 × zM => some (.int u.1)) (fun u : Int32 × zM => [(wMx cI gv (mS (u.2)) (mAside (u.2)) (mBefore (u.2)) (mText (u.2)) (mLetters (u.2)) (mBys (u.2)) (mFirst (u.2)) (mCommand (u.2)) (mKnown (u.2)) (mLength (u.2)) (mLogLong (u.2)) (mAreSame (u.2)) (mAt (u.2)) (mIsWrong (u.2)) (mPosition (u.2)) (mReason (u.2)) (mCause (u.2)))]) (fun u : Int32 × zM => Q u.1 u.2)) args s rmX7_both.cells rmX7_both.slots A) [(wMx cI gv (mS w0) (mAside w0) (mBefore w0) (mText w0) (mLetters w0) (mBys w0) (mFirst w0) (mCommand w0) (mKnown w0) (mLength w0) (mLogLong w0) (mAreSame w0) (mAt w0) (mIsWrong w0) (mPosition w0) (mReason w0) (mCause w0))] 125 [some (.ref (gv 0)), some (.int p1), some (.int v2), some (.int v3), some (.int v4), none] [] := by
  unfold jn_X7_both_125 at hw
  refine z_iload_n C dX7_both_125 rfl ?_
  refine z_if_ne C dX7_both_126 133 (by decide) (fun c9 => ?_) (fun c9 => ?_)
  · replace hw := hw.1 c9
    refine z_iload_n C dX7_both_133 rfl ?_
    refine z_iconst C dX7_both_134 1 (by decide +kernel) ?_
    refine z_icmp_ne C dX7_both_135 145 (by decide) (fun c10 => ?_) (fun c10 => ?_)
    · replace hw := hw.1 c10
      refine z_iload_n C dX7_both_145 rfl ?_
      refine z_iconst C dX7_both_146 2 (by decide +kernel) ?_
      refine z_icmp_ne C dX7_both_147 163 (by decide) (fun c11 => ?_) (fun c11 => ?_)
      · replace hw := hw.1 c11
        refine z_iload_n C dX7_both_163 rfl ?_
        refine z_if_eq C dX7_both_164 178 (by decide) (fun c12 => ?_) (fun c12 => ?_)
        · replace hw := hw.1 c12
          refine z_iconst C dX7_both_178 0 (by decide +kernel) ?_
          exact z_iret C rfl (0, w0) rfl hw rfl dX7_both_179
        · replace hw := hw.2 c12
          refine z_aload_n C dX7_both_167 rfl ?_
          refine z_get C inlX7 rfl 9 (by decide) mw_23_14 dX7_both_168 0 0 rfl rfl rfl ?_
          refine z_if_eq C dX7_both_171 178 (by decide) (fun c13 => ?_) (fun c13 => ?_)
          · replace hw := hw.1 c13
            refine z_iconst C dX7_both_178 0 (by decide +kernel) ?_
            exact z_iret C rfl (0, w0) rfl hw rfl dX7_both_179
          · replace hw := hw.2 c13
            refine z_iconst C dX7_both_174 1 (by decide +kernel) ?_
            refine z_goto C dX7_both_175 179 (by decide) ?_
            exact z_iret C rfl (1, w0) rfl hw rfl dX7_both_179
      · replace hw := hw.2 c11
        refine z_iload C dX7_both_150 rfl ?_
        refine z_if_eq C dX7_both_152 159 (by decide) (fun c14 => ?_) (fun c14 => ?_)
        · replace hw := hw.1 c14
          refine z_iconst C dX7_both_159 0 (by decide +kernel) ?_
          refine z_goto C dX7_both_160 179 (by decide) ?_
          exact z_iret C rfl (0, w0) rfl hw rfl dX7_both_179
        · replace hw := hw.2 c14
          refine z_iconst C dX7_both_155 1 (by decide +kernel) ?_
          refine z_goto C dX7_both_156 179 (by decide) ?_
          exact z_iret C rfl (1, w0) rfl hw rfl dX7_both_179
    · replace hw := hw.2 c10
      refine z_aload_n C dX7_both_138 rfl ?_
      refine z_get C inlX7 rfl 8 (by decide) mw_19_4 dX7_both_139 0 0 rfl rfl rfl ?_
      refine z_goto C dX7_both_142 179 (by decide) ?_
      exact z_iret C rfl ((mLogLong w0), w0) rfl hw rfl dX7_both_179
  · replace hw := hw.2 c9
    refine z_iload_n C dX7_both_129 rfl ?_
    refine z_goto C dX7_both_130 179 (by decide) ?_
    exact z_iret C rfl (v2, w0) rfl hw rfl dX7_both_179
def lb_X7_both_81 (v : zM) (p1 : Int32) (v2 : Int32) (v3 : Int32) (w0 : zM)  (Q : Int32 → zM → Prop)  (K81 : (Int32) → (Int32) → Prop) (v4 : Int32) (v5 : Int32) : Prop := (((mLogLong w0) ≤ v5 → (jn_X7_both_125 v p1 v2 v3 v4 w0  Q )) ∧ (¬ (mLogLong w0) ≤ v5 → ((v4 = 0 → (jn_X7_both_125 v p1 v2 v3 v4 w0  Q )) ∧ (¬ v4 = 0 → (vp_in v5 96 ∧ (vp_in v5 96 ∧ ((¬ ((mFirst w0) v5.toNatClampNeg) = ((mLetters w0) v5.toNatClampNeg) → (K81 0 (v5 + 1))) ∧ (((mFirst w0) v5.toNatClampNeg) = ((mLetters w0) v5.toNatClampNeg) → (K81 1 (v5 + 1))))))))))
set_option maxHeartbeats 4000000 in
set_option maxRecDepth 100000 in
theorem wk_X7_both_81 {p : Program} {l : Launch} {e : Env} {s : State} {m : MethodId} {args : Array Value} {below : List Frame} {meth : Method} {c : Code} {D : va_G} {cI : ClassId} {A : Nat → Prop} (C : ZC p s m args meth c RX7 cX7_both 6 (some .int) D cI A) (gv : Nat → Nat) (v : zM) (p1 : Int32) (v2 : Int32) (v3 : Int32) (w0 : zM)  (v4 : Int32) (v5 : Int32) (Q : Int32 → zM → Prop)  (hw : zLoop2 (lb_X7_both_81 v p1 v2 v3 w0  Q ) v4 v5) : ZZ p l e rmX7_both s m args below meth c D A 6 0 0 (MQ below (ZQ D A (fun u : Int32 × zM => some (.int u.1)) (fun u : Int32 × zM => [(wMx cI gv (mS (u.2)) (mAside (u.2)) (mBefore (u.2)) (mText (u.2)) (mLetters (u.2)) (mBys (u.2)) (mFirst (u.2)) (mCommand (u.2)) (mKnown (u.2)) (mLength (u.2)) (mLogLong (u.2)) (mAreSame (u.2)) (mAt (u.2)) (mIsWrong (u.2)) (mPosition (u.2)) (mReason (u.2)) (mCause (u.2)))]) (fun u : Int32 × zM => Q u.1 u.2)) args s rmX7_both.cells rmX7_both.slots A) [(wMx cI gv (mS w0) (mAside w0) (mBefore w0) (mText w0) (mLetters w0) (mBys w0) (mFirst w0) (mCommand w0) (mKnown w0) (mLength w0) (mLogLong w0) (mAreSame w0) (mAt w0) (mIsWrong w0) (mPosition w0) (mReason w0) (mCause w0))] 81 [some (.ref (gv 0)), some (.int p1), some (.int v2), some (.int v3), some (.int v4), some (.int v5)] [] := by
  refine zLoop2_w (fun (v4 : Int32) (v5 : Int32) => ZZ p l e rmX7_both s m args below meth c D A 6 0 0 (MQ below (ZQ D A (fun u : Int32 × zM => some (.int u.1)) (fun u : Int32 × zM => [(wMx cI gv (mS (u.2)) (mAside (u.2)) (mBefore (u.2)) (mText (u.2)) (mLetters (u.2)) (mBys (u.2)) (mFirst (u.2)) (mCommand (u.2)) (mKnown (u.2)) (mLength (u.2)) (mLogLong (u.2)) (mAreSame (u.2)) (mAt (u.2)) (mIsWrong (u.2)) (mPosition (u.2)) (mReason (u.2)) (mCause (u.2)))]) (fun u : Int32 × zM => Q u.1 u.2)) args s rmX7_both.cells rmX7_both.slots A) [(wMx cI gv (mS w0) (mAside w0) (mBefore w0) (mText w0) (mLetters w0) (mBys w0) (mFirst w0) (mCommand w0) (mKnown w0) (mLength w0) (mLogLong w0) (mAreSame w0) (mAt w0) (mIsWrong w0) (mPosition w0) (mReason w0) (mCause w0))] 81 [some (.ref (gv 0)), some (.int p1), some (.int v2), some (.int v3), some (.int v4), some (.int v5)] []) ?_ _ _ hw
  clear hw
  intro K81 hK81 v4 v5 hw
  unfold lb_X7_both_81 at hw
  refine z_iload C dX7_both_81 rfl ?_
  refine z_aload_n C dX7_both_83 rfl ?_
  refine z_get C inlX7 rfl 8 (by decide) mw_19_4 dX7_both_84 0 0 rfl rfl rfl ?_
  refine z_icmp_ge C dX7_both_87 125 (by decide) (fun c8 => ?_) (fun c8 => ?_)
  · replace hw := hw.1 c8
    refine z_ls C [true, true, true, true, true, false] [some (.ref (gv 0)), some (.int p1), some (.int v2), some (.int v3), some (.int v4), none] rfl ?_
    exact wk_X7_both_125 C gv v p1 v2 v3 v4 w0  _  hw
  · replace hw := hw.2 c8
    refine z_iload C dX7_both_90 rfl ?_
    refine z_if_eq C dX7_both_92 125 (by decide) (fun c15 => ?_) (fun c15 => ?_)
    · replace hw := hw.1 c15
      refine z_ls C [true, true, true, true, true, false] [some (.ref (gv 0)), some (.int p1), some (.int v2), some (.int v3), some (.int v4), none] rfl ?_
      exact wk_X7_both_125 C gv v p1 v2 v3 v4 w0  _  hw
    · replace hw := hw.2 c15
      refine z_aload_n C dX7_both_95 rfl ?_
      refine z_get C inlX7 rfl 10 (by decide) mw_4_21 dX7_both_96 0 0 rfl rfl rfl ?_
      refine z_iload C dX7_both_99 rfl ?_
      refine z_iald C dX7_both_101 0 7 rfl rfl hw.1 ?_
      replace hw := hw.2
      refine z_aload_n C dX7_both_102 rfl ?_
      refine z_get C inlX7 rfl 6 (by decide) mw_4_19 dX7_both_103 0 0 rfl rfl rfl ?_
      refine z_iload C dX7_both_106 rfl ?_
      refine z_iald C dX7_both_108 0 5 rfl rfl hw.1 ?_
      replace hw := hw.2
      refine z_icmp_ne C dX7_both_109 116 (by decide) (fun c16 => ?_) (fun c16 => ?_)
      · replace hw := hw.1 c16
        refine z_iconst C dX7_both_116 0 (by decide +kernel) ?_
        refine z_istore C dX7_both_117 [some (.ref (gv 0)), some (.int p1), some (.int v2), some (.int v3), some (.int 0), some (.int v5)] (by decide) rfl ?_
        refine z_iinc C dX7_both_119 rfl (v5 + 1) (by rfl) [some (.ref (gv 0)), some (.int p1), some (.int v2), some (.int v3), some (.int 0), some (.int (v5 + 1))] (by decide) rfl ?_
        refine z_goto C dX7_both_122 81 (by decide) ?_
        exact hK81 _ _ hw
      · replace hw := hw.2 c16
        refine z_iconst C dX7_both_112 1 (by decide +kernel) ?_
        refine z_goto C dX7_both_113 117 (by decide) ?_
        refine z_istore C dX7_both_117 [some (.ref (gv 0)), some (.int p1), some (.int v2), some (.int v3), some (.int 1), some (.int v5)] (by decide) rfl ?_
        refine z_iinc C dX7_both_119 rfl (v5 + 1) (by rfl) [some (.ref (gv 0)), some (.int p1), some (.int v2), some (.int v3), some (.int 1), some (.int (v5 + 1))] (by decide) rfl ?_
        refine z_goto C dX7_both_122 81 (by decide) ?_
        exact hK81 _ _ hw
def lb_X7_both_29 (v : zM) (p1 : Int32) (v2 : Int32) (v3 : Int32)  (Q : Int32 → zM → Prop)  (K29 : (Int32) → (zM) → Prop) (v4 : Int32) (w0 : zM) : Prop := (((mLogLong w0) ≤ v4 → (wp_X7_end w0 1 (fun u6 => ((¬ v2 = (mLogLong u6) → (zLoop2 (lb_X7_both_81 v p1 v2 v3 u6  Q ) 0 0)) ∧ (v2 = (mLogLong u6) → (zLoop2 (lb_X7_both_81 v p1 v2 v3 u6  Q ) 1 0)))))) ∧ (¬ (mLogLong w0) ≤ v4 → (vp_in v4 96 ∧ (vp_in v4 96 ∧ (K29 (v4 + 1) (mSetFirst w0 (upd (mFirst w0) v4.toNatClampNeg ((mLetters w0) v4.toNatClampNeg))))))))
set_option maxHeartbeats 4000000 in
set_option maxRecDepth 100000 in
theorem wk_X7_both_29 {p : Program} {l : Launch} {e : Env} {s : State} {m : MethodId} {args : Array Value} {below : List Frame} {meth : Method} {c : Code} {D : va_G} {cI : ClassId} {A : Nat → Prop} (C : ZC p s m args meth c RX7 cX7_both 6 (some .int) D cI A) (gv : Nat → Nat) (v : zM) (p1 : Int32) (v2 : Int32) (v3 : Int32)  (v4 : Int32) (w0 : zM) (Q : Int32 → zM → Prop)  (hw : zLoop2 (lb_X7_both_29 v p1 v2 v3  Q ) v4 w0) : ZZ p l e rmX7_both s m args below meth c D A 6 0 0 (MQ below (ZQ D A (fun u : Int32 × zM => some (.int u.1)) (fun u : Int32 × zM => [(wMx cI gv (mS (u.2)) (mAside (u.2)) (mBefore (u.2)) (mText (u.2)) (mLetters (u.2)) (mBys (u.2)) (mFirst (u.2)) (mCommand (u.2)) (mKnown (u.2)) (mLength (u.2)) (mLogLong (u.2)) (mAreSame (u.2)) (mAt (u.2)) (mIsWrong (u.2)) (mPosition (u.2)) (mReason (u.2)) (mCause (u.2)))]) (fun u : Int32 × zM => Q u.1 u.2)) args s rmX7_both.cells rmX7_both.slots A) [(wMx cI gv (mS w0) (mAside w0) (mBefore w0) (mText w0) (mLetters w0) (mBys w0) (mFirst w0) (mCommand w0) (mKnown w0) (mLength w0) (mLogLong w0) (mAreSame w0) (mAt w0) (mIsWrong w0) (mPosition w0) (mReason w0) (mCause w0))] 29 [some (.ref (gv 0)), some (.int p1), some (.int v2), some (.int v3), some (.int v4), none] [] := by
  refine zLoop2_w (fun (v4 : Int32) (w0 : zM) => ZZ p l e rmX7_both s m args below meth c D A 6 0 0 (MQ below (ZQ D A (fun u : Int32 × zM => some (.int u.1)) (fun u : Int32 × zM => [(wMx cI gv (mS (u.2)) (mAside (u.2)) (mBefore (u.2)) (mText (u.2)) (mLetters (u.2)) (mBys (u.2)) (mFirst (u.2)) (mCommand (u.2)) (mKnown (u.2)) (mLength (u.2)) (mLogLong (u.2)) (mAreSame (u.2)) (mAt (u.2)) (mIsWrong (u.2)) (mPosition (u.2)) (mReason (u.2)) (mCause (u.2)))]) (fun u : Int32 × zM => Q u.1 u.2)) args s rmX7_both.cells rmX7_both.slots A) [(wMx cI gv (mS w0) (mAside w0) (mBefore w0) (mText w0) (mLetters w0) (mBys w0) (mFirst w0) (mCommand w0) (mKnown w0) (mLength w0) (mLogLong w0) (mAreSame w0) (mAt w0) (mIsWrong w0) (mPosition w0) (mReason w0) (mCause w0))] 29 [some (.ref (gv 0)), some (.int p1), some (.int v2), some (.int v3), some (.int v4), none] []) ?_ _ _ hw
  clear hw
  intro K29 hK29 v4 w0 hw
  unfold lb_X7_both_29 at hw
  refine z_iload C dX7_both_29 rfl ?_
  refine z_aload_n C dX7_both_31 rfl ?_
  refine z_get C inlX7 rfl 8 (by decide) mw_19_4 dX7_both_32 0 0 rfl rfl rfl ?_
  refine z_icmp_ge C dX7_both_35 58 (by decide) (fun c5 => ?_) (fun c5 => ?_)
  · replace hw := hw.1 c5
    refine z_aload_n C dX7_both_58 rfl ?_
    refine z_iconst C dX7_both_59 1 (by decide +kernel) ?_
    refine z_callV0 C [(wMx cI gv (mS w0) (mAside w0) (mBefore w0) (mText w0) (mLetters w0) (mBys w0) (mFirst w0) (mCommand w0) (mKnown w0) (mLength w0) (mLogLong w0) (mAreSame w0) (mAt w0) (mIsWrong w0) (mPosition w0) (mReason w0) (mCause w0))] [] rfl rfl (met_X7_end l D cI gv w0 1 _ hw) y_X7_end mw_23_10 dX7_both_60 rfl n_X7_end rfl (by decide) ⟨rfl, rfl, Nat.le_of_ble_eq_true rfl, Nat.le_of_ble_eq_true rfl⟩ (Nat.le_of_ble_eq_true rfl) (z_pm [0] 1 rfl (by decide) rfl) ?_
    intro u6 hw
    try dsimp only at hw
    refine z_bs [(wMx cI gv (mS u6) (mAside u6) (mBefore u6) (mText u6) (mLetters u6) (mBys u6) (mFirst u6) (mCommand u6) (mKnown u6) (mLength u6) (mLogLong u6) (mAreSame u6) (mAt u6) (mIsWrong u6) (mPosition u6) (mReason u6) (mCause u6))] [] rfl rfl ?_
    refine z_iload_n C dX7_both_63 rfl ?_
    refine z_aload_n C dX7_both_64 rfl ?_
    refine z_get C inlX7 rfl 8 (by decide) mw_19_4 dX7_both_65 0 0 rfl rfl rfl ?_
    refine z_icmp_ne C dX7_both_68 75 (by decide) (fun c7 => ?_) (fun c7 => ?_)
    · replace hw := hw.1 c7
      refine z_iconst C dX7_both_75 0 (by decide +kernel) ?_
      refine z_istore C dX7_both_76 [some (.ref (gv 0)), some (.int p1), some (.int v2), some (.int v3), some (.int 0), none] (by decide) rfl ?_
      refine z_iconst C dX7_both_78 0 (by decide +kernel) ?_
      refine z_istore C dX7_both_79 [some (.ref (gv 0)), some (.int p1), some (.int v2), some (.int v3), some (.int 0), some (.int 0)] (by decide) rfl ?_
      exact wk_X7_both_81 C gv v p1 v2 v3 u6  0 0 _  hw
    · replace hw := hw.2 c7
      refine z_iconst C dX7_both_71 1 (by decide +kernel) ?_
      refine z_goto C dX7_both_72 76 (by decide) ?_
      refine z_istore C dX7_both_76 [some (.ref (gv 0)), some (.int p1), some (.int v2), some (.int v3), some (.int 1), none] (by decide) rfl ?_
      refine z_iconst C dX7_both_78 0 (by decide +kernel) ?_
      refine z_istore C dX7_both_79 [some (.ref (gv 0)), some (.int p1), some (.int v2), some (.int v3), some (.int 1), some (.int 0)] (by decide) rfl ?_
      exact wk_X7_both_81 C gv v p1 v2 v3 u6  1 0 _  hw
  · replace hw := hw.2 c5
    refine z_aload_n C dX7_both_38 rfl ?_
    refine z_get C inlX7 rfl 10 (by decide) mw_4_21 dX7_both_39 0 0 rfl rfl rfl ?_
    refine z_iload C dX7_both_42 rfl ?_
    refine z_aload_n C dX7_both_44 rfl ?_
    refine z_get C inlX7 rfl 6 (by decide) mw_4_19 dX7_both_45 0 0 rfl rfl rfl ?_
    refine z_iload C dX7_both_48 rfl ?_
    refine z_iald C dX7_both_50 0 5 rfl rfl hw.1 ?_
    replace hw := hw.2
    refine z_iast C dX7_both_51 0 7 rfl rfl hw.1 [(wMx cI gv (mS w0) (mAside w0) (mBefore w0) (mText w0) (mLetters w0) (mBys w0) (upd (mFirst w0) v4.toNatClampNeg ((mLetters w0) v4.toNatClampNeg)) (mCommand w0) (mKnown w0) (mLength w0) (mLogLong w0) (mAreSame w0) (mAt w0) (mIsWrong w0) (mPosition w0) (mReason w0) (mCause w0))] rfl ?_
    replace hw := hw.2
    refine z_iinc C dX7_both_52 rfl (v4 + 1) (by rfl) [some (.ref (gv 0)), some (.int p1), some (.int v2), some (.int v3), some (.int (v4 + 1)), none] (by decide) rfl ?_
    refine z_goto C dX7_both_55 29 (by decide) ?_
    exact hK29 _ _ hw
def wp_X7_both (v : zM) (p1 : Int32) (Q : Int32 → zM → Prop) : Prop := ((¬ (f_X7_in p1 0 3) = 0 → (wp_X7_end v 0 (fun u2 => (∀ x3 : Int32, x3 = (mLogLong u2) → (∀ x4 : Int32, x4 = (mAreSame u2) → (zLoop2 (lb_X7_both_29 v p1 x3 x4  Q ) 0 u2)))))) ∧ ((f_X7_in p1 0 3) = 0 → (Q (-1) v)))
set_option maxHeartbeats 4000000 in
set_option maxRecDepth 100000 in
theorem met_X7_both (l : Launch) (D : va_G) (cI : ClassId) (gv : Nat → Nat) (v : zM) (p1 : Int32) (Q : Int32 → zM → Prop) (hw : wp_X7_both v p1 Q) : ZM l D cI yX7_both cX7_both 6 (some .int) rmX7_both [.ref (gv 0), .int p1] [(wMx cI gv (mS v) (mAside v) (mBefore v) (mText v) (mLetters v) (mBys v) (mFirst v) (mCommand v) (mKnown v) (mLength v) (mLogLong v) (mAreSame v) (mAt v) (mIsWrong v) (mPosition v) (mReason v) (mCause v))] (fun u : Int32 × zM => some (.int u.1)) (fun u : Int32 × zM => [(wMx cI gv (mS (u.2)) (mAside (u.2)) (mBefore (u.2)) (mText (u.2)) (mLetters (u.2)) (mBys (u.2)) (mFirst (u.2)) (mCommand (u.2)) (mKnown (u.2)) (mLength (u.2)) (mLogLong (u.2)) (mAreSame (u.2)) (mAt (u.2)) (mIsWrong (u.2)) (mPosition (u.2)) (mReason (u.2)) (mCause (u.2)))]) (fun u : Int32 × zM => Q u.1 u.2) := by
  refine z_body [some (.ref (gv 0)), some (.int p1), none, none, none, none] (by decide +kernel) rfl (Nat.le_of_ble_eq_true rfl) rfl ?_
  intro p e s m args below meth c A C hin
  unfold wp_X7_both at hw
  refine z_iload_n C dX7_both_0 rfl ?_
  refine z_iconst C dX7_both_1 0 (by decide +kernel) ?_
  refine z_iconst C dX7_both_2 3 (by decide +kernel) ?_
  refine z_callFS C [] [(wMx cI gv (mS v) (mAside v) (mBefore v) (mText v) (mLetters v) (mBys v) (mFirst v) (mCommand v) (mKnown v) (mLength v) (mLogLong v) (mAreSame v) (mAt v) (mIsWrong v) (mPosition v) (mReason v) (mCause v))] (met_X7_in l D cI p1 0 3) y_X7_in mw_12_2 dX7_both_3 rfl n_X7_in rfl (by decide) ⟨rfl, rfl, Nat.le_of_ble_eq_true rfl, Nat.le_of_ble_eq_true rfl⟩ (Nat.le_of_ble_eq_true rfl) (z_pm [0] 1 rfl (by decide) rfl) ?_
  refine z_if_ne C dX7_both_6 11 (by decide) (fun c1 => ?_) (fun c1 => ?_)
  · replace hw := hw.1 c1
    refine z_aload_n C dX7_both_11 rfl ?_
    refine z_iconst C dX7_both_12 0 (by decide +kernel) ?_
    refine z_callV0 C [(wMx cI gv (mS v) (mAside v) (mBefore v) (mText v) (mLetters v) (mBys v) (mFirst v) (mCommand v) (mKnown v) (mLength v) (mLogLong v) (mAreSame v) (mAt v) (mIsWrong v) (mPosition v) (mReason v) (mCause v))] [] rfl rfl (met_X7_end l D cI gv v 0 _ hw) y_X7_end mw_23_10 dX7_both_13 rfl n_X7_end rfl (by decide) ⟨rfl, rfl, Nat.le_of_ble_eq_true rfl, Nat.le_of_ble_eq_true rfl⟩ (Nat.le_of_ble_eq_true rfl) (z_pm [0] 1 rfl (by decide) rfl) ?_
    intro u2 hw
    try dsimp only at hw
    refine z_bs [(wMx cI gv (mS u2) (mAside u2) (mBefore u2) (mText u2) (mLetters u2) (mBys u2) (mFirst u2) (mCommand u2) (mKnown u2) (mLength u2) (mLogLong u2) (mAreSame u2) (mAt u2) (mIsWrong u2) (mPosition u2) (mReason u2) (mCause u2))] [] rfl rfl ?_
    refine z_aload_n C dX7_both_16 rfl ?_
    refine z_get C inlX7 rfl 8 (by decide) mw_19_4 dX7_both_17 0 0 rfl rfl rfl ?_
    refine z_name C (fun x3 ex3 => ?_)
    replace hw := hw x3 ex3
    refine z_istore_n C dX7_both_20 [some (.ref (gv 0)), some (.int p1), some (.int x3), none, none, none] (by decide) rfl ?_
    refine z_aload_n C dX7_both_21 rfl ?_
    refine z_get C inlX7 rfl 9 (by decide) mw_23_14 dX7_both_22 0 0 rfl rfl rfl ?_
    refine z_name C (fun x4 ex4 => ?_)
    replace hw := hw x4 ex4
    refine z_istore_n C dX7_both_25 [some (.ref (gv 0)), some (.int p1), some (.int x3), some (.int x4), none, none] (by decide) rfl ?_
    refine z_iconst C dX7_both_26 0 (by decide +kernel) ?_
    refine z_istore C dX7_both_27 [some (.ref (gv 0)), some (.int p1), some (.int x3), some (.int x4), some (.int 0), none] (by decide) rfl ?_
    exact wk_X7_both_29 C gv v p1 x3 x4  0 u2 _  hw
  · replace hw := hw.2 c1
    refine z_iconst C dX7_both_9 (-1) (by decide +kernel) ?_
    exact z_iret C rfl ((-1), v) rfl hw rfl dX7_both_10
def rmX7_wouldSend : Room := { frames := 3, cells := 0, slots := 0, locals := 72 }
def wp_X7_wouldSend (v : zM) (p1 : Int32) (p2 : Int32) (Q : Int32 → zM → Prop) : Prop := (((f_X7_isEditor p1) = 0 → (Q (-1) v)) ∧ (¬ (f_X7_isEditor p1) = 0 → ((¬ (f_X7_in p2 0 1) = 0 → (wp_X7_canSend v p1 (fun r3 u4 => ((r3 = 0 → (Q (-2) u4)) ∧ (¬ r3 = 0 → (vp_in (f_X7_of p1 98) 445 ∧ (wp_X7_behind u4 p1 ((mS u4) (f_X7_of p1 98).toNatClampNeg) (fun r6 u7 => (Q (f_X7_told r6 p2) u7))))))))) ∧ ((f_X7_in p2 0 1) = 0 → (Q (-1) v)))))
set_option maxHeartbeats 4000000 in
set_option maxRecDepth 100000 in
theorem met_X7_wouldSend (l : Launch) (D : va_G) (cI : ClassId) (gv : Nat → Nat) (v : zM) (p1 : Int32) (p2 : Int32) (Q : Int32 → zM → Prop) (hw : wp_X7_wouldSend v p1 p2 Q) : ZM l D cI yX7_wouldSend cX7_wouldSend 3 (some .int) rmX7_wouldSend [.ref (gv 0), .int p1, .int p2] [(wMx cI gv (mS v) (mAside v) (mBefore v) (mText v) (mLetters v) (mBys v) (mFirst v) (mCommand v) (mKnown v) (mLength v) (mLogLong v) (mAreSame v) (mAt v) (mIsWrong v) (mPosition v) (mReason v) (mCause v))] (fun u : Int32 × zM => some (.int u.1)) (fun u : Int32 × zM => [(wMx cI gv (mS (u.2)) (mAside (u.2)) (mBefore (u.2)) (mText (u.2)) (mLetters (u.2)) (mBys (u.2)) (mFirst (u.2)) (mCommand (u.2)) (mKnown (u.2)) (mLength (u.2)) (mLogLong (u.2)) (mAreSame (u.2)) (mAt (u.2)) (mIsWrong (u.2)) (mPosition (u.2)) (mReason (u.2)) (mCause (u.2)))]) (fun u : Int32 × zM => Q u.1 u.2) := by
  refine z_body [some (.ref (gv 0)), some (.int p1), some (.int p2)] (by decide +kernel) rfl (Nat.le_of_ble_eq_true rfl) rfl ?_
  intro p e s m args below meth c A C hin
  unfold wp_X7_wouldSend at hw
  refine z_iload_n C dX7_wouldSend_0 rfl ?_
  refine z_callFS C [] [(wMx cI gv (mS v) (mAside v) (mBefore v) (mText v) (mLetters v) (mBys v) (mFirst v) (mCommand v) (mKnown v) (mLength v) (mLogLong v) (mAreSame v) (mAt v) (mIsWrong v) (mPosition v) (mReason v) (mCause v))] (met_X7_isEditor l D cI p1) y_X7_isEditor mw_11_23 dX7_wouldSend_1 rfl n_X7_isEditor rfl (by decide) ⟨rfl, rfl, Nat.le_of_ble_eq_true rfl, Nat.le_of_ble_eq_true rfl⟩ (Nat.le_of_ble_eq_true rfl) (z_pm [0] 1 rfl (by decide) rfl) ?_
  refine z_if_eq C dX7_wouldSend_4 16 (by decide) (fun c1 => ?_) (fun c1 => ?_)
  · replace hw := hw.1 c1
    refine z_iconst C dX7_wouldSend_16 (-1) (by decide +kernel) ?_
    exact z_iret C rfl ((-1), v) rfl hw rfl dX7_wouldSend_17
  · replace hw := hw.2 c1
    refine z_iload_n C dX7_wouldSend_7 rfl ?_
    refine z_iconst C dX7_wouldSend_8 0 (by decide +kernel) ?_
    refine z_iconst C dX7_wouldSend_9 1 (by decide +kernel) ?_
    refine z_callFS C [] [(wMx cI gv (mS v) (mAside v) (mBefore v) (mText v) (mLetters v) (mBys v) (mFirst v) (mCommand v) (mKnown v) (mLength v) (mLogLong v) (mAreSame v) (mAt v) (mIsWrong v) (mPosition v) (mReason v) (mCause v))] (met_X7_in l D cI p2 0 1) y_X7_in mw_12_2 dX7_wouldSend_10 rfl n_X7_in rfl (by decide) ⟨rfl, rfl, Nat.le_of_ble_eq_true rfl, Nat.le_of_ble_eq_true rfl⟩ (Nat.le_of_ble_eq_true rfl) (z_pm [0] 1 rfl (by decide) rfl) ?_
    refine z_if_ne C dX7_wouldSend_13 18 (by decide) (fun c2 => ?_) (fun c2 => ?_)
    · replace hw := hw.1 c2
      refine z_aload_n C dX7_wouldSend_18 rfl ?_
      refine z_iload_n C dX7_wouldSend_19 rfl ?_
      refine z_callV0 C [(wMx cI gv (mS v) (mAside v) (mBefore v) (mText v) (mLetters v) (mBys v) (mFirst v) (mCommand v) (mKnown v) (mLength v) (mLogLong v) (mAreSame v) (mAt v) (mIsWrong v) (mPosition v) (mReason v) (mCause v))] [] rfl rfl (met_X7_canSend l D cI gv v p1 _ hw) y_X7_canSend mw_16_3 dX7_wouldSend_20 rfl n_X7_canSend rfl (by decide) ⟨rfl, rfl, Nat.le_of_ble_eq_true rfl, Nat.le_of_ble_eq_true rfl⟩ (Nat.le_of_ble_eq_true rfl) (z_pm [0] 1 rfl (by decide) rfl) ?_
      intro ⟨r3, u4⟩ hw
      try dsimp only at hw
      refine z_bs [(wMx cI gv (mS u4) (mAside u4) (mBefore u4) (mText u4) (mLetters u4) (mBys u4) (mFirst u4) (mCommand u4) (mKnown u4) (mLength u4) (mLogLong u4) (mAreSame u4) (mAt u4) (mIsWrong u4) (mPosition u4) (mReason u4) (mCause u4))] [.int r3] rfl rfl ?_
      refine z_if_eq C dX7_wouldSend_23 49 (by decide) (fun c5 => ?_) (fun c5 => ?_)
      · replace hw := hw.1 c5
        refine z_bipush C dX7_wouldSend_49 (-2) (by decide +kernel) ?_
        exact z_iret C rfl ((-2), u4) rfl hw rfl dX7_wouldSend_51
      · replace hw := hw.2 c5
        refine z_aload_n C dX7_wouldSend_26 rfl ?_
        refine z_iload_n C dX7_wouldSend_27 rfl ?_
        refine z_aload_n C dX7_wouldSend_28 rfl ?_
        refine z_get C inlX7 rfl 0 (by decide) mw_4_15 dX7_wouldSend_29 0 0 rfl rfl rfl ?_
        refine z_iload_n C dX7_wouldSend_32 rfl ?_
        refine z_bipush C dX7_wouldSend_33 98 (by decide +kernel) ?_
        refine z_callFS C [] [(wMx cI gv (mS u4) (mAside u4) (mBefore u4) (mText u4) (mLetters u4) (mBys u4) (mFirst u4) (mCommand u4) (mKnown u4) (mLength u4) (mLogLong u4) (mAreSame u4) (mAt u4) (mIsWrong u4) (mPosition u4) (mReason u4) (mCause u4))] (met_X7_of l D cI p1 98) y_X7_of mw_12_5 dX7_wouldSend_35 rfl n_X7_of rfl (by decide) ⟨rfl, rfl, Nat.le_of_ble_eq_true rfl, Nat.le_of_ble_eq_true rfl⟩ (Nat.le_of_ble_eq_true rfl) (z_pm [0] 1 rfl (by decide) rfl) ?_
        refine z_iald C dX7_wouldSend_38 0 1 rfl rfl hw.1 ?_
        replace hw := hw.2
        refine z_callV0 C [(wMx cI gv (mS u4) (mAside u4) (mBefore u4) (mText u4) (mLetters u4) (mBys u4) (mFirst u4) (mCommand u4) (mKnown u4) (mLength u4) (mLogLong u4) (mAreSame u4) (mAt u4) (mIsWrong u4) (mPosition u4) (mReason u4) (mCause u4))] [] rfl rfl (met_X7_behind l D cI gv u4 p1 ((mS u4) (f_X7_of p1 98).toNatClampNeg) _ hw) y_X7_behind mw_16_11 dX7_wouldSend_39 rfl n_X7_behind rfl (by decide) ⟨rfl, rfl, Nat.le_of_ble_eq_true rfl, Nat.le_of_ble_eq_true rfl⟩ (Nat.le_of_ble_eq_true rfl) (z_pm [0] 1 rfl (by decide) rfl) ?_
        intro ⟨r6, u7⟩ hw
        try dsimp only at hw
        refine z_bs [(wMx cI gv (mS u7) (mAside u7) (mBefore u7) (mText u7) (mLetters u7) (mBys u7) (mFirst u7) (mCommand u7) (mKnown u7) (mLength u7) (mLogLong u7) (mAreSame u7) (mAt u7) (mIsWrong u7) (mPosition u7) (mReason u7) (mCause u7))] [.int r6] rfl rfl ?_
        refine z_iload_n C dX7_wouldSend_42 rfl ?_
        refine z_callFS C [] [(wMx cI gv (mS u7) (mAside u7) (mBefore u7) (mText u7) (mLetters u7) (mBys u7) (mFirst u7) (mCommand u7) (mKnown u7) (mLength u7) (mLogLong u7) (mAreSame u7) (mAt u7) (mIsWrong u7) (mPosition u7) (mReason u7) (mCause u7))] (met_X7_told l D cI r6 p2) y_X7_told mw_20_20 dX7_wouldSend_43 rfl n_X7_told rfl (by decide) ⟨rfl, rfl, Nat.le_of_ble_eq_true rfl, Nat.le_of_ble_eq_true rfl⟩ (Nat.le_of_ble_eq_true rfl) (z_pm [0] 1 rfl (by decide) rfl) ?_
        refine z_goto C dX7_wouldSend_46 51 (by decide) ?_
        exact z_iret C rfl ((f_X7_told r6 p2), u7) rfl hw rfl dX7_wouldSend_51
    · replace hw := hw.2 c2
      refine z_iconst C dX7_wouldSend_16 (-1) (by decide +kernel) ?_
      exact z_iret C rfl ((-1), v) rfl hw rfl dX7_wouldSend_17
def rmX7_undo : Room := { frames := 0, cells := 0, slots := 0, locals := 0 }
def lb_X7_undo_22 (v : zM) (w0Known : Int32)  (Q : Int32 → zM → Prop)  (K22 : (Int32) → (Nat → Int32) → Prop) (v1 : Int32) (w0S : Nat → Int32) : Prop := ((445 ≤ v1 → (Q w0Known (mSetKnown (mSetS v w0S) w0Known))) ∧ (¬ 445 ≤ v1 → (vp_in ((445 * w0Known) + v1) 1780 ∧ (vp_in v1 445 ∧ (K22 (v1 + 1) (upd w0S v1.toNatClampNeg ((mBefore v) ((445 * w0Known) + v1).toNatClampNeg)))))))
set_option maxHeartbeats 4000000 in
set_option maxRecDepth 100000 in
theorem wk_X7_undo_22 {p : Program} {l : Launch} {e : Env} {s : State} {m : MethodId} {args : Array Value} {below : List Frame} {meth : Method} {c : Code} {D : va_G} {cI : ClassId} {A : Nat → Prop} (C : ZC p s m args meth c RX7 cX7_undo 2 (some .int) D cI A) (gv : Nat → Nat) (v : zM) (w0Known : Int32)  (v1 : Int32) (w0S : Nat → Int32) (Q : Int32 → zM → Prop)  (hw : zLoop2 (lb_X7_undo_22 v w0Known  Q ) v1 w0S) : ZZ p l e rmX7_undo s m args below meth c D A 2 0 0 (MQ below (ZQ D A (fun u : Int32 × zM => some (.int u.1)) (fun u : Int32 × zM => [(wMx cI gv (mS (u.2)) (mAside (u.2)) (mBefore (u.2)) (mText (u.2)) (mLetters (u.2)) (mBys (u.2)) (mFirst (u.2)) (mCommand (u.2)) (mKnown (u.2)) (mLength (u.2)) (mLogLong (u.2)) (mAreSame (u.2)) (mAt (u.2)) (mIsWrong (u.2)) (mPosition (u.2)) (mReason (u.2)) (mCause (u.2)))]) (fun u : Int32 × zM => Q u.1 u.2)) args s rmX7_undo.cells rmX7_undo.slots A) [(wMx cI gv w0S (mAside v) (mBefore v) (mText v) (mLetters v) (mBys v) (mFirst v) (mCommand v) w0Known (mLength v) (mLogLong v) (mAreSame v) (mAt v) (mIsWrong v) (mPosition v) (mReason v) (mCause v))] 22 [some (.ref (gv 0)), some (.int v1)] [] := by
  refine zLoop2_w (fun (v1 : Int32) (w0S : Nat → Int32) => ZZ p l e rmX7_undo s m args below meth c D A 2 0 0 (MQ below (ZQ D A (fun u : Int32 × zM => some (.int u.1)) (fun u : Int32 × zM => [(wMx cI gv (mS (u.2)) (mAside (u.2)) (mBefore (u.2)) (mText (u.2)) (mLetters (u.2)) (mBys (u.2)) (mFirst (u.2)) (mCommand (u.2)) (mKnown (u.2)) (mLength (u.2)) (mLogLong (u.2)) (mAreSame (u.2)) (mAt (u.2)) (mIsWrong (u.2)) (mPosition (u.2)) (mReason (u.2)) (mCause (u.2)))]) (fun u : Int32 × zM => Q u.1 u.2)) args s rmX7_undo.cells rmX7_undo.slots A) [(wMx cI gv w0S (mAside v) (mBefore v) (mText v) (mLetters v) (mBys v) (mFirst v) (mCommand v) w0Known (mLength v) (mLogLong v) (mAreSame v) (mAt v) (mIsWrong v) (mPosition v) (mReason v) (mCause v))] 22 [some (.ref (gv 0)), some (.int v1)] []) ?_ _ _ hw
  clear hw
  intro K22 hK22 v1 w0S hw
  unfold lb_X7_undo_22 at hw
  refine z_iload_n C dX7_undo_22 rfl ?_
  refine z_sipush C dX7_undo_23 445 (by decide +kernel) ?_
  refine z_icmp_ge C dX7_undo_26 56 (by decide) (fun c2 => ?_) (fun c2 => ?_)
  · replace hw := hw.1 c2
    refine z_aload_n C dX7_undo_56 rfl ?_
    refine z_get C inlX7 rfl 3 (by decide) mw_12_12 dX7_undo_57 0 0 rfl rfl rfl ?_
    exact z_iret C rfl (w0Known, (mSetKnown (mSetS v w0S) w0Known)) rfl hw rfl dX7_undo_60
  · replace hw := hw.2 c2
    refine z_aload_n C dX7_undo_29 rfl ?_
    refine z_get C inlX7 rfl 0 (by decide) mw_4_15 dX7_undo_30 0 0 rfl rfl rfl ?_
    refine z_iload_n C dX7_undo_33 rfl ?_
    refine z_aload_n C dX7_undo_34 rfl ?_
    refine z_get C inlX7 rfl 2 (by decide) mw_4_17 dX7_undo_35 0 0 rfl rfl rfl ?_
    refine z_sipush C dX7_undo_38 445 (by decide +kernel) ?_
    refine z_aload_n C dX7_undo_41 rfl ?_
    refine z_get C inlX7 rfl 3 (by decide) mw_12_12 dX7_undo_42 0 0 rfl rfl rfl ?_
    refine z_imul C dX7_undo_45 ?_
    refine z_iload_n C dX7_undo_46 rfl ?_
    refine z_iadd C dX7_undo_47 ?_
    refine z_iald C dX7_undo_48 0 3 rfl rfl hw.1 ?_
    replace hw := hw.2
    refine z_iast C dX7_undo_49 0 1 rfl rfl hw.1 [(wMx cI gv (upd w0S v1.toNatClampNeg ((mBefore v) ((445 * w0Known) + v1).toNatClampNeg)) (mAside v) (mBefore v) (mText v) (mLetters v) (mBys v) (mFirst v) (mCommand v) w0Known (mLength v) (mLogLong v) (mAreSame v) (mAt v) (mIsWrong v) (mPosition v) (mReason v) (mCause v))] rfl ?_
    replace hw := hw.2
    refine z_iinc C dX7_undo_50 rfl (v1 + 1) (by rfl) [some (.ref (gv 0)), some (.int (v1 + 1))] (by decide) rfl ?_
    refine z_goto C dX7_undo_53 22 (by decide) ?_
    exact hK22 _ _ hw
def wp_X7_undo (v : zM)  (Q : Int32 → zM → Prop) : Prop := ((¬ (mKnown v) = 0 → (zLoop2 (lb_X7_undo_22 v ((mKnown v) - 1)  Q ) 0 (mS v))) ∧ ((mKnown v) = 0 → (Q (-2) v)))
set_option maxHeartbeats 4000000 in
set_option maxRecDepth 100000 in
theorem met_X7_undo (l : Launch) (D : va_G) (cI : ClassId) (gv : Nat → Nat) (v : zM)  (Q : Int32 → zM → Prop) (hw : wp_X7_undo v Q) : ZM l D cI yX7_undo cX7_undo 2 (some .int) rmX7_undo [.ref (gv 0)] [(wMx cI gv (mS v) (mAside v) (mBefore v) (mText v) (mLetters v) (mBys v) (mFirst v) (mCommand v) (mKnown v) (mLength v) (mLogLong v) (mAreSame v) (mAt v) (mIsWrong v) (mPosition v) (mReason v) (mCause v))] (fun u : Int32 × zM => some (.int u.1)) (fun u : Int32 × zM => [(wMx cI gv (mS (u.2)) (mAside (u.2)) (mBefore (u.2)) (mText (u.2)) (mLetters (u.2)) (mBys (u.2)) (mFirst (u.2)) (mCommand (u.2)) (mKnown (u.2)) (mLength (u.2)) (mLogLong (u.2)) (mAreSame (u.2)) (mAt (u.2)) (mIsWrong (u.2)) (mPosition (u.2)) (mReason (u.2)) (mCause (u.2)))]) (fun u : Int32 × zM => Q u.1 u.2) := by
  refine z_body [some (.ref (gv 0)), none] (by decide +kernel) rfl (Nat.le_of_ble_eq_true rfl) rfl ?_
  intro p e s m args below meth c A C hin
  unfold wp_X7_undo at hw
  refine z_aload_n C dX7_undo_0 rfl ?_
  refine z_get C inlX7 rfl 3 (by decide) mw_12_12 dX7_undo_1 0 0 rfl rfl rfl ?_
  refine z_if_ne C dX7_undo_4 10 (by decide) (fun c1 => ?_) (fun c1 => ?_)
  · replace hw := hw.1 c1
    refine z_aload_n C dX7_undo_10 rfl ?_
    refine z_dup C dX7_undo_11 rfl ?_
    refine z_get C inlX7 rfl 3 (by decide) mw_12_12 dX7_undo_12 0 0 rfl rfl rfl ?_
    refine z_iconst C dX7_undo_15 1 (by decide +kernel) ?_
    refine z_isub C dX7_undo_16 ?_
    refine z_put C inlX7 rfl tyX7 tyX7_ok nmX7 3 (by decide) mw_12_12 rfl rfl rfl rfl dX7_undo_17 0 0 rfl rfl (Nat.le_of_ble_eq_true rfl) [(wMx cI gv (mS v) (mAside v) (mBefore v) (mText v) (mLetters v) (mBys v) (mFirst v) (mCommand v) ((mKnown v) - 1) (mLength v) (mLogLong v) (mAreSame v) (mAt v) (mIsWrong v) (mPosition v) (mReason v) (mCause v))] rfl ?_
    refine z_iconst C dX7_undo_20 0 (by decide +kernel) ?_
    refine z_istore_n C dX7_undo_21 [some (.ref (gv 0)), some (.int 0)] (by decide) rfl ?_
    exact wk_X7_undo_22 C gv v ((mKnown v) - 1)  0 (mS v) _  hw
  · replace hw := hw.2 c1
    refine z_bipush C dX7_undo_7 (-2) (by decide +kernel) ?_
    exact z_iret C rfl ((-2), v) rfl hw rfl dX7_undo_9
def rmX7_type : Room := { frames := 1, cells := 0, slots := 0, locals := 22 }
def wp_X7_type (v : zM) (p1 : Int32) (Q : Int32 → zM → Prop) : Prop := ((¬ (f_X7_in p1 32 126) = 0 → ((¬ (mLength v) = 60 → (vp_in (mLength v) 60 ∧ (Q ((mLength v) + 1) (mSetLength (mSetText v (upd (mText v) (mLength v).toNatClampNeg p1)) ((mLength v) + 1))))) ∧ ((mLength v) = 60 → (Q (-3) v)))) ∧ ((f_X7_in p1 32 126) = 0 → (Q (-1) v)))
set_option maxHeartbeats 4000000 in
set_option maxRecDepth 100000 in
theorem met_X7_type (l : Launch) (D : va_G) (cI : ClassId) (gv : Nat → Nat) (v : zM) (p1 : Int32) (Q : Int32 → zM → Prop) (hw : wp_X7_type v p1 Q) : ZM l D cI yX7_type cX7_type 2 (some .int) rmX7_type [.ref (gv 0), .int p1] [(wMx cI gv (mS v) (mAside v) (mBefore v) (mText v) (mLetters v) (mBys v) (mFirst v) (mCommand v) (mKnown v) (mLength v) (mLogLong v) (mAreSame v) (mAt v) (mIsWrong v) (mPosition v) (mReason v) (mCause v))] (fun u : Int32 × zM => some (.int u.1)) (fun u : Int32 × zM => [(wMx cI gv (mS (u.2)) (mAside (u.2)) (mBefore (u.2)) (mText (u.2)) (mLetters (u.2)) (mBys (u.2)) (mFirst (u.2)) (mCommand (u.2)) (mKnown (u.2)) (mLength (u.2)) (mLogLong (u.2)) (mAreSame (u.2)) (mAt (u.2)) (mIsWrong (u.2)) (mPosition (u.2)) (mReason (u.2)) (mCause (u.2)))]) (fun u : Int32 × zM => Q u.1 u.2) := by
  refine z_body [some (.ref (gv 0)), some (.int p1)] (by decide +kernel) rfl (Nat.le_of_ble_eq_true rfl) rfl ?_
  intro p e s m args below meth c A C hin
  unfold wp_X7_type at hw
  refine z_iload_n C dX7_type_0 rfl ?_
  refine z_bipush C dX7_type_1 32 (by decide +kernel) ?_
  refine z_bipush C dX7_type_3 126 (by decide +kernel) ?_
  refine z_callFS C [] [(wMx cI gv (mS v) (mAside v) (mBefore v) (mText v) (mLetters v) (mBys v) (mFirst v) (mCommand v) (mKnown v) (mLength v) (mLogLong v) (mAreSame v) (mAt v) (mIsWrong v) (mPosition v) (mReason v) (mCause v))] (met_X7_in l D cI p1 32 126) y_X7_in mw_12_2 dX7_type_5 rfl n_X7_in rfl (by decide) ⟨rfl, rfl, Nat.le_of_ble_eq_true rfl, Nat.le_of_ble_eq_true rfl⟩ (Nat.le_of_ble_eq_true rfl) (z_pm [0] 1 rfl (by decide) rfl) ?_
  refine z_if_ne C dX7_type_8 13 (by decide) (fun c1 => ?_) (fun c1 => ?_)
  · replace hw := hw.1 c1
    refine z_aload_n C dX7_type_13 rfl ?_
    refine z_get C inlX7 rfl 5 (by decide) mw_22_16 dX7_type_14 0 0 rfl rfl rfl ?_
    refine z_bipush C dX7_type_17 60 (by decide +kernel) ?_
    refine z_icmp_ne C dX7_type_19 25 (by decide) (fun c2 => ?_) (fun c2 => ?_)
    · replace hw := hw.1 c2
      refine z_aload_n C dX7_type_25 rfl ?_
      refine z_get C inlX7 rfl 4 (by decide) mw_4_18 dX7_type_26 0 0 rfl rfl rfl ?_
      refine z_aload_n C dX7_type_29 rfl ?_
      refine z_get C inlX7 rfl 5 (by decide) mw_22_16 dX7_type_30 0 0 rfl rfl rfl ?_
      refine z_iload_n C dX7_type_33 rfl ?_
      refine z_iast C dX7_type_34 0 4 rfl rfl hw.1 [(wMx cI gv (mS v) (mAside v) (mBefore v) (upd (mText v) (mLength v).toNatClampNeg p1) (mLetters v) (mBys v) (mFirst v) (mCommand v) (mKnown v) (mLength v) (mLogLong v) (mAreSame v) (mAt v) (mIsWrong v) (mPosition v) (mReason v) (mCause v))] rfl ?_
      replace hw := hw.2
      refine z_aload_n C dX7_type_35 rfl ?_
      refine z_dup C dX7_type_36 rfl ?_
      refine z_get C inlX7 rfl 5 (by decide) mw_22_16 dX7_type_37 0 0 rfl rfl rfl ?_
      refine z_iconst C dX7_type_40 1 (by decide +kernel) ?_
      refine z_iadd C dX7_type_41 ?_
      refine z_put C inlX7 rfl tyX7 tyX7_ok nmX7 5 (by decide) mw_22_16 rfl rfl rfl rfl dX7_type_42 0 0 rfl rfl (Nat.le_of_ble_eq_true rfl) [(wMx cI gv (mS v) (mAside v) (mBefore v) (upd (mText v) (mLength v).toNatClampNeg p1) (mLetters v) (mBys v) (mFirst v) (mCommand v) (mKnown v) ((mLength v) + 1) (mLogLong v) (mAreSame v) (mAt v) (mIsWrong v) (mPosition v) (mReason v) (mCause v))] rfl ?_
      refine z_aload_n C dX7_type_45 rfl ?_
      refine z_get C inlX7 rfl 5 (by decide) mw_22_16 dX7_type_46 0 0 rfl rfl rfl ?_
      exact z_iret C rfl (((mLength v) + 1), (mSetLength (mSetText v (upd (mText v) (mLength v).toNatClampNeg p1)) ((mLength v) + 1))) rfl hw rfl dX7_type_49
    · replace hw := hw.2 c2
      refine z_bipush C dX7_type_22 (-3) (by decide +kernel) ?_
      exact z_iret C rfl ((-3), v) rfl hw rfl dX7_type_24
  · replace hw := hw.2 c1
    refine z_iconst C dX7_type_11 (-1) (by decide +kernel) ?_
    exact z_iret C rfl ((-1), v) rfl hw rfl dX7_type_12
def rmX7_clearText : Room := { frames := 0, cells := 0, slots := 0, locals := 0 }
def wp_X7_clearText (v : zM)  (Q : Int32 → zM → Prop) : Prop := (∀ x1 : Int32, x1 = (mLength v) → (Q x1 (mSetLength v 0)))
set_option maxHeartbeats 4000000 in
set_option maxRecDepth 100000 in
theorem met_X7_clearText (l : Launch) (D : va_G) (cI : ClassId) (gv : Nat → Nat) (v : zM)  (Q : Int32 → zM → Prop) (hw : wp_X7_clearText v Q) : ZM l D cI yX7_clearText cX7_clearText 2 (some .int) rmX7_clearText [.ref (gv 0)] [(wMx cI gv (mS v) (mAside v) (mBefore v) (mText v) (mLetters v) (mBys v) (mFirst v) (mCommand v) (mKnown v) (mLength v) (mLogLong v) (mAreSame v) (mAt v) (mIsWrong v) (mPosition v) (mReason v) (mCause v))] (fun u : Int32 × zM => some (.int u.1)) (fun u : Int32 × zM => [(wMx cI gv (mS (u.2)) (mAside (u.2)) (mBefore (u.2)) (mText (u.2)) (mLetters (u.2)) (mBys (u.2)) (mFirst (u.2)) (mCommand (u.2)) (mKnown (u.2)) (mLength (u.2)) (mLogLong (u.2)) (mAreSame (u.2)) (mAt (u.2)) (mIsWrong (u.2)) (mPosition (u.2)) (mReason (u.2)) (mCause (u.2)))]) (fun u : Int32 × zM => Q u.1 u.2) := by
  refine z_body [some (.ref (gv 0)), none] (by decide +kernel) rfl (Nat.le_of_ble_eq_true rfl) rfl ?_
  intro p e s m args below meth c A C hin
  unfold wp_X7_clearText at hw
  refine z_aload_n C dX7_clearText_0 rfl ?_
  refine z_get C inlX7 rfl 5 (by decide) mw_22_16 dX7_clearText_1 0 0 rfl rfl rfl ?_
  refine z_name C (fun x1 ex1 => ?_)
  replace hw := hw x1 ex1
  refine z_istore_n C dX7_clearText_4 [some (.ref (gv 0)), some (.int x1)] (by decide) rfl ?_
  refine z_aload_n C dX7_clearText_5 rfl ?_
  refine z_iconst C dX7_clearText_6 0 (by decide +kernel) ?_
  refine z_put C inlX7 rfl tyX7 tyX7_ok nmX7 5 (by decide) mw_22_16 rfl rfl rfl rfl dX7_clearText_7 0 0 rfl rfl (Nat.le_of_ble_eq_true rfl) [(wMx cI gv (mS v) (mAside v) (mBefore v) (mText v) (mLetters v) (mBys v) (mFirst v) (mCommand v) (mKnown v) 0 (mLogLong v) (mAreSame v) (mAt v) (mIsWrong v) (mPosition v) (mReason v) (mCause v))] rfl ?_
  refine z_iload_n C dX7_clearText_10 rfl ?_
  exact z_iret C rfl (x1, (mSetLength v 0)) rfl hw rfl dX7_clearText_11
def rmX7_sign : Room := { frames := 1, cells := 0, slots := 0, locals := 22 }
def jn_X7_sign_47 (v : zM) (p1 : Int32) (p2 : Int32) (v3 : Int32) (s47_0 : Int32) (Q : Int32 → zM → Prop)  : Prop := (zB s47_0 ∧ ((s47_0 = 0 → (Q v3 (mSetIsWrong (mSetAt v ((mAt v) + 1)) s47_0))) ∧ (¬ s47_0 = 0 → (Q v3 (mSetIsWrong (mSetAt v ((mAt v) + 0)) s47_0)))))
set_option maxHeartbeats 4000000 in
set_option maxRecDepth 100000 in
theorem wk_X7_sign_47 {p : Program} {l : Launch} {e : Env} {s : State} {m : MethodId} {args : Array Value} {below : List Frame} {meth : Method} {c : Code} {D : va_G} {cI : ClassId} {A : Nat → Prop} (C : ZC p s m args meth c RX7 cX7_sign 4 (some .int) D cI A) (gv : Nat → Nat) (v : zM) (p1 : Int32) (p2 : Int32) (v3 : Int32) (s47_0 : Int32) (Q : Int32 → zM → Prop)  (hw : jn_X7_sign_47 v p1 p2 v3 s47_0 Q ) : ZZ p l e rmX7_sign s m args below meth c D A 4 0 0 (MQ below (ZQ D A (fun u : Int32 × zM => some (.int u.1)) (fun u : Int32 × zM => [(wMx cI gv (mS (u.2)) (mAside (u.2)) (mBefore (u.2)) (mText (u.2)) (mLetters (u.2)) (mBys (u.2)) (mFirst (u.2)) (mCommand (u.2)) (mKnown (u.2)) (mLength (u.2)) (mLogLong (u.2)) (mAreSame (u.2)) (mAt (u.2)) (mIsWrong (u.2)) (mPosition (u.2)) (mReason (u.2)) (mCause (u.2)))]) (fun u : Int32 × zM => Q u.1 u.2)) args s rmX7_sign.cells rmX7_sign.slots A) [(wMx cI gv (mS v) (mAside v) (mBefore v) (mText v) (mLetters v) (mBys v) (mFirst v) (mCommand v) (mKnown v) (mLength v) (mLogLong v) (mAreSame v) (mAt v) (mIsWrong v) (mPosition v) (mReason v) (mCause v))] 47 [some (.ref (gv 0)), none, none, some (.int v3)] [.int s47_0, .ref (gv 0)] := by
  unfold jn_X7_sign_47 at hw
  have hb47 := hw.1
  replace hw := hw.2
  refine z_put C inlX7 rfl tyX7 tyX7_ok nmX7 12 (by decide) mw_28_9 rfl rfl hb47.1 hb47.2 dX7_sign_47 0 0 rfl rfl (Nat.le_of_ble_eq_true rfl) [(wMx cI gv (mS v) (mAside v) (mBefore v) (mText v) (mLetters v) (mBys v) (mFirst v) (mCommand v) (mKnown v) (mLength v) (mLogLong v) (mAreSame v) (mAt v) s47_0 (mPosition v) (mReason v) (mCause v))] rfl ?_
  refine z_aload_n C dX7_sign_50 rfl ?_
  refine z_dup C dX7_sign_51 rfl ?_
  refine z_get C inlX7 rfl 11 (by decide) mw_28_8 dX7_sign_52 0 0 rfl rfl rfl ?_
  refine z_aload_n C dX7_sign_55 rfl ?_
  refine z_get C inlX7 rfl 12 (by decide) mw_28_9 dX7_sign_56 0 0 rfl rfl rfl ?_
  refine z_if_eq C dX7_sign_59 66 (by decide) (fun c3 => ?_) (fun c3 => ?_)
  · replace hw := hw.1 c3
    refine z_iconst C dX7_sign_66 1 (by decide +kernel) ?_
    refine z_iadd C dX7_sign_67 ?_
    refine z_put C inlX7 rfl tyX7 tyX7_ok nmX7 11 (by decide) mw_28_8 rfl rfl rfl rfl dX7_sign_68 0 0 rfl rfl (Nat.le_of_ble_eq_true rfl) [(wMx cI gv (mS v) (mAside v) (mBefore v) (mText v) (mLetters v) (mBys v) (mFirst v) (mCommand v) (mKnown v) (mLength v) (mLogLong v) (mAreSame v) ((mAt v) + 1) s47_0 (mPosition v) (mReason v) (mCause v))] rfl ?_
    refine z_iload_n C dX7_sign_71 rfl ?_
    exact z_iret C rfl (v3, (mSetIsWrong (mSetAt v ((mAt v) + 1)) s47_0)) rfl hw rfl dX7_sign_72
  · replace hw := hw.2 c3
    refine z_iconst C dX7_sign_62 0 (by decide +kernel) ?_
    refine z_goto C dX7_sign_63 67 (by decide) ?_
    refine z_iadd C dX7_sign_67 ?_
    refine z_put C inlX7 rfl tyX7 tyX7_ok nmX7 11 (by decide) mw_28_8 rfl rfl rfl rfl dX7_sign_68 0 0 rfl rfl (Nat.le_of_ble_eq_true rfl) [(wMx cI gv (mS v) (mAside v) (mBefore v) (mText v) (mLetters v) (mBys v) (mFirst v) (mCommand v) (mKnown v) (mLength v) (mLogLong v) (mAreSame v) ((mAt v) + 0) s47_0 (mPosition v) (mReason v) (mCause v))] rfl ?_
    refine z_iload_n C dX7_sign_71 rfl ?_
    exact z_iret C rfl (v3, (mSetIsWrong (mSetAt v ((mAt v) + 0)) s47_0)) rfl hw rfl dX7_sign_72
def jn_X7_sign_42 (v : zM) (p1 : Int32) (p2 : Int32) (v3 : Int32)  (Q : Int32 → zM → Prop)  : Prop := (jn_X7_sign_47 v p1 p2 v3 1 Q )
set_option maxHeartbeats 4000000 in
set_option maxRecDepth 100000 in
theorem wk_X7_sign_42 {p : Program} {l : Launch} {e : Env} {s : State} {m : MethodId} {args : Array Value} {below : List Frame} {meth : Method} {c : Code} {D : va_G} {cI : ClassId} {A : Nat → Prop} (C : ZC p s m args meth c RX7 cX7_sign 4 (some .int) D cI A) (gv : Nat → Nat) (v : zM) (p1 : Int32) (p2 : Int32) (v3 : Int32)  (Q : Int32 → zM → Prop)  (hw : jn_X7_sign_42 v p1 p2 v3  Q ) : ZZ p l e rmX7_sign s m args below meth c D A 4 0 0 (MQ below (ZQ D A (fun u : Int32 × zM => some (.int u.1)) (fun u : Int32 × zM => [(wMx cI gv (mS (u.2)) (mAside (u.2)) (mBefore (u.2)) (mText (u.2)) (mLetters (u.2)) (mBys (u.2)) (mFirst (u.2)) (mCommand (u.2)) (mKnown (u.2)) (mLength (u.2)) (mLogLong (u.2)) (mAreSame (u.2)) (mAt (u.2)) (mIsWrong (u.2)) (mPosition (u.2)) (mReason (u.2)) (mCause (u.2)))]) (fun u : Int32 × zM => Q u.1 u.2)) args s rmX7_sign.cells rmX7_sign.slots A) [(wMx cI gv (mS v) (mAside v) (mBefore v) (mText v) (mLetters v) (mBys v) (mFirst v) (mCommand v) (mKnown v) (mLength v) (mLogLong v) (mAreSame v) (mAt v) (mIsWrong v) (mPosition v) (mReason v) (mCause v))] 42 [some (.ref (gv 0)), none, none, some (.int v3)] [.ref (gv 0)] := by
  unfold jn_X7_sign_42 at hw
  refine z_iconst C dX7_sign_42 1 (by decide +kernel) ?_
  refine z_goto C dX7_sign_43 47 (by decide) ?_
  exact wk_X7_sign_47 C gv v p1 p2 v3 1 _  hw
def jn_X7_sign_24 (v : zM) (p1 : Int32) (p2 : Int32)  (s24_0 : Int32) (Q : Int32 → zM → Prop)  : Prop := ((¬ (mIsWrong v) = 0 → (jn_X7_sign_42 v p1 p2 s24_0  Q )) ∧ ((mIsWrong v) = 0 → ((¬ (f_X7_in s24_0 p1 p2) = 0 → (jn_X7_sign_47 v p1 p2 s24_0 0 Q )) ∧ ((f_X7_in s24_0 p1 p2) = 0 → (jn_X7_sign_42 v p1 p2 s24_0  Q )))))
set_option maxHeartbeats 4000000 in
set_option maxRecDepth 100000 in
theorem wk_X7_sign_24 {p : Program} {l : Launch} {e : Env} {s : State} {m : MethodId} {args : Array Value} {below : List Frame} {meth : Method} {c : Code} {D : va_G} {cI : ClassId} {A : Nat → Prop} (C : ZC p s m args meth c RX7 cX7_sign 4 (some .int) D cI A) (gv : Nat → Nat) (v : zM) (p1 : Int32) (p2 : Int32)  (s24_0 : Int32) (Q : Int32 → zM → Prop)  (hw : jn_X7_sign_24 v p1 p2  s24_0 Q ) : ZZ p l e rmX7_sign s m args below meth c D A 4 0 0 (MQ below (ZQ D A (fun u : Int32 × zM => some (.int u.1)) (fun u : Int32 × zM => [(wMx cI gv (mS (u.2)) (mAside (u.2)) (mBefore (u.2)) (mText (u.2)) (mLetters (u.2)) (mBys (u.2)) (mFirst (u.2)) (mCommand (u.2)) (mKnown (u.2)) (mLength (u.2)) (mLogLong (u.2)) (mAreSame (u.2)) (mAt (u.2)) (mIsWrong (u.2)) (mPosition (u.2)) (mReason (u.2)) (mCause (u.2)))]) (fun u : Int32 × zM => Q u.1 u.2)) args s rmX7_sign.cells rmX7_sign.slots A) [(wMx cI gv (mS v) (mAside v) (mBefore v) (mText v) (mLetters v) (mBys v) (mFirst v) (mCommand v) (mKnown v) (mLength v) (mLogLong v) (mAreSame v) (mAt v) (mIsWrong v) (mPosition v) (mReason v) (mCause v))] 24 [some (.ref (gv 0)), some (.int p1), some (.int p2), none] [.int s24_0] := by
  unfold jn_X7_sign_24 at hw
  refine z_istore_n C dX7_sign_24 [some (.ref (gv 0)), some (.int p1), some (.int p2), some (.int s24_0)] (by decide) rfl ?_
  refine z_aload_n C dX7_sign_25 rfl ?_
  refine z_aload_n C dX7_sign_26 rfl ?_
  refine z_get C inlX7 rfl 12 (by decide) mw_28_9 dX7_sign_27 0 0 rfl rfl rfl ?_
  refine z_if_ne C dX7_sign_30 42 (by decide) (fun c2 => ?_) (fun c2 => ?_)
  · replace hw := hw.1 c2
    refine z_ls C [true, false, false, true] [some (.ref (gv 0)), none, none, some (.int s24_0)] rfl ?_
    exact wk_X7_sign_42 C gv v p1 p2 s24_0  _  hw
  · replace hw := hw.2 c2
    refine z_iload_n C dX7_sign_33 rfl ?_
    refine z_iload_n C dX7_sign_34 rfl ?_
    refine z_iload_n C dX7_sign_35 rfl ?_
    refine z_callFS C [] [(wMx cI gv (mS v) (mAside v) (mBefore v) (mText v) (mLetters v) (mBys v) (mFirst v) (mCommand v) (mKnown v) (mLength v) (mLogLong v) (mAreSame v) (mAt v) (mIsWrong v) (mPosition v) (mReason v) (mCause v))] (met_X7_in l D cI s24_0 p1 p2) y_X7_in mw_12_2 dX7_sign_36 rfl n_X7_in rfl (by decide) ⟨rfl, rfl, Nat.le_of_ble_eq_true rfl, Nat.le_of_ble_eq_true rfl⟩ (Nat.le_of_ble_eq_true rfl) (z_pm [0] 1 rfl (by decide) rfl) ?_
    refine z_if_ne C dX7_sign_39 46 (by decide) (fun c4 => ?_) (fun c4 => ?_)
    · replace hw := hw.1 c4
      refine z_iconst C dX7_sign_46 0 (by decide +kernel) ?_
      refine z_ls C [true, false, false, true] [some (.ref (gv 0)), none, none, some (.int s24_0)] rfl ?_
      exact wk_X7_sign_47 C gv v p1 p2 s24_0 0 _  hw
    · replace hw := hw.2 c4
      refine z_ls C [true, false, false, true] [some (.ref (gv 0)), none, none, some (.int s24_0)] rfl ?_
      exact wk_X7_sign_42 C gv v p1 p2 s24_0  _  hw
def wp_X7_sign (v : zM) (p1 : Int32) (p2 : Int32) (Q : Int32 → zM → Prop) : Prop := (((mLength v) ≤ (mAt v) → (jn_X7_sign_24 v p1 p2  0 Q )) ∧ (¬ (mLength v) ≤ (mAt v) → (vp_in (mAt v) 60 ∧ (jn_X7_sign_24 v p1 p2  ((mText v) (mAt v).toNatClampNeg) Q ))))
set_option maxHeartbeats 4000000 in
set_option maxRecDepth 100000 in
theorem met_X7_sign (l : Launch) (D : va_G) (cI : ClassId) (gv : Nat → Nat) (v : zM) (p1 : Int32) (p2 : Int32) (Q : Int32 → zM → Prop) (hw : wp_X7_sign v p1 p2 Q) : ZM l D cI yX7_sign cX7_sign 4 (some .int) rmX7_sign [.ref (gv 0), .int p1, .int p2] [(wMx cI gv (mS v) (mAside v) (mBefore v) (mText v) (mLetters v) (mBys v) (mFirst v) (mCommand v) (mKnown v) (mLength v) (mLogLong v) (mAreSame v) (mAt v) (mIsWrong v) (mPosition v) (mReason v) (mCause v))] (fun u : Int32 × zM => some (.int u.1)) (fun u : Int32 × zM => [(wMx cI gv (mS (u.2)) (mAside (u.2)) (mBefore (u.2)) (mText (u.2)) (mLetters (u.2)) (mBys (u.2)) (mFirst (u.2)) (mCommand (u.2)) (mKnown (u.2)) (mLength (u.2)) (mLogLong (u.2)) (mAreSame (u.2)) (mAt (u.2)) (mIsWrong (u.2)) (mPosition (u.2)) (mReason (u.2)) (mCause (u.2)))]) (fun u : Int32 × zM => Q u.1 u.2) := by
  refine z_body [some (.ref (gv 0)), some (.int p1), some (.int p2), none] (by decide +kernel) rfl (Nat.le_of_ble_eq_true rfl) rfl ?_
  intro p e s m args below meth c A C hin
  unfold wp_X7_sign at hw
  refine z_aload_n C dX7_sign_0 rfl ?_
  refine z_get C inlX7 rfl 11 (by decide) mw_28_8 dX7_sign_1 0 0 rfl rfl rfl ?_
  refine z_aload_n C dX7_sign_4 rfl ?_
  refine z_get C inlX7 rfl 5 (by decide) mw_22_16 dX7_sign_5 0 0 rfl rfl rfl ?_
  refine z_icmp_ge C dX7_sign_8 23 (by decide) (fun c1 => ?_) (fun c1 => ?_)
  · replace hw := hw.1 c1
    refine z_iconst C dX7_sign_23 0 (by decide +kernel) ?_
    exact wk_X7_sign_24 C gv v p1 p2  0 _  hw
  · replace hw := hw.2 c1
    refine z_aload_n C dX7_sign_11 rfl ?_
    refine z_get C inlX7 rfl 4 (by decide) mw_4_18 dX7_sign_12 0 0 rfl rfl rfl ?_
    refine z_aload_n C dX7_sign_15 rfl ?_
    refine z_get C inlX7 rfl 11 (by decide) mw_28_8 dX7_sign_16 0 0 rfl rfl rfl ?_
    refine z_iald C dX7_sign_19 0 4 rfl rfl hw.1 ?_
    replace hw := hw.2
    refine z_goto C dX7_sign_20 24 (by decide) ?_
    exact wk_X7_sign_24 C gv v p1 p2  ((mText v) (mAt v).toNatClampNeg) _  hw
def rmX7_number : Room := { frames := 2, cells := 0, slots := 0, locals := 45 }
def jn_X7_number_54 (v : zM) (v1 : Int32) (w0 : zM) (s54_0 : Int32) (Q : Int32 → zM → Prop)  : Prop := ((s54_0 = 0 → (Q v1 w0)) ∧ (¬ s54_0 = 0 → (wp_X7_sign w0 48 57 (fun r6 u7 => (Q (((10 * v1) + r6) - 48) u7)))))
set_option maxHeartbeats 4000000 in
set_option maxRecDepth 100000 in
theorem wk_X7_number_54 {p : Program} {l : Launch} {e : Env} {s : State} {m : MethodId} {args : Array Value} {below : List Frame} {meth : Method} {c : Code} {D : va_G} {cI : ClassId} {A : Nat → Prop} (C : ZC p s m args meth c RX7 cX7_number 3 (some .int) D cI A) (gv : Nat → Nat) (v : zM) (v1 : Int32) (w0 : zM) (s54_0 : Int32) (Q : Int32 → zM → Prop)  (hw : jn_X7_number_54 v v1 w0 s54_0 Q ) : ZZ p l e rmX7_number s m args below meth c D A 3 0 0 (MQ below (ZQ D A (fun u : Int32 × zM => some (.int u.1)) (fun u : Int32 × zM => [(wMx cI gv (mS (u.2)) (mAside (u.2)) (mBefore (u.2)) (mText (u.2)) (mLetters (u.2)) (mBys (u.2)) (mFirst (u.2)) (mCommand (u.2)) (mKnown (u.2)) (mLength (u.2)) (mLogLong (u.2)) (mAreSame (u.2)) (mAt (u.2)) (mIsWrong (u.2)) (mPosition (u.2)) (mReason (u.2)) (mCause (u.2)))]) (fun u : Int32 × zM => Q u.1 u.2)) args s rmX7_number.cells rmX7_number.slots A) [(wMx cI gv (mS w0) (mAside w0) (mBefore w0) (mText w0) (mLetters w0) (mBys w0) (mFirst w0) (mCommand w0) (mKnown w0) (mLength w0) (mLogLong w0) (mAreSame w0) (mAt w0) (mIsWrong w0) (mPosition w0) (mReason w0) (mCause w0))] 54 [some (.ref (gv 0)), some (.int v1), none] [.int s54_0] := by
  unfold jn_X7_number_54 at hw
  refine z_istore_n C dX7_number_54 [some (.ref (gv 0)), some (.int v1), some (.int s54_0)] (by decide) rfl ?_
  refine z_iload_n C dX7_number_55 rfl ?_
  refine z_if_eq C dX7_number_56 78 (by decide) (fun c5 => ?_) (fun c5 => ?_)
  · replace hw := hw.1 c5
    refine z_iload_n C dX7_number_78 rfl ?_
    exact z_iret C rfl (v1, w0) rfl hw rfl dX7_number_79
  · replace hw := hw.2 c5
    refine z_bipush C dX7_number_59 10 (by decide +kernel) ?_
    refine z_iload_n C dX7_number_61 rfl ?_
    refine z_imul C dX7_number_62 ?_
    refine z_aload_n C dX7_number_63 rfl ?_
    refine z_bipush C dX7_number_64 48 (by decide +kernel) ?_
    refine z_bipush C dX7_number_66 57 (by decide +kernel) ?_
    refine z_callV0 C [(wMx cI gv (mS w0) (mAside w0) (mBefore w0) (mText w0) (mLetters w0) (mBys w0) (mFirst w0) (mCommand w0) (mKnown w0) (mLength w0) (mLogLong w0) (mAreSame w0) (mAt w0) (mIsWrong w0) (mPosition w0) (mReason w0) (mCause w0))] [] rfl rfl (met_X7_sign l D cI gv w0 48 57 _ hw) y_X7_sign mw_28_14 dX7_number_68 rfl n_X7_sign rfl (by decide) ⟨rfl, rfl, Nat.le_of_ble_eq_true rfl, Nat.le_of_ble_eq_true rfl⟩ (Nat.le_of_ble_eq_true rfl) (z_pm [0] 1 rfl (by decide) rfl) ?_
    intro ⟨r6, u7⟩ hw
    try dsimp only at hw
    refine z_bs [(wMx cI gv (mS u7) (mAside u7) (mBefore u7) (mText u7) (mLetters u7) (mBys u7) (mFirst u7) (mCommand u7) (mKnown u7) (mLength u7) (mLogLong u7) (mAreSame u7) (mAt u7) (mIsWrong u7) (mPosition u7) (mReason u7) (mCause u7))] [.int r6, .int (10 * v1)] rfl rfl ?_
    refine z_iadd C dX7_number_71 ?_
    refine z_bipush C dX7_number_72 48 (by decide +kernel) ?_
    refine z_isub C dX7_number_74 ?_
    refine z_goto C dX7_number_75 79 (by decide) ?_
    exact z_iret C rfl ((((10 * v1) + r6) - 48), u7) rfl hw rfl dX7_number_79
def jn_X7_number_53 (v : zM) (v1 : Int32) (w0 : zM)  (Q : Int32 → zM → Prop)  : Prop := (jn_X7_number_54 v v1 w0 0 Q )
set_option maxHeartbeats 4000000 in
set_option maxRecDepth 100000 in
theorem wk_X7_number_53 {p : Program} {l : Launch} {e : Env} {s : State} {m : MethodId} {args : Array Value} {below : List Frame} {meth : Method} {c : Code} {D : va_G} {cI : ClassId} {A : Nat → Prop} (C : ZC p s m args meth c RX7 cX7_number 3 (some .int) D cI A) (gv : Nat → Nat) (v : zM) (v1 : Int32) (w0 : zM)  (Q : Int32 → zM → Prop)  (hw : jn_X7_number_53 v v1 w0  Q ) : ZZ p l e rmX7_number s m args below meth c D A 3 0 0 (MQ below (ZQ D A (fun u : Int32 × zM => some (.int u.1)) (fun u : Int32 × zM => [(wMx cI gv (mS (u.2)) (mAside (u.2)) (mBefore (u.2)) (mText (u.2)) (mLetters (u.2)) (mBys (u.2)) (mFirst (u.2)) (mCommand (u.2)) (mKnown (u.2)) (mLength (u.2)) (mLogLong (u.2)) (mAreSame (u.2)) (mAt (u.2)) (mIsWrong (u.2)) (mPosition (u.2)) (mReason (u.2)) (mCause (u.2)))]) (fun u : Int32 × zM => Q u.1 u.2)) args s rmX7_number.cells rmX7_number.slots A) [(wMx cI gv (mS w0) (mAside w0) (mBefore w0) (mText w0) (mLetters w0) (mBys w0) (mFirst w0) (mCommand w0) (mKnown w0) (mLength w0) (mLogLong w0) (mAreSame w0) (mAt w0) (mIsWrong w0) (mPosition w0) (mReason w0) (mCause w0))] 53 [some (.ref (gv 0)), some (.int v1), none] [] := by
  unfold jn_X7_number_53 at hw
  refine z_iconst C dX7_number_53 0 (by decide +kernel) ?_
  exact wk_X7_number_54 C gv v v1 w0 0 _  hw
def wp_X7_number (v : zM)  (Q : Int32 → zM → Prop) : Prop := (wp_X7_sign v 48 57 (fun r1 u2 => (∀ x3 : Int32, x3 = (r1 - 48) → ((¬ (mIsWrong u2) = 0 → (jn_X7_number_53 v x3 u2  Q )) ∧ ((mIsWrong u2) = 0 → (((mLength u2) ≤ (mAt u2) → (jn_X7_number_53 v x3 u2  Q )) ∧ (¬ (mLength u2) ≤ (mAt u2) → (vp_in (mAt u2) 60 ∧ (((f_X7_in ((mText u2) (mAt u2).toNatClampNeg) 48 57) = 0 → (jn_X7_number_53 v x3 u2  Q )) ∧ (¬ (f_X7_in ((mText u2) (mAt u2).toNatClampNeg) 48 57) = 0 → (jn_X7_number_54 v x3 u2 1 Q )))))))))))
set_option maxHeartbeats 4000000 in
set_option maxRecDepth 100000 in
theorem met_X7_number (l : Launch) (D : va_G) (cI : ClassId) (gv : Nat → Nat) (v : zM)  (Q : Int32 → zM → Prop) (hw : wp_X7_number v Q) : ZM l D cI yX7_number cX7_number 3 (some .int) rmX7_number [.ref (gv 0)] [(wMx cI gv (mS v) (mAside v) (mBefore v) (mText v) (mLetters v) (mBys v) (mFirst v) (mCommand v) (mKnown v) (mLength v) (mLogLong v) (mAreSame v) (mAt v) (mIsWrong v) (mPosition v) (mReason v) (mCause v))] (fun u : Int32 × zM => some (.int u.1)) (fun u : Int32 × zM => [(wMx cI gv (mS (u.2)) (mAside (u.2)) (mBefore (u.2)) (mText (u.2)) (mLetters (u.2)) (mBys (u.2)) (mFirst (u.2)) (mCommand (u.2)) (mKnown (u.2)) (mLength (u.2)) (mLogLong (u.2)) (mAreSame (u.2)) (mAt (u.2)) (mIsWrong (u.2)) (mPosition (u.2)) (mReason (u.2)) (mCause (u.2)))]) (fun u : Int32 × zM => Q u.1 u.2) := by
  refine z_body [some (.ref (gv 0)), none, none] (by decide +kernel) rfl (Nat.le_of_ble_eq_true rfl) rfl ?_
  intro p e s m args below meth c A C hin
  unfold wp_X7_number at hw
  refine z_aload_n C dX7_number_0 rfl ?_
  refine z_bipush C dX7_number_1 48 (by decide +kernel) ?_
  refine z_bipush C dX7_number_3 57 (by decide +kernel) ?_
  refine z_callV0 C [(wMx cI gv (mS v) (mAside v) (mBefore v) (mText v) (mLetters v) (mBys v) (mFirst v) (mCommand v) (mKnown v) (mLength v) (mLogLong v) (mAreSame v) (mAt v) (mIsWrong v) (mPosition v) (mReason v) (mCause v))] [] rfl rfl (met_X7_sign l D cI gv v 48 57 _ hw) y_X7_sign mw_28_14 dX7_number_5 rfl n_X7_sign rfl (by decide) ⟨rfl, rfl, Nat.le_of_ble_eq_true rfl, Nat.le_of_ble_eq_true rfl⟩ (Nat.le_of_ble_eq_true rfl) (z_pm [0] 1 rfl (by decide) rfl) ?_
  intro ⟨r1, u2⟩ hw
  try dsimp only at hw
  refine z_bs [(wMx cI gv (mS u2) (mAside u2) (mBefore u2) (mText u2) (mLetters u2) (mBys u2) (mFirst u2) (mCommand u2) (mKnown u2) (mLength u2) (mLogLong u2) (mAreSame u2) (mAt u2) (mIsWrong u2) (mPosition u2) (mReason u2) (mCause u2))] [.int r1] rfl rfl ?_
  refine z_bipush C dX7_number_8 48 (by decide +kernel) ?_
  refine z_isub C dX7_number_10 ?_
  refine z_name C (fun x3 ex3 => ?_)
  replace hw := hw x3 ex3
  refine z_istore_n C dX7_number_11 [some (.ref (gv 0)), some (.int x3), none] (by decide) rfl ?_
  refine z_aload_n C dX7_number_12 rfl ?_
  refine z_get C inlX7 rfl 12 (by decide) mw_28_9 dX7_number_13 0 0 rfl rfl rfl ?_
  refine z_if_ne C dX7_number_16 53 (by decide) (fun c4 => ?_) (fun c4 => ?_)
  · replace hw := hw.1 c4
    exact wk_X7_number_53 C gv v x3 u2  _  hw
  · replace hw := hw.2 c4
    refine z_aload_n C dX7_number_19 rfl ?_
    refine z_get C inlX7 rfl 11 (by decide) mw_28_8 dX7_number_20 0 0 rfl rfl rfl ?_
    refine z_aload_n C dX7_number_23 rfl ?_
    refine z_get C inlX7 rfl 5 (by decide) mw_22_16 dX7_number_24 0 0 rfl rfl rfl ?_
    refine z_icmp_ge C dX7_number_27 53 (by decide) (fun c8 => ?_) (fun c8 => ?_)
    · replace hw := hw.1 c8
      exact wk_X7_number_53 C gv v x3 u2  _  hw
    · replace hw := hw.2 c8
      refine z_aload_n C dX7_number_30 rfl ?_
      refine z_get C inlX7 rfl 4 (by decide) mw_4_18 dX7_number_31 0 0 rfl rfl rfl ?_
      refine z_aload_n C dX7_number_34 rfl ?_
      refine z_get C inlX7 rfl 11 (by decide) mw_28_8 dX7_number_35 0 0 rfl rfl rfl ?_
      refine z_iald C dX7_number_38 0 4 rfl rfl hw.1 ?_
      replace hw := hw.2
      refine z_bipush C dX7_number_39 48 (by decide +kernel) ?_
      refine z_bipush C dX7_number_41 57 (by decide +kernel) ?_
      refine z_callFS C [] [(wMx cI gv (mS u2) (mAside u2) (mBefore u2) (mText u2) (mLetters u2) (mBys u2) (mFirst u2) (mCommand u2) (mKnown u2) (mLength u2) (mLogLong u2) (mAreSame u2) (mAt u2) (mIsWrong u2) (mPosition u2) (mReason u2) (mCause u2))] (met_X7_in l D cI ((mText u2) (mAt u2).toNatClampNeg) 48 57) y_X7_in mw_12_2 dX7_number_43 rfl n_X7_in rfl (by decide) ⟨rfl, rfl, Nat.le_of_ble_eq_true rfl, Nat.le_of_ble_eq_true rfl⟩ (Nat.le_of_ble_eq_true rfl) (z_pm [0] 1 rfl (by decide) rfl) ?_
      refine z_if_eq C dX7_number_46 53 (by decide) (fun c9 => ?_) (fun c9 => ?_)
      · replace hw := hw.1 c9
        exact wk_X7_number_53 C gv v x3 u2  _  hw
      · replace hw := hw.2 c9
        refine z_iconst C dX7_number_49 1 (by decide +kernel) ?_
        refine z_goto C dX7_number_50 54 (by decide) ?_
        exact wk_X7_number_54 C gv v x3 u2 1 _  hw
def rmX7_read : Room := { frames := 3, cells := 0, slots := 0, locals := 67 }
def jn_X7_read_145 (v : zM) (v2 : Int32) (v3 : Int32) (w0 : zM) (s145_0 : Int32) (Q : zM → Prop) (K116 : (Int32) → (zM) → Prop) : Prop := (((mIsWrong w0) = 0 → (wp_X7_number w0 (fun r14 u15 => (vp_in v3 4 ∧ (K116 (v3 + 1) (mSetCommand u15 (upd (mCommand u15) v3.toNatClampNeg r14))))))) ∧ (¬ (mIsWrong w0) = 0 → (vp_in v3 4 ∧ (K116 (v3 + 1) (mSetCommand w0 (upd (mCommand w0) v3.toNatClampNeg 0))))))
set_option maxHeartbeats 4000000 in
set_option maxRecDepth 100000 in
theorem wk_X7_read_145 {p : Program} {l : Launch} {e : Env} {s : State} {m : MethodId} {args : Array Value} {below : List Frame} {meth : Method} {c : Code} {D : va_G} {cI : ClassId} {A : Nat → Prop} (C : ZC p s m args meth c RX7 cX7_read 5 none D cI A) (gv : Nat → Nat) (v : zM) (v2 : Int32) (v3 : Int32) (w0 : zM) (s145_0 : Int32) (Q : zM → Prop) (K116 : (Int32) → (zM) → Prop) (hK116 : ∀ (v3 : Int32) (w0 : zM), K116 v3 w0 → ZZ p l e rmX7_read s m args below meth c D A 5 0 0 (MQ below (ZQ D A (fun _ : zM => none) (fun u : zM => [(wMx cI gv (mS u) (mAside u) (mBefore u) (mText u) (mLetters u) (mBys u) (mFirst u) (mCommand u) (mKnown u) (mLength u) (mLogLong u) (mAreSame u) (mAt u) (mIsWrong u) (mPosition u) (mReason u) (mCause u))]) (fun u : zM => Q u)) args s rmX7_read.cells rmX7_read.slots A) [(wMx cI gv (mS w0) (mAside w0) (mBefore w0) (mText w0) (mLetters w0) (mBys w0) (mFirst w0) (mCommand w0) (mKnown w0) (mLength w0) (mLogLong w0) (mAreSame w0) (mAt w0) (mIsWrong w0) (mPosition w0) (mReason w0) (mCause w0))] 116 [some (.ref (gv 0)), none, some (.int v2), some (.int v3), none] []) (hw : jn_X7_read_145 v v2 v3 w0 s145_0 Q K116) : ZZ p l e rmX7_read s m args below meth c D A 5 0 0 (MQ below (ZQ D A (fun _ : zM => none) (fun u : zM => [(wMx cI gv (mS u) (mAside u) (mBefore u) (mText u) (mLetters u) (mBys u) (mFirst u) (mCommand u) (mKnown u) (mLength u) (mLogLong u) (mAreSame u) (mAt u) (mIsWrong u) (mPosition u) (mReason u) (mCause u))]) (fun u : zM => Q u)) args s rmX7_read.cells rmX7_read.slots A) [(wMx cI gv (mS w0) (mAside w0) (mBefore w0) (mText w0) (mLetters w0) (mBys w0) (mFirst w0) (mCommand w0) (mKnown w0) (mLength w0) (mLogLong w0) (mAreSame w0) (mAt w0) (mIsWrong w0) (mPosition w0) (mReason w0) (mCause w0))] 145 [some (.ref (gv 0)), none, some (.int v2), some (.int v3), none] [.int s145_0] := by
  unfold jn_X7_read_145 at hw
  refine z_istore C dX7_read_145 [some (.ref (gv 0)), none, some (.int v2), some (.int v3), some (.int s145_0)] (by decide) rfl ?_
  refine z_aload_n C dX7_read_147 rfl ?_
  refine z_get C inlX7 rfl 13 (by decide) mw_4_22 dX7_read_148 0 0 rfl rfl rfl ?_
  refine z_iload_n C dX7_read_151 rfl ?_
  refine z_aload_n C dX7_read_152 rfl ?_
  refine z_get C inlX7 rfl 12 (by decide) mw_28_9 dX7_read_153 0 0 rfl rfl rfl ?_
  refine z_if_eq C dX7_read_156 163 (by decide) (fun c13 => ?_) (fun c13 => ?_)
  · replace hw := hw.1 c13
    refine z_aload_n C dX7_read_163 rfl ?_
    refine z_callV0 C [(wMx cI gv (mS w0) (mAside w0) (mBefore w0) (mText w0) (mLetters w0) (mBys w0) (mFirst w0) (mCommand w0) (mKnown w0) (mLength w0) (mLogLong w0) (mAreSame w0) (mAt w0) (mIsWrong w0) (mPosition w0) (mReason w0) (mCause w0))] [] rfl rfl (met_X7_number l D cI gv w0 _ hw) y_X7_number mw_28_18 dX7_read_164 rfl n_X7_number rfl (by decide) ⟨rfl, rfl, Nat.le_of_ble_eq_true rfl, Nat.le_of_ble_eq_true rfl⟩ (Nat.le_of_ble_eq_true rfl) (z_pm [0] 1 rfl (by decide) rfl) ?_
    intro ⟨r14, u15⟩ hw
    try dsimp only at hw
    refine z_bs [(wMx cI gv (mS u15) (mAside u15) (mBefore u15) (mText u15) (mLetters u15) (mBys u15) (mFirst u15) (mCommand u15) (mKnown u15) (mLength u15) (mLogLong u15) (mAreSame u15) (mAt u15) (mIsWrong u15) (mPosition u15) (mReason u15) (mCause u15))] [.int r14, .int v3, .ref (gv 8)] rfl rfl ?_
    refine z_iast C dX7_read_167 0 8 rfl rfl hw.1 [(wMx cI gv (mS u15) (mAside u15) (mBefore u15) (mText u15) (mLetters u15) (mBys u15) (mFirst u15) (upd (mCommand u15) v3.toNatClampNeg r14) (mKnown u15) (mLength u15) (mLogLong u15) (mAreSame u15) (mAt u15) (mIsWrong u15) (mPosition u15) (mReason u15) (mCause u15))] rfl ?_
    replace hw := hw.2
    refine z_iinc C dX7_read_168 rfl (v3 + 1) (by rfl) [some (.ref (gv 0)), none, some (.int v2), some (.int (v3 + 1)), some (.int s145_0)] (by decide) rfl ?_
    refine z_goto C dX7_read_171 116 (by decide) ?_
    refine z_ls C [true, false, true, true, false] [some (.ref (gv 0)), none, some (.int v2), some (.int (v3 + 1)), none] rfl ?_
    exact hK116 _ _ hw
  · replace hw := hw.2 c13
    refine z_iconst C dX7_read_159 0 (by decide +kernel) ?_
    refine z_goto C dX7_read_160 167 (by decide) ?_
    refine z_iast C dX7_read_167 0 8 rfl rfl hw.1 [(wMx cI gv (mS w0) (mAside w0) (mBefore w0) (mText w0) (mLetters w0) (mBys w0) (mFirst w0) (upd (mCommand w0) v3.toNatClampNeg 0) (mKnown w0) (mLength w0) (mLogLong w0) (mAreSame w0) (mAt w0) (mIsWrong w0) (mPosition w0) (mReason w0) (mCause w0))] rfl ?_
    replace hw := hw.2
    refine z_iinc C dX7_read_168 rfl (v3 + 1) (by rfl) [some (.ref (gv 0)), none, some (.int v2), some (.int (v3 + 1)), some (.int s145_0)] (by decide) rfl ?_
    refine z_goto C dX7_read_171 116 (by decide) ?_
    refine z_ls C [true, false, true, true, false] [some (.ref (gv 0)), none, some (.int v2), some (.int (v3 + 1)), none] rfl ?_
    exact hK116 _ _ hw
def lb_X7_read_116 (v : zM) (v2 : Int32)  (Q : zM → Prop)  (K116 : (Int32) → (zM) → Prop) (v3 : Int32) (w0 : zM) : Prop := ((v2 < v3 → (wp_X7_sign w0 59 59 (fun r7 u8 => (Q u8)))) ∧ (¬ v2 < v3 → ((¬ (mIsWrong w0) = 0 → (wp_X7_sign w0 59 59 (fun r10 u11 => (Q u11)))) ∧ ((mIsWrong w0) = 0 → ((v3 ≤ 1 → (jn_X7_read_145 v v2 v3 w0 0 Q K116)) ∧ (¬ v3 ≤ 1 → (wp_X7_sign w0 44 44 (fun r16 u17 => (jn_X7_read_145 v v2 v3 u17 r16 Q K116)))))))))
set_option maxHeartbeats 4000000 in
set_option maxRecDepth 100000 in
theorem wk_X7_read_116 {p : Program} {l : Launch} {e : Env} {s : State} {m : MethodId} {args : Array Value} {below : List Frame} {meth : Method} {c : Code} {D : va_G} {cI : ClassId} {A : Nat → Prop} (C : ZC p s m args meth c RX7 cX7_read 5 none D cI A) (gv : Nat → Nat) (v : zM) (v2 : Int32)  (v3 : Int32) (w0 : zM) (Q : zM → Prop)  (hw : zLoop2 (lb_X7_read_116 v v2  Q ) v3 w0) : ZZ p l e rmX7_read s m args below meth c D A 5 0 0 (MQ below (ZQ D A (fun _ : zM => none) (fun u : zM => [(wMx cI gv (mS u) (mAside u) (mBefore u) (mText u) (mLetters u) (mBys u) (mFirst u) (mCommand u) (mKnown u) (mLength u) (mLogLong u) (mAreSame u) (mAt u) (mIsWrong u) (mPosition u) (mReason u) (mCause u))]) (fun u : zM => Q u)) args s rmX7_read.cells rmX7_read.slots A) [(wMx cI gv (mS w0) (mAside w0) (mBefore w0) (mText w0) (mLetters w0) (mBys w0) (mFirst w0) (mCommand w0) (mKnown w0) (mLength w0) (mLogLong w0) (mAreSame w0) (mAt w0) (mIsWrong w0) (mPosition w0) (mReason w0) (mCause w0))] 116 [some (.ref (gv 0)), none, some (.int v2), some (.int v3), none] [] := by
  refine zLoop2_w (fun (v3 : Int32) (w0 : zM) => ZZ p l e rmX7_read s m args below meth c D A 5 0 0 (MQ below (ZQ D A (fun _ : zM => none) (fun u : zM => [(wMx cI gv (mS u) (mAside u) (mBefore u) (mText u) (mLetters u) (mBys u) (mFirst u) (mCommand u) (mKnown u) (mLength u) (mLogLong u) (mAreSame u) (mAt u) (mIsWrong u) (mPosition u) (mReason u) (mCause u))]) (fun u : zM => Q u)) args s rmX7_read.cells rmX7_read.slots A) [(wMx cI gv (mS w0) (mAside w0) (mBefore w0) (mText w0) (mLetters w0) (mBys w0) (mFirst w0) (mCommand w0) (mKnown w0) (mLength w0) (mLogLong w0) (mAreSame w0) (mAt w0) (mIsWrong w0) (mPosition w0) (mReason w0) (mCause w0))] 116 [some (.ref (gv 0)), none, some (.int v2), some (.int v3), none] []) ?_ _ _ hw
  clear hw
  intro K116 hK116 v3 w0 hw
  unfold lb_X7_read_116 at hw
  refine z_iload_n C dX7_read_116 rfl ?_
  refine z_iload_n C dX7_read_117 rfl ?_
  refine z_icmp_gt C dX7_read_118 174 (by decide) (fun c6 => ?_) (fun c6 => ?_)
  · replace hw := hw.1 c6
    refine z_aload_n C dX7_read_174 rfl ?_
    refine z_bipush C dX7_read_175 59 (by decide +kernel) ?_
    refine z_bipush C dX7_read_177 59 (by decide +kernel) ?_
    refine z_callV0 C [(wMx cI gv (mS w0) (mAside w0) (mBefore w0) (mText w0) (mLetters w0) (mBys w0) (mFirst w0) (mCommand w0) (mKnown w0) (mLength w0) (mLogLong w0) (mAreSame w0) (mAt w0) (mIsWrong w0) (mPosition w0) (mReason w0) (mCause w0))] [] rfl rfl (met_X7_sign l D cI gv w0 59 59 _ hw) y_X7_sign mw_28_14 dX7_read_179 rfl n_X7_sign rfl (by decide) ⟨rfl, rfl, Nat.le_of_ble_eq_true rfl, Nat.le_of_ble_eq_true rfl⟩ (Nat.le_of_ble_eq_true rfl) (z_pm [0] 1 rfl (by decide) rfl) ?_
    intro ⟨r7, u8⟩ hw
    try dsimp only at hw
    refine z_bs [(wMx cI gv (mS u8) (mAside u8) (mBefore u8) (mText u8) (mLetters u8) (mBys u8) (mFirst u8) (mCommand u8) (mKnown u8) (mLength u8) (mLogLong u8) (mAreSame u8) (mAt u8) (mIsWrong u8) (mPosition u8) (mReason u8) (mCause u8))] [.int r7] rfl rfl ?_
    refine z_istore_n C dX7_read_182 [some (.ref (gv 0)), none, some (.int v2), some (.int r7), none] (by decide) rfl ?_
    exact z_vret C rfl (u8) rfl hw rfl dX7_read_183
  · replace hw := hw.2 c6
    refine z_aload_n C dX7_read_121 rfl ?_
    refine z_get C inlX7 rfl 12 (by decide) mw_28_9 dX7_read_122 0 0 rfl rfl rfl ?_
    refine z_if_ne C dX7_read_125 174 (by decide) (fun c9 => ?_) (fun c9 => ?_)
    · replace hw := hw.1 c9
      refine z_aload_n C dX7_read_174 rfl ?_
      refine z_bipush C dX7_read_175 59 (by decide +kernel) ?_
      refine z_bipush C dX7_read_177 59 (by decide +kernel) ?_
      refine z_callV0 C [(wMx cI gv (mS w0) (mAside w0) (mBefore w0) (mText w0) (mLetters w0) (mBys w0) (mFirst w0) (mCommand w0) (mKnown w0) (mLength w0) (mLogLong w0) (mAreSame w0) (mAt w0) (mIsWrong w0) (mPosition w0) (mReason w0) (mCause w0))] [] rfl rfl (met_X7_sign l D cI gv w0 59 59 _ hw) y_X7_sign mw_28_14 dX7_read_179 rfl n_X7_sign rfl (by decide) ⟨rfl, rfl, Nat.le_of_ble_eq_true rfl, Nat.le_of_ble_eq_true rfl⟩ (Nat.le_of_ble_eq_true rfl) (z_pm [0] 1 rfl (by decide) rfl) ?_
      intro ⟨r10, u11⟩ hw
      try dsimp only at hw
      refine z_bs [(wMx cI gv (mS u11) (mAside u11) (mBefore u11) (mText u11) (mLetters u11) (mBys u11) (mFirst u11) (mCommand u11) (mKnown u11) (mLength u11) (mLogLong u11) (mAreSame u11) (mAt u11) (mIsWrong u11) (mPosition u11) (mReason u11) (mCause u11))] [.int r10] rfl rfl ?_
      refine z_istore_n C dX7_read_182 [some (.ref (gv 0)), none, some (.int v2), some (.int r10), none] (by decide) rfl ?_
      exact z_vret C rfl (u11) rfl hw rfl dX7_read_183
    · replace hw := hw.2 c9
      refine z_iload_n C dX7_read_128 rfl ?_
      refine z_iconst C dX7_read_129 1 (by decide +kernel) ?_
      refine z_icmp_le C dX7_read_130 144 (by decide) (fun c12 => ?_) (fun c12 => ?_)
      · replace hw := hw.1 c12
        refine z_iconst C dX7_read_144 0 (by decide +kernel) ?_
        exact wk_X7_read_145 C gv v v2 v3 w0 0 _ K116 hK116 hw
      · replace hw := hw.2 c12
        refine z_aload_n C dX7_read_133 rfl ?_
        refine z_bipush C dX7_read_134 44 (by decide +kernel) ?_
        refine z_bipush C dX7_read_136 44 (by decide +kernel) ?_
        refine z_callV0 C [(wMx cI gv (mS w0) (mAside w0) (mBefore w0) (mText w0) (mLetters w0) (mBys w0) (mFirst w0) (mCommand w0) (mKnown w0) (mLength w0) (mLogLong w0) (mAreSame w0) (mAt w0) (mIsWrong w0) (mPosition w0) (mReason w0) (mCause w0))] [] rfl rfl (met_X7_sign l D cI gv w0 44 44 _ hw) y_X7_sign mw_28_14 dX7_read_138 rfl n_X7_sign rfl (by decide) ⟨rfl, rfl, Nat.le_of_ble_eq_true rfl, Nat.le_of_ble_eq_true rfl⟩ (Nat.le_of_ble_eq_true rfl) (z_pm [0] 1 rfl (by decide) rfl) ?_
        intro ⟨r16, u17⟩ hw
        try dsimp only at hw
        refine z_bs [(wMx cI gv (mS u17) (mAside u17) (mBefore u17) (mText u17) (mLetters u17) (mBys u17) (mFirst u17) (mCommand u17) (mKnown u17) (mLength u17) (mLogLong u17) (mAreSame u17) (mAt u17) (mIsWrong u17) (mPosition u17) (mReason u17) (mCause u17))] [.int r16] rfl rfl ?_
        refine z_goto C dX7_read_141 145 (by decide) ?_
        exact wk_X7_read_145 C gv v v2 v3 u17 r16 _ K116 hK116 hw
def jn_X7_read_81 (v : zM) (v1 : Int32) (w0IsWrong : Int32) (s81_0 : Int32) (s81_1 : Int32) (Q : zM → Prop)  : Prop := (vp_in 0 4 ∧ ((¬ v1 = 105 → ((¬ v1 = 100 → (zLoop2 (lb_X7_read_116 v 1  Q ) 1 (mSetIsWrong (mSetAt (mSetCommand v (upd (mCommand v) (0 : Int32).toNatClampNeg v1)) (s81_1 + s81_0)) w0IsWrong))) ∧ (v1 = 100 → (zLoop2 (lb_X7_read_116 v 2  Q ) 1 (mSetIsWrong (mSetAt (mSetCommand v (upd (mCommand v) (0 : Int32).toNatClampNeg v1)) (s81_1 + s81_0)) w0IsWrong))))) ∧ (v1 = 105 → (zLoop2 (lb_X7_read_116 v 3  Q ) 1 (mSetIsWrong (mSetAt (mSetCommand v (upd (mCommand v) (0 : Int32).toNatClampNeg v1)) (s81_1 + s81_0)) w0IsWrong)))))
set_option maxHeartbeats 4000000 in
set_option maxRecDepth 100000 in
theorem wk_X7_read_81 {p : Program} {l : Launch} {e : Env} {s : State} {m : MethodId} {args : Array Value} {below : List Frame} {meth : Method} {c : Code} {D : va_G} {cI : ClassId} {A : Nat → Prop} (C : ZC p s m args meth c RX7 cX7_read 5 none D cI A) (gv : Nat → Nat) (v : zM) (v1 : Int32) (w0IsWrong : Int32) (s81_0 : Int32) (s81_1 : Int32) (Q : zM → Prop)  (hw : jn_X7_read_81 v v1 w0IsWrong s81_0 s81_1 Q ) : ZZ p l e rmX7_read s m args below meth c D A 5 0 0 (MQ below (ZQ D A (fun _ : zM => none) (fun u : zM => [(wMx cI gv (mS u) (mAside u) (mBefore u) (mText u) (mLetters u) (mBys u) (mFirst u) (mCommand u) (mKnown u) (mLength u) (mLogLong u) (mAreSame u) (mAt u) (mIsWrong u) (mPosition u) (mReason u) (mCause u))]) (fun u : zM => Q u)) args s rmX7_read.cells rmX7_read.slots A) [(wMx cI gv (mS v) (mAside v) (mBefore v) (mText v) (mLetters v) (mBys v) (mFirst v) (mCommand v) (mKnown v) (mLength v) (mLogLong v) (mAreSame v) (mAt v) w0IsWrong (mPosition v) (mReason v) (mCause v))] 81 [some (.ref (gv 0)), some (.int v1), none, none, none] [.int s81_0, .int s81_1, .ref (gv 0)] := by
  unfold jn_X7_read_81 at hw
  refine z_iadd C dX7_read_81 ?_
  refine z_put C inlX7 rfl tyX7 tyX7_ok nmX7 11 (by decide) mw_28_8 rfl rfl rfl rfl dX7_read_82 0 0 rfl rfl (Nat.le_of_ble_eq_true rfl) [(wMx cI gv (mS v) (mAside v) (mBefore v) (mText v) (mLetters v) (mBys v) (mFirst v) (mCommand v) (mKnown v) (mLength v) (mLogLong v) (mAreSame v) (s81_1 + s81_0) w0IsWrong (mPosition v) (mReason v) (mCause v))] rfl ?_
  refine z_aload_n C dX7_read_85 rfl ?_
  refine z_get C inlX7 rfl 13 (by decide) mw_4_22 dX7_read_86 0 0 rfl rfl rfl ?_
  refine z_iconst C dX7_read_89 0 (by decide +kernel) ?_
  refine z_iload_n C dX7_read_90 rfl ?_
  refine z_iast C dX7_read_91 0 8 rfl rfl hw.1 [(wMx cI gv (mS v) (mAside v) (mBefore v) (mText v) (mLetters v) (mBys v) (mFirst v) (upd (mCommand v) (0 : Int32).toNatClampNeg v1) (mKnown v) (mLength v) (mLogLong v) (mAreSame v) (s81_1 + s81_0) w0IsWrong (mPosition v) (mReason v) (mCause v))] rfl ?_
  replace hw := hw.2
  refine z_iload_n C dX7_read_92 rfl ?_
  refine z_bipush C dX7_read_93 105 (by decide +kernel) ?_
  refine z_icmp_ne C dX7_read_95 102 (by decide) (fun c4 => ?_) (fun c4 => ?_)
  · replace hw := hw.1 c4
    refine z_iload_n C dX7_read_102 rfl ?_
    refine z_bipush C dX7_read_103 100 (by decide +kernel) ?_
    refine z_icmp_ne C dX7_read_105 112 (by decide) (fun c5 => ?_) (fun c5 => ?_)
    · replace hw := hw.1 c5
      refine z_iconst C dX7_read_112 1 (by decide +kernel) ?_
      refine z_istore_n C dX7_read_113 [some (.ref (gv 0)), some (.int v1), some (.int 1), none, none] (by decide) rfl ?_
      refine z_iconst C dX7_read_114 1 (by decide +kernel) ?_
      refine z_istore_n C dX7_read_115 [some (.ref (gv 0)), some (.int v1), some (.int 1), some (.int 1), none] (by decide) rfl ?_
      refine z_ls C [true, false, true, true, false] [some (.ref (gv 0)), none, some (.int 1), some (.int 1), none] rfl ?_
      exact wk_X7_read_116 C gv v 1  1 (mSetIsWrong (mSetAt (mSetCommand v (upd (mCommand v) (0 : Int32).toNatClampNeg v1)) (s81_1 + s81_0)) w0IsWrong) _  hw
    · replace hw := hw.2 c5
      refine z_iconst C dX7_read_108 2 (by decide +kernel) ?_
      refine z_goto C dX7_read_109 113 (by decide) ?_
      refine z_istore_n C dX7_read_113 [some (.ref (gv 0)), some (.int v1), some (.int 2), none, none] (by decide) rfl ?_
      refine z_iconst C dX7_read_114 1 (by decide +kernel) ?_
      refine z_istore_n C dX7_read_115 [some (.ref (gv 0)), some (.int v1), some (.int 2), some (.int 1), none] (by decide) rfl ?_
      refine z_ls C [true, false, true, true, false] [some (.ref (gv 0)), none, some (.int 2), some (.int 1), none] rfl ?_
      exact wk_X7_read_116 C gv v 2  1 (mSetIsWrong (mSetAt (mSetCommand v (upd (mCommand v) (0 : Int32).toNatClampNeg v1)) (s81_1 + s81_0)) w0IsWrong) _  hw
  · replace hw := hw.2 c4
    refine z_iconst C dX7_read_98 3 (by decide +kernel) ?_
    refine z_goto C dX7_read_99 113 (by decide) ?_
    refine z_istore_n C dX7_read_113 [some (.ref (gv 0)), some (.int v1), some (.int 3), none, none] (by decide) rfl ?_
    refine z_iconst C dX7_read_114 1 (by decide +kernel) ?_
    refine z_istore_n C dX7_read_115 [some (.ref (gv 0)), some (.int v1), some (.int 3), some (.int 1), none] (by decide) rfl ?_
    refine z_ls C [true, false, true, true, false] [some (.ref (gv 0)), none, some (.int 3), some (.int 1), none] rfl ?_
    exact wk_X7_read_116 C gv v 3  1 (mSetIsWrong (mSetAt (mSetCommand v (upd (mCommand v) (0 : Int32).toNatClampNeg v1)) (s81_1 + s81_0)) w0IsWrong) _  hw
def jn_X7_read_61 (v : zM) (v1 : Int32) (s61_0 : Int32) (Q : zM → Prop)  : Prop := (zB s61_0 ∧ ((s61_0 = 0 → (jn_X7_read_81 v v1 s61_0 1 (mAt v) Q )) ∧ (¬ s61_0 = 0 → (jn_X7_read_81 v v1 s61_0 0 (mAt v) Q ))))
set_option maxHeartbeats 4000000 in
set_option maxRecDepth 100000 in
theorem wk_X7_read_61 {p : Program} {l : Launch} {e : Env} {s : State} {m : MethodId} {args : Array Value} {below : List Frame} {meth : Method} {c : Code} {D : va_G} {cI : ClassId} {A : Nat → Prop} (C : ZC p s m args meth c RX7 cX7_read 5 none D cI A) (gv : Nat → Nat) (v : zM) (v1 : Int32) (s61_0 : Int32) (Q : zM → Prop)  (hw : jn_X7_read_61 v v1 s61_0 Q ) : ZZ p l e rmX7_read s m args below meth c D A 5 0 0 (MQ below (ZQ D A (fun _ : zM => none) (fun u : zM => [(wMx cI gv (mS u) (mAside u) (mBefore u) (mText u) (mLetters u) (mBys u) (mFirst u) (mCommand u) (mKnown u) (mLength u) (mLogLong u) (mAreSame u) (mAt u) (mIsWrong u) (mPosition u) (mReason u) (mCause u))]) (fun u : zM => Q u)) args s rmX7_read.cells rmX7_read.slots A) [(wMx cI gv (mS v) (mAside v) (mBefore v) (mText v) (mLetters v) (mBys v) (mFirst v) (mCommand v) (mKnown v) (mLength v) (mLogLong v) (mAreSame v) (mAt v) (mIsWrong v) (mPosition v) (mReason v) (mCause v))] 61 [some (.ref (gv 0)), some (.int v1), none, none, none] [.int s61_0, .ref (gv 0)] := by
  unfold jn_X7_read_61 at hw
  have hb61 := hw.1
  replace hw := hw.2
  refine z_put C inlX7 rfl tyX7 tyX7_ok nmX7 12 (by decide) mw_28_9 rfl rfl hb61.1 hb61.2 dX7_read_61 0 0 rfl rfl (Nat.le_of_ble_eq_true rfl) [(wMx cI gv (mS v) (mAside v) (mBefore v) (mText v) (mLetters v) (mBys v) (mFirst v) (mCommand v) (mKnown v) (mLength v) (mLogLong v) (mAreSame v) (mAt v) s61_0 (mPosition v) (mReason v) (mCause v))] rfl ?_
  refine z_aload_n C dX7_read_64 rfl ?_
  refine z_dup C dX7_read_65 rfl ?_
  refine z_get C inlX7 rfl 11 (by decide) mw_28_8 dX7_read_66 0 0 rfl rfl rfl ?_
  refine z_aload_n C dX7_read_69 rfl ?_
  refine z_get C inlX7 rfl 12 (by decide) mw_28_9 dX7_read_70 0 0 rfl rfl rfl ?_
  refine z_if_eq C dX7_read_73 80 (by decide) (fun c3 => ?_) (fun c3 => ?_)
  · replace hw := hw.1 c3
    refine z_iconst C dX7_read_80 1 (by decide +kernel) ?_
    exact wk_X7_read_81 C gv v v1 s61_0 1 (mAt v) _  hw
  · replace hw := hw.2 c3
    refine z_iconst C dX7_read_76 0 (by decide +kernel) ?_
    refine z_goto C dX7_read_77 81 (by decide) ?_
    exact wk_X7_read_81 C gv v v1 s61_0 0 (mAt v) _  hw
def jn_X7_read_60 (v : zM) (v1 : Int32)  (Q : zM → Prop)  : Prop := (jn_X7_read_61 v v1 0 Q )
set_option maxHeartbeats 4000000 in
set_option maxRecDepth 100000 in
theorem wk_X7_read_60 {p : Program} {l : Launch} {e : Env} {s : State} {m : MethodId} {args : Array Value} {below : List Frame} {meth : Method} {c : Code} {D : va_G} {cI : ClassId} {A : Nat → Prop} (C : ZC p s m args meth c RX7 cX7_read 5 none D cI A) (gv : Nat → Nat) (v : zM) (v1 : Int32)  (Q : zM → Prop)  (hw : jn_X7_read_60 v v1  Q ) : ZZ p l e rmX7_read s m args below meth c D A 5 0 0 (MQ below (ZQ D A (fun _ : zM => none) (fun u : zM => [(wMx cI gv (mS u) (mAside u) (mBefore u) (mText u) (mLetters u) (mBys u) (mFirst u) (mCommand u) (mKnown u) (mLength u) (mLogLong u) (mAreSame u) (mAt u) (mIsWrong u) (mPosition u) (mReason u) (mCause u))]) (fun u : zM => Q u)) args s rmX7_read.cells rmX7_read.slots A) [(wMx cI gv (mS v) (mAside v) (mBefore v) (mText v) (mLetters v) (mBys v) (mFirst v) (mCommand v) (mKnown v) (mLength v) (mLogLong v) (mAreSame v) (mAt v) (mIsWrong v) (mPosition v) (mReason v) (mCause v))] 60 [some (.ref (gv 0)), some (.int v1), none, none, none] [.ref (gv 0)] := by
  unfold jn_X7_read_60 at hw
  refine z_iconst C dX7_read_60 0 (by decide +kernel) ?_
  exact wk_X7_read_61 C gv v v1 0 _  hw
def jn_X7_read_24 (v : zM)  (s24_0 : Int32) (Q : zM → Prop)  : Prop := ((s24_0 = 105 → (jn_X7_read_60 v s24_0  Q )) ∧ (¬ s24_0 = 105 → ((s24_0 = 100 → (jn_X7_read_60 v s24_0  Q )) ∧ (¬ s24_0 = 100 → ((s24_0 = 115 → (jn_X7_read_60 v s24_0  Q )) ∧ (¬ s24_0 = 115 → ((s24_0 = 104 → (jn_X7_read_60 v s24_0  Q )) ∧ (¬ s24_0 = 104 → ((s24_0 = 98 → (jn_X7_read_60 v s24_0  Q )) ∧ (¬ s24_0 = 98 → (jn_X7_read_61 v s24_0 1 Q )))))))))))
set_option maxHeartbeats 4000000 in
set_option maxRecDepth 100000 in
theorem wk_X7_read_24 {p : Program} {l : Launch} {e : Env} {s : State} {m : MethodId} {args : Array Value} {below : List Frame} {meth : Method} {c : Code} {D : va_G} {cI : ClassId} {A : Nat → Prop} (C : ZC p s m args meth c RX7 cX7_read 5 none D cI A) (gv : Nat → Nat) (v : zM)  (s24_0 : Int32) (Q : zM → Prop)  (hw : jn_X7_read_24 v  s24_0 Q ) : ZZ p l e rmX7_read s m args below meth c D A 5 0 0 (MQ below (ZQ D A (fun _ : zM => none) (fun u : zM => [(wMx cI gv (mS u) (mAside u) (mBefore u) (mText u) (mLetters u) (mBys u) (mFirst u) (mCommand u) (mKnown u) (mLength u) (mLogLong u) (mAreSame u) (mAt u) (mIsWrong u) (mPosition u) (mReason u) (mCause u))]) (fun u : zM => Q u)) args s rmX7_read.cells rmX7_read.slots A) [(wMx cI gv (mS v) (mAside v) (mBefore v) (mText v) (mLetters v) (mBys v) (mFirst v) (mCommand v) (mKnown v) (mLength v) (mLogLong v) (mAreSame v) (mAt v) (mIsWrong v) (mPosition v) (mReason v) (mCause v))] 24 [some (.ref (gv 0)), none, none, none, none] [.int s24_0] := by
  unfold jn_X7_read_24 at hw
  refine z_istore_n C dX7_read_24 [some (.ref (gv 0)), some (.int s24_0), none, none, none] (by decide) rfl ?_
  refine z_aload_n C dX7_read_25 rfl ?_
  refine z_iload_n C dX7_read_26 rfl ?_
  refine z_bipush C dX7_read_27 105 (by decide +kernel) ?_
  refine z_icmp_eq C dX7_read_29 60 (by decide) (fun c2 => ?_) (fun c2 => ?_)
  · replace hw := hw.1 c2
    exact wk_X7_read_60 C gv v s24_0  _  hw
  · replace hw := hw.2 c2
    refine z_iload_n C dX7_read_32 rfl ?_
    refine z_bipush C dX7_read_33 100 (by decide +kernel) ?_
    refine z_icmp_eq C dX7_read_35 60 (by decide) (fun c18 => ?_) (fun c18 => ?_)
    · replace hw := hw.1 c18
      exact wk_X7_read_60 C gv v s24_0  _  hw
    · replace hw := hw.2 c18
      refine z_iload_n C dX7_read_38 rfl ?_
      refine z_bipush C dX7_read_39 115 (by decide +kernel) ?_
      refine z_icmp_eq C dX7_read_41 60 (by decide) (fun c19 => ?_) (fun c19 => ?_)
      · replace hw := hw.1 c19
        exact wk_X7_read_60 C gv v s24_0  _  hw
      · replace hw := hw.2 c19
        refine z_iload_n C dX7_read_44 rfl ?_
        refine z_bipush C dX7_read_45 104 (by decide +kernel) ?_
        refine z_icmp_eq C dX7_read_47 60 (by decide) (fun c20 => ?_) (fun c20 => ?_)
        · replace hw := hw.1 c20
          exact wk_X7_read_60 C gv v s24_0  _  hw
        · replace hw := hw.2 c20
          refine z_iload_n C dX7_read_50 rfl ?_
          refine z_bipush C dX7_read_51 98 (by decide +kernel) ?_
          refine z_icmp_eq C dX7_read_53 60 (by decide) (fun c21 => ?_) (fun c21 => ?_)
          · replace hw := hw.1 c21
            exact wk_X7_read_60 C gv v s24_0  _  hw
          · replace hw := hw.2 c21
            refine z_iconst C dX7_read_56 1 (by decide +kernel) ?_
            refine z_goto C dX7_read_57 61 (by decide) ?_
            exact wk_X7_read_61 C gv v s24_0 1 _  hw
def wp_X7_read (v : zM)  (Q : zM → Prop) : Prop := (((mLength v) ≤ (mAt v) → (jn_X7_read_24 v  0 Q )) ∧ (¬ (mLength v) ≤ (mAt v) → (vp_in (mAt v) 60 ∧ (jn_X7_read_24 v  ((mText v) (mAt v).toNatClampNeg) Q ))))
set_option maxHeartbeats 4000000 in
set_option maxRecDepth 100000 in
theorem met_X7_read (l : Launch) (D : va_G) (cI : ClassId) (gv : Nat → Nat) (v : zM)  (Q : zM → Prop) (hw : wp_X7_read v Q) : ZM l D cI yX7_read cX7_read 5 none rmX7_read [.ref (gv 0)] [(wMx cI gv (mS v) (mAside v) (mBefore v) (mText v) (mLetters v) (mBys v) (mFirst v) (mCommand v) (mKnown v) (mLength v) (mLogLong v) (mAreSame v) (mAt v) (mIsWrong v) (mPosition v) (mReason v) (mCause v))] (fun _ : zM => none) (fun u : zM => [(wMx cI gv (mS u) (mAside u) (mBefore u) (mText u) (mLetters u) (mBys u) (mFirst u) (mCommand u) (mKnown u) (mLength u) (mLogLong u) (mAreSame u) (mAt u) (mIsWrong u) (mPosition u) (mReason u) (mCause u))]) (fun u : zM => Q u) := by
  refine z_body [some (.ref (gv 0)), none, none, none, none] (by decide +kernel) rfl (Nat.le_of_ble_eq_true rfl) rfl ?_
  intro p e s m args below meth c A C hin
  unfold wp_X7_read at hw
  refine z_aload_n C dX7_read_0 rfl ?_
  refine z_get C inlX7 rfl 11 (by decide) mw_28_8 dX7_read_1 0 0 rfl rfl rfl ?_
  refine z_aload_n C dX7_read_4 rfl ?_
  refine z_get C inlX7 rfl 5 (by decide) mw_22_16 dX7_read_5 0 0 rfl rfl rfl ?_
  refine z_icmp_ge C dX7_read_8 23 (by decide) (fun c1 => ?_) (fun c1 => ?_)
  · replace hw := hw.1 c1
    refine z_iconst C dX7_read_23 0 (by decide +kernel) ?_
    exact wk_X7_read_24 C gv v  0 _  hw
  · replace hw := hw.2 c1
    refine z_aload_n C dX7_read_11 rfl ?_
    refine z_get C inlX7 rfl 4 (by decide) mw_4_18 dX7_read_12 0 0 rfl rfl rfl ?_
    refine z_aload_n C dX7_read_15 rfl ?_
    refine z_get C inlX7 rfl 11 (by decide) mw_28_8 dX7_read_16 0 0 rfl rfl rfl ?_
    refine z_iald C dX7_read_19 0 4 rfl rfl hw.1 ?_
    replace hw := hw.2
    refine z_goto C dX7_read_20 24 (by decide) ?_
    exact wk_X7_read_24 C gv v  ((mText v) (mAt v).toNatClampNeg) _  hw
def rmX7_does : Room := { frames := 5, cells := 0, slots := 0, locals := 118 }
def jn_X7_does_90 (v : zM) (v1 : Int32) (v2 : Int32) (v3 : Int32) (w0 : zM) (s90_0 : Int32) (Q : Int32 → zM → Prop)  : Prop := ((¬ s90_0 = 0 → (Q s90_0 w0)) ∧ (s90_0 = 0 → ((¬ v1 = 105 → ((¬ v1 = 100 → ((¬ v1 = 115 → ((¬ v1 = 104 → (wp_X7_backs w0 v2 (fun r15 u16 => (Q s90_0 u16)))) ∧ (v1 = 104 → (wp_X7_hears w0 v2 (fun r17 u18 => (Q s90_0 u18)))))) ∧ (v1 = 115 → (wp_X7_sends w0 v2 (fun r19 u20 => (Q s90_0 u20)))))) ∧ (v1 = 100 → (wp_X7_deletes w0 v2 v3 (fun r21 u22 => (Q s90_0 u22)))))) ∧ (v1 = 105 → (vp_in 3 4 ∧ (wp_X7_inserts w0 v2 v3 ((mCommand w0) (3 : Int32).toNatClampNeg) (fun r23 u24 => (Q s90_0 u24))))))))
set_option maxHeartbeats 4000000 in
set_option maxRecDepth 100000 in
theorem wk_X7_does_90 {p : Program} {l : Launch} {e : Env} {s : State} {m : MethodId} {args : Array Value} {below : List Frame} {meth : Method} {c : Code} {D : va_G} {cI : ClassId} {A : Nat → Prop} (C : ZC p s m args meth c RX7 cX7_does 6 (some .int) D cI A) (gv : Nat → Nat) (v : zM) (v1 : Int32) (v2 : Int32) (v3 : Int32) (w0 : zM) (s90_0 : Int32) (Q : Int32 → zM → Prop)  (hw : jn_X7_does_90 v v1 v2 v3 w0 s90_0 Q ) : ZZ p l e rmX7_does s m args below meth c D A 6 0 0 (MQ below (ZQ D A (fun u : Int32 × zM => some (.int u.1)) (fun u : Int32 × zM => [(wMx cI gv (mS (u.2)) (mAside (u.2)) (mBefore (u.2)) (mText (u.2)) (mLetters (u.2)) (mBys (u.2)) (mFirst (u.2)) (mCommand (u.2)) (mKnown (u.2)) (mLength (u.2)) (mLogLong (u.2)) (mAreSame (u.2)) (mAt (u.2)) (mIsWrong (u.2)) (mPosition (u.2)) (mReason (u.2)) (mCause (u.2)))]) (fun u : Int32 × zM => Q u.1 u.2)) args s rmX7_does.cells rmX7_does.slots A) [(wMx cI gv (mS w0) (mAside w0) (mBefore w0) (mText w0) (mLetters w0) (mBys w0) (mFirst w0) (mCommand w0) (mKnown w0) (mLength w0) (mLogLong w0) (mAreSame w0) (mAt w0) (mIsWrong w0) (mPosition w0) (mReason w0) (mCause w0))] 90 [some (.ref (gv 0)), some (.int v1), some (.int v2), some (.int v3), none, none] [.int s90_0] := by
  unfold jn_X7_does_90 at hw
  refine z_istore C dX7_does_90 [some (.ref (gv 0)), some (.int v1), some (.int v2), some (.int v3), some (.int s90_0), none] (by decide) rfl ?_
  refine z_iload C dX7_does_92 rfl ?_
  refine z_if_ne C dX7_does_94 168 (by decide) (fun c10 => ?_) (fun c10 => ?_)
  · replace hw := hw.1 c10
    refine z_iload C dX7_does_168 rfl ?_
    exact z_iret C rfl (s90_0, w0) rfl hw rfl dX7_does_170
  · replace hw := hw.2 c10
    refine z_iload_n C dX7_does_97 rfl ?_
    refine z_bipush C dX7_does_98 105 (by decide +kernel) ?_
    refine z_icmp_ne C dX7_does_100 118 (by decide) (fun c11 => ?_) (fun c11 => ?_)
    · replace hw := hw.1 c11
      refine z_iload_n C dX7_does_118 rfl ?_
      refine z_bipush C dX7_does_119 100 (by decide +kernel) ?_
      refine z_icmp_ne C dX7_does_121 133 (by decide) (fun c12 => ?_) (fun c12 => ?_)
      · replace hw := hw.1 c12
        refine z_iload_n C dX7_does_133 rfl ?_
        refine z_bipush C dX7_does_134 115 (by decide +kernel) ?_
        refine z_icmp_ne C dX7_does_136 147 (by decide) (fun c13 => ?_) (fun c13 => ?_)
        · replace hw := hw.1 c13
          refine z_iload_n C dX7_does_147 rfl ?_
          refine z_bipush C dX7_does_148 104 (by decide +kernel) ?_
          refine z_icmp_ne C dX7_does_150 161 (by decide) (fun c14 => ?_) (fun c14 => ?_)
          · replace hw := hw.1 c14
            refine z_aload_n C dX7_does_161 rfl ?_
            refine z_iload_n C dX7_does_162 rfl ?_
            refine z_callV0 C [(wMx cI gv (mS w0) (mAside w0) (mBefore w0) (mText w0) (mLetters w0) (mBys w0) (mFirst w0) (mCommand w0) (mKnown w0) (mLength w0) (mLogLong w0) (mAreSame w0) (mAt w0) (mIsWrong w0) (mPosition w0) (mReason w0) (mCause w0))] [] rfl rfl (met_X7_backs l D cI gv w0 v2 _ hw) y_X7_backs mw_15_3 dX7_does_163 rfl n_X7_backs rfl (by decide) ⟨rfl, rfl, Nat.le_of_ble_eq_true rfl, Nat.le_of_ble_eq_true rfl⟩ (Nat.le_of_ble_eq_true rfl) (z_pm [0] 1 rfl (by decide) rfl) ?_
            intro ⟨r15, u16⟩ hw
            try dsimp only at hw
            refine z_bs [(wMx cI gv (mS u16) (mAside u16) (mBefore u16) (mText u16) (mLetters u16) (mBys u16) (mFirst u16) (mCommand u16) (mKnown u16) (mLength u16) (mLogLong u16) (mAreSame u16) (mAt u16) (mIsWrong u16) (mPosition u16) (mReason u16) (mCause u16))] [.int r15] rfl rfl ?_
            refine z_istore C dX7_does_166 [some (.ref (gv 0)), some (.int v1), some (.int v2), some (.int v3), some (.int s90_0), some (.int r15)] (by decide) rfl ?_
            refine z_iload C dX7_does_168 rfl ?_
            exact z_iret C rfl (s90_0, u16) rfl hw rfl dX7_does_170
          · replace hw := hw.2 c14
            refine z_aload_n C dX7_does_153 rfl ?_
            refine z_iload_n C dX7_does_154 rfl ?_
            refine z_callV0 C [(wMx cI gv (mS w0) (mAside w0) (mBefore w0) (mText w0) (mLetters w0) (mBys w0) (mFirst w0) (mCommand w0) (mKnown w0) (mLength w0) (mLogLong w0) (mAreSame w0) (mAt w0) (mIsWrong w0) (mPosition w0) (mReason w0) (mCause w0))] [] rfl rfl (met_X7_hears l D cI gv w0 v2 _ hw) y_X7_hears mw_17_3 dX7_does_155 rfl n_X7_hears rfl (by decide) ⟨rfl, rfl, Nat.le_of_ble_eq_true rfl, Nat.le_of_ble_eq_true rfl⟩ (Nat.le_of_ble_eq_true rfl) (z_pm [0] 1 rfl (by decide) rfl) ?_
            intro ⟨r17, u18⟩ hw
            try dsimp only at hw
            refine z_bs [(wMx cI gv (mS u18) (mAside u18) (mBefore u18) (mText u18) (mLetters u18) (mBys u18) (mFirst u18) (mCommand u18) (mKnown u18) (mLength u18) (mLogLong u18) (mAreSame u18) (mAt u18) (mIsWrong u18) (mPosition u18) (mReason u18) (mCause u18))] [.int r17] rfl rfl ?_
            refine z_goto C dX7_does_158 166 (by decide) ?_
            refine z_istore C dX7_does_166 [some (.ref (gv 0)), some (.int v1), some (.int v2), some (.int v3), some (.int s90_0), some (.int r17)] (by decide) rfl ?_
            refine z_iload C dX7_does_168 rfl ?_
            exact z_iret C rfl (s90_0, u18) rfl hw rfl dX7_does_170
        · replace hw := hw.2 c13
          refine z_aload_n C dX7_does_139 rfl ?_
          refine z_iload_n C dX7_does_140 rfl ?_
          refine z_callV0 C [(wMx cI gv (mS w0) (mAside w0) (mBefore w0) (mText w0) (mLetters w0) (mBys w0) (mFirst w0) (mCommand w0) (mKnown w0) (mLength w0) (mLogLong w0) (mAreSame w0) (mAt w0) (mIsWrong w0) (mPosition w0) (mReason w0) (mCause w0))] [] rfl rfl (met_X7_sends l D cI gv w0 v2 _ hw) y_X7_sends mw_16_7 dX7_does_141 rfl n_X7_sends rfl (by decide) ⟨rfl, rfl, Nat.le_of_ble_eq_true rfl, Nat.le_of_ble_eq_true rfl⟩ (Nat.le_of_ble_eq_true rfl) (z_pm [0] 1 rfl (by decide) rfl) ?_
          intro ⟨r19, u20⟩ hw
          try dsimp only at hw
          refine z_bs [(wMx cI gv (mS u20) (mAside u20) (mBefore u20) (mText u20) (mLetters u20) (mBys u20) (mFirst u20) (mCommand u20) (mKnown u20) (mLength u20) (mLogLong u20) (mAreSame u20) (mAt u20) (mIsWrong u20) (mPosition u20) (mReason u20) (mCause u20))] [.int r19] rfl rfl ?_
          refine z_goto C dX7_does_144 166 (by decide) ?_
          refine z_istore C dX7_does_166 [some (.ref (gv 0)), some (.int v1), some (.int v2), some (.int v3), some (.int s90_0), some (.int r19)] (by decide) rfl ?_
          refine z_iload C dX7_does_168 rfl ?_
          exact z_iret C rfl (s90_0, u20) rfl hw rfl dX7_does_170
      · replace hw := hw.2 c12
        refine z_aload_n C dX7_does_124 rfl ?_
        refine z_iload_n C dX7_does_125 rfl ?_
        refine z_iload_n C dX7_does_126 rfl ?_
        refine z_callV0 C [(wMx cI gv (mS w0) (mAside w0) (mBefore w0) (mText w0) (mLetters w0) (mBys w0) (mFirst w0) (mCommand w0) (mKnown w0) (mLength w0) (mLogLong w0) (mAreSame w0) (mAt w0) (mIsWrong w0) (mPosition w0) (mReason w0) (mCause w0))] [] rfl rfl (met_X7_deletes l D cI gv w0 v2 v3 _ hw) y_X7_deletes mw_14_11 dX7_does_127 rfl n_X7_deletes rfl (by decide) ⟨rfl, rfl, Nat.le_of_ble_eq_true rfl, Nat.le_of_ble_eq_true rfl⟩ (Nat.le_of_ble_eq_true rfl) (z_pm [0] 1 rfl (by decide) rfl) ?_
        intro ⟨r21, u22⟩ hw
        try dsimp only at hw
        refine z_bs [(wMx cI gv (mS u22) (mAside u22) (mBefore u22) (mText u22) (mLetters u22) (mBys u22) (mFirst u22) (mCommand u22) (mKnown u22) (mLength u22) (mLogLong u22) (mAreSame u22) (mAt u22) (mIsWrong u22) (mPosition u22) (mReason u22) (mCause u22))] [.int r21] rfl rfl ?_
        refine z_goto C dX7_does_130 166 (by decide) ?_
        refine z_istore C dX7_does_166 [some (.ref (gv 0)), some (.int v1), some (.int v2), some (.int v3), some (.int s90_0), some (.int r21)] (by decide) rfl ?_
        refine z_iload C dX7_does_168 rfl ?_
        exact z_iret C rfl (s90_0, u22) rfl hw rfl dX7_does_170
    · replace hw := hw.2 c11
      refine z_aload_n C dX7_does_103 rfl ?_
      refine z_iload_n C dX7_does_104 rfl ?_
      refine z_iload_n C dX7_does_105 rfl ?_
      refine z_aload_n C dX7_does_106 rfl ?_
      refine z_get C inlX7 rfl 13 (by decide) mw_4_22 dX7_does_107 0 0 rfl rfl rfl ?_
      refine z_iconst C dX7_does_110 3 (by decide +kernel) ?_
      refine z_iald C dX7_does_111 0 8 rfl rfl hw.1 ?_
      replace hw := hw.2
      refine z_callV0 C [(wMx cI gv (mS w0) (mAside w0) (mBefore w0) (mText w0) (mLetters w0) (mBys w0) (mFirst w0) (mCommand w0) (mKnown w0) (mLength w0) (mLogLong w0) (mAreSame w0) (mAt w0) (mIsWrong w0) (mPosition w0) (mReason w0) (mCause w0))] [] rfl rfl (met_X7_inserts l D cI gv w0 v2 v3 ((mCommand w0) (3 : Int32).toNatClampNeg) _ hw) y_X7_inserts mw_12_13 dX7_does_112 rfl n_X7_inserts rfl (by decide) ⟨rfl, rfl, Nat.le_of_ble_eq_true rfl, Nat.le_of_ble_eq_true rfl⟩ (Nat.le_of_ble_eq_true rfl) (z_pm [0] 1 rfl (by decide) rfl) ?_
      intro ⟨r23, u24⟩ hw
      try dsimp only at hw
      refine z_bs [(wMx cI gv (mS u24) (mAside u24) (mBefore u24) (mText u24) (mLetters u24) (mBys u24) (mFirst u24) (mCommand u24) (mKnown u24) (mLength u24) (mLogLong u24) (mAreSame u24) (mAt u24) (mIsWrong u24) (mPosition u24) (mReason u24) (mCause u24))] [.int r23] rfl rfl ?_
      refine z_goto C dX7_does_115 166 (by decide) ?_
      refine z_istore C dX7_does_166 [some (.ref (gv 0)), some (.int v1), some (.int v2), some (.int v3), some (.int s90_0), some (.int r23)] (by decide) rfl ?_
      refine z_iload C dX7_does_168 rfl ?_
      exact z_iret C rfl (s90_0, u24) rfl hw rfl dX7_does_170
def wp_X7_does (v : zM)  (Q : Int32 → zM → Prop) : Prop := (vp_in 0 4 ∧ (∀ x1 : Int32, x1 = ((mCommand v) (0 : Int32).toNatClampNeg) → (vp_in 1 4 ∧ (∀ x2 : Int32, x2 = ((mCommand v) (1 : Int32).toNatClampNeg) → (vp_in 2 4 ∧ (∀ x3 : Int32, x3 = ((mCommand v) (2 : Int32).toNatClampNeg) → ((¬ x1 = 105 → ((¬ x1 = 100 → ((¬ x1 = 115 → ((¬ x1 = 104 → (wp_X7_backFault v x2 (fun r8 u9 => (jn_X7_does_90 v x1 x2 x3 u9 r8 Q )))) ∧ (x1 = 104 → (wp_X7_hearFault v x2 (fun r25 u26 => (jn_X7_does_90 v x1 x2 x3 u26 r25 Q )))))) ∧ (x1 = 115 → (wp_X7_sendFault v x2 (fun r27 u28 => (jn_X7_does_90 v x1 x2 x3 u28 r27 Q )))))) ∧ (x1 = 100 → (wp_X7_deleteFault v x2 x3 (fun r29 u30 => (jn_X7_does_90 v x1 x2 x3 u30 r29 Q )))))) ∧ (x1 = 105 → (vp_in 3 4 ∧ (wp_X7_insertFault v x2 x3 ((mCommand v) (3 : Int32).toNatClampNeg) (fun r31 u32 => (jn_X7_does_90 v x1 x2 x3 u32 r31 Q ))))))))))))
set_option maxHeartbeats 4000000 in
set_option maxRecDepth 100000 in
theorem met_X7_does (l : Launch) (D : va_G) (cI : ClassId) (gv : Nat → Nat) (v : zM)  (Q : Int32 → zM → Prop) (hw : wp_X7_does v Q) : ZM l D cI yX7_does cX7_does 6 (some .int) rmX7_does [.ref (gv 0)] [(wMx cI gv (mS v) (mAside v) (mBefore v) (mText v) (mLetters v) (mBys v) (mFirst v) (mCommand v) (mKnown v) (mLength v) (mLogLong v) (mAreSame v) (mAt v) (mIsWrong v) (mPosition v) (mReason v) (mCause v))] (fun u : Int32 × zM => some (.int u.1)) (fun u : Int32 × zM => [(wMx cI gv (mS (u.2)) (mAside (u.2)) (mBefore (u.2)) (mText (u.2)) (mLetters (u.2)) (mBys (u.2)) (mFirst (u.2)) (mCommand (u.2)) (mKnown (u.2)) (mLength (u.2)) (mLogLong (u.2)) (mAreSame (u.2)) (mAt (u.2)) (mIsWrong (u.2)) (mPosition (u.2)) (mReason (u.2)) (mCause (u.2)))]) (fun u : Int32 × zM => Q u.1 u.2) := by
  refine z_body [some (.ref (gv 0)), none, none, none, none, none] (by decide +kernel) rfl (Nat.le_of_ble_eq_true rfl) rfl ?_
  intro p e s m args below meth c A C hin
  unfold wp_X7_does at hw
  refine z_aload_n C dX7_does_0 rfl ?_
  refine z_get C inlX7 rfl 13 (by decide) mw_4_22 dX7_does_1 0 0 rfl rfl rfl ?_
  refine z_iconst C dX7_does_4 0 (by decide +kernel) ?_
  refine z_iald C dX7_does_5 0 8 rfl rfl hw.1 ?_
  replace hw := hw.2
  refine z_name C (fun x1 ex1 => ?_)
  replace hw := hw x1 ex1
  refine z_istore_n C dX7_does_6 [some (.ref (gv 0)), some (.int x1), none, none, none, none] (by decide) rfl ?_
  refine z_aload_n C dX7_does_7 rfl ?_
  refine z_get C inlX7 rfl 13 (by decide) mw_4_22 dX7_does_8 0 0 rfl rfl rfl ?_
  refine z_iconst C dX7_does_11 1 (by decide +kernel) ?_
  refine z_iald C dX7_does_12 0 8 rfl rfl hw.1 ?_
  replace hw := hw.2
  refine z_name C (fun x2 ex2 => ?_)
  replace hw := hw x2 ex2
  refine z_istore_n C dX7_does_13 [some (.ref (gv 0)), some (.int x1), some (.int x2), none, none, none] (by decide) rfl ?_
  refine z_aload_n C dX7_does_14 rfl ?_
  refine z_get C inlX7 rfl 13 (by decide) mw_4_22 dX7_does_15 0 0 rfl rfl rfl ?_
  refine z_iconst C dX7_does_18 2 (by decide +kernel) ?_
  refine z_iald C dX7_does_19 0 8 rfl rfl hw.1 ?_
  replace hw := hw.2
  refine z_name C (fun x3 ex3 => ?_)
  replace hw := hw x3 ex3
  refine z_istore_n C dX7_does_20 [some (.ref (gv 0)), some (.int x1), some (.int x2), some (.int x3), none, none] (by decide) rfl ?_
  refine z_iload_n C dX7_does_21 rfl ?_
  refine z_bipush C dX7_does_22 105 (by decide +kernel) ?_
  refine z_icmp_ne C dX7_does_24 42 (by decide) (fun c4 => ?_) (fun c4 => ?_)
  · replace hw := hw.1 c4
    refine z_iload_n C dX7_does_42 rfl ?_
    refine z_bipush C dX7_does_43 100 (by decide +kernel) ?_
    refine z_icmp_ne C dX7_does_45 57 (by decide) (fun c5 => ?_) (fun c5 => ?_)
    · replace hw := hw.1 c5
      refine z_iload_n C dX7_does_57 rfl ?_
      refine z_bipush C dX7_does_58 115 (by decide +kernel) ?_
      refine z_icmp_ne C dX7_does_60 71 (by decide) (fun c6 => ?_) (fun c6 => ?_)
      · replace hw := hw.1 c6
        refine z_iload_n C dX7_does_71 rfl ?_
        refine z_bipush C dX7_does_72 104 (by decide +kernel) ?_
        refine z_icmp_ne C dX7_does_74 85 (by decide) (fun c7 => ?_) (fun c7 => ?_)
        · replace hw := hw.1 c7
          refine z_aload_n C dX7_does_85 rfl ?_
          refine z_iload_n C dX7_does_86 rfl ?_
          refine z_callV0 C [(wMx cI gv (mS v) (mAside v) (mBefore v) (mText v) (mLetters v) (mBys v) (mFirst v) (mCommand v) (mKnown v) (mLength v) (mLogLong v) (mAreSame v) (mAt v) (mIsWrong v) (mPosition v) (mReason v) (mCause v))] [] rfl rfl (met_X7_backFault l D cI gv v x2 _ hw) y_X7_backFault mw_14_23 dX7_does_87 rfl n_X7_backFault rfl (by decide) ⟨rfl, rfl, Nat.le_of_ble_eq_true rfl, Nat.le_of_ble_eq_true rfl⟩ (Nat.le_of_ble_eq_true rfl) (z_pm [0] 1 rfl (by decide) rfl) ?_
          intro ⟨r8, u9⟩ hw
          try dsimp only at hw
          refine z_bs [(wMx cI gv (mS u9) (mAside u9) (mBefore u9) (mText u9) (mLetters u9) (mBys u9) (mFirst u9) (mCommand u9) (mKnown u9) (mLength u9) (mLogLong u9) (mAreSame u9) (mAt u9) (mIsWrong u9) (mPosition u9) (mReason u9) (mCause u9))] [.int r8] rfl rfl ?_
          exact wk_X7_does_90 C gv v x1 x2 x3 u9 r8 _  hw
        · replace hw := hw.2 c7
          refine z_aload_n C dX7_does_77 rfl ?_
          refine z_iload_n C dX7_does_78 rfl ?_
          refine z_callV0 C [(wMx cI gv (mS v) (mAside v) (mBefore v) (mText v) (mLetters v) (mBys v) (mFirst v) (mCommand v) (mKnown v) (mLength v) (mLogLong v) (mAreSame v) (mAt v) (mIsWrong v) (mPosition v) (mReason v) (mCause v))] [] rfl rfl (met_X7_hearFault l D cI gv v x2 _ hw) y_X7_hearFault mw_16_23 dX7_does_79 rfl n_X7_hearFault rfl (by decide) ⟨rfl, rfl, Nat.le_of_ble_eq_true rfl, Nat.le_of_ble_eq_true rfl⟩ (Nat.le_of_ble_eq_true rfl) (z_pm [0] 1 rfl (by decide) rfl) ?_
          intro ⟨r25, u26⟩ hw
          try dsimp only at hw
          refine z_bs [(wMx cI gv (mS u26) (mAside u26) (mBefore u26) (mText u26) (mLetters u26) (mBys u26) (mFirst u26) (mCommand u26) (mKnown u26) (mLength u26) (mLogLong u26) (mAreSame u26) (mAt u26) (mIsWrong u26) (mPosition u26) (mReason u26) (mCause u26))] [.int r25] rfl rfl ?_
          refine z_goto C dX7_does_82 90 (by decide) ?_
          exact wk_X7_does_90 C gv v x1 x2 x3 u26 r25 _  hw
      · replace hw := hw.2 c6
        refine z_aload_n C dX7_does_63 rfl ?_
        refine z_iload_n C dX7_does_64 rfl ?_
        refine z_callV0 C [(wMx cI gv (mS v) (mAside v) (mBefore v) (mText v) (mLetters v) (mBys v) (mFirst v) (mCommand v) (mKnown v) (mLength v) (mLogLong v) (mAreSame v) (mAt v) (mIsWrong v) (mPosition v) (mReason v) (mCause v))] [] rfl rfl (met_X7_sendFault l D cI gv v x2 _ hw) y_X7_sendFault mw_15_23 dX7_does_65 rfl n_X7_sendFault rfl (by decide) ⟨rfl, rfl, Nat.le_of_ble_eq_true rfl, Nat.le_of_ble_eq_true rfl⟩ (Nat.le_of_ble_eq_true rfl) (z_pm [0] 1 rfl (by decide) rfl) ?_
        intro ⟨r27, u28⟩ hw
        try dsimp only at hw
        refine z_bs [(wMx cI gv (mS u28) (mAside u28) (mBefore u28) (mText u28) (mLetters u28) (mBys u28) (mFirst u28) (mCommand u28) (mKnown u28) (mLength u28) (mLogLong u28) (mAreSame u28) (mAt u28) (mIsWrong u28) (mPosition u28) (mReason u28) (mCause u28))] [.int r27] rfl rfl ?_
        refine z_goto C dX7_does_68 90 (by decide) ?_
        exact wk_X7_does_90 C gv v x1 x2 x3 u28 r27 _  hw
    · replace hw := hw.2 c5
      refine z_aload_n C dX7_does_48 rfl ?_
      refine z_iload_n C dX7_does_49 rfl ?_
      refine z_iload_n C dX7_does_50 rfl ?_
      refine z_callV0 C [(wMx cI gv (mS v) (mAside v) (mBefore v) (mText v) (mLetters v) (mBys v) (mFirst v) (mCommand v) (mKnown v) (mLength v) (mLogLong v) (mAreSame v) (mAt v) (mIsWrong v) (mPosition v) (mReason v) (mCause v))] [] rfl rfl (met_X7_deleteFault l D cI gv v x2 x3 _ hw) y_X7_deleteFault mw_14_7 dX7_does_51 rfl n_X7_deleteFault rfl (by decide) ⟨rfl, rfl, Nat.le_of_ble_eq_true rfl, Nat.le_of_ble_eq_true rfl⟩ (Nat.le_of_ble_eq_true rfl) (z_pm [0] 1 rfl (by decide) rfl) ?_
      intro ⟨r29, u30⟩ hw
      try dsimp only at hw
      refine z_bs [(wMx cI gv (mS u30) (mAside u30) (mBefore u30) (mText u30) (mLetters u30) (mBys u30) (mFirst u30) (mCommand u30) (mKnown u30) (mLength u30) (mLogLong u30) (mAreSame u30) (mAt u30) (mIsWrong u30) (mPosition u30) (mReason u30) (mCause u30))] [.int r29] rfl rfl ?_
      refine z_goto C dX7_does_54 90 (by decide) ?_
      exact wk_X7_does_90 C gv v x1 x2 x3 u30 r29 _  hw
  · replace hw := hw.2 c4
    refine z_aload_n C dX7_does_27 rfl ?_
    refine z_iload_n C dX7_does_28 rfl ?_
    refine z_iload_n C dX7_does_29 rfl ?_
    refine z_aload_n C dX7_does_30 rfl ?_
    refine z_get C inlX7 rfl 13 (by decide) mw_4_22 dX7_does_31 0 0 rfl rfl rfl ?_
    refine z_iconst C dX7_does_34 3 (by decide +kernel) ?_
    refine z_iald C dX7_does_35 0 8 rfl rfl hw.1 ?_
    replace hw := hw.2
    refine z_callV0 C [(wMx cI gv (mS v) (mAside v) (mBefore v) (mText v) (mLetters v) (mBys v) (mFirst v) (mCommand v) (mKnown v) (mLength v) (mLogLong v) (mAreSame v) (mAt v) (mIsWrong v) (mPosition v) (mReason v) (mCause v))] [] rfl rfl (met_X7_insertFault l D cI gv v x2 x3 ((mCommand v) (3 : Int32).toNatClampNeg) _ hw) y_X7_insertFault mw_11_19 dX7_does_36 rfl n_X7_insertFault rfl (by decide) ⟨rfl, rfl, Nat.le_of_ble_eq_true rfl, Nat.le_of_ble_eq_true rfl⟩ (Nat.le_of_ble_eq_true rfl) (z_pm [0] 1 rfl (by decide) rfl) ?_
    intro ⟨r31, u32⟩ hw
    try dsimp only at hw
    refine z_bs [(wMx cI gv (mS u32) (mAside u32) (mBefore u32) (mText u32) (mLetters u32) (mBys u32) (mFirst u32) (mCommand u32) (mKnown u32) (mLength u32) (mLogLong u32) (mAreSame u32) (mAt u32) (mIsWrong u32) (mPosition u32) (mReason u32) (mCause u32))] [.int r31] rfl rfl ?_
    refine z_goto C dX7_does_39 90 (by decide) ?_
    exact wk_X7_does_90 C gv v x1 x2 x3 u32 r31 _  hw
def rmX7_go : Room := { frames := 6, cells := 0, slots := 0, locals := 143 }
def jn_X7_go_59 (v : zM) (v1 : Int32) (w0 : zM) (s59_0 : Int32) (Q : Int32 → zM → Prop) (K12 : (Int32) → (zM) → Prop) : Prop := (((mIsWrong w0) = 0 → ((0 ≤ s59_0 → (K12 (v1 + 1) (mSetCause (mSetReason w0 0) s59_0))) ∧ (¬ 0 ≤ s59_0 → (K12 (v1 + 1) (mSetCause (mSetReason w0 2) s59_0))))) ∧ (¬ (mIsWrong w0) = 0 → (K12 (v1 + 1) (mSetCause (mSetReason w0 1) s59_0))))
set_option maxHeartbeats 4000000 in
set_option maxRecDepth 100000 in
theorem wk_X7_go_59 {p : Program} {l : Launch} {e : Env} {s : State} {m : MethodId} {args : Array Value} {below : List Frame} {meth : Method} {c : Code} {D : va_G} {cI : ClassId} {A : Nat → Prop} (C : ZC p s m args meth c RX7 cX7_go 2 (some .int) D cI A) (gv : Nat → Nat) (v : zM) (v1 : Int32) (w0 : zM) (s59_0 : Int32) (Q : Int32 → zM → Prop) (K12 : (Int32) → (zM) → Prop) (hK12 : ∀ (v1 : Int32) (w0 : zM), K12 v1 w0 → ZZ p l e rmX7_go s m args below meth c D A 2 0 0 (MQ below (ZQ D A (fun u : Int32 × zM => some (.int u.1)) (fun u : Int32 × zM => [(wMx cI gv (mS (u.2)) (mAside (u.2)) (mBefore (u.2)) (mText (u.2)) (mLetters (u.2)) (mBys (u.2)) (mFirst (u.2)) (mCommand (u.2)) (mKnown (u.2)) (mLength (u.2)) (mLogLong (u.2)) (mAreSame (u.2)) (mAt (u.2)) (mIsWrong (u.2)) (mPosition (u.2)) (mReason (u.2)) (mCause (u.2)))]) (fun u : Int32 × zM => Q u.1 u.2)) args s rmX7_go.cells rmX7_go.slots A) [(wMx cI gv (mS w0) (mAside w0) (mBefore w0) (mText w0) (mLetters w0) (mBys w0) (mFirst w0) (mCommand w0) (mKnown w0) (mLength w0) (mLogLong w0) (mAreSame w0) (mAt w0) (mIsWrong w0) (mPosition w0) (mReason w0) (mCause w0))] 12 [some (.ref (gv 0)), some (.int v1)] []) (hw : jn_X7_go_59 v v1 w0 s59_0 Q K12) : ZZ p l e rmX7_go s m args below meth c D A 2 0 0 (MQ below (ZQ D A (fun u : Int32 × zM => some (.int u.1)) (fun u : Int32 × zM => [(wMx cI gv (mS (u.2)) (mAside (u.2)) (mBefore (u.2)) (mText (u.2)) (mLetters (u.2)) (mBys (u.2)) (mFirst (u.2)) (mCommand (u.2)) (mKnown (u.2)) (mLength (u.2)) (mLogLong (u.2)) (mAreSame (u.2)) (mAt (u.2)) (mIsWrong (u.2)) (mPosition (u.2)) (mReason (u.2)) (mCause (u.2)))]) (fun u : Int32 × zM => Q u.1 u.2)) args s rmX7_go.cells rmX7_go.slots A) [(wMx cI gv (mS w0) (mAside w0) (mBefore w0) (mText w0) (mLetters w0) (mBys w0) (mFirst w0) (mCommand w0) (mKnown w0) (mLength w0) (mLogLong w0) (mAreSame w0) (mAt w0) (mIsWrong w0) (mPosition w0) (mReason w0) (mCause w0))] 59 [some (.ref (gv 0)), some (.int v1)] [.int s59_0, .ref (gv 0)] := by
  unfold jn_X7_go_59 at hw
  refine z_put C inlX7 rfl tyX7 tyX7_ok nmX7 16 (by decide) mw_27_23 rfl rfl rfl rfl dX7_go_59 0 0 rfl rfl (Nat.le_of_ble_eq_true rfl) [(wMx cI gv (mS w0) (mAside w0) (mBefore w0) (mText w0) (mLetters w0) (mBys w0) (mFirst w0) (mCommand w0) (mKnown w0) (mLength w0) (mLogLong w0) (mAreSame w0) (mAt w0) (mIsWrong w0) (mPosition w0) (mReason w0) s59_0)] rfl ?_
  refine z_aload_n C dX7_go_62 rfl ?_
  refine z_aload_n C dX7_go_63 rfl ?_
  refine z_get C inlX7 rfl 12 (by decide) mw_28_9 dX7_go_64 0 0 rfl rfl rfl ?_
  refine z_if_eq C dX7_go_67 74 (by decide) (fun c7 => ?_) (fun c7 => ?_)
  · replace hw := hw.1 c7
    refine z_aload_n C dX7_go_74 rfl ?_
    refine z_get C inlX7 rfl 16 (by decide) mw_27_23 dX7_go_75 0 0 rfl rfl rfl ?_
    refine z_if_ge C dX7_go_78 85 (by decide) (fun c8 => ?_) (fun c8 => ?_)
    · replace hw := hw.1 c8
      refine z_iconst C dX7_go_85 0 (by decide +kernel) ?_
      refine z_put C inlX7 rfl tyX7 tyX7_ok nmX7 15 (by decide) mw_27_21 rfl rfl rfl rfl dX7_go_86 0 0 rfl rfl (Nat.le_of_ble_eq_true rfl) [(wMx cI gv (mS w0) (mAside w0) (mBefore w0) (mText w0) (mLetters w0) (mBys w0) (mFirst w0) (mCommand w0) (mKnown w0) (mLength w0) (mLogLong w0) (mAreSame w0) (mAt w0) (mIsWrong w0) (mPosition w0) 0 s59_0)] rfl ?_
      refine z_iinc C dX7_go_89 rfl (v1 + 1) (by rfl) [some (.ref (gv 0)), some (.int (v1 + 1))] (by decide) rfl ?_
      refine z_goto C dX7_go_92 12 (by decide) ?_
      exact hK12 _ _ hw
    · replace hw := hw.2 c8
      refine z_iconst C dX7_go_81 2 (by decide +kernel) ?_
      refine z_goto C dX7_go_82 86 (by decide) ?_
      refine z_put C inlX7 rfl tyX7 tyX7_ok nmX7 15 (by decide) mw_27_21 rfl rfl rfl rfl dX7_go_86 0 0 rfl rfl (Nat.le_of_ble_eq_true rfl) [(wMx cI gv (mS w0) (mAside w0) (mBefore w0) (mText w0) (mLetters w0) (mBys w0) (mFirst w0) (mCommand w0) (mKnown w0) (mLength w0) (mLogLong w0) (mAreSame w0) (mAt w0) (mIsWrong w0) (mPosition w0) 2 s59_0)] rfl ?_
      refine z_iinc C dX7_go_89 rfl (v1 + 1) (by rfl) [some (.ref (gv 0)), some (.int (v1 + 1))] (by decide) rfl ?_
      refine z_goto C dX7_go_92 12 (by decide) ?_
      exact hK12 _ _ hw
  · replace hw := hw.2 c7
    refine z_iconst C dX7_go_70 1 (by decide +kernel) ?_
    refine z_goto C dX7_go_71 86 (by decide) ?_
    refine z_put C inlX7 rfl tyX7 tyX7_ok nmX7 15 (by decide) mw_27_21 rfl rfl rfl rfl dX7_go_86 0 0 rfl rfl (Nat.le_of_ble_eq_true rfl) [(wMx cI gv (mS w0) (mAside w0) (mBefore w0) (mText w0) (mLetters w0) (mBys w0) (mFirst w0) (mCommand w0) (mKnown w0) (mLength w0) (mLogLong w0) (mAreSame w0) (mAt w0) (mIsWrong w0) (mPosition w0) 1 s59_0)] rfl ?_
    refine z_iinc C dX7_go_89 rfl (v1 + 1) (by rfl) [some (.ref (gv 0)), some (.int (v1 + 1))] (by decide) rfl ?_
    refine z_goto C dX7_go_92 12 (by decide) ?_
    exact hK12 _ _ hw
def lb_X7_go_12 (v : zM)   (Q : Int32 → zM → Prop)  (K12 : (Int32) → (zM) → Prop) (v1 : Int32) (w0 : zM) : Prop := (((mLength w0) ≤ (mAt w0) → (Q v1 w0)) ∧ (¬ (mLength w0) ≤ (mAt w0) → ((¬ (mReason w0) = 0 → (Q v1 w0)) ∧ ((mReason w0) = 0 → (wp_X7_read (mSetPosition w0 (mAt w0)) (fun u3 => (((mIsWrong u3) = 0 → (wp_X7_does u3 (fun r5 u6 => (jn_X7_go_59 v v1 u6 r5 Q K12)))) ∧ (¬ (mIsWrong u3) = 0 → (jn_X7_go_59 v v1 u3 (-4) Q K12)))))))))
set_option maxHeartbeats 4000000 in
set_option maxRecDepth 100000 in
theorem wk_X7_go_12 {p : Program} {l : Launch} {e : Env} {s : State} {m : MethodId} {args : Array Value} {below : List Frame} {meth : Method} {c : Code} {D : va_G} {cI : ClassId} {A : Nat → Prop} (C : ZC p s m args meth c RX7 cX7_go 2 (some .int) D cI A) (gv : Nat → Nat) (v : zM)   (v1 : Int32) (w0 : zM) (Q : Int32 → zM → Prop)  (hw : zLoop2 (lb_X7_go_12 v   Q ) v1 w0) : ZZ p l e rmX7_go s m args below meth c D A 2 0 0 (MQ below (ZQ D A (fun u : Int32 × zM => some (.int u.1)) (fun u : Int32 × zM => [(wMx cI gv (mS (u.2)) (mAside (u.2)) (mBefore (u.2)) (mText (u.2)) (mLetters (u.2)) (mBys (u.2)) (mFirst (u.2)) (mCommand (u.2)) (mKnown (u.2)) (mLength (u.2)) (mLogLong (u.2)) (mAreSame (u.2)) (mAt (u.2)) (mIsWrong (u.2)) (mPosition (u.2)) (mReason (u.2)) (mCause (u.2)))]) (fun u : Int32 × zM => Q u.1 u.2)) args s rmX7_go.cells rmX7_go.slots A) [(wMx cI gv (mS w0) (mAside w0) (mBefore w0) (mText w0) (mLetters w0) (mBys w0) (mFirst w0) (mCommand w0) (mKnown w0) (mLength w0) (mLogLong w0) (mAreSame w0) (mAt w0) (mIsWrong w0) (mPosition w0) (mReason w0) (mCause w0))] 12 [some (.ref (gv 0)), some (.int v1)] [] := by
  refine zLoop2_w (fun (v1 : Int32) (w0 : zM) => ZZ p l e rmX7_go s m args below meth c D A 2 0 0 (MQ below (ZQ D A (fun u : Int32 × zM => some (.int u.1)) (fun u : Int32 × zM => [(wMx cI gv (mS (u.2)) (mAside (u.2)) (mBefore (u.2)) (mText (u.2)) (mLetters (u.2)) (mBys (u.2)) (mFirst (u.2)) (mCommand (u.2)) (mKnown (u.2)) (mLength (u.2)) (mLogLong (u.2)) (mAreSame (u.2)) (mAt (u.2)) (mIsWrong (u.2)) (mPosition (u.2)) (mReason (u.2)) (mCause (u.2)))]) (fun u : Int32 × zM => Q u.1 u.2)) args s rmX7_go.cells rmX7_go.slots A) [(wMx cI gv (mS w0) (mAside w0) (mBefore w0) (mText w0) (mLetters w0) (mBys w0) (mFirst w0) (mCommand w0) (mKnown w0) (mLength w0) (mLogLong w0) (mAreSame w0) (mAt w0) (mIsWrong w0) (mPosition w0) (mReason w0) (mCause w0))] 12 [some (.ref (gv 0)), some (.int v1)] []) ?_ _ _ hw
  clear hw
  intro K12 hK12 v1 w0 hw
  unfold lb_X7_go_12 at hw
  refine z_aload_n C dX7_go_12 rfl ?_
  refine z_get C inlX7 rfl 11 (by decide) mw_28_8 dX7_go_13 0 0 rfl rfl rfl ?_
  refine z_aload_n C dX7_go_16 rfl ?_
  refine z_get C inlX7 rfl 5 (by decide) mw_22_16 dX7_go_17 0 0 rfl rfl rfl ?_
  refine z_icmp_ge C dX7_go_20 95 (by decide) (fun c1 => ?_) (fun c1 => ?_)
  · replace hw := hw.1 c1
    refine z_iload_n C dX7_go_95 rfl ?_
    exact z_iret C rfl (v1, w0) rfl hw rfl dX7_go_96
  · replace hw := hw.2 c1
    refine z_aload_n C dX7_go_23 rfl ?_
    refine z_get C inlX7 rfl 15 (by decide) mw_27_21 dX7_go_24 0 0 rfl rfl rfl ?_
    refine z_if_ne C dX7_go_27 95 (by decide) (fun c2 => ?_) (fun c2 => ?_)
    · replace hw := hw.1 c2
      refine z_iload_n C dX7_go_95 rfl ?_
      exact z_iret C rfl (v1, w0) rfl hw rfl dX7_go_96
    · replace hw := hw.2 c2
      refine z_aload_n C dX7_go_30 rfl ?_
      refine z_aload_n C dX7_go_31 rfl ?_
      refine z_get C inlX7 rfl 11 (by decide) mw_28_8 dX7_go_32 0 0 rfl rfl rfl ?_
      refine z_put C inlX7 rfl tyX7 tyX7_ok nmX7 14 (by decide) mw_27_22 rfl rfl rfl rfl dX7_go_35 0 0 rfl rfl (Nat.le_of_ble_eq_true rfl) [(wMx cI gv (mS w0) (mAside w0) (mBefore w0) (mText w0) (mLetters w0) (mBys w0) (mFirst w0) (mCommand w0) (mKnown w0) (mLength w0) (mLogLong w0) (mAreSame w0) (mAt w0) (mIsWrong w0) (mAt w0) (mReason w0) (mCause w0))] rfl ?_
      refine z_aload_n C dX7_go_38 rfl ?_
      refine z_callV0 C [(wMx cI gv (mS w0) (mAside w0) (mBefore w0) (mText w0) (mLetters w0) (mBys w0) (mFirst w0) (mCommand w0) (mKnown w0) (mLength w0) (mLogLong w0) (mAreSame w0) (mAt w0) (mIsWrong w0) (mAt w0) (mReason w0) (mCause w0))] [] rfl rfl (met_X7_read l D cI gv (mSetPosition w0 (mAt w0)) _ hw) y_X7_read mw_28_10 dX7_go_39 rfl n_X7_read rfl (by decide) ⟨rfl, rfl, Nat.le_of_ble_eq_true rfl, Nat.le_of_ble_eq_true rfl⟩ (Nat.le_of_ble_eq_true rfl) (z_pm [0] 1 rfl (by decide) rfl) ?_
      intro u3 hw
      try dsimp only at hw
      refine z_bs [(wMx cI gv (mS u3) (mAside u3) (mBefore u3) (mText u3) (mLetters u3) (mBys u3) (mFirst u3) (mCommand u3) (mKnown u3) (mLength u3) (mLogLong u3) (mAreSame u3) (mAt u3) (mIsWrong u3) (mPosition u3) (mReason u3) (mCause u3))] [] rfl rfl ?_
      refine z_aload_n C dX7_go_42 rfl ?_
      refine z_aload_n C dX7_go_43 rfl ?_
      refine z_get C inlX7 rfl 12 (by decide) mw_28_9 dX7_go_44 0 0 rfl rfl rfl ?_
      refine z_if_eq C dX7_go_47 55 (by decide) (fun c4 => ?_) (fun c4 => ?_)
      · replace hw := hw.1 c4
        refine z_aload_n C dX7_go_55 rfl ?_
        refine z_callV0 C [(wMx cI gv (mS u3) (mAside u3) (mBefore u3) (mText u3) (mLetters u3) (mBys u3) (mFirst u3) (mCommand u3) (mKnown u3) (mLength u3) (mLogLong u3) (mAreSame u3) (mAt u3) (mIsWrong u3) (mPosition u3) (mReason u3) (mCause u3))] [] rfl rfl (met_X7_does l D cI gv u3 _ hw) y_X7_does mw_28_22 dX7_go_56 rfl n_X7_does rfl (by decide) ⟨rfl, rfl, Nat.le_of_ble_eq_true rfl, Nat.le_of_ble_eq_true rfl⟩ (Nat.le_of_ble_eq_true rfl) (z_pm [0] 1 rfl (by decide) rfl) ?_
        intro ⟨r5, u6⟩ hw
        try dsimp only at hw
        refine z_bs [(wMx cI gv (mS u6) (mAside u6) (mBefore u6) (mText u6) (mLetters u6) (mBys u6) (mFirst u6) (mCommand u6) (mKnown u6) (mLength u6) (mLogLong u6) (mAreSame u6) (mAt u6) (mIsWrong u6) (mPosition u6) (mReason u6) (mCause u6))] [.int r5, .ref (gv 0)] rfl rfl ?_
        exact wk_X7_go_59 C gv v v1 u6 r5 _ K12 hK12 hw
      · replace hw := hw.2 c4
        refine z_bipush C dX7_go_50 (-4) (by decide +kernel) ?_
        refine z_goto C dX7_go_52 59 (by decide) ?_
        exact wk_X7_go_59 C gv v v1 u3 (-4) _ K12 hK12 hw
def wp_X7_go (v : zM)  (Q : Int32 → zM → Prop) : Prop := (zLoop2 (lb_X7_go_12 v   Q ) 0 (mSetReason (mSetAt v 0) 0))
set_option maxHeartbeats 4000000 in
set_option maxRecDepth 100000 in
theorem met_X7_go (l : Launch) (D : va_G) (cI : ClassId) (gv : Nat → Nat) (v : zM)  (Q : Int32 → zM → Prop) (hw : wp_X7_go v Q) : ZM l D cI yX7_go cX7_go 2 (some .int) rmX7_go [.ref (gv 0)] [(wMx cI gv (mS v) (mAside v) (mBefore v) (mText v) (mLetters v) (mBys v) (mFirst v) (mCommand v) (mKnown v) (mLength v) (mLogLong v) (mAreSame v) (mAt v) (mIsWrong v) (mPosition v) (mReason v) (mCause v))] (fun u : Int32 × zM => some (.int u.1)) (fun u : Int32 × zM => [(wMx cI gv (mS (u.2)) (mAside (u.2)) (mBefore (u.2)) (mText (u.2)) (mLetters (u.2)) (mBys (u.2)) (mFirst (u.2)) (mCommand (u.2)) (mKnown (u.2)) (mLength (u.2)) (mLogLong (u.2)) (mAreSame (u.2)) (mAt (u.2)) (mIsWrong (u.2)) (mPosition (u.2)) (mReason (u.2)) (mCause (u.2)))]) (fun u : Int32 × zM => Q u.1 u.2) := by
  refine z_body [some (.ref (gv 0)), none] (by decide +kernel) rfl (Nat.le_of_ble_eq_true rfl) rfl ?_
  intro p e s m args below meth c A C hin
  unfold wp_X7_go at hw
  refine z_iconst C dX7_go_0 0 (by decide +kernel) ?_
  refine z_istore_n C dX7_go_1 [some (.ref (gv 0)), some (.int 0)] (by decide) rfl ?_
  refine z_aload_n C dX7_go_2 rfl ?_
  refine z_iconst C dX7_go_3 0 (by decide +kernel) ?_
  refine z_put C inlX7 rfl tyX7 tyX7_ok nmX7 11 (by decide) mw_28_8 rfl rfl rfl rfl dX7_go_4 0 0 rfl rfl (Nat.le_of_ble_eq_true rfl) [(wMx cI gv (mS v) (mAside v) (mBefore v) (mText v) (mLetters v) (mBys v) (mFirst v) (mCommand v) (mKnown v) (mLength v) (mLogLong v) (mAreSame v) 0 (mIsWrong v) (mPosition v) (mReason v) (mCause v))] rfl ?_
  refine z_aload_n C dX7_go_7 rfl ?_
  refine z_iconst C dX7_go_8 0 (by decide +kernel) ?_
  refine z_put C inlX7 rfl tyX7 tyX7_ok nmX7 15 (by decide) mw_27_21 rfl rfl rfl rfl dX7_go_9 0 0 rfl rfl (Nat.le_of_ble_eq_true rfl) [(wMx cI gv (mS v) (mAside v) (mBefore v) (mText v) (mLetters v) (mBys v) (mFirst v) (mCommand v) (mKnown v) (mLength v) (mLogLong v) (mAreSame v) 0 (mIsWrong v) (mPosition v) 0 (mCause v))] rfl ?_
  exact wk_X7_go_12 C gv v   0 (mSetReason (mSetAt v 0) 0) _  hw
def rmX7_look : Room := { frames := 7, cells := 0, slots := 0, locals := 164 }
def wp_X7_look (v : zM)  (Q : zM → Prop) : Prop := (wp_X7_putAside v (fun u1 => (wp_X7_go u1 (fun r2 u3 => (wp_X7_putBack u3 (fun u4 => (Q u4)))))))
set_option maxHeartbeats 4000000 in
set_option maxRecDepth 100000 in
theorem met_X7_look (l : Launch) (D : va_G) (cI : ClassId) (gv : Nat → Nat) (v : zM)  (Q : zM → Prop) (hw : wp_X7_look v Q) : ZM l D cI yX7_look cX7_look 2 none rmX7_look [.ref (gv 0)] [(wMx cI gv (mS v) (mAside v) (mBefore v) (mText v) (mLetters v) (mBys v) (mFirst v) (mCommand v) (mKnown v) (mLength v) (mLogLong v) (mAreSame v) (mAt v) (mIsWrong v) (mPosition v) (mReason v) (mCause v))] (fun _ : zM => none) (fun u : zM => [(wMx cI gv (mS u) (mAside u) (mBefore u) (mText u) (mLetters u) (mBys u) (mFirst u) (mCommand u) (mKnown u) (mLength u) (mLogLong u) (mAreSame u) (mAt u) (mIsWrong u) (mPosition u) (mReason u) (mCause u))]) (fun u : zM => Q u) := by
  refine z_body [some (.ref (gv 0)), none] (by decide +kernel) rfl (Nat.le_of_ble_eq_true rfl) rfl ?_
  intro p e s m args below meth c A C hin
  unfold wp_X7_look at hw
  refine z_aload_n C dX7_look_0 rfl ?_
  refine z_callV0 C [(wMx cI gv (mS v) (mAside v) (mBefore v) (mText v) (mLetters v) (mBys v) (mFirst v) (mCommand v) (mKnown v) (mLength v) (mLogLong v) (mAreSame v) (mAt v) (mIsWrong v) (mPosition v) (mReason v) (mCause v))] [] rfl rfl (met_X7_putAside l D cI gv v _ hw) y_X7_putAside mw_23_15 dX7_look_1 rfl n_X7_putAside rfl (by decide) ⟨rfl, rfl, Nat.le_of_ble_eq_true rfl, Nat.le_of_ble_eq_true rfl⟩ (Nat.le_of_ble_eq_true rfl) (z_pm [0] 1 rfl (by decide) rfl) ?_
  intro u1 hw
  try dsimp only at hw
  refine z_bs [(wMx cI gv (mS u1) (mAside u1) (mBefore u1) (mText u1) (mLetters u1) (mBys u1) (mFirst u1) (mCommand u1) (mKnown u1) (mLength u1) (mLogLong u1) (mAreSame u1) (mAt u1) (mIsWrong u1) (mPosition u1) (mReason u1) (mCause u1))] [] rfl rfl ?_
  refine z_aload_n C dX7_look_4 rfl ?_
  refine z_callV0 C [(wMx cI gv (mS u1) (mAside u1) (mBefore u1) (mText u1) (mLetters u1) (mBys u1) (mFirst u1) (mCommand u1) (mKnown u1) (mLength u1) (mLogLong u1) (mAreSame u1) (mAt u1) (mIsWrong u1) (mPosition u1) (mReason u1) (mCause u1))] [] rfl rfl (met_X7_go l D cI gv u1 _ hw) y_X7_go mw_28_4 dX7_look_5 rfl n_X7_go rfl (by decide) ⟨rfl, rfl, Nat.le_of_ble_eq_true rfl, Nat.le_of_ble_eq_true rfl⟩ (Nat.le_of_ble_eq_true rfl) (z_pm [0] 1 rfl (by decide) rfl) ?_
  intro ⟨r2, u3⟩ hw
  try dsimp only at hw
  refine z_bs [(wMx cI gv (mS u3) (mAside u3) (mBefore u3) (mText u3) (mLetters u3) (mBys u3) (mFirst u3) (mCommand u3) (mKnown u3) (mLength u3) (mLogLong u3) (mAreSame u3) (mAt u3) (mIsWrong u3) (mPosition u3) (mReason u3) (mCause u3))] [.int r2] rfl rfl ?_
  refine z_istore_n C dX7_look_8 [some (.ref (gv 0)), some (.int r2)] (by decide) rfl ?_
  refine z_aload_n C dX7_look_9 rfl ?_
  refine z_callV0 C [(wMx cI gv (mS u3) (mAside u3) (mBefore u3) (mText u3) (mLetters u3) (mBys u3) (mFirst u3) (mCommand u3) (mKnown u3) (mLength u3) (mLogLong u3) (mAreSame u3) (mAt u3) (mIsWrong u3) (mPosition u3) (mReason u3) (mCause u3))] [] rfl rfl (met_X7_putBack l D cI gv u3 _ hw) y_X7_putBack mw_23_19 dX7_look_10 rfl n_X7_putBack rfl (by decide) ⟨rfl, rfl, Nat.le_of_ble_eq_true rfl, Nat.le_of_ble_eq_true rfl⟩ (Nat.le_of_ble_eq_true rfl) (z_pm [0] 1 rfl (by decide) rfl) ?_
  intro u4 hw
  try dsimp only at hw
  refine z_bs [(wMx cI gv (mS u4) (mAside u4) (mBefore u4) (mText u4) (mLetters u4) (mBys u4) (mFirst u4) (mCommand u4) (mKnown u4) (mLength u4) (mLogLong u4) (mAreSame u4) (mAt u4) (mIsWrong u4) (mPosition u4) (mReason u4) (mCause u4))] [] rfl rfl ?_
  exact z_vret C rfl (u4) rfl hw rfl dX7_look_13
def rmX7_fault : Room := { frames := 8, cells := 0, slots := 0, locals := 185 }
def wp_X7_fault (v : zM) (p1 : Int32) (Q : Int32 → zM → Prop) : Prop := ((¬ (f_X7_in p1 0 2) = 0 → (wp_X7_look v (fun u2 => ((¬ (mReason u2) = 0 → ((¬ p1 = 0 → ((¬ p1 = 1 → (Q (mCause u2) u2)) ∧ (p1 = 1 → (Q (mReason u2) u2)))) ∧ (p1 = 0 → (Q (mPosition u2) u2)))) ∧ ((mReason u2) = 0 → (Q (-4) u2)))))) ∧ ((f_X7_in p1 0 2) = 0 → (Q (-1) v)))
set_option maxHeartbeats 4000000 in
set_option maxRecDepth 100000 in
theorem met_X7_fault (l : Launch) (D : va_G) (cI : ClassId) (gv : Nat → Nat) (v : zM) (p1 : Int32) (Q : Int32 → zM → Prop) (hw : wp_X7_fault v p1 Q) : ZM l D cI yX7_fault cX7_fault 2 (some .int) rmX7_fault [.ref (gv 0), .int p1] [(wMx cI gv (mS v) (mAside v) (mBefore v) (mText v) (mLetters v) (mBys v) (mFirst v) (mCommand v) (mKnown v) (mLength v) (mLogLong v) (mAreSame v) (mAt v) (mIsWrong v) (mPosition v) (mReason v) (mCause v))] (fun u : Int32 × zM => some (.int u.1)) (fun u : Int32 × zM => [(wMx cI gv (mS (u.2)) (mAside (u.2)) (mBefore (u.2)) (mText (u.2)) (mLetters (u.2)) (mBys (u.2)) (mFirst (u.2)) (mCommand (u.2)) (mKnown (u.2)) (mLength (u.2)) (mLogLong (u.2)) (mAreSame (u.2)) (mAt (u.2)) (mIsWrong (u.2)) (mPosition (u.2)) (mReason (u.2)) (mCause (u.2)))]) (fun u : Int32 × zM => Q u.1 u.2) := by
  refine z_body [some (.ref (gv 0)), some (.int p1)] (by decide +kernel) rfl (Nat.le_of_ble_eq_true rfl) rfl ?_
  intro p e s m args below meth c A C hin
  unfold wp_X7_fault at hw
  refine z_iload_n C dX7_fault_0 rfl ?_
  refine z_iconst C dX7_fault_1 0 (by decide +kernel) ?_
  refine z_iconst C dX7_fault_2 2 (by decide +kernel) ?_
  refine z_callFS C [] [(wMx cI gv (mS v) (mAside v) (mBefore v) (mText v) (mLetters v) (mBys v) (mFirst v) (mCommand v) (mKnown v) (mLength v) (mLogLong v) (mAreSame v) (mAt v) (mIsWrong v) (mPosition v) (mReason v) (mCause v))] (met_X7_in l D cI p1 0 2) y_X7_in mw_12_2 dX7_fault_3 rfl n_X7_in rfl (by decide) ⟨rfl, rfl, Nat.le_of_ble_eq_true rfl, Nat.le_of_ble_eq_true rfl⟩ (Nat.le_of_ble_eq_true rfl) (z_pm [0] 1 rfl (by decide) rfl) ?_
  refine z_if_ne C dX7_fault_6 11 (by decide) (fun c1 => ?_) (fun c1 => ?_)
  · replace hw := hw.1 c1
    refine z_aload_n C dX7_fault_11 rfl ?_
    refine z_callV0 C [(wMx cI gv (mS v) (mAside v) (mBefore v) (mText v) (mLetters v) (mBys v) (mFirst v) (mCommand v) (mKnown v) (mLength v) (mLogLong v) (mAreSame v) (mAt v) (mIsWrong v) (mPosition v) (mReason v) (mCause v))] [] rfl rfl (met_X7_look l D cI gv v _ hw) y_X7_look mw_28_0 dX7_fault_12 rfl n_X7_look rfl (by decide) ⟨rfl, rfl, Nat.le_of_ble_eq_true rfl, Nat.le_of_ble_eq_true rfl⟩ (Nat.le_of_ble_eq_true rfl) (z_pm [0] 1 rfl (by decide) rfl) ?_
    intro u2 hw
    try dsimp only at hw
    refine z_bs [(wMx cI gv (mS u2) (mAside u2) (mBefore u2) (mText u2) (mLetters u2) (mBys u2) (mFirst u2) (mCommand u2) (mKnown u2) (mLength u2) (mLogLong u2) (mAreSame u2) (mAt u2) (mIsWrong u2) (mPosition u2) (mReason u2) (mCause u2))] [] rfl rfl ?_
    refine z_aload_n C dX7_fault_15 rfl ?_
    refine z_get C inlX7 rfl 15 (by decide) mw_27_21 dX7_fault_16 0 0 rfl rfl rfl ?_
    refine z_if_ne C dX7_fault_19 27 (by decide) (fun c3 => ?_) (fun c3 => ?_)
    · replace hw := hw.1 c3
      refine z_iload_n C dX7_fault_27 rfl ?_
      refine z_if_ne C dX7_fault_28 38 (by decide) (fun c4 => ?_) (fun c4 => ?_)
      · replace hw := hw.1 c4
        refine z_iload_n C dX7_fault_38 rfl ?_
        refine z_iconst C dX7_fault_39 1 (by decide +kernel) ?_
        refine z_icmp_ne C dX7_fault_40 50 (by decide) (fun c5 => ?_) (fun c5 => ?_)
        · replace hw := hw.1 c5
          refine z_aload_n C dX7_fault_50 rfl ?_
          refine z_get C inlX7 rfl 16 (by decide) mw_27_23 dX7_fault_51 0 0 rfl rfl rfl ?_
          exact z_iret C rfl ((mCause u2), u2) rfl hw rfl dX7_fault_54
        · replace hw := hw.2 c5
          refine z_aload_n C dX7_fault_43 rfl ?_
          refine z_get C inlX7 rfl 15 (by decide) mw_27_21 dX7_fault_44 0 0 rfl rfl rfl ?_
          refine z_goto C dX7_fault_47 54 (by decide) ?_
          exact z_iret C rfl ((mReason u2), u2) rfl hw rfl dX7_fault_54
      · replace hw := hw.2 c4
        refine z_aload_n C dX7_fault_31 rfl ?_
        refine z_get C inlX7 rfl 14 (by decide) mw_27_22 dX7_fault_32 0 0 rfl rfl rfl ?_
        refine z_goto C dX7_fault_35 54 (by decide) ?_
        exact z_iret C rfl ((mPosition u2), u2) rfl hw rfl dX7_fault_54
    · replace hw := hw.2 c3
      refine z_bipush C dX7_fault_22 (-4) (by decide +kernel) ?_
      refine z_goto C dX7_fault_24 54 (by decide) ?_
      exact z_iret C rfl ((-4), u2) rfl hw rfl dX7_fault_54
  · replace hw := hw.2 c1
    refine z_iconst C dX7_fault_9 (-1) (by decide +kernel) ?_
    exact z_iret C rfl ((-1), v) rfl hw rfl dX7_fault_10
def rmX7_play : Room := { frames := 8, cells := 0, slots := 0, locals := 185 }
def wp_X7_play (v : zM)  (Q : Int32 → zM → Prop) : Prop := (wp_X7_look v (fun u1 => (((mReason u1) ≤ 0 → (wp_X7_know u1 (fun u3 => (wp_X7_go u3 (fun r4 u5 => (Q r4 u5)))))) ∧ (¬ (mReason u1) ≤ 0 → (Q (-2) u1)))))
set_option maxHeartbeats 4000000 in
set_option maxRecDepth 100000 in
theorem met_X7_play (l : Launch) (D : va_G) (cI : ClassId) (gv : Nat → Nat) (v : zM)  (Q : Int32 → zM → Prop) (hw : wp_X7_play v Q) : ZM l D cI yX7_play cX7_play 1 (some .int) rmX7_play [.ref (gv 0)] [(wMx cI gv (mS v) (mAside v) (mBefore v) (mText v) (mLetters v) (mBys v) (mFirst v) (mCommand v) (mKnown v) (mLength v) (mLogLong v) (mAreSame v) (mAt v) (mIsWrong v) (mPosition v) (mReason v) (mCause v))] (fun u : Int32 × zM => some (.int u.1)) (fun u : Int32 × zM => [(wMx cI gv (mS (u.2)) (mAside (u.2)) (mBefore (u.2)) (mText (u.2)) (mLetters (u.2)) (mBys (u.2)) (mFirst (u.2)) (mCommand (u.2)) (mKnown (u.2)) (mLength (u.2)) (mLogLong (u.2)) (mAreSame (u.2)) (mAt (u.2)) (mIsWrong (u.2)) (mPosition (u.2)) (mReason (u.2)) (mCause (u.2)))]) (fun u : Int32 × zM => Q u.1 u.2) := by
  refine z_body [some (.ref (gv 0))] (by decide +kernel) rfl (Nat.le_of_ble_eq_true rfl) rfl ?_
  intro p e s m args below meth c A C hin
  unfold wp_X7_play at hw
  refine z_aload_n C dX7_play_0 rfl ?_
  refine z_callV0 C [(wMx cI gv (mS v) (mAside v) (mBefore v) (mText v) (mLetters v) (mBys v) (mFirst v) (mCommand v) (mKnown v) (mLength v) (mLogLong v) (mAreSame v) (mAt v) (mIsWrong v) (mPosition v) (mReason v) (mCause v))] [] rfl rfl (met_X7_look l D cI gv v _ hw) y_X7_look mw_28_0 dX7_play_1 rfl n_X7_look rfl (by decide) ⟨rfl, rfl, Nat.le_of_ble_eq_true rfl, Nat.le_of_ble_eq_true rfl⟩ (Nat.le_of_ble_eq_true rfl) (z_pm [0] 1 rfl (by decide) rfl) ?_
  intro u1 hw
  try dsimp only at hw
  refine z_bs [(wMx cI gv (mS u1) (mAside u1) (mBefore u1) (mText u1) (mLetters u1) (mBys u1) (mFirst u1) (mCommand u1) (mKnown u1) (mLength u1) (mLogLong u1) (mAreSame u1) (mAt u1) (mIsWrong u1) (mPosition u1) (mReason u1) (mCause u1))] [] rfl rfl ?_
  refine z_aload_n C dX7_play_4 rfl ?_
  refine z_get C inlX7 rfl 15 (by decide) mw_27_21 dX7_play_5 0 0 rfl rfl rfl ?_
  refine z_if_le C dX7_play_8 14 (by decide) (fun c2 => ?_) (fun c2 => ?_)
  · replace hw := hw.1 c2
    refine z_aload_n C dX7_play_14 rfl ?_
    refine z_callV0 C [(wMx cI gv (mS u1) (mAside u1) (mBefore u1) (mText u1) (mLetters u1) (mBys u1) (mFirst u1) (mCommand u1) (mKnown u1) (mLength u1) (mLogLong u1) (mAreSame u1) (mAt u1) (mIsWrong u1) (mPosition u1) (mReason u1) (mCause u1))] [] rfl rfl (met_X7_know l D cI gv u1 _ hw) y_X7_know mw_12_8 dX7_play_15 rfl n_X7_know rfl (by decide) ⟨rfl, rfl, Nat.le_of_ble_eq_true rfl, Nat.le_of_ble_eq_true rfl⟩ (Nat.le_of_ble_eq_true rfl) (z_pm [0] 1 rfl (by decide) rfl) ?_
    intro u3 hw
    try dsimp only at hw
    refine z_bs [(wMx cI gv (mS u3) (mAside u3) (mBefore u3) (mText u3) (mLetters u3) (mBys u3) (mFirst u3) (mCommand u3) (mKnown u3) (mLength u3) (mLogLong u3) (mAreSame u3) (mAt u3) (mIsWrong u3) (mPosition u3) (mReason u3) (mCause u3))] [] rfl rfl ?_
    refine z_aload_n C dX7_play_18 rfl ?_
    refine z_callV0 C [(wMx cI gv (mS u3) (mAside u3) (mBefore u3) (mText u3) (mLetters u3) (mBys u3) (mFirst u3) (mCommand u3) (mKnown u3) (mLength u3) (mLogLong u3) (mAreSame u3) (mAt u3) (mIsWrong u3) (mPosition u3) (mReason u3) (mCause u3))] [] rfl rfl (met_X7_go l D cI gv u3 _ hw) y_X7_go mw_28_4 dX7_play_19 rfl n_X7_go rfl (by decide) ⟨rfl, rfl, Nat.le_of_ble_eq_true rfl, Nat.le_of_ble_eq_true rfl⟩ (Nat.le_of_ble_eq_true rfl) (z_pm [0] 1 rfl (by decide) rfl) ?_
    intro ⟨r4, u5⟩ hw
    try dsimp only at hw
    refine z_bs [(wMx cI gv (mS u5) (mAside u5) (mBefore u5) (mText u5) (mLetters u5) (mBys u5) (mFirst u5) (mCommand u5) (mKnown u5) (mLength u5) (mLogLong u5) (mAreSame u5) (mAt u5) (mIsWrong u5) (mPosition u5) (mReason u5) (mCause u5))] [.int r4] rfl rfl ?_
    exact z_iret C rfl (r4, u5) rfl hw rfl dX7_play_22
  · replace hw := hw.2 c2
    refine z_bipush C dX7_play_11 (-2) (by decide +kernel) ?_
    exact z_iret C rfl ((-2), u1) rfl hw rfl dX7_play_13
