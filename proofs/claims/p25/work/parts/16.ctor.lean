/-! the constructors -/
def n0 (N : Nat) : zN := (N, fun _ => 0, 0)
def e0 (number : Int32) : zE := (number, 0, 0, 0, 0, n0 78, n0 6, n0 6)
def t0 : zT := (z3 (e0 0) (e0 1) (e0 2), n0 78, n0 78, n0 78)
def cm0 : zC := (0, 0, 0, 0, n0 60, n0 3)
def x0 (gh : Nat → Nat → Nat) : zX := (t0, t0, t0, t0, fun _ => t0, gh, 0, cm0)
def gl (l : List Nat) : Nat → Nat := fun i => l.getD i 0
def rmX4_init (N : Nat) : Room := { frames := 1, cells := 1, slots := N, locals := 24 }
set_option maxHeartbeats 4000000 in
set_option maxRecDepth 100000 in
theorem met_X4_init (l : Launch) (D : va_G) (cI : ClassId) (q N : Nat) (hN : N ≤ 1000) : ZM l D cI yX4_init cX4_init 2 none (rmX4_init N) [.ref q, .int (nI N)] [[(q, .inr (3, [.null, .int 0]))]] (fun _ : Nat => none) (fun c => [wN cI q c (n0 N)]) (fun _ : Nat => True) := by
  refine z_body [some (.ref q), some (.int (nI N))] (by decide +kernel) rfl (Nat.le_of_ble_eq_true rfl) rfl ?_
  intro p e s m args below meth c A C hin
  refine z_aload_n C dX4_init_0 rfl ?_
  refine z_objInit (yc := ⟨#[]⟩) C mw_3_4 mw_1_7 mw_1_8 dX4_init_1 (Nat.le_of_ble_eq_true rfl) (Nat.le_of_ble_eq_true rfl) ?_
  refine z_aload_n C dX4_init_4 rfl ?_
  refine z_iload_n C dX4_init_5 rfl ?_
  refine z_iconst C dX4_init_6 0 (by decide +kernel) ?_
  refine z_mmax C mw_3_5 mw_3_6 mw_3_7 mw_3_8 (Nat.le_of_ble_eq_true rfl) (Nat.le_of_ble_eq_true rfl) ⟨Nat.zero_le _, Nat.zero_le _⟩ dX4_init_7 ?_
  refine z_top C (nI N) (if_neg (nI_pos (by omega))) ?_
  refine z_newa C mw_3_9 N (nI_pos (by omega)) (nI_clamp (by omega)) (by omega) ⟨Nat.le_refl _, by show 0 + N ≤ N; omega⟩ dX4_init_10 (fun c1 => ?_)
  refine z_bs [[(q, .inr (3, [.null, .int 0]))], [(c1, .inl (cI, N, .inl (fun _ => 0)))]] [.ref c1, .ref q] rfl rfl ?_
  refine z_putF C inlX4 rfl tyX4 tyX4_ok nmX4 0 (by decide) mw_3_10 rfl hin rfl rfl rfl rfl dX4_init_12 0 0 rfl rfl (Nat.le_of_ble_eq_true rfl) [[(q, .inr (3, [.ref c1, .int 0]))], [(c1, .inl (cI, N, .inl (fun _ => 0)))]] rfl ?_
  refine z_aload_n C dX4_init_15 rfl ?_
  refine z_iconst C dX4_init_16 0 (by decide +kernel) ?_
  refine z_put C inlX4 rfl tyX4 tyX4_ok nmX4 1 (by decide) mw_3_11 rfl rfl rfl rfl dX4_init_17 0 0 rfl rfl (Nat.le_of_ble_eq_true rfl) [[(q, .inr (3, [.ref c1, .int 0]))], [(c1, .inl (cI, N, .inl (fun _ => 0)))]] rfl ?_
  have e1 : 0 + N = N := by omega
  rw [e1]
  exact z_vret C rfl c1 rfl trivial rfl dX4_init_20
def rmX2_init : Room := { frames := 2, cells := 6, slots := 96, locals := 45 }
set_option maxHeartbeats 4000000 in
set_option maxRecDepth 100000 in
theorem met_X2_init (l : Launch) (D : va_G) (cI : ClassId) (q : Nat) (p1 : Int32) : ZM l D cI yX2_init cX2_init 2 none rmX2_init [.ref q, .int p1] [[(q, .inr (1, [.int 0, .null, .null, .null, .int 0, .int 0, .int 0, .int 0]))]] (fun _ : (Nat → Nat) => none) (fun g => [wE cI g (e0 p1)]) (fun g => g 0 = q) := by
  refine z_body [some (.ref q), some (.int p1)] (by decide +kernel) rfl (Nat.le_of_ble_eq_true rfl) rfl ?_
  intro p e s m args below meth c A C hin
  refine z_aload_n C dX2_init_0 rfl ?_
  refine z_objInit (yc := ⟨#[]⟩) C mw_2_19 mw_1_7 mw_1_8 dX2_init_1 (Nat.le_of_ble_eq_true rfl) (Nat.le_of_ble_eq_true rfl) ?_
  refine z_aload_n C dX2_init_4 rfl ?_
  refine z_iload_n C dX2_init_5 rfl ?_
  refine z_putF C inlX2 rfl tyX2 tyX2_ok nmX2 0 (by decide) mw_2_20 rfl hin rfl rfl rfl rfl dX2_init_6 0 0 rfl rfl (Nat.le_of_ble_eq_true rfl) [[(q, .inr (1, [.int p1, .null, .null, .null, .int 0, .int 0, .int 0, .int 0]))]] rfl ?_
  refine z_aload_n C dX2_init_9 rfl ?_
  refine z_new (ci := 3) C inlX4 rfl tyX4 tyX4_ok mw_2_21 mw_2_11 mw_2_12 [.null, .int 0] (fun j hj => by rcases (show j = 0 ∨ j = 1 by omega) with rfl | rfl <;> rfl) ⟨Nat.le_of_ble_eq_true rfl, Nat.le_of_ble_eq_true rfl⟩ dX2_init_10 (fun q1 => ?_)
  refine z_bs [[(q, .inr (1, [.int p1, .null, .null, .null, .int 0, .int 0, .int 0, .int 0]))], [(q1, .inr (3, [.null, .int 0]))]] [.ref q1, .ref q] rfl rfl ?_
  refine z_dup C dX2_init_13 rfl ?_
  refine z_bipush C dX2_init_14 78 (by decide +kernel) ?_
  refine z_top C (nI 78) (by decide +kernel) ?_
  refine z_callI (yr := none) C (wc := [[(q1, .inr (3, [.null, .int 0]))]]) (wr := [[(q, .inr (1, [.int p1, .null, .null, .null, .int 0, .int 0, .int 0, .int 0]))]]) (met_X4_init l D cI q1 78 (by decide)) y_X4_init mw_3_1 dX2_init_16 rfl n_X4_init (by decide) ⟨Nat.le_of_ble_eq_true rfl, Nat.le_of_ble_eq_true rfl⟩ (Nat.le_of_ble_eq_true rfl) (z_pm [1, 0] 2 rfl (by decide) rfl) ?_
  intro c2 hc2
  refine z_bs [(wN cI q1 c2 (n0 78)), [(q, .inr (1, [.int p1, .null, .null, .null, .int 0, .int 0, .int 0, .int 0]))]] [.ref q1, .ref q] rfl rfl ?_
  refine z_perm C [[(q, .inr (1, [.int p1, .null, .null, .null, .int 0, .int 0, .int 0, .int 0]))], (wN cI q1 c2 (n0 78))] (z_pm [1, 0] 2 rfl (by decide) rfl) ?_
  refine z_putF C inlX2 rfl tyX2 tyX2_ok nmX2 1 (by decide) mw_2_22 rfl hin rfl rfl rfl rfl dX2_init_19 0 0 rfl rfl (Nat.le_of_ble_eq_true rfl) [[(q, .inr (1, [.int p1, .ref q1, .null, .null, .int 0, .int 0, .int 0, .int 0]))], (wN cI q1 c2 (n0 78))] rfl ?_
  refine z_aload_n C dX2_init_22 rfl ?_
  refine z_new (ci := 3) C inlX4 rfl tyX4 tyX4_ok mw_2_21 mw_2_11 mw_2_12 [.null, .int 0] (fun j hj => by rcases (show j = 0 ∨ j = 1 by omega) with rfl | rfl <;> rfl) ⟨Nat.le_of_ble_eq_true rfl, Nat.le_of_ble_eq_true rfl⟩ dX2_init_23 (fun q3 => ?_)
  refine z_bs [[(q, .inr (1, [.int p1, .ref q1, .null, .null, .int 0, .int 0, .int 0, .int 0]))], (wN cI q1 c2 (n0 78)), [(q3, .inr (3, [.null, .int 0]))]] [.ref q3, .ref q] rfl rfl ?_
  refine z_dup C dX2_init_26 rfl ?_
  refine z_bipush C dX2_init_27 6 (by decide +kernel) ?_
  refine z_top C (nI 6) (by decide +kernel) ?_
  refine z_callI (yr := none) C (wc := [[(q3, .inr (3, [.null, .int 0]))]]) (wr := [[(q, .inr (1, [.int p1, .ref q1, .null, .null, .int 0, .int 0, .int 0, .int 0]))], (wN cI q1 c2 (n0 78))]) (met_X4_init l D cI q3 6 (by decide)) y_X4_init mw_3_1 dX2_init_29 rfl n_X4_init (by decide) ⟨Nat.le_of_ble_eq_true rfl, Nat.le_of_ble_eq_true rfl⟩ (Nat.le_of_ble_eq_true rfl) (z_pm [2, 0, 1] 3 rfl (by decide) rfl) ?_
  intro c4 hc4
  refine z_bs [(wN cI q3 c4 (n0 6)), [(q, .inr (1, [.int p1, .ref q1, .null, .null, .int 0, .int 0, .int 0, .int 0]))], (wN cI q1 c2 (n0 78))] [.ref q3, .ref q] rfl rfl ?_
  refine z_perm C [[(q, .inr (1, [.int p1, .ref q1, .null, .null, .int 0, .int 0, .int 0, .int 0]))], (wN cI q1 c2 (n0 78)), (wN cI q3 c4 (n0 6))] (z_pm [1, 2, 0] 3 rfl (by decide) rfl) ?_
  refine z_putF C inlX2 rfl tyX2 tyX2_ok nmX2 2 (by decide) mw_2_23 rfl hin rfl rfl rfl rfl dX2_init_32 0 0 rfl rfl (Nat.le_of_ble_eq_true rfl) [[(q, .inr (1, [.int p1, .ref q1, .ref q3, .null, .int 0, .int 0, .int 0, .int 0]))], (wN cI q1 c2 (n0 78)), (wN cI q3 c4 (n0 6))] rfl ?_
  refine z_aload_n C dX2_init_35 rfl ?_
  refine z_new (ci := 3) C inlX4 rfl tyX4 tyX4_ok mw_2_21 mw_2_11 mw_2_12 [.null, .int 0] (fun j hj => by rcases (show j = 0 ∨ j = 1 by omega) with rfl | rfl <;> rfl) ⟨Nat.le_of_ble_eq_true rfl, Nat.le_of_ble_eq_true rfl⟩ dX2_init_36 (fun q5 => ?_)
  refine z_bs [[(q, .inr (1, [.int p1, .ref q1, .ref q3, .null, .int 0, .int 0, .int 0, .int 0]))], (wN cI q1 c2 (n0 78)), (wN cI q3 c4 (n0 6)), [(q5, .inr (3, [.null, .int 0]))]] [.ref q5, .ref q] rfl rfl ?_
  refine z_dup C dX2_init_39 rfl ?_
  refine z_bipush C dX2_init_40 6 (by decide +kernel) ?_
  refine z_top C (nI 6) (by decide +kernel) ?_
  refine z_callI (yr := none) C (wc := [[(q5, .inr (3, [.null, .int 0]))]]) (wr := [[(q, .inr (1, [.int p1, .ref q1, .ref q3, .null, .int 0, .int 0, .int 0, .int 0]))], (wN cI q1 c2 (n0 78)), (wN cI q3 c4 (n0 6))]) (met_X4_init l D cI q5 6 (by decide)) y_X4_init mw_3_1 dX2_init_42 rfl n_X4_init (by decide) ⟨Nat.le_of_ble_eq_true rfl, Nat.le_of_ble_eq_true rfl⟩ (Nat.le_of_ble_eq_true rfl) (z_pm [3, 0, 1, 2] 4 rfl (by decide) rfl) ?_
  intro c6 hc6
  refine z_bs [(wN cI q5 c6 (n0 6)), [(q, .inr (1, [.int p1, .ref q1, .ref q3, .null, .int 0, .int 0, .int 0, .int 0]))], (wN cI q1 c2 (n0 78)), (wN cI q3 c4 (n0 6))] [.ref q5, .ref q] rfl rfl ?_
  refine z_perm C [[(q, .inr (1, [.int p1, .ref q1, .ref q3, .null, .int 0, .int 0, .int 0, .int 0]))], (wN cI q1 c2 (n0 78)), (wN cI q3 c4 (n0 6)), (wN cI q5 c6 (n0 6))] (z_pm [1, 2, 3, 0] 4 rfl (by decide) rfl) ?_
  refine z_putF C inlX2 rfl tyX2 tyX2_ok nmX2 3 (by decide) mw_3_0 rfl hin rfl rfl rfl rfl dX2_init_45 0 0 rfl rfl (Nat.le_of_ble_eq_true rfl) [[(q, .inr (1, [.int p1, .ref q1, .ref q3, .ref q5, .int 0, .int 0, .int 0, .int 0]))], (wN cI q1 c2 (n0 78)), (wN cI q3 c4 (n0 6)), (wN cI q5 c6 (n0 6))] rfl ?_
  exact z_vret C rfl (gl [q, q1, c2, q3, c4, q5, c6]) rfl (by rfl) rfl dX2_init_48
def rmX5_init : Room := { frames := 3, cells := 27, slots := 552, locals := 66 }
set_option maxHeartbeats 4000000 in
set_option maxRecDepth 100000 in
theorem met_X5_init (l : Launch) (D : va_G) (cI : ClassId) (q : Nat) : ZM l D cI yX5_init cX5_init 1 none rmX5_init [.ref q] [[(q, .inr (4, [.null, .null, .null, .null, .null, .null]))]] (fun _ : (Nat → Nat) => none) (fun g => [wS cI g t0]) (fun g => g 0 = q) := by
  refine z_body [some (.ref q)] (by decide +kernel) rfl (Nat.le_of_ble_eq_true rfl) rfl ?_
  intro p e s m args below meth c A C hin
  refine z_aload_n C dX5_init_0 rfl ?_
  refine z_objInit (yc := ⟨#[]⟩) C mw_2_3 mw_1_7 mw_1_8 dX5_init_1 (Nat.le_of_ble_eq_true rfl) (Nat.le_of_ble_eq_true rfl) ?_
  refine z_aload_n C dX5_init_4 rfl ?_
  refine z_new (ci := 1) C inlX2 rfl tyX2 tyX2_ok mw_2_4 mw_2_5 mw_2_6 [.int 0, .null, .null, .null, .int 0, .int 0, .int 0, .int 0] (fun j hj => by rcases (show j = 0 ∨ j = 1 ∨ j = 2 ∨ j = 3 ∨ j = 4 ∨ j = 5 ∨ j = 6 ∨ j = 7 by omega) with rfl | rfl | rfl | rfl | rfl | rfl | rfl | rfl <;> rfl) ⟨Nat.le_of_ble_eq_true rfl, Nat.le_of_ble_eq_true rfl⟩ dX5_init_5 (fun q1 => ?_)
  refine z_bs [[(q, .inr (4, [.null, .null, .null, .null, .null, .null]))], [(q1, .inr (1, [.int 0, .null, .null, .null, .int 0, .int 0, .int 0, .int 0]))]] [.ref q1, .ref q] rfl rfl ?_
  refine z_dup C dX5_init_8 rfl ?_
  refine z_iconst C dX5_init_9 0 (by decide +kernel) ?_
  refine z_callI (yr := none) C (wc := [[(q1, .inr (1, [.int 0, .null, .null, .null, .int 0, .int 0, .int 0, .int 0]))]]) (wr := [[(q, .inr (4, [.null, .null, .null, .null, .null, .null]))]]) (met_X2_init l D cI q1 0) y_X2_init mw_2_16 dX5_init_10 rfl n_X2_init (by decide) ⟨Nat.le_of_ble_eq_true rfl, Nat.le_of_ble_eq_true rfl⟩ (Nat.le_of_ble_eq_true rfl) (z_pm [1, 0] 2 rfl (by decide) rfl) ?_
  intro g2 hg2
  refine z_bs [(wE cI g2 (e0 0)), [(q, .inr (4, [.null, .null, .null, .null, .null, .null]))]] [.ref q1, .ref q] rfl rfl ?_
  refine z_perm C [[(q, .inr (4, [.null, .null, .null, .null, .null, .null]))], (wE cI g2 (e0 0))] (z_pm [1, 0] 2 rfl (by decide) rfl) ?_
  refine z_putF C inlX5 rfl tyX5 tyX5_ok nmX5 0 (by decide) mw_2_7 rfl hin rfl rfl rfl rfl dX5_init_13 0 0 rfl rfl (Nat.le_of_ble_eq_true rfl) [[(q, .inr (4, [.ref q1, .null, .null, .null, .null, .null]))], (wE cI g2 (e0 0))] rfl ?_
  refine z_aload_n C dX5_init_16 rfl ?_
  refine z_new (ci := 1) C inlX2 rfl tyX2 tyX2_ok mw_2_4 mw_2_5 mw_2_6 [.int 0, .null, .null, .null, .int 0, .int 0, .int 0, .int 0] (fun j hj => by rcases (show j = 0 ∨ j = 1 ∨ j = 2 ∨ j = 3 ∨ j = 4 ∨ j = 5 ∨ j = 6 ∨ j = 7 by omega) with rfl | rfl | rfl | rfl | rfl | rfl | rfl | rfl <;> rfl) ⟨Nat.le_of_ble_eq_true rfl, Nat.le_of_ble_eq_true rfl⟩ dX5_init_17 (fun q3 => ?_)
  refine z_bs [[(q, .inr (4, [.ref q1, .null, .null, .null, .null, .null]))], (wE cI g2 (e0 0)), [(q3, .inr (1, [.int 0, .null, .null, .null, .int 0, .int 0, .int 0, .int 0]))]] [.ref q3, .ref q] rfl rfl ?_
  refine z_dup C dX5_init_20 rfl ?_
  refine z_iconst C dX5_init_21 1 (by decide +kernel) ?_
  refine z_callI (yr := none) C (wc := [[(q3, .inr (1, [.int 0, .null, .null, .null, .int 0, .int 0, .int 0, .int 0]))]]) (wr := [[(q, .inr (4, [.ref q1, .null, .null, .null, .null, .null]))], (wE cI g2 (e0 0))]) (met_X2_init l D cI q3 1) y_X2_init mw_2_16 dX5_init_22 rfl n_X2_init (by decide) ⟨Nat.le_of_ble_eq_true rfl, Nat.le_of_ble_eq_true rfl⟩ (Nat.le_of_ble_eq_true rfl) (z_pm [2, 0, 1] 3 rfl (by decide) rfl) ?_
  intro g4 hg4
  refine z_bs [(wE cI g4 (e0 1)), [(q, .inr (4, [.ref q1, .null, .null, .null, .null, .null]))], (wE cI g2 (e0 0))] [.ref q3, .ref q] rfl rfl ?_
  refine z_perm C [[(q, .inr (4, [.ref q1, .null, .null, .null, .null, .null]))], (wE cI g2 (e0 0)), (wE cI g4 (e0 1))] (z_pm [1, 2, 0] 3 rfl (by decide) rfl) ?_
  refine z_putF C inlX5 rfl tyX5 tyX5_ok nmX5 1 (by decide) mw_2_8 rfl hin rfl rfl rfl rfl dX5_init_25 0 0 rfl rfl (Nat.le_of_ble_eq_true rfl) [[(q, .inr (4, [.ref q1, .ref q3, .null, .null, .null, .null]))], (wE cI g2 (e0 0)), (wE cI g4 (e0 1))] rfl ?_
  refine z_aload_n C dX5_init_28 rfl ?_
  refine z_new (ci := 1) C inlX2 rfl tyX2 tyX2_ok mw_2_4 mw_2_5 mw_2_6 [.int 0, .null, .null, .null, .int 0, .int 0, .int 0, .int 0] (fun j hj => by rcases (show j = 0 ∨ j = 1 ∨ j = 2 ∨ j = 3 ∨ j = 4 ∨ j = 5 ∨ j = 6 ∨ j = 7 by omega) with rfl | rfl | rfl | rfl | rfl | rfl | rfl | rfl <;> rfl) ⟨Nat.le_of_ble_eq_true rfl, Nat.le_of_ble_eq_true rfl⟩ dX5_init_29 (fun q5 => ?_)
  refine z_bs [[(q, .inr (4, [.ref q1, .ref q3, .null, .null, .null, .null]))], (wE cI g2 (e0 0)), (wE cI g4 (e0 1)), [(q5, .inr (1, [.int 0, .null, .null, .null, .int 0, .int 0, .int 0, .int 0]))]] [.ref q5, .ref q] rfl rfl ?_
  refine z_dup C dX5_init_32 rfl ?_
  refine z_iconst C dX5_init_33 2 (by decide +kernel) ?_
  refine z_callI (yr := none) C (wc := [[(q5, .inr (1, [.int 0, .null, .null, .null, .int 0, .int 0, .int 0, .int 0]))]]) (wr := [[(q, .inr (4, [.ref q1, .ref q3, .null, .null, .null, .null]))], (wE cI g2 (e0 0)), (wE cI g4 (e0 1))]) (met_X2_init l D cI q5 2) y_X2_init mw_2_16 dX5_init_34 rfl n_X2_init (by decide) ⟨Nat.le_of_ble_eq_true rfl, Nat.le_of_ble_eq_true rfl⟩ (Nat.le_of_ble_eq_true rfl) (z_pm [3, 0, 1, 2] 4 rfl (by decide) rfl) ?_
  intro g6 hg6
  refine z_bs [(wE cI g6 (e0 2)), [(q, .inr (4, [.ref q1, .ref q3, .null, .null, .null, .null]))], (wE cI g2 (e0 0)), (wE cI g4 (e0 1))] [.ref q5, .ref q] rfl rfl ?_
  refine z_perm C [[(q, .inr (4, [.ref q1, .ref q3, .null, .null, .null, .null]))], (wE cI g2 (e0 0)), (wE cI g4 (e0 1)), (wE cI g6 (e0 2))] (z_pm [1, 2, 3, 0] 4 rfl (by decide) rfl) ?_
  refine z_putF C inlX5 rfl tyX5 tyX5_ok nmX5 2 (by decide) mw_2_9 rfl hin rfl rfl rfl rfl dX5_init_37 0 0 rfl rfl (Nat.le_of_ble_eq_true rfl) [[(q, .inr (4, [.ref q1, .ref q3, .ref q5, .null, .null, .null]))], (wE cI g2 (e0 0)), (wE cI g4 (e0 1)), (wE cI g6 (e0 2))] rfl ?_
  refine z_aload_n C dX5_init_40 rfl ?_
  refine z_new (ci := 3) C inlX4 rfl tyX4 tyX4_ok mw_2_10 mw_2_11 mw_2_12 [.null, .int 0] (fun j hj => by rcases (show j = 0 ∨ j = 1 by omega) with rfl | rfl <;> rfl) ⟨Nat.le_of_ble_eq_true rfl, Nat.le_of_ble_eq_true rfl⟩ dX5_init_41 (fun q7 => ?_)
  refine z_bs [[(q, .inr (4, [.ref q1, .ref q3, .ref q5, .null, .null, .null]))], (wE cI g2 (e0 0)), (wE cI g4 (e0 1)), (wE cI g6 (e0 2)), [(q7, .inr (3, [.null, .int 0]))]] [.ref q7, .ref q] rfl rfl ?_
  refine z_dup C dX5_init_44 rfl ?_
  refine z_bipush C dX5_init_45 78 (by decide +kernel) ?_
  refine z_top C (nI 78) (by decide +kernel) ?_
  refine z_callI (yr := none) C (wc := [[(q7, .inr (3, [.null, .int 0]))]]) (wr := [[(q, .inr (4, [.ref q1, .ref q3, .ref q5, .null, .null, .null]))], (wE cI g2 (e0 0)), (wE cI g4 (e0 1)), (wE cI g6 (e0 2))]) (met_X4_init l D cI q7 78 (by decide)) y_X4_init mw_3_12 dX5_init_47 rfl n_X4_init (by decide) ⟨Nat.le_of_ble_eq_true rfl, Nat.le_of_ble_eq_true rfl⟩ (Nat.le_of_ble_eq_true rfl) (z_pm [4, 0, 1, 2, 3] 5 rfl (by decide) rfl) ?_
  intro c8 hc8
  refine z_bs [(wN cI q7 c8 (n0 78)), [(q, .inr (4, [.ref q1, .ref q3, .ref q5, .null, .null, .null]))], (wE cI g2 (e0 0)), (wE cI g4 (e0 1)), (wE cI g6 (e0 2))] [.ref q7, .ref q] rfl rfl ?_
  refine z_perm C [[(q, .inr (4, [.ref q1, .ref q3, .ref q5, .null, .null, .null]))], (wE cI g2 (e0 0)), (wE cI g4 (e0 1)), (wE cI g6 (e0 2)), (wN cI q7 c8 (n0 78))] (z_pm [1, 2, 3, 4, 0] 5 rfl (by decide) rfl) ?_
  refine z_putF C inlX5 rfl tyX5 tyX5_ok nmX5 3 (by decide) mw_2_13 rfl hin rfl rfl rfl rfl dX5_init_50 0 0 rfl rfl (Nat.le_of_ble_eq_true rfl) [[(q, .inr (4, [.ref q1, .ref q3, .ref q5, .ref q7, .null, .null]))], (wE cI g2 (e0 0)), (wE cI g4 (e0 1)), (wE cI g6 (e0 2)), (wN cI q7 c8 (n0 78))] rfl ?_
  refine z_aload_n C dX5_init_53 rfl ?_
  refine z_new (ci := 3) C inlX4 rfl tyX4 tyX4_ok mw_2_10 mw_2_11 mw_2_12 [.null, .int 0] (fun j hj => by rcases (show j = 0 ∨ j = 1 by omega) with rfl | rfl <;> rfl) ⟨Nat.le_of_ble_eq_true rfl, Nat.le_of_ble_eq_true rfl⟩ dX5_init_54 (fun q9 => ?_)
  refine z_bs [[(q, .inr (4, [.ref q1, .ref q3, .ref q5, .ref q7, .null, .null]))], (wE cI g2 (e0 0)), (wE cI g4 (e0 1)), (wE cI g6 (e0 2)), (wN cI q7 c8 (n0 78)), [(q9, .inr (3, [.null, .int 0]))]] [.ref q9, .ref q] rfl rfl ?_
  refine z_dup C dX5_init_57 rfl ?_
  refine z_bipush C dX5_init_58 78 (by decide +kernel) ?_
  refine z_top C (nI 78) (by decide +kernel) ?_
  refine z_callI (yr := none) C (wc := [[(q9, .inr (3, [.null, .int 0]))]]) (wr := [[(q, .inr (4, [.ref q1, .ref q3, .ref q5, .ref q7, .null, .null]))], (wE cI g2 (e0 0)), (wE cI g4 (e0 1)), (wE cI g6 (e0 2)), (wN cI q7 c8 (n0 78))]) (met_X4_init l D cI q9 78 (by decide)) y_X4_init mw_3_12 dX5_init_60 rfl n_X4_init (by decide) ⟨Nat.le_of_ble_eq_true rfl, Nat.le_of_ble_eq_true rfl⟩ (Nat.le_of_ble_eq_true rfl) (z_pm [5, 0, 1, 2, 3, 4] 6 rfl (by decide) rfl) ?_
  intro c10 hc10
  refine z_bs [(wN cI q9 c10 (n0 78)), [(q, .inr (4, [.ref q1, .ref q3, .ref q5, .ref q7, .null, .null]))], (wE cI g2 (e0 0)), (wE cI g4 (e0 1)), (wE cI g6 (e0 2)), (wN cI q7 c8 (n0 78))] [.ref q9, .ref q] rfl rfl ?_
  refine z_perm C [[(q, .inr (4, [.ref q1, .ref q3, .ref q5, .ref q7, .null, .null]))], (wE cI g2 (e0 0)), (wE cI g4 (e0 1)), (wE cI g6 (e0 2)), (wN cI q7 c8 (n0 78)), (wN cI q9 c10 (n0 78))] (z_pm [1, 2, 3, 4, 5, 0] 6 rfl (by decide) rfl) ?_
  refine z_putF C inlX5 rfl tyX5 tyX5_ok nmX5 4 (by decide) mw_2_14 rfl hin rfl rfl rfl rfl dX5_init_63 0 0 rfl rfl (Nat.le_of_ble_eq_true rfl) [[(q, .inr (4, [.ref q1, .ref q3, .ref q5, .ref q7, .ref q9, .null]))], (wE cI g2 (e0 0)), (wE cI g4 (e0 1)), (wE cI g6 (e0 2)), (wN cI q7 c8 (n0 78)), (wN cI q9 c10 (n0 78))] rfl ?_
  refine z_aload_n C dX5_init_66 rfl ?_
  refine z_new (ci := 3) C inlX4 rfl tyX4 tyX4_ok mw_2_10 mw_2_11 mw_2_12 [.null, .int 0] (fun j hj => by rcases (show j = 0 ∨ j = 1 by omega) with rfl | rfl <;> rfl) ⟨Nat.le_of_ble_eq_true rfl, Nat.le_of_ble_eq_true rfl⟩ dX5_init_67 (fun q11 => ?_)
  refine z_bs [[(q, .inr (4, [.ref q1, .ref q3, .ref q5, .ref q7, .ref q9, .null]))], (wE cI g2 (e0 0)), (wE cI g4 (e0 1)), (wE cI g6 (e0 2)), (wN cI q7 c8 (n0 78)), (wN cI q9 c10 (n0 78)), [(q11, .inr (3, [.null, .int 0]))]] [.ref q11, .ref q] rfl rfl ?_
  refine z_dup C dX5_init_70 rfl ?_
  refine z_bipush C dX5_init_71 78 (by decide +kernel) ?_
  refine z_top C (nI 78) (by decide +kernel) ?_
  refine z_callI (yr := none) C (wc := [[(q11, .inr (3, [.null, .int 0]))]]) (wr := [[(q, .inr (4, [.ref q1, .ref q3, .ref q5, .ref q7, .ref q9, .null]))], (wE cI g2 (e0 0)), (wE cI g4 (e0 1)), (wE cI g6 (e0 2)), (wN cI q7 c8 (n0 78)), (wN cI q9 c10 (n0 78))]) (met_X4_init l D cI q11 78 (by decide)) y_X4_init mw_3_12 dX5_init_73 rfl n_X4_init (by decide) ⟨Nat.le_of_ble_eq_true rfl, Nat.le_of_ble_eq_true rfl⟩ (Nat.le_of_ble_eq_true rfl) (z_pm [6, 0, 1, 2, 3, 4, 5] 7 rfl (by decide) rfl) ?_
  intro c12 hc12
  refine z_bs [(wN cI q11 c12 (n0 78)), [(q, .inr (4, [.ref q1, .ref q3, .ref q5, .ref q7, .ref q9, .null]))], (wE cI g2 (e0 0)), (wE cI g4 (e0 1)), (wE cI g6 (e0 2)), (wN cI q7 c8 (n0 78)), (wN cI q9 c10 (n0 78))] [.ref q11, .ref q] rfl rfl ?_
  refine z_perm C [[(q, .inr (4, [.ref q1, .ref q3, .ref q5, .ref q7, .ref q9, .null]))], (wE cI g2 (e0 0)), (wE cI g4 (e0 1)), (wE cI g6 (e0 2)), (wN cI q7 c8 (n0 78)), (wN cI q9 c10 (n0 78)), (wN cI q11 c12 (n0 78))] (z_pm [1, 2, 3, 4, 5, 6, 0] 7 rfl (by decide) rfl) ?_
  refine z_putF C inlX5 rfl tyX5 tyX5_ok nmX5 5 (by decide) mw_2_15 rfl hin rfl rfl rfl rfl dX5_init_76 0 0 rfl rfl (Nat.le_of_ble_eq_true rfl) [[(q, .inr (4, [.ref q1, .ref q3, .ref q5, .ref q7, .ref q9, .ref q11]))], (wE cI g2 (e0 0)), (wE cI g4 (e0 1)), (wE cI g6 (e0 2)), (wN cI q7 c8 (n0 78)), (wN cI q9 c10 (n0 78)), (wN cI q11 c12 (n0 78))] rfl ?_
  subst hg2
  subst hg4
  subst hg6
  exact z_vret C rfl (gl [q, g2 0, g2 1, g2 2, g2 3, g2 4, g2 5, g2 6, g4 0, g4 1, g4 2, g4 3, g4 4, g4 5, g4 6, g6 0, g6 1, g6 2, g6 3, g6 4, g6 5, g6 6, q7, c8, q9, c10, q11, c12]) rfl (by rfl) rfl dX5_init_79
def rmX3_init : Room := { frames := 4, cells := 140, slots := 2790, locals := 86 }
set_option maxHeartbeats 4000000 in
set_option maxRecDepth 100000 in
theorem met_X3_init (l : Launch) (D : va_G) (cI : ClassId) (q : Nat) : ZM l D cI yX3_init cX3_init 1 none rmX3_init [.ref q] [[(q, .inr (2, [.null, .null, .null, .null, .null, .int 0]))]] (fun _ : (Nat → Nat → Nat) => none) (fun g => [wHo q (g 0 0) (g 1 0) (g 2 0) (g 3 0) (g 4 0) 0, wS cI (g 0) t0, wS cI (g 1) t0, wS cI (g 2) t0, wS cI (g 3) t0, wS cI (g 4) t0]) (fun _ => True) := by
  refine z_body [some (.ref q)] (by decide +kernel) rfl (Nat.le_of_ble_eq_true rfl) rfl ?_
  intro p e s m args below meth c A C hin
  refine z_aload_n C dX3_init_0 rfl ?_
  refine z_objInit (yc := ⟨#[]⟩) C mw_3_16 mw_1_7 mw_1_8 dX3_init_1 (Nat.le_of_ble_eq_true rfl) (Nat.le_of_ble_eq_true rfl) ?_
  refine z_aload_n C dX3_init_4 rfl ?_
  refine z_new (ci := 4) C inlX5 rfl tyX5 tyX5_ok mw_3_17 mw_1_10 mw_1_11 [.null, .null, .null, .null, .null, .null] (fun j hj => by rcases (show j = 0 ∨ j = 1 ∨ j = 2 ∨ j = 3 ∨ j = 4 ∨ j = 5 by omega) with rfl | rfl | rfl | rfl | rfl | rfl <;> rfl) ⟨Nat.le_of_ble_eq_true rfl, Nat.le_of_ble_eq_true rfl⟩ dX3_init_5 (fun q1 => ?_)
  refine z_bs [[(q, .inr (2, [.null, .null, .null, .null, .null, .int 0]))], [(q1, .inr (4, [.null, .null, .null, .null, .null, .null]))]] [.ref q1, .ref q] rfl rfl ?_
  refine z_dup C dX3_init_8 rfl ?_
  refine z_callI (yr := none) C (wc := [[(q1, .inr (4, [.null, .null, .null, .null, .null, .null]))]]) (wr := [[(q, .inr (2, [.null, .null, .null, .null, .null, .int 0]))]]) (met_X5_init l D cI q1) y_X5_init mw_3_23 dX3_init_9 rfl n_X5_init (by decide) ⟨Nat.le_of_ble_eq_true rfl, Nat.le_of_ble_eq_true rfl⟩ (Nat.le_of_ble_eq_true rfl) (z_pm [1, 0] 2 rfl (by decide) rfl) ?_
  intro g2 hg2
  refine z_bs [(wS cI g2 t0), [(q, .inr (2, [.null, .null, .null, .null, .null, .int 0]))]] [.ref q1, .ref q] rfl rfl ?_
  refine z_perm C [[(q, .inr (2, [.null, .null, .null, .null, .null, .int 0]))], (wS cI g2 t0)] (z_pm [1, 0] 2 rfl (by decide) rfl) ?_
  refine z_put C inlX3 rfl tyX3 tyX3_ok nmX3 0 (by decide) mw_3_18 rfl rfl rfl rfl dX3_init_12 0 0 rfl rfl (Nat.le_of_ble_eq_true rfl) [[(q, .inr (2, [.ref q1, .null, .null, .null, .null, .int 0]))], (wS cI g2 t0)] rfl ?_
  refine z_aload_n C dX3_init_15 rfl ?_
  refine z_new (ci := 4) C inlX5 rfl tyX5 tyX5_ok mw_3_17 mw_1_10 mw_1_11 [.null, .null, .null, .null, .null, .null] (fun j hj => by rcases (show j = 0 ∨ j = 1 ∨ j = 2 ∨ j = 3 ∨ j = 4 ∨ j = 5 by omega) with rfl | rfl | rfl | rfl | rfl | rfl <;> rfl) ⟨Nat.le_of_ble_eq_true rfl, Nat.le_of_ble_eq_true rfl⟩ dX3_init_16 (fun q3 => ?_)
  refine z_bs [[(q, .inr (2, [.ref q1, .null, .null, .null, .null, .int 0]))], (wS cI g2 t0), [(q3, .inr (4, [.null, .null, .null, .null, .null, .null]))]] [.ref q3, .ref q] rfl rfl ?_
  refine z_dup C dX3_init_19 rfl ?_
  refine z_callI (yr := none) C (wc := [[(q3, .inr (4, [.null, .null, .null, .null, .null, .null]))]]) (wr := [[(q, .inr (2, [.ref q1, .null, .null, .null, .null, .int 0]))], (wS cI g2 t0)]) (met_X5_init l D cI q3) y_X5_init mw_3_23 dX3_init_20 rfl n_X5_init (by decide) ⟨Nat.le_of_ble_eq_true rfl, Nat.le_of_ble_eq_true rfl⟩ (Nat.le_of_ble_eq_true rfl) (z_pm [2, 0, 1] 3 rfl (by decide) rfl) ?_
  intro g4 hg4
  refine z_bs [(wS cI g4 t0), [(q, .inr (2, [.ref q1, .null, .null, .null, .null, .int 0]))], (wS cI g2 t0)] [.ref q3, .ref q] rfl rfl ?_
  refine z_perm C [[(q, .inr (2, [.ref q1, .null, .null, .null, .null, .int 0]))], (wS cI g2 t0), (wS cI g4 t0)] (z_pm [1, 2, 0] 3 rfl (by decide) rfl) ?_
  refine z_put C inlX3 rfl tyX3 tyX3_ok nmX3 1 (by decide) mw_3_19 rfl rfl rfl rfl dX3_init_23 0 0 rfl rfl (Nat.le_of_ble_eq_true rfl) [[(q, .inr (2, [.ref q1, .ref q3, .null, .null, .null, .int 0]))], (wS cI g2 t0), (wS cI g4 t0)] rfl ?_
  refine z_aload_n C dX3_init_26 rfl ?_
  refine z_new (ci := 4) C inlX5 rfl tyX5 tyX5_ok mw_3_17 mw_1_10 mw_1_11 [.null, .null, .null, .null, .null, .null] (fun j hj => by rcases (show j = 0 ∨ j = 1 ∨ j = 2 ∨ j = 3 ∨ j = 4 ∨ j = 5 by omega) with rfl | rfl | rfl | rfl | rfl | rfl <;> rfl) ⟨Nat.le_of_ble_eq_true rfl, Nat.le_of_ble_eq_true rfl⟩ dX3_init_27 (fun q5 => ?_)
  refine z_bs [[(q, .inr (2, [.ref q1, .ref q3, .null, .null, .null, .int 0]))], (wS cI g2 t0), (wS cI g4 t0), [(q5, .inr (4, [.null, .null, .null, .null, .null, .null]))]] [.ref q5, .ref q] rfl rfl ?_
  refine z_dup C dX3_init_30 rfl ?_
  refine z_callI (yr := none) C (wc := [[(q5, .inr (4, [.null, .null, .null, .null, .null, .null]))]]) (wr := [[(q, .inr (2, [.ref q1, .ref q3, .null, .null, .null, .int 0]))], (wS cI g2 t0), (wS cI g4 t0)]) (met_X5_init l D cI q5) y_X5_init mw_3_23 dX3_init_31 rfl n_X5_init (by decide) ⟨Nat.le_of_ble_eq_true rfl, Nat.le_of_ble_eq_true rfl⟩ (Nat.le_of_ble_eq_true rfl) (z_pm [3, 0, 1, 2] 4 rfl (by decide) rfl) ?_
  intro g6 hg6
  refine z_bs [(wS cI g6 t0), [(q, .inr (2, [.ref q1, .ref q3, .null, .null, .null, .int 0]))], (wS cI g2 t0), (wS cI g4 t0)] [.ref q5, .ref q] rfl rfl ?_
  refine z_perm C [[(q, .inr (2, [.ref q1, .ref q3, .null, .null, .null, .int 0]))], (wS cI g2 t0), (wS cI g4 t0), (wS cI g6 t0)] (z_pm [1, 2, 3, 0] 4 rfl (by decide) rfl) ?_
  refine z_put C inlX3 rfl tyX3 tyX3_ok nmX3 2 (by decide) mw_3_20 rfl rfl rfl rfl dX3_init_34 0 0 rfl rfl (Nat.le_of_ble_eq_true rfl) [[(q, .inr (2, [.ref q1, .ref q3, .ref q5, .null, .null, .int 0]))], (wS cI g2 t0), (wS cI g4 t0), (wS cI g6 t0)] rfl ?_
  refine z_aload_n C dX3_init_37 rfl ?_
  refine z_new (ci := 4) C inlX5 rfl tyX5 tyX5_ok mw_3_17 mw_1_10 mw_1_11 [.null, .null, .null, .null, .null, .null] (fun j hj => by rcases (show j = 0 ∨ j = 1 ∨ j = 2 ∨ j = 3 ∨ j = 4 ∨ j = 5 by omega) with rfl | rfl | rfl | rfl | rfl | rfl <;> rfl) ⟨Nat.le_of_ble_eq_true rfl, Nat.le_of_ble_eq_true rfl⟩ dX3_init_38 (fun q7 => ?_)
  refine z_bs [[(q, .inr (2, [.ref q1, .ref q3, .ref q5, .null, .null, .int 0]))], (wS cI g2 t0), (wS cI g4 t0), (wS cI g6 t0), [(q7, .inr (4, [.null, .null, .null, .null, .null, .null]))]] [.ref q7, .ref q] rfl rfl ?_
  refine z_dup C dX3_init_41 rfl ?_
  refine z_callI (yr := none) C (wc := [[(q7, .inr (4, [.null, .null, .null, .null, .null, .null]))]]) (wr := [[(q, .inr (2, [.ref q1, .ref q3, .ref q5, .null, .null, .int 0]))], (wS cI g2 t0), (wS cI g4 t0), (wS cI g6 t0)]) (met_X5_init l D cI q7) y_X5_init mw_3_23 dX3_init_42 rfl n_X5_init (by decide) ⟨Nat.le_of_ble_eq_true rfl, Nat.le_of_ble_eq_true rfl⟩ (Nat.le_of_ble_eq_true rfl) (z_pm [4, 0, 1, 2, 3] 5 rfl (by decide) rfl) ?_
  intro g8 hg8
  refine z_bs [(wS cI g8 t0), [(q, .inr (2, [.ref q1, .ref q3, .ref q5, .null, .null, .int 0]))], (wS cI g2 t0), (wS cI g4 t0), (wS cI g6 t0)] [.ref q7, .ref q] rfl rfl ?_
  refine z_perm C [[(q, .inr (2, [.ref q1, .ref q3, .ref q5, .null, .null, .int 0]))], (wS cI g2 t0), (wS cI g4 t0), (wS cI g6 t0), (wS cI g8 t0)] (z_pm [1, 2, 3, 4, 0] 5 rfl (by decide) rfl) ?_
  refine z_put C inlX3 rfl tyX3 tyX3_ok nmX3 3 (by decide) mw_3_21 rfl rfl rfl rfl dX3_init_45 0 0 rfl rfl (Nat.le_of_ble_eq_true rfl) [[(q, .inr (2, [.ref q1, .ref q3, .ref q5, .ref q7, .null, .int 0]))], (wS cI g2 t0), (wS cI g4 t0), (wS cI g6 t0), (wS cI g8 t0)] rfl ?_
  refine z_aload_n C dX3_init_48 rfl ?_
  refine z_new (ci := 4) C inlX5 rfl tyX5 tyX5_ok mw_3_17 mw_1_10 mw_1_11 [.null, .null, .null, .null, .null, .null] (fun j hj => by rcases (show j = 0 ∨ j = 1 ∨ j = 2 ∨ j = 3 ∨ j = 4 ∨ j = 5 by omega) with rfl | rfl | rfl | rfl | rfl | rfl <;> rfl) ⟨Nat.le_of_ble_eq_true rfl, Nat.le_of_ble_eq_true rfl⟩ dX3_init_49 (fun q9 => ?_)
  refine z_bs [[(q, .inr (2, [.ref q1, .ref q3, .ref q5, .ref q7, .null, .int 0]))], (wS cI g2 t0), (wS cI g4 t0), (wS cI g6 t0), (wS cI g8 t0), [(q9, .inr (4, [.null, .null, .null, .null, .null, .null]))]] [.ref q9, .ref q] rfl rfl ?_
  refine z_dup C dX3_init_52 rfl ?_
  refine z_callI (yr := none) C (wc := [[(q9, .inr (4, [.null, .null, .null, .null, .null, .null]))]]) (wr := [[(q, .inr (2, [.ref q1, .ref q3, .ref q5, .ref q7, .null, .int 0]))], (wS cI g2 t0), (wS cI g4 t0), (wS cI g6 t0), (wS cI g8 t0)]) (met_X5_init l D cI q9) y_X5_init mw_3_23 dX3_init_53 rfl n_X5_init (by decide) ⟨Nat.le_of_ble_eq_true rfl, Nat.le_of_ble_eq_true rfl⟩ (Nat.le_of_ble_eq_true rfl) (z_pm [5, 0, 1, 2, 3, 4] 6 rfl (by decide) rfl) ?_
  intro g10 hg10
  refine z_bs [(wS cI g10 t0), [(q, .inr (2, [.ref q1, .ref q3, .ref q5, .ref q7, .null, .int 0]))], (wS cI g2 t0), (wS cI g4 t0), (wS cI g6 t0), (wS cI g8 t0)] [.ref q9, .ref q] rfl rfl ?_
  refine z_perm C [[(q, .inr (2, [.ref q1, .ref q3, .ref q5, .ref q7, .null, .int 0]))], (wS cI g2 t0), (wS cI g4 t0), (wS cI g6 t0), (wS cI g8 t0), (wS cI g10 t0)] (z_pm [1, 2, 3, 4, 5, 0] 6 rfl (by decide) rfl) ?_
  refine z_put C inlX3 rfl tyX3 tyX3_ok nmX3 4 (by decide) mw_3_22 rfl rfl rfl rfl dX3_init_56 0 0 rfl rfl (Nat.le_of_ble_eq_true rfl) [[(q, .inr (2, [.ref q1, .ref q3, .ref q5, .ref q7, .ref q9, .int 0]))], (wS cI g2 t0), (wS cI g4 t0), (wS cI g6 t0), (wS cI g8 t0), (wS cI g10 t0)] rfl ?_
  subst hg2
  subst hg4
  subst hg6
  subst hg8
  subst hg10
  exact z_vret C rfl (z5 g2 g4 g6 g8 g10) rfl (by trivial) rfl dX3_init_59
def rmX1_init : Room := { frames := 2, cells := 4, slots := 67, locals := 45 }
set_option maxHeartbeats 4000000 in
set_option maxRecDepth 100000 in
theorem met_X1_init (l : Launch) (D : va_G) (cI : ClassId) (q : Nat) : ZM l D cI yX1_init cX1_init 1 none rmX1_init [.ref q] [[(q, .inr (0, [.null, .null, .int 0, .int 0, .int 0, .int 0]))]] (fun _ : (Nat → Nat) => none) (fun g => [wC cI g cm0]) (fun g => g 0 = q) := by
  refine z_body [some (.ref q)] (by decide +kernel) rfl (Nat.le_of_ble_eq_true rfl) rfl ?_
  intro p e s m args below meth c A C hin
  refine z_aload_n C dX1_init_0 rfl ?_
  refine z_objInit (yc := ⟨#[]⟩) C mw_4_3 mw_1_7 mw_1_8 dX1_init_1 (Nat.le_of_ble_eq_true rfl) (Nat.le_of_ble_eq_true rfl) ?_
  refine z_aload_n C dX1_init_4 rfl ?_
  refine z_new (ci := 3) C inlX4 rfl tyX4 tyX4_ok mw_4_4 mw_2_11 mw_2_12 [.null, .int 0] (fun j hj => by rcases (show j = 0 ∨ j = 1 by omega) with rfl | rfl <;> rfl) ⟨Nat.le_of_ble_eq_true rfl, Nat.le_of_ble_eq_true rfl⟩ dX1_init_5 (fun q1 => ?_)
  refine z_bs [[(q, .inr (0, [.null, .null, .int 0, .int 0, .int 0, .int 0]))], [(q1, .inr (3, [.null, .int 0]))]] [.ref q1, .ref q] rfl rfl ?_
  refine z_dup C dX1_init_8 rfl ?_
  refine z_bipush C dX1_init_9 60 (by decide +kernel) ?_
  refine z_top C (nI 60) (by decide +kernel) ?_
  refine z_callI (yr := none) C (wc := [[(q1, .inr (3, [.null, .int 0]))]]) (wr := [[(q, .inr (0, [.null, .null, .int 0, .int 0, .int 0, .int 0]))]]) (met_X4_init l D cI q1 60 (by decide)) y_X4_init mw_4_7 dX1_init_11 rfl n_X4_init (by decide) ⟨Nat.le_of_ble_eq_true rfl, Nat.le_of_ble_eq_true rfl⟩ (Nat.le_of_ble_eq_true rfl) (z_pm [1, 0] 2 rfl (by decide) rfl) ?_
  intro c2 hc2
  refine z_bs [(wN cI q1 c2 (n0 60)), [(q, .inr (0, [.null, .null, .int 0, .int 0, .int 0, .int 0]))]] [.ref q1, .ref q] rfl rfl ?_
  refine z_perm C [[(q, .inr (0, [.null, .null, .int 0, .int 0, .int 0, .int 0]))], (wN cI q1 c2 (n0 60))] (z_pm [1, 0] 2 rfl (by decide) rfl) ?_
  refine z_putF C inlX1 rfl tyX1 tyX1_ok nmX1 0 (by decide) mw_4_5 rfl hin rfl rfl rfl rfl dX1_init_14 0 0 rfl rfl (Nat.le_of_ble_eq_true rfl) [[(q, .inr (0, [.ref q1, .null, .int 0, .int 0, .int 0, .int 0]))], (wN cI q1 c2 (n0 60))] rfl ?_
  refine z_aload_n C dX1_init_17 rfl ?_
  refine z_new (ci := 3) C inlX4 rfl tyX4 tyX4_ok mw_4_4 mw_2_11 mw_2_12 [.null, .int 0] (fun j hj => by rcases (show j = 0 ∨ j = 1 by omega) with rfl | rfl <;> rfl) ⟨Nat.le_of_ble_eq_true rfl, Nat.le_of_ble_eq_true rfl⟩ dX1_init_18 (fun q3 => ?_)
  refine z_bs [[(q, .inr (0, [.ref q1, .null, .int 0, .int 0, .int 0, .int 0]))], (wN cI q1 c2 (n0 60)), [(q3, .inr (3, [.null, .int 0]))]] [.ref q3, .ref q] rfl rfl ?_
  refine z_dup C dX1_init_21 rfl ?_
  refine z_iconst C dX1_init_22 3 (by decide +kernel) ?_
  refine z_top C (nI 3) (by decide +kernel) ?_
  refine z_callI (yr := none) C (wc := [[(q3, .inr (3, [.null, .int 0]))]]) (wr := [[(q, .inr (0, [.ref q1, .null, .int 0, .int 0, .int 0, .int 0]))], (wN cI q1 c2 (n0 60))]) (met_X4_init l D cI q3 3 (by decide)) y_X4_init mw_4_7 dX1_init_23 rfl n_X4_init (by decide) ⟨Nat.le_of_ble_eq_true rfl, Nat.le_of_ble_eq_true rfl⟩ (Nat.le_of_ble_eq_true rfl) (z_pm [2, 0, 1] 3 rfl (by decide) rfl) ?_
  intro c4 hc4
  refine z_bs [(wN cI q3 c4 (n0 3)), [(q, .inr (0, [.ref q1, .null, .int 0, .int 0, .int 0, .int 0]))], (wN cI q1 c2 (n0 60))] [.ref q3, .ref q] rfl rfl ?_
  refine z_perm C [[(q, .inr (0, [.ref q1, .null, .int 0, .int 0, .int 0, .int 0]))], (wN cI q1 c2 (n0 60)), (wN cI q3 c4 (n0 3))] (z_pm [1, 2, 0] 3 rfl (by decide) rfl) ?_
  refine z_putF C inlX1 rfl tyX1 tyX1_ok nmX1 1 (by decide) mw_4_6 rfl hin rfl rfl rfl rfl dX1_init_26 0 0 rfl rfl (Nat.le_of_ble_eq_true rfl) [[(q, .inr (0, [.ref q1, .ref q3, .int 0, .int 0, .int 0, .int 0]))], (wN cI q1 c2 (n0 60)), (wN cI q3 c4 (n0 3))] rfl ?_
  exact z_vret C rfl (gl [q, q1, c2, q3, c4]) rfl (by rfl) rfl dX1_init_29
def rmX6_init : Room := { frames := 5, cells := 258, slots := 5101, locals := 106 }
set_option maxHeartbeats 4000000 in
set_option maxRecDepth 100000 in
theorem met_X6_init (l : Launch) (D : va_G) (cI : ClassId) (q : Nat) : ZM l D cI yX6_init cX6_init 1 none rmX6_init [.ref q] [[(q, .inr (5, [.null, .null, .null, .null, .null, .null]))]] (fun _ : ((Nat → Nat) × (Nat → Nat → Nat)) => none) (fun u => [wX cI u.1 (x0 u.2)]) (fun u => u.1 0 = q) := by
  refine z_body [some (.ref q)] (by decide +kernel) rfl (Nat.le_of_ble_eq_true rfl) rfl ?_
  intro p e s m args below meth c A C hin
  refine z_aload_n C dX6_init_0 rfl ?_
  refine z_objInit (yc := ⟨#[]⟩) C mw_1_6 mw_1_7 mw_1_8 dX6_init_1 (Nat.le_of_ble_eq_true rfl) (Nat.le_of_ble_eq_true rfl) ?_
  refine z_aload_n C dX6_init_4 rfl ?_
  refine z_new (ci := 4) C inlX5 rfl tyX5 tyX5_ok mw_1_9 mw_1_10 mw_1_11 [.null, .null, .null, .null, .null, .null] (fun j hj => by rcases (show j = 0 ∨ j = 1 ∨ j = 2 ∨ j = 3 ∨ j = 4 ∨ j = 5 by omega) with rfl | rfl | rfl | rfl | rfl | rfl <;> rfl) ⟨Nat.le_of_ble_eq_true rfl, Nat.le_of_ble_eq_true rfl⟩ dX6_init_5 (fun q1 => ?_)
  refine z_bs [[(q, .inr (5, [.null, .null, .null, .null, .null, .null]))], [(q1, .inr (4, [.null, .null, .null, .null, .null, .null]))]] [.ref q1, .ref q] rfl rfl ?_
  refine z_dup C dX6_init_8 rfl ?_
  refine z_callI (yr := none) C (wc := [[(q1, .inr (4, [.null, .null, .null, .null, .null, .null]))]]) (wr := [[(q, .inr (5, [.null, .null, .null, .null, .null, .null]))]]) (met_X5_init l D cI q1) y_X5_init mw_2_0 dX6_init_9 rfl n_X5_init (by decide) ⟨Nat.le_of_ble_eq_true rfl, Nat.le_of_ble_eq_true rfl⟩ (Nat.le_of_ble_eq_true rfl) (z_pm [1, 0] 2 rfl (by decide) rfl) ?_
  intro g2 hg2
  refine z_bs [(wS cI g2 t0), [(q, .inr (5, [.null, .null, .null, .null, .null, .null]))]] [.ref q1, .ref q] rfl rfl ?_
  refine z_perm C [[(q, .inr (5, [.null, .null, .null, .null, .null, .null]))], (wS cI g2 t0)] (z_pm [1, 0] 2 rfl (by decide) rfl) ?_
  refine z_putF C inlX6 rfl tyX6 tyX6_ok nmX6 0 (by decide) mw_1_12 rfl hin rfl rfl rfl rfl dX6_init_12 0 0 rfl rfl (Nat.le_of_ble_eq_true rfl) [[(q, .inr (5, [.ref q1, .null, .null, .null, .null, .null]))], (wS cI g2 t0)] rfl ?_
  refine z_aload_n C dX6_init_15 rfl ?_
  refine z_new (ci := 4) C inlX5 rfl tyX5 tyX5_ok mw_1_9 mw_1_10 mw_1_11 [.null, .null, .null, .null, .null, .null] (fun j hj => by rcases (show j = 0 ∨ j = 1 ∨ j = 2 ∨ j = 3 ∨ j = 4 ∨ j = 5 by omega) with rfl | rfl | rfl | rfl | rfl | rfl <;> rfl) ⟨Nat.le_of_ble_eq_true rfl, Nat.le_of_ble_eq_true rfl⟩ dX6_init_16 (fun q3 => ?_)
  refine z_bs [[(q, .inr (5, [.ref q1, .null, .null, .null, .null, .null]))], (wS cI g2 t0), [(q3, .inr (4, [.null, .null, .null, .null, .null, .null]))]] [.ref q3, .ref q] rfl rfl ?_
  refine z_dup C dX6_init_19 rfl ?_
  refine z_callI (yr := none) C (wc := [[(q3, .inr (4, [.null, .null, .null, .null, .null, .null]))]]) (wr := [[(q, .inr (5, [.ref q1, .null, .null, .null, .null, .null]))], (wS cI g2 t0)]) (met_X5_init l D cI q3) y_X5_init mw_2_0 dX6_init_20 rfl n_X5_init (by decide) ⟨Nat.le_of_ble_eq_true rfl, Nat.le_of_ble_eq_true rfl⟩ (Nat.le_of_ble_eq_true rfl) (z_pm [2, 0, 1] 3 rfl (by decide) rfl) ?_
  intro g4 hg4
  refine z_bs [(wS cI g4 t0), [(q, .inr (5, [.ref q1, .null, .null, .null, .null, .null]))], (wS cI g2 t0)] [.ref q3, .ref q] rfl rfl ?_
  refine z_perm C [[(q, .inr (5, [.ref q1, .null, .null, .null, .null, .null]))], (wS cI g2 t0), (wS cI g4 t0)] (z_pm [1, 2, 0] 3 rfl (by decide) rfl) ?_
  refine z_putF C inlX6 rfl tyX6 tyX6_ok nmX6 1 (by decide) mw_1_13 rfl hin rfl rfl rfl rfl dX6_init_23 0 0 rfl rfl (Nat.le_of_ble_eq_true rfl) [[(q, .inr (5, [.ref q1, .ref q3, .null, .null, .null, .null]))], (wS cI g2 t0), (wS cI g4 t0)] rfl ?_
  refine z_aload_n C dX6_init_26 rfl ?_
  refine z_new (ci := 4) C inlX5 rfl tyX5 tyX5_ok mw_1_9 mw_1_10 mw_1_11 [.null, .null, .null, .null, .null, .null] (fun j hj => by rcases (show j = 0 ∨ j = 1 ∨ j = 2 ∨ j = 3 ∨ j = 4 ∨ j = 5 by omega) with rfl | rfl | rfl | rfl | rfl | rfl <;> rfl) ⟨Nat.le_of_ble_eq_true rfl, Nat.le_of_ble_eq_true rfl⟩ dX6_init_27 (fun q5 => ?_)
  refine z_bs [[(q, .inr (5, [.ref q1, .ref q3, .null, .null, .null, .null]))], (wS cI g2 t0), (wS cI g4 t0), [(q5, .inr (4, [.null, .null, .null, .null, .null, .null]))]] [.ref q5, .ref q] rfl rfl ?_
  refine z_dup C dX6_init_30 rfl ?_
  refine z_callI (yr := none) C (wc := [[(q5, .inr (4, [.null, .null, .null, .null, .null, .null]))]]) (wr := [[(q, .inr (5, [.ref q1, .ref q3, .null, .null, .null, .null]))], (wS cI g2 t0), (wS cI g4 t0)]) (met_X5_init l D cI q5) y_X5_init mw_2_0 dX6_init_31 rfl n_X5_init (by decide) ⟨Nat.le_of_ble_eq_true rfl, Nat.le_of_ble_eq_true rfl⟩ (Nat.le_of_ble_eq_true rfl) (z_pm [3, 0, 1, 2] 4 rfl (by decide) rfl) ?_
  intro g6 hg6
  refine z_bs [(wS cI g6 t0), [(q, .inr (5, [.ref q1, .ref q3, .null, .null, .null, .null]))], (wS cI g2 t0), (wS cI g4 t0)] [.ref q5, .ref q] rfl rfl ?_
  refine z_perm C [[(q, .inr (5, [.ref q1, .ref q3, .null, .null, .null, .null]))], (wS cI g2 t0), (wS cI g4 t0), (wS cI g6 t0)] (z_pm [1, 2, 3, 0] 4 rfl (by decide) rfl) ?_
  refine z_putF C inlX6 rfl tyX6 tyX6_ok nmX6 2 (by decide) mw_1_14 rfl hin rfl rfl rfl rfl dX6_init_34 0 0 rfl rfl (Nat.le_of_ble_eq_true rfl) [[(q, .inr (5, [.ref q1, .ref q3, .ref q5, .null, .null, .null]))], (wS cI g2 t0), (wS cI g4 t0), (wS cI g6 t0)] rfl ?_
  refine z_aload_n C dX6_init_37 rfl ?_
  refine z_new (ci := 4) C inlX5 rfl tyX5 tyX5_ok mw_1_9 mw_1_10 mw_1_11 [.null, .null, .null, .null, .null, .null] (fun j hj => by rcases (show j = 0 ∨ j = 1 ∨ j = 2 ∨ j = 3 ∨ j = 4 ∨ j = 5 by omega) with rfl | rfl | rfl | rfl | rfl | rfl <;> rfl) ⟨Nat.le_of_ble_eq_true rfl, Nat.le_of_ble_eq_true rfl⟩ dX6_init_38 (fun q7 => ?_)
  refine z_bs [[(q, .inr (5, [.ref q1, .ref q3, .ref q5, .null, .null, .null]))], (wS cI g2 t0), (wS cI g4 t0), (wS cI g6 t0), [(q7, .inr (4, [.null, .null, .null, .null, .null, .null]))]] [.ref q7, .ref q] rfl rfl ?_
  refine z_dup C dX6_init_41 rfl ?_
  refine z_callI (yr := none) C (wc := [[(q7, .inr (4, [.null, .null, .null, .null, .null, .null]))]]) (wr := [[(q, .inr (5, [.ref q1, .ref q3, .ref q5, .null, .null, .null]))], (wS cI g2 t0), (wS cI g4 t0), (wS cI g6 t0)]) (met_X5_init l D cI q7) y_X5_init mw_2_0 dX6_init_42 rfl n_X5_init (by decide) ⟨Nat.le_of_ble_eq_true rfl, Nat.le_of_ble_eq_true rfl⟩ (Nat.le_of_ble_eq_true rfl) (z_pm [4, 0, 1, 2, 3] 5 rfl (by decide) rfl) ?_
  intro g8 hg8
  refine z_bs [(wS cI g8 t0), [(q, .inr (5, [.ref q1, .ref q3, .ref q5, .null, .null, .null]))], (wS cI g2 t0), (wS cI g4 t0), (wS cI g6 t0)] [.ref q7, .ref q] rfl rfl ?_
  refine z_perm C [[(q, .inr (5, [.ref q1, .ref q3, .ref q5, .null, .null, .null]))], (wS cI g2 t0), (wS cI g4 t0), (wS cI g6 t0), (wS cI g8 t0)] (z_pm [1, 2, 3, 4, 0] 5 rfl (by decide) rfl) ?_
  refine z_putF C inlX6 rfl tyX6 tyX6_ok nmX6 3 (by decide) mw_1_15 rfl hin rfl rfl rfl rfl dX6_init_45 0 0 rfl rfl (Nat.le_of_ble_eq_true rfl) [[(q, .inr (5, [.ref q1, .ref q3, .ref q5, .ref q7, .null, .null]))], (wS cI g2 t0), (wS cI g4 t0), (wS cI g6 t0), (wS cI g8 t0)] rfl ?_
  refine z_aload_n C dX6_init_48 rfl ?_
  refine z_new (ci := 2) C inlX3 rfl tyX3 tyX3_ok mw_1_16 mw_1_17 mw_1_18 [.null, .null, .null, .null, .null, .int 0] (fun j hj => by rcases (show j = 0 ∨ j = 1 ∨ j = 2 ∨ j = 3 ∨ j = 4 ∨ j = 5 by omega) with rfl | rfl | rfl | rfl | rfl | rfl <;> rfl) ⟨Nat.le_of_ble_eq_true rfl, Nat.le_of_ble_eq_true rfl⟩ dX6_init_49 (fun q9 => ?_)
  refine z_bs [[(q, .inr (5, [.ref q1, .ref q3, .ref q5, .ref q7, .null, .null]))], (wS cI g2 t0), (wS cI g4 t0), (wS cI g6 t0), (wS cI g8 t0), [(q9, .inr (2, [.null, .null, .null, .null, .null, .int 0]))]] [.ref q9, .ref q] rfl rfl ?_
  refine z_dup C dX6_init_52 rfl ?_
  refine z_callI (yr := none) C (wc := [[(q9, .inr (2, [.null, .null, .null, .null, .null, .int 0]))]]) (wr := [[(q, .inr (5, [.ref q1, .ref q3, .ref q5, .ref q7, .null, .null]))], (wS cI g2 t0), (wS cI g4 t0), (wS cI g6 t0), (wS cI g8 t0)]) (met_X3_init l D cI q9) y_X3_init mw_3_13 dX6_init_53 rfl n_X3_init (by decide) ⟨Nat.le_of_ble_eq_true rfl, Nat.le_of_ble_eq_true rfl⟩ (Nat.le_of_ble_eq_true rfl) (z_pm [5, 0, 1, 2, 3, 4] 6 rfl (by decide) rfl) ?_
  intro h10 hh10
  refine z_bs [(wHo q9 (h10 0 0) (h10 1 0) (h10 2 0) (h10 3 0) (h10 4 0) 0), (wS cI (h10 0) t0), (wS cI (h10 1) t0), (wS cI (h10 2) t0), (wS cI (h10 3) t0), (wS cI (h10 4) t0), [(q, .inr (5, [.ref q1, .ref q3, .ref q5, .ref q7, .null, .null]))], (wS cI g2 t0), (wS cI g4 t0), (wS cI g6 t0), (wS cI g8 t0)] [.ref q9, .ref q] rfl rfl ?_
  refine z_perm C [[(q, .inr (5, [.ref q1, .ref q3, .ref q5, .ref q7, .null, .null]))], (wS cI g2 t0), (wS cI g4 t0), (wS cI g6 t0), (wS cI g8 t0), (wHo q9 (h10 0 0) (h10 1 0) (h10 2 0) (h10 3 0) (h10 4 0) 0), (wS cI (h10 0) t0), (wS cI (h10 1) t0), (wS cI (h10 2) t0), (wS cI (h10 3) t0), (wS cI (h10 4) t0)] (z_pm [6, 7, 8, 9, 10, 0, 1, 2, 3, 4, 5] 11 rfl (by decide) rfl) ?_
  refine z_putF C inlX6 rfl tyX6 tyX6_ok nmX6 4 (by decide) mw_1_19 rfl hin rfl rfl rfl rfl dX6_init_56 0 0 rfl rfl (Nat.le_of_ble_eq_true rfl) [[(q, .inr (5, [.ref q1, .ref q3, .ref q5, .ref q7, .ref q9, .null]))], (wS cI g2 t0), (wS cI g4 t0), (wS cI g6 t0), (wS cI g8 t0), (wHo q9 (h10 0 0) (h10 1 0) (h10 2 0) (h10 3 0) (h10 4 0) 0), (wS cI (h10 0) t0), (wS cI (h10 1) t0), (wS cI (h10 2) t0), (wS cI (h10 3) t0), (wS cI (h10 4) t0)] rfl ?_
  refine z_aload_n C dX6_init_59 rfl ?_
  refine z_new (ci := 0) C inlX1 rfl tyX1 tyX1_ok mw_1_20 mw_1_21 mw_1_22 [.null, .null, .int 0, .int 0, .int 0, .int 0] (fun j hj => by rcases (show j = 0 ∨ j = 1 ∨ j = 2 ∨ j = 3 ∨ j = 4 ∨ j = 5 by omega) with rfl | rfl | rfl | rfl | rfl | rfl <;> rfl) ⟨Nat.le_of_ble_eq_true rfl, Nat.le_of_ble_eq_true rfl⟩ dX6_init_60 (fun q11 => ?_)
  refine z_bs [[(q, .inr (5, [.ref q1, .ref q3, .ref q5, .ref q7, .ref q9, .null]))], (wS cI g2 t0), (wS cI g4 t0), (wS cI g6 t0), (wS cI g8 t0), (wHo q9 (h10 0 0) (h10 1 0) (h10 2 0) (h10 3 0) (h10 4 0) 0), (wS cI (h10 0) t0), (wS cI (h10 1) t0), (wS cI (h10 2) t0), (wS cI (h10 3) t0), (wS cI (h10 4) t0), [(q11, .inr (0, [.null, .null, .int 0, .int 0, .int 0, .int 0]))]] [.ref q11, .ref q] rfl rfl ?_
  refine z_dup C dX6_init_63 rfl ?_
  refine z_callI (yr := none) C (wc := [[(q11, .inr (0, [.null, .null, .int 0, .int 0, .int 0, .int 0]))]]) (wr := [[(q, .inr (5, [.ref q1, .ref q3, .ref q5, .ref q7, .ref q9, .null]))], (wS cI g2 t0), (wS cI g4 t0), (wS cI g6 t0), (wS cI g8 t0), (wHo q9 (h10 0 0) (h10 1 0) (h10 2 0) (h10 3 0) (h10 4 0) 0), (wS cI (h10 0) t0), (wS cI (h10 1) t0), (wS cI (h10 2) t0), (wS cI (h10 3) t0), (wS cI (h10 4) t0)]) (met_X1_init l D cI q11) y_X1_init mw_4_0 dX6_init_64 rfl n_X1_init (by decide) ⟨Nat.le_of_ble_eq_true rfl, Nat.le_of_ble_eq_true rfl⟩ (Nat.le_of_ble_eq_true rfl) (z_pm [11, 0, 1, 2, 3, 4, 5, 6, 7, 8, 9, 10] 12 rfl (by decide) rfl) ?_
  intro g12 hg12
  refine z_bs [(wC cI g12 cm0), [(q, .inr (5, [.ref q1, .ref q3, .ref q5, .ref q7, .ref q9, .null]))], (wS cI g2 t0), (wS cI g4 t0), (wS cI g6 t0), (wS cI g8 t0), (wHo q9 (h10 0 0) (h10 1 0) (h10 2 0) (h10 3 0) (h10 4 0) 0), (wS cI (h10 0) t0), (wS cI (h10 1) t0), (wS cI (h10 2) t0), (wS cI (h10 3) t0), (wS cI (h10 4) t0)] [.ref q11, .ref q] rfl rfl ?_
  refine z_perm C [[(q, .inr (5, [.ref q1, .ref q3, .ref q5, .ref q7, .ref q9, .null]))], (wS cI g2 t0), (wS cI g4 t0), (wS cI g6 t0), (wS cI g8 t0), (wHo q9 (h10 0 0) (h10 1 0) (h10 2 0) (h10 3 0) (h10 4 0) 0), (wS cI (h10 0) t0), (wS cI (h10 1) t0), (wS cI (h10 2) t0), (wS cI (h10 3) t0), (wS cI (h10 4) t0), (wC cI g12 cm0)] (z_pm [1, 2, 3, 4, 5, 6, 7, 8, 9, 10, 11, 0] 12 rfl (by decide) rfl) ?_
  refine z_putF C inlX6 rfl tyX6 tyX6_ok nmX6 5 (by decide) mw_1_23 rfl hin rfl rfl rfl rfl dX6_init_67 0 0 rfl rfl (Nat.le_of_ble_eq_true rfl) [[(q, .inr (5, [.ref q1, .ref q3, .ref q5, .ref q7, .ref q9, .ref q11]))], (wS cI g2 t0), (wS cI g4 t0), (wS cI g6 t0), (wS cI g8 t0), (wHo q9 (h10 0 0) (h10 1 0) (h10 2 0) (h10 3 0) (h10 4 0) 0), (wS cI (h10 0) t0), (wS cI (h10 1) t0), (wS cI (h10 2) t0), (wS cI (h10 3) t0), (wS cI (h10 4) t0), (wC cI g12 cm0)] rfl ?_
  subst hg2
  subst hg4
  subst hg6
  subst hg8
  subst hg12
  exact z_vret C rfl (gl [q, g2 0, g2 1, g2 2, g2 3, g2 4, g2 5, g2 6, g2 7, g2 8, g2 9, g2 10, g2 11, g2 12, g2 13, g2 14, g2 15, g2 16, g2 17, g2 18, g2 19, g2 20, g2 21, g2 22, g2 23, g2 24, g2 25, g2 26, g2 27, g4 0, g4 1, g4 2, g4 3, g4 4, g4 5, g4 6, g4 7, g4 8, g4 9, g4 10, g4 11, g4 12, g4 13, g4 14, g4 15, g4 16, g4 17, g4 18, g4 19, g4 20, g4 21, g4 22, g4 23, g4 24, g4 25, g4 26, g4 27, g6 0, g6 1, g6 2, g6 3, g6 4, g6 5, g6 6, g6 7, g6 8, g6 9, g6 10, g6 11, g6 12, g6 13, g6 14, g6 15, g6 16, g6 17, g6 18, g6 19, g6 20, g6 21, g6 22, g6 23, g6 24, g6 25, g6 26, g6 27, g8 0, g8 1, g8 2, g8 3, g8 4, g8 5, g8 6, g8 7, g8 8, g8 9, g8 10, g8 11, g8 12, g8 13, g8 14, g8 15, g8 16, g8 17, g8 18, g8 19, g8 20, g8 21, g8 22, g8 23, g8 24, g8 25, g8 26, g8 27, q9, g12 0, g12 1, g12 2, g12 3, g12 4], h10) rfl (by rfl) rfl dX6_init_70
