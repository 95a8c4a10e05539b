/-! the two beside each other -/
def RelW (x : zX) (v : zM) : Prop := ∃ y : aY, okY y ∧ RX x y ∧ RM v y
theorem opw_insert : op_insert RelW := fun x v a1 a2 a3 ⟨y, ok, hx, hm⟩ => by
  unfold wp_X6_insert
  refine sx_recorded hx ok 105 a1 a2 a3 (fun x1 h1 => ?_)
  exact mx_insert hm ok a1 a2 a3 (fun v1 h2 => ⟨rfl, _, recY_ok ok _ _ _ _, h1, h2⟩)
theorem opw_delete : op_delete RelW := fun x v a1 a2 ⟨y, ok, hx, hm⟩ => by
  unfold wp_X6_delete
  refine sx_recorded hx ok 100 a1 a2 0 (fun x1 h1 => ?_)
  exact mx_delete hm ok a1 a2 0 (fun v1 h2 => ⟨rfl, _, recY_ok ok _ _ _ _, h1, h2⟩)
theorem opw_takeBack : op_takeBack RelW := fun x v a1 ⟨y, ok, hx, hm⟩ => by
  unfold wp_X6_takeBack
  refine sx_recorded hx ok 98 a1 0 0 (fun x1 h1 => ?_)
  exact mx_takeBack hm ok a1 0 0 (fun v1 h2 => ⟨rfl, _, recY_ok ok _ _ _ _, h1, h2⟩)
theorem opw_mark : op_mark RelW := fun x v a1 a2 ⟨y, ok, hx, hm⟩ => by
  unfold wp_X6_mark
  refine sx_recorded hx ok 77 a1 a2 0 (fun x1 h1 => ?_)
  exact mx_mark hm ok a1 a2 0 (fun v1 h2 => ⟨rfl, _, recY_ok ok _ _ _ _, h1, h2⟩)
theorem opw_send : op_send RelW := fun x v a1 ⟨y, ok, hx, hm⟩ => by
  unfold wp_X6_send
  refine sx_recorded hx ok 115 a1 0 0 (fun x1 h1 => ?_)
  exact mx_send hm ok a1 0 0 (fun v1 h2 => ⟨rfl, _, recY_ok ok _ _ _ _, h1, h2⟩)
theorem opw_hear : op_hear RelW := fun x v a1 ⟨y, ok, hx, hm⟩ => by
  unfold wp_X6_hear
  refine sx_recorded hx ok 104 a1 0 0 (fun x1 h1 => ?_)
  exact mx_hear hm ok a1 0 0 (fun v1 h2 => ⟨rfl, _, recY_ok ok _ _ _ _, h1, h2⟩)
theorem opw_hearAll : op_hearAll RelW := fun x v a1 ⟨y, ok, hx, hm⟩ => by
  unfold wp_X6_hearAll
  refine sx_recorded hx ok 65 a1 0 0 (fun x1 h1 => ?_)
  exact mx_hearAll hm ok a1 0 0 (fun v1 h2 => ⟨rfl, _, recY_ok ok _ _ _ _, h1, h2⟩)
theorem opw_clear : op_clear RelW := fun x v  ⟨y, ok, hx, hm⟩ => by
  refine sx_clear hx ok  (fun x1 h1 => ?_)
  exact mx_clear hm ok  (fun v1 h2 => ⟨rfl, _, okY_push ok okS0, h1, h2⟩)
theorem opw_letter : op_letter RelW := fun x v a1 a2 ⟨y, ok, hx, hm⟩ => by
  refine sx_letter hx ok a1 a2 ?_
  exact mx_letter hm ok a1 a2 (fun v1 h2 => ⟨rfl, y, ok, hx, h2⟩)
theorem opw_editorOf : op_editorOf RelW := fun x v a1 a2 ⟨y, ok, hx, hm⟩ => by
  refine sx_editorOf hx ok a1 a2 ?_
  exact mx_editorOf hm ok a1 a2 (fun v1 h2 => ⟨rfl, y, ok, hx, h2⟩)
theorem opw_waitingOf : op_waitingOf RelW := fun x v a1 a2 a3 ⟨y, ok, hx, hm⟩ => by
  refine sx_waitingOf hx ok a1 a2 a3 ?_
  exact mx_waitingOf hm ok a1 a2 a3 (fun v1 h2 => ⟨rfl, y, ok, hx, h2⟩)
theorem opw_logOf : op_logOf RelW := fun x v a1 a2 ⟨y, ok, hx, hm⟩ => by
  refine sx_logOf hx ok a1 a2 ?_
  exact mx_logOf hm ok a1 a2 (fun v1 h2 => ⟨rfl, y, ok, hx, h2⟩)
theorem opw_by : op_by RelW := fun x v a1 ⟨y, ok, hx, hm⟩ => by
  refine sx_by hx ok a1 ?_
  exact mx_by hm ok a1 (fun v1 h2 => ⟨rfl, y, ok, hx, h2⟩)
theorem opw_count : op_count RelW := fun x v a1 ⟨y, ok, hx, hm⟩ => by
  refine sx_count hx ok a1 ?_
  exact mx_count hm ok a1 (fun v1 h2 => ⟨rfl, y, ok, hx, h2⟩)
theorem opw_inTheEnd : op_inTheEnd RelW := fun x v a1 a2 ⟨y, ok, hx, hm⟩ => by
  refine sx_inTheEnd hx ok a1 a2 (fun x1 h1 => ?_)
  exact mx_inTheEnd hm ok a1 a2 (fun v1 h2 => ⟨rfl, y, ok, h1, h2⟩)
theorem opw_both : op_both RelW := fun x v a1 ⟨y, ok, hx, hm⟩ => by
  refine sx_both hx ok a1 (fun x1 h1 => ?_)
  exact mx_both hm ok a1 (fun v1 h2 => ⟨rfl, y, ok, h1, h2⟩)
theorem opw_wouldSend : op_wouldSend RelW := fun x v a1 a2 ⟨y, ok, hx, hm⟩ => by
  refine sx_wouldSend hx ok a1 a2 ?_
  exact mx_wouldSend hm ok a1 a2 (fun v1 h2 => ⟨rfl, y, ok, hx, h2⟩)
theorem opw_undo : op_undo RelW := fun x v  ⟨y, ok, hx, hm⟩ => by
  refine sx_undo hx ok  (fun x1 h1 => ?_)
  exact mx_undo hm ok  (fun v1 h2 => ⟨rfl, _, undoY_ok ok, h1, h2⟩)
theorem opw_type : op_type RelW := fun x v a1 ⟨y, ok, hx, hm⟩ => by
  refine sx_type hx ok a1 (fun x1 h1 => ?_)
  exact mx_type hm ok a1 (fun v1 h2 => ⟨rfl, _, typeY_ok ok a1, h1, h2⟩)
theorem opw_clearText : op_clearText RelW := fun x v  ⟨y, ok, hx, hm⟩ => by
  refine sx_clearText hx ok  (fun x1 h1 => ?_)
  exact mx_clearText hm ok  (fun v1 h2 => ⟨rfl, _, clearTY_ok ok, h1, h2⟩)
theorem opw_fault : op_fault RelW := fun x v a1 ⟨y, ok, hx, hm⟩ => by
  refine sx_fault hx ok a1 (fun x1 h1 => ?_)
  exact mx_fault hm ok a1 (fun v1 h2 => ⟨rfl, y, ok, h1, h2⟩)
theorem opw_play : op_play RelW := fun x v  ⟨y, ok, hx, hm⟩ => by
  refine sx_play hx ok  (fun x1 h1 => ?_)
  exact mx_play hm ok  (fun v1 h2 => ⟨rfl, _, playY_ok ok, h1, h2⟩)
theorem ops_w : Ops RelW := ⟨opw_insert, opw_delete, opw_takeBack, opw_mark, opw_send, opw_hear, opw_hearAll, opw_clear, opw_letter, opw_editorOf, opw_waitingOf, opw_logOf, opw_by, opw_count, opw_inTheEnd, opw_both, opw_wouldSend, opw_undo, opw_type, opw_clearText, opw_fault, opw_play⟩
theorem start_w : ∀ gh, RelW (x0 gh) m0 := fun gh => ⟨y0, okY0, sx_start gh, RMs0 (fun t _ => by
  show upd (fun _ => 0) (0 : Int32).toNatClampNeg 0 t = 0
  rw [upd_at]
  split <;> rfl), rfl, fun i s h => by simp [y0, yHist] at h, rfl, fun i a h => by simp [y0, yCmds] at h⟩
