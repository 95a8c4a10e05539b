-- ===== PART A: goes FIRST, ahead of the names: the tables' words, and 'selects' of the private methods out of them =====
/-- a private method of a class that the tables say can be made, by its rows of tables_1 -/
def lw_okq (q : MethodName × Nat) : Prop := (q.1.cls ≠ "java/lang/invoke/MethodHandle" ∧ q.1.cls ≠ "java/lang/invoke/VarHandle") ∧ Cond.instantiable q.1.cls q.2 ∈ tables_1 ∧ Cond.privateMethod q.1 ∈ tables_1 ∧ Cond.instanceMethod q.1 ∈ tables_1
theorem lw_p0 : lw_okq (⟨"ReshapedTexts", "recorded", "(IIII)I"⟩, 6) := ⟨⟨by decide +kernel, by decide +kernel⟩, List.mem_of_getElem? (i := 10) (by decide +kernel), List.mem_of_getElem? (i := 219) (by decide +kernel), List.mem_of_getElem? (i := 220) (by decide +kernel)⟩
theorem lw_p1 : lw_okq (⟨"ReshapedTexts$Editor", "write", "(I)V"⟩, 8) := ⟨⟨by decide +kernel, by decide +kernel⟩, List.mem_of_getElem? (i := 24) (by decide +kernel), List.mem_of_getElem? (i := 257) (by decide +kernel), List.mem_of_getElem? (i := 258) (by decide +kernel)⟩
theorem lw_p2 : lw_okq (⟨"ReshapedTexts$Editor", "apply", "(I)V"⟩, 8) := ⟨⟨by decide +kernel, by decide +kernel⟩, List.mem_of_getElem? (i := 24) (by decide +kernel), List.mem_of_getElem? (i := 261) (by decide +kernel), List.mem_of_getElem? (i := 262) (by decide +kernel)⟩
theorem lw_p3 : lw_okq (⟨"ReshapedTexts$Editor", "keepBack", "(I)V"⟩, 8) := ⟨⟨by decide +kernel, by decide +kernel⟩, List.mem_of_getElem? (i := 24) (by decide +kernel), List.mem_of_getElem? (i := 295) (by decide +kernel), List.mem_of_getElem? (i := 296) (by decide +kernel)⟩
theorem lw_p4 : lw_okq (⟨"ReshapedTexts$State", "pass", "(LReshapedTexts$Editor;)I"⟩, 6) := ⟨⟨by decide +kernel, by decide +kernel⟩, List.mem_of_getElem? (i := 18) (by decide +kernel), List.mem_of_getElem? (i := 311) (by decide +kernel), List.mem_of_getElem? (i := 312) (by decide +kernel)⟩
theorem lw_p5 : lw_okq (⟨"ReshapedTexts$State", "append", "(LReshapedTexts$Editor;)V"⟩, 6) := ⟨⟨by decide +kernel, by decide +kernel⟩, List.mem_of_getElem? (i := 18) (by decide +kernel), List.mem_of_getElem? (i := 320) (by decide +kernel), List.mem_of_getElem? (i := 321) (by decide +kernel)⟩
def lw_privs_1 : List (MethodName × Nat) := [(⟨"ReshapedTexts", "recorded", "(IIII)I"⟩, 6), (⟨"ReshapedTexts$Editor", "write", "(I)V"⟩, 8), (⟨"ReshapedTexts$Editor", "apply", "(I)V"⟩, 8), (⟨"ReshapedTexts$Editor", "keepBack", "(I)V"⟩, 8), (⟨"ReshapedTexts$State", "pass", "(LReshapedTexts$Editor;)I"⟩, 6), (⟨"ReshapedTexts$State", "append", "(LReshapedTexts$Editor;)V"⟩, 6)]
theorem lw_r1 : ∀ q ∈ lw_privs_1, lw_okq q := List.forall_mem_cons.mpr ⟨lw_p0, List.forall_mem_cons.mpr ⟨lw_p1, List.forall_mem_cons.mpr ⟨lw_p2, List.forall_mem_cons.mpr ⟨lw_p3, List.forall_mem_cons.mpr ⟨lw_p4, List.forall_mem_cons.mpr ⟨lw_p5, fun _ h => absurd h List.not_mem_nil⟩⟩⟩⟩⟩⟩
def lw_privs : List (MethodName × Nat) := lw_privs_1
def lw_tbl : List Cond := k2_sels lw_privs ++ tables_1
theorem lw_privs_ok : ∀ q ∈ lw_privs, lw_okq q := lw_r1
/-! ===== BEGIN words of one list among another's, by their places ===== -/
theorem goodIn_r {big : List Cond} (ws : List Cond) (ps : List Nat) (hp : ws = ps.filterMap (fun i => big[i]?)) (h : ws.all goodWord = true) : GoodIn big ws := by
  intro w hw
  have h1 := List.all_eq_true.mp h w hw
  rw [hp] at hw
  obtain ⟨i, -, hi⟩ := List.mem_filterMap.mp hw
  have hm : w ∈ big := by first | exact List.mem_of_getElem? hi | exact List.getElem?_mem hi
  exact ⟨hm, good_of_word h1⟩
theorem goodIn_app {big a b : List Cond} (ha : GoodIn big a) (hb : GoodIn big b) : GoodIn big (a ++ b) := fun w h => (List.mem_append.mp h).elim (ha w) (hb w)
theorem goodIn_ca {big a b : List Cond} {c : Cond} (ha : GoodIn big (c :: a)) (hb : GoodIn big b) : GoodIn big (c :: (a ++ b)) := fun w h => (List.mem_cons.mp h).elim (fun e => ha w (List.mem_cons.mpr (Or.inl e))) (fun h => (List.mem_append.mp h).elim (fun h => ha w (List.mem_cons.mpr (Or.inr h))) (hb w))
theorem goodIn_sub {big ws : List Cond} (hm : ∀ w ∈ ws, w ∈ big) (h : ws.all goodWord = true) : GoodIn big ws := fun w hw => ⟨hm w hw, good_of_word (List.all_eq_true.mp h w hw)⟩
/-! ===== END ===== -/
/-! ===== BEGIN printed: names, fields, word lists, decode rows ===== -/
def RX0 : String := "ReshapedTexts$Change"
def TX0 : u_T := fun k => match k with
  | _ => ("", "", "", false)
def tyX0 : Nat → FieldType := fun k => match k with
  | _ => .int
abbrev wsX00 : List Cond := u_ws RX0 TX0 0
theorem nmX0 : ∀ a, a < 0 → ∀ b, b < 0 → a ≠ b → (TX0 a).2.1 ≠ (TX0 b).2.1 := by decide +kernel
theorem tyX0_ok : ∀ k, k < 0 → parseFieldDescriptor (TX0 k).2.2.1 = some (tyX0 k) := by decide +kernel
abbrev cX0_of : ByteArray := prog_2_method_2_code
def yX0_of : MethodName := ⟨RX0, "of", "(IIII)I"⟩
abbrev cX0_kind : ByteArray := prog_2_method_3_code
def yX0_kind : MethodName := ⟨RX0, "kind", "(I)I"⟩
abbrev cX0_place : ByteArray := prog_2_method_4_code
def yX0_place : MethodName := ⟨RX0, "place", "(I)I"⟩
abbrev cX0_sign : ByteArray := prog_2_method_5_code
def yX0_sign : MethodName := ⟨RX0, "sign", "(I)I"⟩
abbrev cX0_writer : ByteArray := prog_2_method_6_code
def yX0_writer : MethodName := ⟨RX0, "writer", "(I)I"⟩
abbrev cX0_part : ByteArray := prog_2_method_7_code
def yX0_part : MethodName := ⟨RX0, "part", "(II)I"⟩
abbrev cX0_reshaped : ByteArray := prog_2_method_8_code
def yX0_reshaped : MethodName := ⟨RX0, "reshaped", "(II)I"⟩
abbrev cX0_passThrough : ByteArray := prog_2_method_9_code
def yX0_passThrough : MethodName := ⟨RX0, "passThrough", "(LReshapedTexts$Numbers;I)I"⟩
def RX1 : String := "ReshapedTexts$Commands"
def TX1 : u_T := fun k => match k with
  | 0 => ("ReshapedTexts$Commands", "signs", "LReshapedTexts$Numbers;", true)
  | 1 => ("ReshapedTexts$Commands", "numbers", "LReshapedTexts$Numbers;", true)
  | 2 => ("ReshapedTexts$Commands", "position", "I", false)
  | 3 => ("ReshapedTexts$Commands", "reason", "I", false)
  | 4 => ("ReshapedTexts$Commands", "cause", "I", false)
  | _ => ("ReshapedTexts$Commands", "done", "I", false)
def tyX1 : Nat → FieldType := fun k => match k with
  | 0 => .object "ReshapedTexts$Numbers"
  | 1 => .object "ReshapedTexts$Numbers"
  | 2 => .int
  | 3 => .int
  | 4 => .int
  | _ => .int
abbrev wsX10 : List Cond := u_ws RX1 TX1 6
theorem nmX1 : ∀ a, a < 6 → ∀ b, b < 6 → a ≠ b → (TX1 a).2.1 ≠ (TX1 b).2.1 := by decide +kernel
theorem tyX1_ok : ∀ k, k < 6 → parseFieldDescriptor (TX1 k).2.2.1 = some (tyX1 k) := by decide +kernel
abbrev cX1_init : ByteArray := prog_3_method_1_code
def yX1_init : MethodName := ⟨RX1, "<init>", "()V"⟩
def RX2 : String := "ReshapedTexts$Editor"
def TX2 : u_T := fun k => match k with
  | 0 => ("ReshapedTexts$Editor", "number", "I", true)
  | 1 => ("ReshapedTexts$Editor", "copy", "LReshapedTexts$Numbers;", true)
  | 2 => ("ReshapedTexts$Editor", "waiting", "LReshapedTexts$Numbers;", true)
  | 3 => ("ReshapedTexts$Editor", "backs", "LReshapedTexts$Numbers;", true)
  | 4 => ("ReshapedTexts$Editor", "underWay", "Z", false)
  | 5 => ("ReshapedTexts$Editor", "heard", "I", false)
  | 6 => ("ReshapedTexts$Editor", "spot", "I", false)
  | _ => ("ReshapedTexts$Editor", "written", "I", false)
def tyX2 : Nat → FieldType := fun k => match k with
  | 0 => .int
  | 1 => .object "ReshapedTexts$Numbers"
  | 2 => .object "ReshapedTexts$Numbers"
  | 3 => .object "ReshapedTexts$Numbers"
  | 4 => .boolean
  | 5 => .int
  | 6 => .int
  | _ => .int
abbrev wsX20 : List Cond := u_ws RX2 TX2 8
theorem nmX2 : ∀ a, a < 8 → ∀ b, b < 8 → a ≠ b → (TX2 a).2.1 ≠ (TX2 b).2.1 := by decide +kernel
theorem tyX2_ok : ∀ k, k < 8 → parseFieldDescriptor (TX2 k).2.2.1 = some (tyX2 k) := by decide +kernel
abbrev cX2_init : ByteArray := prog_4_method_1_code
def yX2_init : MethodName := ⟨RX2, "<init>", "(I)V"⟩
abbrev cX2_putIn : ByteArray := prog_4_method_2_code
def yX2_putIn : MethodName := ⟨RX2, "putIn", "(II)I"⟩
abbrev cX2_takeOut : ByteArray := prog_4_method_3_code
def yX2_takeOut : MethodName := ⟨RX2, "takeOut", "(I)I"⟩
abbrev cX2_goBack : ByteArray := prog_4_method_4_code
def yX2_goBack : MethodName := ⟨RX2, "goBack", "()I"⟩
abbrev cX2_setSpot : ByteArray := prog_4_method_5_code
def yX2_setSpot : MethodName := ⟨RX2, "setSpot", "(I)I"⟩
abbrev cX2_canSend : ByteArray := prog_4_method_6_code
def yX2_canSend : MethodName := ⟨RX2, "canSend", "()Z"⟩
abbrev cX2_outgoing : ByteArray := prog_4_method_7_code
def yX2_outgoing : MethodName := ⟨RX2, "outgoing", "(LReshapedTexts$Numbers;)I"⟩
abbrev cX2_hearNext : ByteArray := prog_4_method_8_code
def yX2_hearNext : MethodName := ⟨RX2, "hearNext", "(LReshapedTexts$Numbers;)I"⟩
abbrev cX2_hearRest : ByteArray := prog_4_method_9_code
def yX2_hearRest : MethodName := ⟨RX2, "hearRest", "(LReshapedTexts$Numbers;)I"⟩
abbrev cX2_isSettled : ByteArray := prog_4_method_10_code
def yX2_isSettled : MethodName := ⟨RX2, "isSettled", "(LReshapedTexts$Numbers;)Z"⟩
abbrev cX2_copyEditor : ByteArray := prog_4_method_12_code
def yX2_copyEditor : MethodName := ⟨RX2, "copyEditor", "(LReshapedTexts$Editor;)V"⟩
abbrev cX2_write : ByteArray := prog_4_method_13_code
def yX2_write : MethodName := ⟨RX2, "write", "(I)V"⟩
abbrev cX2_apply : ByteArray := prog_4_method_14_code
def yX2_apply : MethodName := ⟨RX2, "apply", "(I)V"⟩
abbrev cX2_keepBack : ByteArray := prog_4_method_15_code
def yX2_keepBack : MethodName := ⟨RX2, "keepBack", "(I)V"⟩
def RX3 : String := "ReshapedTexts$History"
def TX3 : u_T := fun k => match k with
  | 0 => ("ReshapedTexts$History", "newest", "LReshapedTexts$State;", false)
  | 1 => ("ReshapedTexts$History", "second", "LReshapedTexts$State;", false)
  | 2 => ("ReshapedTexts$History", "third", "LReshapedTexts$State;", false)
  | 3 => ("ReshapedTexts$History", "oldest", "LReshapedTexts$State;", false)
  | 4 => ("ReshapedTexts$History", "spare", "LReshapedTexts$State;", false)
  | _ => ("ReshapedTexts$History", "size", "I", false)
def tyX3 : Nat → FieldType := fun k => match k with
  | 0 => .object "ReshapedTexts$State"
  | 1 => .object "ReshapedTexts$State"
  | 2 => .object "ReshapedTexts$State"
  | 3 => .object "ReshapedTexts$State"
  | 4 => .object "ReshapedTexts$State"
  | _ => .int
abbrev wsX30 : List Cond := u_ws RX3 TX3 6
theorem nmX3 : ∀ a, a < 6 → ∀ b, b < 6 → a ≠ b → (TX3 a).2.1 ≠ (TX3 b).2.1 := by decide +kernel
theorem tyX3_ok : ∀ k, k < 6 → parseFieldDescriptor (TX3 k).2.2.1 = some (tyX3 k) := by decide +kernel
abbrev cX3_init : ByteArray := prog_5_method_1_code
def yX3_init : MethodName := ⟨RX3, "<init>", "()V"⟩
abbrev cX3_prepare : ByteArray := prog_5_method_2_code
def yX3_prepare : MethodName := ⟨RX3, "prepare", "(LReshapedTexts$State;)V"⟩
abbrev cX3_keep : ByteArray := prog_5_method_3_code
def yX3_keep : MethodName := ⟨RX3, "keep", "()V"⟩
abbrev cX3_restore : ByteArray := prog_5_method_4_code
def yX3_restore : MethodName := ⟨RX3, "restore", "(LReshapedTexts$State;)V"⟩
def RX4 : String := "ReshapedTexts$Numbers"
def TX4 : u_T := fun k => match k with
  | 0 => ("ReshapedTexts$Numbers", "cells", "[I", true)
  | _ => ("ReshapedTexts$Numbers", "size", "I", false)
def tyX4 : Nat → FieldType := fun k => match k with
  | 0 => .array .int
  | _ => .int
abbrev wsX40 : List Cond := u_ws RX4 TX4 2
theorem nmX4 : ∀ a, a < 2 → ∀ b, b < 2 → a ≠ b → (TX4 a).2.1 ≠ (TX4 b).2.1 := by decide +kernel
theorem tyX4_ok : ∀ k, k < 2 → parseFieldDescriptor (TX4 k).2.2.1 = some (tyX4 k) := by decide +kernel
abbrev cX4_init : ByteArray := prog_6_method_1_code
def yX4_init : MethodName := ⟨RX4, "<init>", "(I)V"⟩
abbrev cX4_size : ByteArray := prog_6_method_2_code
def yX4_size : MethodName := ⟨RX4, "size", "()I"⟩
abbrev cX4_at : ByteArray := prog_6_method_3_code
def yX4_at : MethodName := ⟨RX4, "at", "(I)I"⟩
abbrev cX4_put : ByteArray := prog_6_method_4_code
def yX4_put : MethodName := ⟨RX4, "put", "(II)V"⟩
abbrev cX4_add : ByteArray := prog_6_method_5_code
def yX4_add : MethodName := ⟨RX4, "add", "(I)V"⟩
abbrev cX4_addAt : ByteArray := prog_6_method_6_code
def yX4_addAt : MethodName := ⟨RX4, "addAt", "(II)V"⟩
abbrev cX4_removeAt : ByteArray := prog_6_method_7_code
def yX4_removeAt : MethodName := ⟨RX4, "removeAt", "(I)V"⟩
abbrev cX4_copyNumbers : ByteArray := prog_6_method_9_code
def yX4_copyNumbers : MethodName := ⟨RX4, "copyNumbers", "(LReshapedTexts$Numbers;)V"⟩
abbrev cX4_isSameAs : ByteArray := prog_6_method_10_code
def yX4_isSameAs : MethodName := ⟨RX4, "isSameAs", "(LReshapedTexts$Numbers;)Z"⟩
def RX5 : String := "ReshapedTexts$State"
def TX5 : u_T := fun k => match k with
  | 0 => ("ReshapedTexts$State", "first", "LReshapedTexts$Editor;", true)
  | 1 => ("ReshapedTexts$State", "second", "LReshapedTexts$Editor;", true)
  | 2 => ("ReshapedTexts$State", "third", "LReshapedTexts$Editor;", true)
  | 3 => ("ReshapedTexts$State", "log", "LReshapedTexts$Numbers;", true)
  | 4 => ("ReshapedTexts$State", "text", "LReshapedTexts$Numbers;", true)
  | _ => ("ReshapedTexts$State", "writers", "LReshapedTexts$Numbers;", true)
def tyX5 : Nat → FieldType := fun k => match k with
  | 0 => .object "ReshapedTexts$Editor"
  | 1 => .object "ReshapedTexts$Editor"
  | 2 => .object "ReshapedTexts$Editor"
  | 3 => .object "ReshapedTexts$Numbers"
  | 4 => .object "ReshapedTexts$Numbers"
  | _ => .object "ReshapedTexts$Numbers"
abbrev wsX50 : List Cond := u_ws RX5 TX5 6
theorem nmX5 : ∀ a, a < 6 → ∀ b, b < 6 → a ≠ b → (TX5 a).2.1 ≠ (TX5 b).2.1 := by decide +kernel
theorem tyX5_ok : ∀ k, k < 6 → parseFieldDescriptor (TX5 k).2.2.1 = some (tyX5 k) := by decide +kernel
abbrev cX5_init : ByteArray := prog_7_method_1_code
def yX5_init : MethodName := ⟨RX5, "<init>", "()V"⟩
abbrev cX5_editor : ByteArray := prog_7_method_2_code
def yX5_editor : MethodName := ⟨RX5, "editor", "(I)LReshapedTexts$Editor;"⟩
abbrev cX5_answer : ByteArray := prog_7_method_3_code
def yX5_answer : MethodName := ⟨RX5, "answer", "(IIII)I"⟩
abbrev cX5_nothingsInLog : ByteArray := prog_7_method_4_code
def yX5_nothingsInLog : MethodName := ⟨RX5, "nothingsInLog", "()I"⟩
abbrev cX5_waitingOfAll : ByteArray := prog_7_method_5_code
def yX5_waitingOfAll : MethodName := ⟨RX5, "waitingOfAll", "()I"⟩
abbrev cX5_settledEditors : ByteArray := prog_7_method_6_code
def yX5_settledEditors : MethodName := ⟨RX5, "settledEditors", "()I"⟩
abbrev cX5_isOneText : ByteArray := prog_7_method_7_code
def yX5_isOneText : MethodName := ⟨RX5, "isOneText", "()Z"⟩
abbrev cX5_copyState : ByteArray := prog_7_method_9_code
def yX5_copyState : MethodName := ⟨RX5, "copyState", "(LReshapedTexts$State;)V"⟩
abbrev cX5_copyEndOf : ByteArray := prog_7_method_10_code
def yX5_copyEndOf : MethodName := ⟨RX5, "copyEndOf", "(LReshapedTexts$State;Z)V"⟩
abbrev cX5_pass : ByteArray := prog_7_method_11_code
def yX5_pass : MethodName := ⟨RX5, "pass", "(LReshapedTexts$Editor;)I"⟩
abbrev cX5_append : ByteArray := prog_7_method_12_code
def yX5_append : MethodName := ⟨RX5, "append", "(LReshapedTexts$Editor;)V"⟩
def RX6 : String := "ReshapedTexts"
def TX6 : u_T := fun k => match k with
  | 0 => ("ReshapedTexts", "now", "LReshapedTexts$State;", true)
  | 1 => ("ReshapedTexts", "trial", "LReshapedTexts$State;", true)
  | 2 => ("ReshapedTexts", "upwards", "LReshapedTexts$State;", true)
  | 3 => ("ReshapedTexts", "downwards", "LReshapedTexts$State;", true)
  | 4 => ("ReshapedTexts", "past", "LReshapedTexts$History;", true)
  | _ => ("ReshapedTexts", "commands", "LReshapedTexts$Commands;", true)
def tyX6 : Nat → FieldType := fun k => match k with
  | 0 => .object "ReshapedTexts$State"
  | 1 => .object "ReshapedTexts$State"
  | 2 => .object "ReshapedTexts$State"
  | 3 => .object "ReshapedTexts$State"
  | 4 => .object "ReshapedTexts$History"
  | _ => .object "ReshapedTexts$Commands"
abbrev wsX60 : List Cond := u_ws RX6 TX6 6
theorem nmX6 : ∀ a, a < 6 → ∀ b, b < 6 → a ≠ b → (TX6 a).2.1 ≠ (TX6 b).2.1 := by decide +kernel
theorem tyX6_ok : ∀ k, k < 6 → parseFieldDescriptor (TX6 k).2.2.1 = some (tyX6 k) := by decide +kernel
abbrev cX6_init : ByteArray := prog_1_method_1_code
def yX6_init : MethodName := ⟨RX6, "<init>", "()V"⟩
abbrev cX6_insert : ByteArray := prog_1_method_2_code
def yX6_insert : MethodName := ⟨RX6, "insert", "(III)I"⟩
abbrev cX6_delete : ByteArray := prog_1_method_3_code
def yX6_delete : MethodName := ⟨RX6, "delete", "(II)I"⟩
abbrev cX6_takeBack : ByteArray := prog_1_method_4_code
def yX6_takeBack : MethodName := ⟨RX6, "takeBack", "(I)I"⟩
abbrev cX6_mark : ByteArray := prog_1_method_5_code
def yX6_mark : MethodName := ⟨RX6, "mark", "(II)I"⟩
abbrev cX6_send : ByteArray := prog_1_method_6_code
def yX6_send : MethodName := ⟨RX6, "send", "(I)I"⟩
abbrev cX6_hear : ByteArray := prog_1_method_7_code
def yX6_hear : MethodName := ⟨RX6, "hear", "(I)I"⟩
abbrev cX6_hearAll : ByteArray := prog_1_method_8_code
def yX6_hearAll : MethodName := ⟨RX6, "hearAll", "(I)I"⟩
abbrev cX6_letter : ByteArray := prog_1_method_10_code
def yX6_letter : MethodName := ⟨RX6, "letter", "(II)I"⟩
abbrev cX6_editorOf : ByteArray := prog_1_method_11_code
def yX6_editorOf : MethodName := ⟨RX6, "editorOf", "(II)I"⟩
abbrev cX6_waitingOf : ByteArray := prog_1_method_12_code
def yX6_waitingOf : MethodName := ⟨RX6, "waitingOf", "(III)I"⟩
abbrev cX6_logOf : ByteArray := prog_1_method_13_code
def yX6_logOf : MethodName := ⟨RX6, "logOf", "(II)I"⟩
abbrev cX6_by : ByteArray := prog_1_method_14_code
def yX6_by : MethodName := ⟨RX6, "by", "(I)I"⟩
abbrev cX6_count : ByteArray := prog_1_method_15_code
def yX6_count : MethodName := ⟨RX6, "count", "(I)I"⟩
abbrev cX6_inTheEnd : ByteArray := prog_1_method_16_code
def yX6_inTheEnd : MethodName := ⟨RX6, "inTheEnd", "(II)I"⟩
abbrev cX6_both : ByteArray := prog_1_method_17_code
def yX6_both : MethodName := ⟨RX6, "both", "(I)I"⟩
abbrev cX6_wouldSend : ByteArray := prog_1_method_18_code
def yX6_wouldSend : MethodName := ⟨RX6, "wouldSend", "(II)I"⟩
abbrev cX6_undo : ByteArray := prog_1_method_19_code
def yX6_undo : MethodName := ⟨RX6, "undo", "()I"⟩
abbrev cX6_recorded : ByteArray := prog_1_method_24_code
def yX6_recorded : MethodName := ⟨RX6, "recorded", "(IIII)I"⟩
abbrev cX6_isNoEditor : ByteArray := prog_1_method_25_code
def yX6_isNoEditor : MethodName := ⟨RX6, "isNoEditor", "(I)Z"⟩
abbrev cX6_partOf : ByteArray := prog_1_method_26_code
def yX6_partOf : MethodName := ⟨RX6, "partOf", "(LReshapedTexts$Numbers;II)I"⟩
def RX7 : String := "ReshapedTextsModel"
def TX7 : u_T := fun k => match k with
  | _ => ("", "", "", false)
def tyX7 : Nat → FieldType := fun k => match k with
  | _ => .int
abbrev wsX70 : List Cond := u_ws RX7 TX7 0
theorem nmX7 : ∀ a, a < 0 → ∀ b, b < 0 → a ≠ b → (TX7 a).2.1 ≠ (TX7 b).2.1 := by decide +kernel
theorem tyX7_ok : ∀ k, k < 0 → parseFieldDescriptor (TX7 k).2.2.1 = some (tyX7 k) := by decide +kernel
def RJ9 : String := "java/lang/Math"
def TJ9 : u_T := fun k => match k with
  | _ => ("", "", "", false)
def tyJ9 : Nat → FieldType := fun k => match k with
  | _ => .int
theorem nmJ9 : ∀ a, a < 0 → ∀ b, b < 0 → a ≠ b → (TJ9 a).2.1 ≠ (TJ9 b).2.1 := by decide +kernel
theorem tyJ9_ok : ∀ k, k < 0 → parseFieldDescriptor (TJ9 k).2.2.1 = some (tyJ9 k) := by decide +kernel
abbrev cJ9_max_7cf53 : ByteArray := prog_10_method_65_code
def yJ9_max_7cf53 : MethodName := ⟨RJ9, "max", "(II)I"⟩
abbrev cJ9_min_7cf53 : ByteArray := prog_10_method_69_code
def yJ9_min_7cf53 : MethodName := ⟨RJ9, "min", "(II)I"⟩
def RX8 : String := "ReshapedTextsLaw"
abbrev cX8_cell : ByteArray := method_2_code
def yX8_cell : MethodName := ⟨RX8, "cell", "([II)I"⟩
abbrev cX8_low : ByteArray := method_3_code
def yX8_low : MethodName := ⟨RX8, "low", "(II)I"⟩
abbrev cX8_does : ByteArray := method_4_code
def yX8_does : MethodName := ⟨RX8, "does", "(LReshapedTexts;I)I"⟩
abbrev cX8_areEditorsSo : ByteArray := method_5_code
def yX8_areEditorsSo : MethodName := ⟨RX8, "areEditorsSo", "(LReshapedTexts;)Z"⟩
abbrev cX8_isSendSo : ByteArray := method_6_code
def yX8_isSendSo : MethodName := ⟨RX8, "isSendSo", "(LReshapedTexts;I)Z"⟩
abbrev cX8_isBackSo : ByteArray := method_7_code
def yX8_isBackSo : MethodName := ⟨RX8, "isBackSo", "(LReshapedTexts;II)Z"⟩
abbrev cX8_isEndSo : ByteArray := method_8_code
def yX8_isEndSo : MethodName := ⟨RX8, "isEndSo", "(LReshapedTexts;)Z"⟩
abbrev cX8_law : ByteArray := code
def yX8_law : MethodName := ⟨RX8, "law", "([I)Z"⟩
def wsL_law_r1 : List Cond := [Cond.classLink RX8 15 RX6, Cond.instantiable RX6 6, Cond.initialized RX6, Cond.methodLink RX8 70 yX6_init, Cond.instanceMethod yX6_init, Cond.code yX6_init cX6_init 1 none, Cond.methodLink RX6 3 objectInit, Cond.instanceMethod objectInit, Cond.code objectInit ⟨#[0xb1]⟩ 1 none, Cond.classLink RX6 9 RX5, Cond.instantiable RX5 6, Cond.initialized RX5, Cond.fieldLink RX6 12 "ReshapedTexts" "now" "LReshapedTexts$State;", Cond.fieldLink RX6 16 "ReshapedTexts" "trial" "LReshapedTexts$State;", Cond.fieldLink RX6 19 "ReshapedTexts" "upwards" "LReshapedTexts$State;", Cond.fieldLink RX6 22 "ReshapedTexts" "downwards" "LReshapedTexts$State;", Cond.classLink RX6 25 RX3, Cond.instantiable RX3 6, Cond.initialized RX3, Cond.fieldLink RX6 28 "ReshapedTexts" "past" "LReshapedTexts$History;", Cond.classLink RX6 32 RX1, Cond.instantiable RX1 6, Cond.initialized RX1, Cond.fieldLink RX6 35 "ReshapedTexts" "commands" "LReshapedTexts$Commands;"]
def wsL_law_r2 : List Cond := [Cond.methodLink RX6 11 yX5_init, Cond.instanceMethod yX5_init, Cond.code yX5_init cX5_init 1 none, Cond.methodLink RX5 3 objectInit, Cond.classLink RX5 9 RX2, Cond.instantiable RX2 8, Cond.initialized RX2, Cond.fieldLink RX5 14 "ReshapedTexts$State" "first" "LReshapedTexts$Editor;", Cond.fieldLink RX5 20 "ReshapedTexts$State" "second" "LReshapedTexts$Editor;", Cond.fieldLink RX5 23 "ReshapedTexts$State" "third" "LReshapedTexts$Editor;", Cond.classLink RX5 26 RX4, Cond.instantiable RX4 2, Cond.initialized RX4, Cond.fieldLink RX5 29 "ReshapedTexts$State" "log" "LReshapedTexts$Numbers;", Cond.fieldLink RX5 33 "ReshapedTexts$State" "text" "LReshapedTexts$Numbers;", Cond.fieldLink RX5 36 "ReshapedTexts$State" "writers" "LReshapedTexts$Numbers;", Cond.methodLink RX5 11 yX2_init, Cond.instanceMethod yX2_init, Cond.code yX2_init cX2_init 2 none, Cond.methodLink RX2 3 objectInit, Cond.fieldLink RX2 9 "ReshapedTexts$Editor" "number" "I", Cond.classLink RX2 15 RX4, Cond.fieldLink RX2 20 "ReshapedTexts$Editor" "copy" "LReshapedTexts$Numbers;", Cond.fieldLink RX2 24 "ReshapedTexts$Editor" "waiting" "LReshapedTexts$Numbers;"]
def wsL_law_r3 : List Cond := [Cond.fieldLink RX2 27 "ReshapedTexts$Editor" "backs" "LReshapedTexts$Numbers;", Cond.methodLink RX2 17 yX4_init, Cond.instanceMethod yX4_init, Cond.code yX4_init cX4_init 2 none, Cond.methodLink RX4 1 objectInit, Cond.methodLink RX4 7 Lib.Math.max.name, Cond.static Lib.Math.max.name, Cond.initialized "java/lang/Math", Cond.code Lib.Math.max.name Lib.Math.max.code 2 (some .int), Cond.arrayClass .int, Cond.fieldLink RX4 13 "ReshapedTexts$Numbers" "cells" "[I", Cond.fieldLink RX4 19 "ReshapedTexts$Numbers" "size" "I", Cond.methodLink RX5 28 yX4_init, Cond.methodLink RX6 27 yX3_init, Cond.instanceMethod yX3_init, Cond.code yX3_init cX3_init 1 none, Cond.methodLink RX3 3 objectInit, Cond.classLink RX3 9 RX5, Cond.fieldLink RX3 12 "ReshapedTexts$History" "newest" "LReshapedTexts$State;", Cond.fieldLink RX3 18 "ReshapedTexts$History" "second" "LReshapedTexts$State;", Cond.fieldLink RX3 21 "ReshapedTexts$History" "third" "LReshapedTexts$State;", Cond.fieldLink RX3 24 "ReshapedTexts$History" "oldest" "LReshapedTexts$State;", Cond.fieldLink RX3 27 "ReshapedTexts$History" "spare" "LReshapedTexts$State;", Cond.methodLink RX3 11 yX5_init]
def wsL_law_r4 : List Cond := [Cond.methodLink RX6 34 yX1_init, Cond.instanceMethod yX1_init, Cond.code yX1_init cX1_init 1 none, Cond.methodLink RX1 3 objectInit, Cond.classLink RX1 9 RX4, Cond.fieldLink RX1 14 "ReshapedTexts$Commands" "signs" "LReshapedTexts$Numbers;", Cond.fieldLink RX1 20 "ReshapedTexts$Commands" "numbers" "LReshapedTexts$Numbers;", Cond.methodLink RX1 11 yX4_init, Cond.methodLink RX8 71 yX8_cell, Cond.static yX8_cell, Cond.initialized RX8, Cond.code yX8_cell cX8_cell 2 (some .int), Cond.methodLink RX8 8 yX8_low, Cond.static yX8_low, Cond.code yX8_low cX8_low 2 (some .int), Cond.constant RX8 7 (2147483647), Cond.methodLink RX8 14 yX6_editorOf, Cond.instanceMethod yX6_editorOf, Cond.selects RX6 yX6_editorOf yX6_editorOf, Cond.code yX6_editorOf cX6_editorOf 4 (some .int), Cond.methodLink RX6 63 yX6_isNoEditor, Cond.static yX6_isNoEditor, Cond.code yX6_isNoEditor cX6_isNoEditor 1 (some .boolean), Cond.methodLink RX6 70 yX5_editor]
def wsL_law_r5 : List Cond := [Cond.instanceMethod yX5_editor, Cond.selects RX5 yX5_editor yX5_editor, Cond.code yX5_editor cX5_editor 2 (some (.object "ReshapedTexts$Editor")), Cond.methodLink RX6 47 yX4_size, Cond.instanceMethod yX4_size, Cond.selects RX4 yX4_size yX4_size, Cond.code yX4_size cX4_size 1 (some .int), Cond.methodLink RX6 100 yX4_isSameAs, Cond.instanceMethod yX4_isSameAs, Cond.selects RX4 yX4_isSameAs yX4_isSameAs, Cond.code yX4_isSameAs cX4_isSameAs 3 (some .boolean), Cond.methodLink RX4 30 yX4_at, Cond.instanceMethod yX4_at, Cond.selects RX4 yX4_at yX4_at, Cond.code yX4_at cX4_at 2 (some .int), Cond.methodLink RX8 51 yX6_letter, Cond.instanceMethod yX6_letter, Cond.selects RX6 yX6_letter yX6_letter, Cond.code yX6_letter cX6_letter 4 (some .int), Cond.methodLink RX6 79 yX4_at, Cond.methodLink RX8 75 yX8_does, Cond.static yX8_does, Cond.code yX8_does cX8_does 4 (some .int), Cond.methodLink RX8 19 yX6_insert]
def wsL_law_r6 : List Cond := [Cond.instanceMethod yX6_insert, Cond.selects RX6 yX6_insert yX6_insert, Cond.code yX6_insert cX6_insert 4 (some .int), Cond.methodLink RX6 39 yX6_recorded, Cond.instanceMethod yX6_recorded, Cond.selects RX6 yX6_recorded yX6_recorded, Cond.code yX6_recorded cX6_recorded 6 (some .int), Cond.methodLink RX6 53 yX3_prepare, Cond.instanceMethod yX3_prepare, Cond.selects RX3 yX3_prepare yX3_prepare, Cond.code yX3_prepare cX3_prepare 2 none, Cond.methodLink RX3 30 yX5_copyState, Cond.instanceMethod yX5_copyState, Cond.selects RX5 yX5_copyState yX5_copyState, Cond.code yX5_copyState cX5_copyState 2 none, Cond.methodLink RX5 103 yX2_copyEditor, Cond.instanceMethod yX2_copyEditor, Cond.selects RX2 yX2_copyEditor yX2_copyEditor, Cond.code yX2_copyEditor cX2_copyEditor 2 none, Cond.fieldLink RX2 59 "ReshapedTexts$Editor" "underWay" "Z", Cond.fieldLink RX2 63 "ReshapedTexts$Editor" "heard" "I", Cond.fieldLink RX2 56 "ReshapedTexts$Editor" "spot" "I", Cond.fieldLink RX2 87 "ReshapedTexts$Editor" "written" "I", Cond.methodLink RX2 90 yX4_copyNumbers]
def wsL_law_r7 : List Cond := [Cond.instanceMethod yX4_copyNumbers, Cond.selects RX4 yX4_copyNumbers yX4_copyNumbers, Cond.code yX4_copyNumbers cX4_copyNumbers 4 none, Cond.methodLink RX4 27 Lib.Math.min.name, Cond.static Lib.Math.min.name, Cond.code Lib.Math.min.name Lib.Math.min.code 2 (some .int), Cond.methodLink RX5 107 yX4_copyNumbers, Cond.methodLink RX6 177 yX5_answer, Cond.instanceMethod yX5_answer, Cond.selects RX5 yX5_answer yX5_answer, Cond.code yX5_answer cX5_answer 6 (some .int), Cond.methodLink RX5 43 yX5_editor, Cond.methodLink RX5 47 yX2_putIn, Cond.instanceMethod yX2_putIn, Cond.selects RX2 yX2_putIn yX2_putIn, Cond.code yX2_putIn cX2_putIn 3 (some .int), Cond.methodLink RX2 30 yX4_size, Cond.methodLink RX2 34 yX0_of, Cond.static yX0_of, Cond.initialized RX0, Cond.code yX0_of cX0_of 4 (some .int), Cond.methodLink RX2 40 yX2_write, Cond.instanceMethod yX2_write, Cond.selects RX2 yX2_write yX2_write]
def wsL_law_r8 : List Cond := [Cond.code yX2_write cX2_write 2 none, Cond.methodLink RX2 77 yX2_apply, Cond.instanceMethod yX2_apply, Cond.selects RX2 yX2_apply yX2_apply, Cond.code yX2_apply cX2_apply 5 none, Cond.methodLink RX2 97 yX0_place, Cond.static yX0_place, Cond.code yX0_place cX0_place 1 (some .int), Cond.methodLink RX2 50 yX0_kind, Cond.static yX0_kind, Cond.code yX0_kind cX0_kind 1 (some .int), Cond.methodLink RX2 100 yX0_sign, Cond.static yX0_sign, Cond.code yX0_sign cX0_sign 1 (some .int), Cond.methodLink RX2 103 yX4_addAt, Cond.instanceMethod yX4_addAt, Cond.selects RX4 yX4_addAt yX4_addAt, Cond.code yX4_addAt cX4_addAt 4 none, Cond.methodLink RX2 53 yX4_removeAt, Cond.instanceMethod yX4_removeAt, Cond.selects RX4 yX4_removeAt yX4_removeAt, Cond.code yX4_removeAt cX4_removeAt 3 none, Cond.methodLink RX2 46 yX4_at, Cond.methodLink RX2 66 yX0_reshaped]
def wsL_law_r9 : List Cond := [Cond.static yX0_reshaped, Cond.code yX0_reshaped cX0_reshaped 9 (some .int), Cond.methodLink RX2 107 yX4_put, Cond.instanceMethod yX4_put, Cond.selects RX4 yX4_put yX4_put, Cond.code yX4_put cX4_put 3 none, Cond.methodLink RX2 94 yX4_add, Cond.instanceMethod yX4_add, Cond.selects RX4 yX4_add yX4_add, Cond.code yX4_add cX4_add 2 none, Cond.methodLink RX4 23 yX4_addAt, Cond.methodLink RX2 43 yX2_keepBack, Cond.instanceMethod yX2_keepBack, Cond.selects RX2 yX2_keepBack yX2_keepBack, Cond.code yX2_keepBack cX2_keepBack 2 none, Cond.methodLink RX5 51 yX2_takeOut, Cond.instanceMethod yX2_takeOut, Cond.selects RX2 yX2_takeOut yX2_takeOut, Cond.code yX2_takeOut cX2_takeOut 3 (some .int), Cond.methodLink RX5 55 yX2_goBack, Cond.instanceMethod yX2_goBack, Cond.selects RX2 yX2_goBack yX2_goBack, Cond.code yX2_goBack cX2_goBack 4 (some .int), Cond.methodLink RX5 59 yX2_setSpot]
def wsL_law_r10 : List Cond := [Cond.instanceMethod yX2_setSpot, Cond.selects RX2 yX2_setSpot yX2_setSpot, Cond.code yX2_setSpot cX2_setSpot 3 (some .int), Cond.methodLink RX5 62 yX5_pass, Cond.instanceMethod yX5_pass, Cond.selects RX5 yX5_pass yX5_pass, Cond.code yX5_pass cX5_pass 2 (some .int), Cond.methodLink RX5 115 yX2_canSend, Cond.instanceMethod yX2_canSend, Cond.selects RX2 yX2_canSend yX2_canSend, Cond.code yX2_canSend cX2_canSend 1 (some .boolean), Cond.methodLink RX5 73 yX4_size, Cond.methodLink RX5 119 yX5_append, Cond.instanceMethod yX5_append, Cond.selects RX5 yX5_append yX5_append, Cond.code yX5_append cX5_append 5 none, Cond.methodLink RX5 122 yX2_outgoing, Cond.instanceMethod yX2_outgoing, Cond.selects RX2 yX2_outgoing yX2_outgoing, Cond.code yX2_outgoing cX2_outgoing 4 (some .int), Cond.methodLink RX5 125 yX0_place, Cond.methodLink RX5 79 yX0_kind, Cond.methodLink RX5 128 yX0_sign, Cond.methodLink RX5 131 yX4_addAt]
def wsL_law_r11 : List Cond := [Cond.methodLink RX5 135 yX0_writer, Cond.static yX0_writer, Cond.code yX0_writer cX0_writer 1 (some .int), Cond.methodLink RX5 138 yX4_removeAt, Cond.methodLink RX5 141 yX4_add, Cond.methodLink RX5 66 yX2_hearNext, Cond.instanceMethod yX2_hearNext, Cond.selects RX2 yX2_hearNext yX2_hearNext, Cond.code yX2_hearNext cX2_hearNext 4 (some .int), Cond.methodLink RX2 70 yX0_writer, Cond.methodLink RX2 73 yX0_passThrough, Cond.static yX0_passThrough, Cond.code yX0_passThrough cX0_passThrough 5 (some .int), Cond.methodLink RX0 24 yX4_size, Cond.methodLink RX0 30 yX4_at, Cond.methodLink RX0 33 yX0_reshaped, Cond.methodLink RX0 37 yX4_put, Cond.methodLink RX5 70 yX2_hearRest, Cond.instanceMethod yX2_hearRest, Cond.selects RX2 yX2_hearRest yX2_hearRest, Cond.code yX2_hearRest cX2_hearRest 4 (some .int), Cond.methodLink RX2 80 yX2_hearNext, Cond.methodLink RX6 57 yX3_keep, Cond.instanceMethod yX3_keep]
def wsL_law_r12 : List Cond := [Cond.selects RX3 yX3_keep yX3_keep, Cond.code yX3_keep cX3_keep 2 none, Cond.fieldLink RX3 34 "ReshapedTexts$History" "size" "I", Cond.methodLink RX3 38 Lib.Math.min.name, Cond.methodLink RX8 23 yX6_delete, Cond.instanceMethod yX6_delete, Cond.selects RX6 yX6_delete yX6_delete, Cond.code yX6_delete cX6_delete 3 (some .int), Cond.methodLink RX8 26 yX6_takeBack, Cond.instanceMethod yX6_takeBack, Cond.selects RX6 yX6_takeBack yX6_takeBack, Cond.code yX6_takeBack cX6_takeBack 2 (some .int), Cond.methodLink RX8 30 yX6_mark, Cond.instanceMethod yX6_mark, Cond.selects RX6 yX6_mark yX6_mark, Cond.code yX6_mark cX6_mark 3 (some .int), Cond.methodLink RX8 33 yX6_send, Cond.instanceMethod yX6_send, Cond.selects RX6 yX6_send yX6_send, Cond.code yX6_send cX6_send 2 (some .int), Cond.methodLink RX8 36 yX6_hear, Cond.instanceMethod yX6_hear, Cond.selects RX6 yX6_hear yX6_hear, Cond.code yX6_hear cX6_hear 2 (some .int)]
def wsL_law_r13 : List Cond := [Cond.methodLink RX8 39 yX6_hearAll, Cond.instanceMethod yX6_hearAll, Cond.selects RX6 yX6_hearAll yX6_hearAll, Cond.code yX6_hearAll cX6_hearAll 2 (some .int), Cond.methodLink RX8 79 yX8_areEditorsSo, Cond.static yX8_areEditorsSo, Cond.code yX8_areEditorsSo cX8_areEditorsSo 9 (some .boolean), Cond.methodLink RX8 42 yX6_count, Cond.instanceMethod yX6_count, Cond.selects RX6 yX6_count yX6_count, Cond.code yX6_count cX6_count 2 (some .int), Cond.methodLink RX6 114 yX5_nothingsInLog, Cond.instanceMethod yX5_nothingsInLog, Cond.selects RX5 yX5_nothingsInLog yX5_nothingsInLog, Cond.code yX5_nothingsInLog cX5_nothingsInLog 3 (some .int), Cond.methodLink RX5 76 yX4_at, Cond.methodLink RX6 117 yX5_waitingOfAll, Cond.instanceMethod yX5_waitingOfAll, Cond.selects RX5 yX5_waitingOfAll yX5_waitingOfAll, Cond.code yX5_waitingOfAll cX5_waitingOfAll 1 (some .int), Cond.methodLink RX6 120 yX5_settledEditors, Cond.instanceMethod yX5_settledEditors, Cond.selects RX5 yX5_settledEditors yX5_settledEditors, Cond.code yX5_settledEditors cX5_settledEditors 3 (some .int)]
def wsL_law_r14 : List Cond := [Cond.methodLink RX5 87 yX2_isSettled, Cond.instanceMethod yX2_isSettled, Cond.selects RX2 yX2_isSettled yX2_isSettled, Cond.code yX2_isSettled cX2_isSettled 2 (some .boolean), Cond.methodLink RX8 45 yX6_logOf, Cond.instanceMethod yX6_logOf, Cond.selects RX6 yX6_logOf yX6_logOf, Cond.code yX6_logOf cX6_logOf 3 (some .int), Cond.methodLink RX6 107 yX6_partOf, Cond.static yX6_partOf, Cond.code yX6_partOf cX6_partOf 3 (some .int), Cond.methodLink RX6 143 yX0_part, Cond.static yX0_part, Cond.code yX0_part cX0_part 3 (some .int), Cond.methodLink RX0 11 yX0_kind, Cond.methodLink RX0 15 yX0_place, Cond.methodLink RX0 18 yX0_sign, Cond.methodLink RX0 21 yX0_writer, Cond.methodLink RX8 48 yX6_waitingOf, Cond.instanceMethod yX6_waitingOf, Cond.selects RX6 yX6_waitingOf yX6_waitingOf, Cond.code yX6_waitingOf cX6_waitingOf 4 (some .int), Cond.methodLink RX8 54 yX6_by, Cond.instanceMethod yX6_by]
def wsL_law_r15 : List Cond := [Cond.selects RX6 yX6_by yX6_by, Cond.code yX6_by cX6_by 2 (some .int), Cond.methodLink RX8 83 yX8_isSendSo, Cond.static yX8_isSendSo, Cond.code yX8_isSendSo cX8_isSendSo 8 (some .boolean), Cond.methodLink RX8 57 yX6_wouldSend, Cond.instanceMethod yX6_wouldSend, Cond.selects RX6 yX6_wouldSend yX6_wouldSend, Cond.code yX6_wouldSend cX6_wouldSend 4 (some .int), Cond.methodLink RX6 136 yX2_canSend, Cond.methodLink RX6 139 yX2_outgoing, Cond.methodLink RX8 60 yX6_undo, Cond.instanceMethod yX6_undo, Cond.selects RX6 yX6_undo yX6_undo, Cond.code yX6_undo cX6_undo 1 (some .int), Cond.methodLink RX6 149 yX3_restore, Cond.instanceMethod yX3_restore, Cond.selects RX3 yX3_restore yX3_restore, Cond.code yX3_restore cX3_restore 3 none, Cond.methodLink RX3 44 Lib.Math.max.name, Cond.methodLink RX8 87 yX8_isBackSo, Cond.static yX8_isBackSo, Cond.code yX8_isBackSo cX8_isBackSo 9 (some .boolean), Cond.methodLink RX8 91 yX8_isEndSo]
def wsL_law_r16 : List Cond := [Cond.static yX8_isEndSo, Cond.code yX8_isEndSo cX8_isEndSo 7 (some .boolean), Cond.methodLink RX8 64 yX6_both, Cond.instanceMethod yX6_both, Cond.selects RX6 yX6_both yX6_both, Cond.code yX6_both cX6_both 2 (some .int), Cond.methodLink RX6 128 yX5_copyEndOf, Cond.instanceMethod yX5_copyEndOf, Cond.selects RX5 yX5_copyEndOf yX5_copyEndOf, Cond.code yX5_copyEndOf cX5_copyEndOf 6 none, Cond.methodLink RX5 111 yX5_copyState, Cond.methodLink RX6 132 yX5_isOneText, Cond.instanceMethod yX5_isOneText, Cond.selects RX5 yX5_isOneText yX5_isOneText, Cond.code yX5_isOneText cX5_isOneText 1 (some .boolean), Cond.methodLink RX5 94 yX4_isSameAs, Cond.methodLink RX8 67 yX6_inTheEnd, Cond.instanceMethod yX6_inTheEnd, Cond.selects RX6 yX6_inTheEnd yX6_inTheEnd, Cond.code yX6_inTheEnd cX6_inTheEnd 3 (some .int)]
def wsL_law : List Cond := (wsL_law_r1 ++ (wsL_law_r2 ++ (wsL_law_r3 ++ (wsL_law_r4 ++ (wsL_law_r5 ++ (wsL_law_r6 ++ (wsL_law_r7 ++ (wsL_law_r8 ++ (wsL_law_r9 ++ (wsL_law_r10 ++ (wsL_law_r11 ++ (wsL_law_r12 ++ (wsL_law_r13 ++ (wsL_law_r14 ++ (wsL_law_r15 ++ wsL_law_r16))))))))))))))) ++ wsX60 ++ wsX50 ++ wsX30 ++ wsX10 ++ wsX20 ++ wsX40 ++ ([] : List Cond)
theorem lwt_0 {w : Cond} (h : w ∈ k2_sels lw_privs) : w ∈ lw_tbl := List.mem_append_left _ h
theorem lwt_1 {w : Cond} (h : w ∈ tables_1_1) : w ∈ lw_tbl := List.mem_append_right _ (List.mem_append_left _ h)
theorem lwt_2 {w : Cond} (h : w ∈ tables_1_2) : w ∈ lw_tbl := List.mem_append_right _ (List.mem_append_right _ h)
theorem lw_nilin {P : Cond → Prop} : ∀ w ∈ ([] : List Cond), P w := fun _ h => absurd h List.not_mem_nil
set_option maxRecDepth 20000 in
theorem wsL_rin_1 : ∀ w ∈ wsL_law_r1, w ∈ lw_tbl := List.forall_mem_cons.mpr ⟨lwt_1 (List.mem_of_getElem? (l := tables_1_1) (i := 9) rfl), List.forall_mem_cons.mpr ⟨lwt_1 (List.mem_of_getElem? (l := tables_1_1) (i := 10) rfl), List.forall_mem_cons.mpr ⟨lwt_1 (List.mem_of_getElem? (l := tables_1_1) (i := 1) rfl), List.forall_mem_cons.mpr ⟨lwt_1 (List.mem_of_getElem? (l := tables_1_1) (i := 11) rfl), List.forall_mem_cons.mpr ⟨lwt_1 (List.mem_of_getElem? (l := tables_1_1) (i := 12) rfl), List.forall_mem_cons.mpr ⟨lwt_1 (List.mem_of_getElem? (l := tables_1_1) (i := 13) rfl), List.forall_mem_cons.mpr ⟨lwt_1 (List.mem_of_getElem? (l := tables_1_1) (i := 14) rfl), List.forall_mem_cons.mpr ⟨lwt_1 (List.mem_of_getElem? (l := tables_1_1) (i := 15) rfl), List.forall_mem_cons.mpr ⟨lwt_1 (List.mem_of_getElem? (l := tables_1_1) (i := 16) rfl), List.forall_mem_cons.mpr ⟨lwt_1 (List.mem_of_getElem? (l := tables_1_1) (i := 17) rfl), List.forall_mem_cons.mpr ⟨lwt_1 (List.mem_of_getElem? (l := tables_1_1) (i := 18) rfl), List.forall_mem_cons.mpr ⟨lwt_1 (List.mem_of_getElem? (l := tables_1_1) (i := 2) rfl), List.forall_mem_cons.mpr ⟨lwt_1 (List.mem_of_getElem? (l := tables_1_1) (i := 157) rfl), List.forall_mem_cons.mpr ⟨lwt_1 (List.mem_of_getElem? (l := tables_1_1) (i := 158) rfl), List.forall_mem_cons.mpr ⟨lwt_1 (List.mem_of_getElem? (l := tables_1_1) (i := 159) rfl), List.forall_mem_cons.mpr ⟨lwt_1 (List.mem_of_getElem? (l := tables_1_1) (i := 160) rfl), List.forall_mem_cons.mpr ⟨lwt_1 (List.mem_of_getElem? (l := tables_1_1) (i := 105) rfl), List.forall_mem_cons.mpr ⟨lwt_1 (List.mem_of_getElem? (l := tables_1_1) (i := 106) rfl), List.forall_mem_cons.mpr ⟨lwt_1 (List.mem_of_getElem? (l := tables_1_1) (i := 6) rfl), List.forall_mem_cons.mpr ⟨lwt_1 (List.mem_of_getElem? (l := tables_1_1) (i := 161) rfl), List.forall_mem_cons.mpr ⟨lwt_1 (List.mem_of_getElem? (l := tables_1_1) (i := 133) rfl), List.forall_mem_cons.mpr ⟨lwt_1 (List.mem_of_getElem? (l := tables_1_1) (i := 134) rfl), List.forall_mem_cons.mpr ⟨lwt_1 (List.mem_of_getElem? (l := tables_1_1) (i := 7) rfl), List.forall_mem_cons.mpr ⟨lwt_1 (List.mem_of_getElem? (l := tables_1_1) (i := 162) rfl), lw_nilin⟩⟩⟩⟩⟩⟩⟩⟩⟩⟩⟩⟩⟩⟩⟩⟩⟩⟩⟩⟩⟩⟩⟩⟩
set_option maxRecDepth 20000 in
theorem wsL_rin_2 : ∀ w ∈ wsL_law_r2, w ∈ lw_tbl := List.forall_mem_cons.mpr ⟨lwt_1 (List.mem_of_getElem? (l := tables_1_1) (i := 19) rfl), List.forall_mem_cons.mpr ⟨lwt_1 (List.mem_of_getElem? (l := tables_1_1) (i := 20) rfl), List.forall_mem_cons.mpr ⟨lwt_1 (List.mem_of_getElem? (l := tables_1_1) (i := 21) rfl), List.forall_mem_cons.mpr ⟨lwt_1 (List.mem_of_getElem? (l := tables_1_1) (i := 22) rfl), List.forall_mem_cons.mpr ⟨lwt_1 (List.mem_of_getElem? (l := tables_1_1) (i := 23) rfl), List.forall_mem_cons.mpr ⟨lwt_1 (List.mem_of_getElem? (l := tables_1_1) (i := 24) rfl), List.forall_mem_cons.mpr ⟨lwt_1 (List.mem_of_getElem? (l := tables_1_1) (i := 3) rfl), List.forall_mem_cons.mpr ⟨lwt_1 (List.mem_of_getElem? (l := tables_1_1) (i := 83) rfl), List.forall_mem_cons.mpr ⟨lwt_1 (List.mem_of_getElem? (l := tables_1_1) (i := 84) rfl), List.forall_mem_cons.mpr ⟨lwt_1 (List.mem_of_getElem? (l := tables_1_1) (i := 85) rfl), List.forall_mem_cons.mpr ⟨lwt_1 (List.mem_of_getElem? (l := tables_1_1) (i := 81) rfl), List.forall_mem_cons.mpr ⟨lwt_1 (List.mem_of_getElem? (l := tables_1_1) (i := 30) rfl), List.forall_mem_cons.mpr ⟨lwt_1 (List.mem_of_getElem? (l := tables_1_1) (i := 4) rfl), List.forall_mem_cons.mpr ⟨lwt_1 (List.mem_of_getElem? (l := tables_1_1) (i := 86) rfl), List.forall_mem_cons.mpr ⟨lwt_1 (List.mem_of_getElem? (l := tables_1_1) (i := 88) rfl), List.forall_mem_cons.mpr ⟨lwt_1 (List.mem_of_getElem? (l := tables_1_1) (i := 90) rfl), List.forall_mem_cons.mpr ⟨lwt_1 (List.mem_of_getElem? (l := tables_1_1) (i := 25) rfl), List.forall_mem_cons.mpr ⟨lwt_1 (List.mem_of_getElem? (l := tables_1_1) (i := 26) rfl), List.forall_mem_cons.mpr ⟨lwt_1 (List.mem_of_getElem? (l := tables_1_1) (i := 27) rfl), List.forall_mem_cons.mpr ⟨lwt_1 (List.mem_of_getElem? (l := tables_1_1) (i := 28) rfl), List.forall_mem_cons.mpr ⟨lwt_1 (List.mem_of_getElem? (l := tables_1_1) (i := 46) rfl), List.forall_mem_cons.mpr ⟨lwt_1 (List.mem_of_getElem? (l := tables_1_1) (i := 29) rfl), List.forall_mem_cons.mpr ⟨lwt_1 (List.mem_of_getElem? (l := tables_1_1) (i := 47) rfl), List.forall_mem_cons.mpr ⟨lwt_1 (List.mem_of_getElem? (l := tables_1_1) (i := 50) rfl), lw_nilin⟩⟩⟩⟩⟩⟩⟩⟩⟩⟩⟩⟩⟩⟩⟩⟩⟩⟩⟩⟩⟩⟩⟩⟩
set_option maxRecDepth 20000 in
theorem wsL_rin_3 : ∀ w ∈ wsL_law_r3, w ∈ lw_tbl := List.forall_mem_cons.mpr ⟨lwt_1 (List.mem_of_getElem? (l := tables_1_1) (i := 53) rfl), List.forall_mem_cons.mpr ⟨lwt_1 (List.mem_of_getElem? (l := tables_1_1) (i := 31) rfl), List.forall_mem_cons.mpr ⟨lwt_1 (List.mem_of_getElem? (l := tables_1_1) (i := 32) rfl), List.forall_mem_cons.mpr ⟨lwt_1 (List.mem_of_getElem? (l := tables_1_1) (i := 33) rfl), List.forall_mem_cons.mpr ⟨lwt_1 (List.mem_of_getElem? (l := tables_1_1) (i := 34) rfl), List.forall_mem_cons.mpr ⟨lwt_1 (List.mem_of_getElem? (l := tables_1_1) (i := 35) rfl), List.forall_mem_cons.mpr ⟨lwt_1 (List.mem_of_getElem? (l := tables_1_1) (i := 36) rfl), List.forall_mem_cons.mpr ⟨lwt_1 (List.mem_of_getElem? (l := tables_1_1) (i := 5) rfl), List.forall_mem_cons.mpr ⟨lwt_1 (List.mem_of_getElem? (l := tables_1_1) (i := 37) rfl), List.forall_mem_cons.mpr ⟨lwt_1 (List.mem_of_getElem? (l := tables_1_1) (i := 45) rfl), List.forall_mem_cons.mpr ⟨lwt_1 (List.mem_of_getElem? (l := tables_1_1) (i := 38) rfl), List.forall_mem_cons.mpr ⟨lwt_1 (List.mem_of_getElem? (l := tables_1_1) (i := 39) rfl), List.forall_mem_cons.mpr ⟨lwt_1 (List.mem_of_getElem? (l := tables_1_1) (i := 82) rfl), List.forall_mem_cons.mpr ⟨lwt_1 (List.mem_of_getElem? (l := tables_1_1) (i := 107) rfl), List.forall_mem_cons.mpr ⟨lwt_1 (List.mem_of_getElem? (l := tables_1_1) (i := 108) rfl), List.forall_mem_cons.mpr ⟨lwt_1 (List.mem_of_getElem? (l := tables_1_1) (i := 109) rfl), List.forall_mem_cons.mpr ⟨lwt_1 (List.mem_of_getElem? (l := tables_1_1) (i := 110) rfl), List.forall_mem_cons.mpr ⟨lwt_1 (List.mem_of_getElem? (l := tables_1_1) (i := 111) rfl), List.forall_mem_cons.mpr ⟨lwt_1 (List.mem_of_getElem? (l := tables_1_1) (i := 113) rfl), List.forall_mem_cons.mpr ⟨lwt_1 (List.mem_of_getElem? (l := tables_1_1) (i := 114) rfl), List.forall_mem_cons.mpr ⟨lwt_1 (List.mem_of_getElem? (l := tables_1_1) (i := 115) rfl), List.forall_mem_cons.mpr ⟨lwt_1 (List.mem_of_getElem? (l := tables_1_1) (i := 116) rfl), List.forall_mem_cons.mpr ⟨lwt_1 (List.mem_of_getElem? (l := tables_1_1) (i := 117) rfl), List.forall_mem_cons.mpr ⟨lwt_1 (List.mem_of_getElem? (l := tables_1_1) (i := 112) rfl), lw_nilin⟩⟩⟩⟩⟩⟩⟩⟩⟩⟩⟩⟩⟩⟩⟩⟩⟩⟩⟩⟩⟩⟩⟩⟩
set_option maxRecDepth 20000 in
theorem wsL_rin_4 : ∀ w ∈ wsL_law_r4, w ∈ lw_tbl := List.forall_mem_cons.mpr ⟨lwt_1 (List.mem_of_getElem? (l := tables_1_1) (i := 135) rfl), List.forall_mem_cons.mpr ⟨lwt_1 (List.mem_of_getElem? (l := tables_1_1) (i := 136) rfl), List.forall_mem_cons.mpr ⟨lwt_1 (List.mem_of_getElem? (l := tables_1_1) (i := 137) rfl), List.forall_mem_cons.mpr ⟨lwt_1 (List.mem_of_getElem? (l := tables_1_1) (i := 138) rfl), List.forall_mem_cons.mpr ⟨lwt_1 (List.mem_of_getElem? (l := tables_1_1) (i := 139) rfl), List.forall_mem_cons.mpr ⟨lwt_1 (List.mem_of_getElem? (l := tables_1_1) (i := 141) rfl), List.forall_mem_cons.mpr ⟨lwt_1 (List.mem_of_getElem? (l := tables_1_1) (i := 143) rfl), List.forall_mem_cons.mpr ⟨lwt_1 (List.mem_of_getElem? (l := tables_1_1) (i := 140) rfl), List.forall_mem_cons.mpr ⟨lwt_1 (List.mem_of_getElem? (l := tables_1_1) (i := 204) rfl), List.forall_mem_cons.mpr ⟨lwt_1 (List.mem_of_getElem? (l := tables_1_1) (i := 205) rfl), List.forall_mem_cons.mpr ⟨lwt_1 (List.mem_of_getElem? (l := tables_1_1) (i := 0) rfl), List.forall_mem_cons.mpr ⟨lwt_1 (List.mem_of_getElem? (l := tables_1_1) (i := 206) rfl), List.forall_mem_cons.mpr ⟨lwt_1 (List.mem_of_getElem? (l := tables_1_1) (i := 207) rfl), List.forall_mem_cons.mpr ⟨lwt_1 (List.mem_of_getElem? (l := tables_1_1) (i := 208) rfl), List.forall_mem_cons.mpr ⟨lwt_1 (List.mem_of_getElem? (l := tables_1_1) (i := 209) rfl), List.forall_mem_cons.mpr ⟨lwt_1 (List.mem_of_getElem? (l := tables_1_1) (i := 210) rfl), List.forall_mem_cons.mpr ⟨lwt_1 (List.mem_of_getElem? (l := tables_1_1) (i := 195) rfl), List.forall_mem_cons.mpr ⟨lwt_1 (List.mem_of_getElem? (l := tables_1_1) (i := 196) rfl), List.forall_mem_cons.mpr ⟨lwt_1 (List.mem_of_getElem? (l := tables_1_1) (i := 197) rfl), List.forall_mem_cons.mpr ⟨lwt_1 (List.mem_of_getElem? (l := tables_1_1) (i := 198) rfl), List.forall_mem_cons.mpr ⟨lwt_1 (List.mem_of_getElem? (l := tables_1_1) (i := 180) rfl), List.forall_mem_cons.mpr ⟨lwt_1 (List.mem_of_getElem? (l := tables_1_1) (i := 181) rfl), List.forall_mem_cons.mpr ⟨lwt_1 (List.mem_of_getElem? (l := tables_1_1) (i := 182) rfl), List.forall_mem_cons.mpr ⟨lwt_1 (List.mem_of_getElem? (l := tables_1_1) (i := 183) rfl), lw_nilin⟩⟩⟩⟩⟩⟩⟩⟩⟩⟩⟩⟩⟩⟩⟩⟩⟩⟩⟩⟩⟩⟩⟩⟩
set_option maxRecDepth 20000 in
theorem wsL_rin_5 : ∀ w ∈ wsL_law_r5, w ∈ lw_tbl := List.forall_mem_cons.mpr ⟨lwt_1 (List.mem_of_getElem? (l := tables_1_1) (i := 184) rfl), List.forall_mem_cons.mpr ⟨lwt_1 (List.mem_of_getElem? (l := tables_1_1) (i := 185) rfl), List.forall_mem_cons.mpr ⟨lwt_1 (List.mem_of_getElem? (l := tables_1_1) (i := 186) rfl), List.forall_mem_cons.mpr ⟨lwt_1 (List.mem_of_getElem? (l := tables_1_1) (i := 187) rfl), List.forall_mem_cons.mpr ⟨lwt_1 (List.mem_of_getElem? (l := tables_1_1) (i := 188) rfl), List.forall_mem_cons.mpr ⟨lwt_1 (List.mem_of_getElem? (l := tables_1_1) (i := 189) rfl), List.forall_mem_cons.mpr ⟨lwt_1 (List.mem_of_getElem? (l := tables_1_1) (i := 190) rfl), List.forall_mem_cons.mpr ⟨lwt_1 (List.mem_of_getElem? (l := tables_1_1) (i := 199) rfl), List.forall_mem_cons.mpr ⟨lwt_1 (List.mem_of_getElem? (l := tables_1_1) (i := 200) rfl), List.forall_mem_cons.mpr ⟨lwt_1 (List.mem_of_getElem? (l := tables_1_1) (i := 201) rfl), List.forall_mem_cons.mpr ⟨lwt_1 (List.mem_of_getElem? (l := tables_1_1) (i := 202) rfl), List.forall_mem_cons.mpr ⟨lwt_1 (List.mem_of_getElem? (l := tables_1_1) (i := 203) rfl), List.forall_mem_cons.mpr ⟨lwt_1 (List.mem_of_getElem? (l := tables_1_1) (i := 192) rfl), List.forall_mem_cons.mpr ⟨lwt_1 (List.mem_of_getElem? (l := tables_1_1) (i := 193) rfl), List.forall_mem_cons.mpr ⟨lwt_1 (List.mem_of_getElem? (l := tables_1_1) (i := 194) rfl), List.forall_mem_cons.mpr ⟨lwt_1 (List.mem_of_getElem? (l := tables_1_1) (i := 176) rfl), List.forall_mem_cons.mpr ⟨lwt_1 (List.mem_of_getElem? (l := tables_1_1) (i := 177) rfl), List.forall_mem_cons.mpr ⟨lwt_1 (List.mem_of_getElem? (l := tables_1_1) (i := 178) rfl), List.forall_mem_cons.mpr ⟨lwt_1 (List.mem_of_getElem? (l := tables_1_1) (i := 179) rfl), List.forall_mem_cons.mpr ⟨lwt_1 (List.mem_of_getElem? (l := tables_1_1) (i := 191) rfl), List.forall_mem_cons.mpr ⟨lwt_1 (List.mem_of_getElem? (l := tables_1_1) (i := 211) rfl), List.forall_mem_cons.mpr ⟨lwt_1 (List.mem_of_getElem? (l := tables_1_1) (i := 212) rfl), List.forall_mem_cons.mpr ⟨lwt_1 (List.mem_of_getElem? (l := tables_1_1) (i := 213) rfl), List.forall_mem_cons.mpr ⟨lwt_1 (List.mem_of_getElem? (l := tables_1_1) (i := 214) rfl), lw_nilin⟩⟩⟩⟩⟩⟩⟩⟩⟩⟩⟩⟩⟩⟩⟩⟩⟩⟩⟩⟩⟩⟩⟩⟩
set_option maxRecDepth 20000 in
theorem wsL_rin_6 : ∀ w ∈ wsL_law_r6, w ∈ lw_tbl := List.forall_mem_cons.mpr ⟨lwt_1 (List.mem_of_getElem? (l := tables_1_1) (i := 215) rfl), List.forall_mem_cons.mpr ⟨lwt_1 (List.mem_of_getElem? (l := tables_1_1) (i := 216) rfl), List.forall_mem_cons.mpr ⟨lwt_1 (List.mem_of_getElem? (l := tables_1_1) (i := 217) rfl), List.forall_mem_cons.mpr ⟨lwt_1 (List.mem_of_getElem? (l := tables_1_1) (i := 218) rfl), List.forall_mem_cons.mpr ⟨lwt_1 (List.mem_of_getElem? (l := tables_1_1) (i := 220) rfl), List.forall_mem_cons.mpr ⟨lwt_0 (List.mem_of_getElem? (l := k2_sels lw_privs) (i := 0) rfl), List.forall_mem_cons.mpr ⟨lwt_1 (List.mem_of_getElem? (l := tables_1_1) (i := 221) rfl), List.forall_mem_cons.mpr ⟨lwt_1 (List.mem_of_getElem? (l := tables_1_1) (i := 222) rfl), List.forall_mem_cons.mpr ⟨lwt_1 (List.mem_of_getElem? (l := tables_1_1) (i := 223) rfl), List.forall_mem_cons.mpr ⟨lwt_1 (List.mem_of_getElem? (l := tables_1_1) (i := 224) rfl), List.forall_mem_cons.mpr ⟨lwt_1 (List.mem_of_getElem? (l := tables_1_1) (i := 225) rfl), List.forall_mem_cons.mpr ⟨lwt_1 (List.mem_of_getElem? (l := tables_1_1) (i := 226) rfl), List.forall_mem_cons.mpr ⟨lwt_1 (List.mem_of_getElem? (l := tables_1_1) (i := 227) rfl), List.forall_mem_cons.mpr ⟨lwt_1 (List.mem_of_getElem? (l := tables_1_1) (i := 228) rfl), List.forall_mem_cons.mpr ⟨lwt_1 (List.mem_of_getElem? (l := tables_1_1) (i := 229) rfl), List.forall_mem_cons.mpr ⟨lwt_1 (List.mem_of_getElem? (l := tables_1_1) (i := 230) rfl), List.forall_mem_cons.mpr ⟨lwt_1 (List.mem_of_getElem? (l := tables_1_1) (i := 231) rfl), List.forall_mem_cons.mpr ⟨lwt_1 (List.mem_of_getElem? (l := tables_1_1) (i := 232) rfl), List.forall_mem_cons.mpr ⟨lwt_1 (List.mem_of_getElem? (l := tables_1_1) (i := 233) rfl), List.forall_mem_cons.mpr ⟨lwt_1 (List.mem_of_getElem? (l := tables_1_1) (i := 55) rfl), List.forall_mem_cons.mpr ⟨lwt_1 (List.mem_of_getElem? (l := tables_1_1) (i := 58) rfl), List.forall_mem_cons.mpr ⟨lwt_1 (List.mem_of_getElem? (l := tables_1_1) (i := 60) rfl), List.forall_mem_cons.mpr ⟨lwt_1 (List.mem_of_getElem? (l := tables_1_1) (i := 63) rfl), List.forall_mem_cons.mpr ⟨lwt_1 (List.mem_of_getElem? (l := tables_1_1) (i := 234) rfl), lw_nilin⟩⟩⟩⟩⟩⟩⟩⟩⟩⟩⟩⟩⟩⟩⟩⟩⟩⟩⟩⟩⟩⟩⟩⟩
set_option maxRecDepth 20000 in
theorem wsL_rin_7 : ∀ w ∈ wsL_law_r7, w ∈ lw_tbl := List.forall_mem_cons.mpr ⟨lwt_1 (List.mem_of_getElem? (l := tables_1_1) (i := 235) rfl), List.forall_mem_cons.mpr ⟨lwt_1 (List.mem_of_getElem? (l := tables_1_1) (i := 236) rfl), List.forall_mem_cons.mpr ⟨lwt_1 (List.mem_of_getElem? (l := tables_1_1) (i := 237) rfl), List.forall_mem_cons.mpr ⟨lwt_1 (List.mem_of_getElem? (l := tables_1_1) (i := 238) rfl), List.forall_mem_cons.mpr ⟨lwt_1 (List.mem_of_getElem? (l := tables_1_1) (i := 239) rfl), List.forall_mem_cons.mpr ⟨lwt_2 (List.mem_of_getElem? (l := tables_1_2) (i := 0) rfl), List.forall_mem_cons.mpr ⟨lwt_2 (List.mem_of_getElem? (l := tables_1_2) (i := 1) rfl), List.forall_mem_cons.mpr ⟨lwt_2 (List.mem_of_getElem? (l := tables_1_2) (i := 2) rfl), List.forall_mem_cons.mpr ⟨lwt_2 (List.mem_of_getElem? (l := tables_1_2) (i := 3) rfl), List.forall_mem_cons.mpr ⟨lwt_2 (List.mem_of_getElem? (l := tables_1_2) (i := 4) rfl), List.forall_mem_cons.mpr ⟨lwt_2 (List.mem_of_getElem? (l := tables_1_2) (i := 5) rfl), List.forall_mem_cons.mpr ⟨lwt_2 (List.mem_of_getElem? (l := tables_1_2) (i := 7) rfl), List.forall_mem_cons.mpr ⟨lwt_2 (List.mem_of_getElem? (l := tables_1_2) (i := 8) rfl), List.forall_mem_cons.mpr ⟨lwt_2 (List.mem_of_getElem? (l := tables_1_2) (i := 9) rfl), List.forall_mem_cons.mpr ⟨lwt_2 (List.mem_of_getElem? (l := tables_1_2) (i := 10) rfl), List.forall_mem_cons.mpr ⟨lwt_2 (List.mem_of_getElem? (l := tables_1_2) (i := 11) rfl), List.forall_mem_cons.mpr ⟨lwt_2 (List.mem_of_getElem? (l := tables_1_2) (i := 12) rfl), List.forall_mem_cons.mpr ⟨lwt_2 (List.mem_of_getElem? (l := tables_1_2) (i := 13) rfl), List.forall_mem_cons.mpr ⟨lwt_2 (List.mem_of_getElem? (l := tables_1_2) (i := 14) rfl), List.forall_mem_cons.mpr ⟨lwt_1 (List.mem_of_getElem? (l := tables_1_1) (i := 8) rfl), List.forall_mem_cons.mpr ⟨lwt_2 (List.mem_of_getElem? (l := tables_1_2) (i := 15) rfl), List.forall_mem_cons.mpr ⟨lwt_2 (List.mem_of_getElem? (l := tables_1_2) (i := 16) rfl), List.forall_mem_cons.mpr ⟨lwt_2 (List.mem_of_getElem? (l := tables_1_2) (i := 18) rfl), List.forall_mem_cons.mpr ⟨lwt_0 (List.mem_of_getElem? (l := k2_sels lw_privs) (i := 1) rfl), lw_nilin⟩⟩⟩⟩⟩⟩⟩⟩⟩⟩⟩⟩⟩⟩⟩⟩⟩⟩⟩⟩⟩⟩⟩⟩
set_option maxRecDepth 20000 in
theorem wsL_rin_8 : ∀ w ∈ wsL_law_r8, w ∈ lw_tbl := List.forall_mem_cons.mpr ⟨lwt_2 (List.mem_of_getElem? (l := tables_1_2) (i := 19) rfl), List.forall_mem_cons.mpr ⟨lwt_2 (List.mem_of_getElem? (l := tables_1_2) (i := 20) rfl), List.forall_mem_cons.mpr ⟨lwt_2 (List.mem_of_getElem? (l := tables_1_2) (i := 22) rfl), List.forall_mem_cons.mpr ⟨lwt_0 (List.mem_of_getElem? (l := k2_sels lw_privs) (i := 2) rfl), List.forall_mem_cons.mpr ⟨lwt_2 (List.mem_of_getElem? (l := tables_1_2) (i := 23) rfl), List.forall_mem_cons.mpr ⟨lwt_2 (List.mem_of_getElem? (l := tables_1_2) (i := 24) rfl), List.forall_mem_cons.mpr ⟨lwt_2 (List.mem_of_getElem? (l := tables_1_2) (i := 25) rfl), List.forall_mem_cons.mpr ⟨lwt_2 (List.mem_of_getElem? (l := tables_1_2) (i := 26) rfl), List.forall_mem_cons.mpr ⟨lwt_2 (List.mem_of_getElem? (l := tables_1_2) (i := 27) rfl), List.forall_mem_cons.mpr ⟨lwt_2 (List.mem_of_getElem? (l := tables_1_2) (i := 28) rfl), List.forall_mem_cons.mpr ⟨lwt_2 (List.mem_of_getElem? (l := tables_1_2) (i := 29) rfl), List.forall_mem_cons.mpr ⟨lwt_2 (List.mem_of_getElem? (l := tables_1_2) (i := 30) rfl), List.forall_mem_cons.mpr ⟨lwt_2 (List.mem_of_getElem? (l := tables_1_2) (i := 31) rfl), List.forall_mem_cons.mpr ⟨lwt_2 (List.mem_of_getElem? (l := tables_1_2) (i := 32) rfl), List.forall_mem_cons.mpr ⟨lwt_2 (List.mem_of_getElem? (l := tables_1_2) (i := 33) rfl), List.forall_mem_cons.mpr ⟨lwt_2 (List.mem_of_getElem? (l := tables_1_2) (i := 34) rfl), List.forall_mem_cons.mpr ⟨lwt_2 (List.mem_of_getElem? (l := tables_1_2) (i := 35) rfl), List.forall_mem_cons.mpr ⟨lwt_2 (List.mem_of_getElem? (l := tables_1_2) (i := 36) rfl), List.forall_mem_cons.mpr ⟨lwt_2 (List.mem_of_getElem? (l := tables_1_2) (i := 37) rfl), List.forall_mem_cons.mpr ⟨lwt_2 (List.mem_of_getElem? (l := tables_1_2) (i := 38) rfl), List.forall_mem_cons.mpr ⟨lwt_2 (List.mem_of_getElem? (l := tables_1_2) (i := 39) rfl), List.forall_mem_cons.mpr ⟨lwt_2 (List.mem_of_getElem? (l := tables_1_2) (i := 40) rfl), List.forall_mem_cons.mpr ⟨lwt_2 (List.mem_of_getElem? (l := tables_1_2) (i := 41) rfl), List.forall_mem_cons.mpr ⟨lwt_2 (List.mem_of_getElem? (l := tables_1_2) (i := 42) rfl), lw_nilin⟩⟩⟩⟩⟩⟩⟩⟩⟩⟩⟩⟩⟩⟩⟩⟩⟩⟩⟩⟩⟩⟩⟩⟩
set_option maxRecDepth 20000 in
theorem wsL_rin_9 : ∀ w ∈ wsL_law_r9, w ∈ lw_tbl := List.forall_mem_cons.mpr ⟨lwt_2 (List.mem_of_getElem? (l := tables_1_2) (i := 43) rfl), List.forall_mem_cons.mpr ⟨lwt_2 (List.mem_of_getElem? (l := tables_1_2) (i := 44) rfl), List.forall_mem_cons.mpr ⟨lwt_2 (List.mem_of_getElem? (l := tables_1_2) (i := 45) rfl), List.forall_mem_cons.mpr ⟨lwt_2 (List.mem_of_getElem? (l := tables_1_2) (i := 46) rfl), List.forall_mem_cons.mpr ⟨lwt_2 (List.mem_of_getElem? (l := tables_1_2) (i := 47) rfl), List.forall_mem_cons.mpr ⟨lwt_2 (List.mem_of_getElem? (l := tables_1_2) (i := 48) rfl), List.forall_mem_cons.mpr ⟨lwt_2 (List.mem_of_getElem? (l := tables_1_2) (i := 49) rfl), List.forall_mem_cons.mpr ⟨lwt_2 (List.mem_of_getElem? (l := tables_1_2) (i := 50) rfl), List.forall_mem_cons.mpr ⟨lwt_2 (List.mem_of_getElem? (l := tables_1_2) (i := 51) rfl), List.forall_mem_cons.mpr ⟨lwt_2 (List.mem_of_getElem? (l := tables_1_2) (i := 52) rfl), List.forall_mem_cons.mpr ⟨lwt_2 (List.mem_of_getElem? (l := tables_1_2) (i := 53) rfl), List.forall_mem_cons.mpr ⟨lwt_2 (List.mem_of_getElem? (l := tables_1_2) (i := 54) rfl), List.forall_mem_cons.mpr ⟨lwt_2 (List.mem_of_getElem? (l := tables_1_2) (i := 56) rfl), List.forall_mem_cons.mpr ⟨lwt_0 (List.mem_of_getElem? (l := k2_sels lw_privs) (i := 3) rfl), List.forall_mem_cons.mpr ⟨lwt_2 (List.mem_of_getElem? (l := tables_1_2) (i := 57) rfl), List.forall_mem_cons.mpr ⟨lwt_2 (List.mem_of_getElem? (l := tables_1_2) (i := 58) rfl), List.forall_mem_cons.mpr ⟨lwt_2 (List.mem_of_getElem? (l := tables_1_2) (i := 59) rfl), List.forall_mem_cons.mpr ⟨lwt_2 (List.mem_of_getElem? (l := tables_1_2) (i := 60) rfl), List.forall_mem_cons.mpr ⟨lwt_2 (List.mem_of_getElem? (l := tables_1_2) (i := 61) rfl), List.forall_mem_cons.mpr ⟨lwt_2 (List.mem_of_getElem? (l := tables_1_2) (i := 62) rfl), List.forall_mem_cons.mpr ⟨lwt_2 (List.mem_of_getElem? (l := tables_1_2) (i := 63) rfl), List.forall_mem_cons.mpr ⟨lwt_2 (List.mem_of_getElem? (l := tables_1_2) (i := 64) rfl), List.forall_mem_cons.mpr ⟨lwt_2 (List.mem_of_getElem? (l := tables_1_2) (i := 65) rfl), List.forall_mem_cons.mpr ⟨lwt_2 (List.mem_of_getElem? (l := tables_1_2) (i := 66) rfl), lw_nilin⟩⟩⟩⟩⟩⟩⟩⟩⟩⟩⟩⟩⟩⟩⟩⟩⟩⟩⟩⟩⟩⟩⟩⟩
set_option maxRecDepth 20000 in
theorem wsL_rin_10 : ∀ w ∈ wsL_law_r10, w ∈ lw_tbl := List.forall_mem_cons.mpr ⟨lwt_2 (List.mem_of_getElem? (l := tables_1_2) (i := 67) rfl), List.forall_mem_cons.mpr ⟨lwt_2 (List.mem_of_getElem? (l := tables_1_2) (i := 68) rfl), List.forall_mem_cons.mpr ⟨lwt_2 (List.mem_of_getElem? (l := tables_1_2) (i := 69) rfl), List.forall_mem_cons.mpr ⟨lwt_2 (List.mem_of_getElem? (l := tables_1_2) (i := 70) rfl), List.forall_mem_cons.mpr ⟨lwt_2 (List.mem_of_getElem? (l := tables_1_2) (i := 72) rfl), List.forall_mem_cons.mpr ⟨lwt_0 (List.mem_of_getElem? (l := k2_sels lw_privs) (i := 4) rfl), List.forall_mem_cons.mpr ⟨lwt_2 (List.mem_of_getElem? (l := tables_1_2) (i := 73) rfl), List.forall_mem_cons.mpr ⟨lwt_2 (List.mem_of_getElem? (l := tables_1_2) (i := 74) rfl), List.forall_mem_cons.mpr ⟨lwt_2 (List.mem_of_getElem? (l := tables_1_2) (i := 75) rfl), List.forall_mem_cons.mpr ⟨lwt_2 (List.mem_of_getElem? (l := tables_1_2) (i := 76) rfl), List.forall_mem_cons.mpr ⟨lwt_2 (List.mem_of_getElem? (l := tables_1_2) (i := 77) rfl), List.forall_mem_cons.mpr ⟨lwt_2 (List.mem_of_getElem? (l := tables_1_2) (i := 78) rfl), List.forall_mem_cons.mpr ⟨lwt_2 (List.mem_of_getElem? (l := tables_1_2) (i := 79) rfl), List.forall_mem_cons.mpr ⟨lwt_2 (List.mem_of_getElem? (l := tables_1_2) (i := 81) rfl), List.forall_mem_cons.mpr ⟨lwt_0 (List.mem_of_getElem? (l := k2_sels lw_privs) (i := 5) rfl), List.forall_mem_cons.mpr ⟨lwt_2 (List.mem_of_getElem? (l := tables_1_2) (i := 82) rfl), List.forall_mem_cons.mpr ⟨lwt_2 (List.mem_of_getElem? (l := tables_1_2) (i := 83) rfl), List.forall_mem_cons.mpr ⟨lwt_2 (List.mem_of_getElem? (l := tables_1_2) (i := 84) rfl), List.forall_mem_cons.mpr ⟨lwt_2 (List.mem_of_getElem? (l := tables_1_2) (i := 85) rfl), List.forall_mem_cons.mpr ⟨lwt_2 (List.mem_of_getElem? (l := tables_1_2) (i := 86) rfl), List.forall_mem_cons.mpr ⟨lwt_2 (List.mem_of_getElem? (l := tables_1_2) (i := 87) rfl), List.forall_mem_cons.mpr ⟨lwt_2 (List.mem_of_getElem? (l := tables_1_2) (i := 88) rfl), List.forall_mem_cons.mpr ⟨lwt_2 (List.mem_of_getElem? (l := tables_1_2) (i := 89) rfl), List.forall_mem_cons.mpr ⟨lwt_2 (List.mem_of_getElem? (l := tables_1_2) (i := 90) rfl), lw_nilin⟩⟩⟩⟩⟩⟩⟩⟩⟩⟩⟩⟩⟩⟩⟩⟩⟩⟩⟩⟩⟩⟩⟩⟩
set_option maxRecDepth 20000 in
theorem wsL_rin_11 : ∀ w ∈ wsL_law_r11, w ∈ lw_tbl := List.forall_mem_cons.mpr ⟨lwt_2 (List.mem_of_getElem? (l := tables_1_2) (i := 91) rfl), List.forall_mem_cons.mpr ⟨lwt_2 (List.mem_of_getElem? (l := tables_1_2) (i := 92) rfl), List.forall_mem_cons.mpr ⟨lwt_2 (List.mem_of_getElem? (l := tables_1_2) (i := 93) rfl), List.forall_mem_cons.mpr ⟨lwt_2 (List.mem_of_getElem? (l := tables_1_2) (i := 94) rfl), List.forall_mem_cons.mpr ⟨lwt_2 (List.mem_of_getElem? (l := tables_1_2) (i := 95) rfl), List.forall_mem_cons.mpr ⟨lwt_2 (List.mem_of_getElem? (l := tables_1_2) (i := 96) rfl), List.forall_mem_cons.mpr ⟨lwt_2 (List.mem_of_getElem? (l := tables_1_2) (i := 97) rfl), List.forall_mem_cons.mpr ⟨lwt_2 (List.mem_of_getElem? (l := tables_1_2) (i := 98) rfl), List.forall_mem_cons.mpr ⟨lwt_2 (List.mem_of_getElem? (l := tables_1_2) (i := 99) rfl), List.forall_mem_cons.mpr ⟨lwt_2 (List.mem_of_getElem? (l := tables_1_2) (i := 100) rfl), List.forall_mem_cons.mpr ⟨lwt_2 (List.mem_of_getElem? (l := tables_1_2) (i := 101) rfl), List.forall_mem_cons.mpr ⟨lwt_2 (List.mem_of_getElem? (l := tables_1_2) (i := 102) rfl), List.forall_mem_cons.mpr ⟨lwt_2 (List.mem_of_getElem? (l := tables_1_2) (i := 103) rfl), List.forall_mem_cons.mpr ⟨lwt_2 (List.mem_of_getElem? (l := tables_1_2) (i := 104) rfl), List.forall_mem_cons.mpr ⟨lwt_2 (List.mem_of_getElem? (l := tables_1_2) (i := 105) rfl), List.forall_mem_cons.mpr ⟨lwt_2 (List.mem_of_getElem? (l := tables_1_2) (i := 106) rfl), List.forall_mem_cons.mpr ⟨lwt_2 (List.mem_of_getElem? (l := tables_1_2) (i := 107) rfl), List.forall_mem_cons.mpr ⟨lwt_2 (List.mem_of_getElem? (l := tables_1_2) (i := 108) rfl), List.forall_mem_cons.mpr ⟨lwt_2 (List.mem_of_getElem? (l := tables_1_2) (i := 109) rfl), List.forall_mem_cons.mpr ⟨lwt_2 (List.mem_of_getElem? (l := tables_1_2) (i := 110) rfl), List.forall_mem_cons.mpr ⟨lwt_2 (List.mem_of_getElem? (l := tables_1_2) (i := 111) rfl), List.forall_mem_cons.mpr ⟨lwt_2 (List.mem_of_getElem? (l := tables_1_2) (i := 112) rfl), List.forall_mem_cons.mpr ⟨lwt_2 (List.mem_of_getElem? (l := tables_1_2) (i := 113) rfl), List.forall_mem_cons.mpr ⟨lwt_2 (List.mem_of_getElem? (l := tables_1_2) (i := 114) rfl), lw_nilin⟩⟩⟩⟩⟩⟩⟩⟩⟩⟩⟩⟩⟩⟩⟩⟩⟩⟩⟩⟩⟩⟩⟩⟩
set_option maxRecDepth 20000 in
theorem wsL_rin_12 : ∀ w ∈ wsL_law_r12, w ∈ lw_tbl := List.forall_mem_cons.mpr ⟨lwt_2 (List.mem_of_getElem? (l := tables_1_2) (i := 115) rfl), List.forall_mem_cons.mpr ⟨lwt_2 (List.mem_of_getElem? (l := tables_1_2) (i := 116) rfl), List.forall_mem_cons.mpr ⟨lwt_1 (List.mem_of_getElem? (l := tables_1_1) (i := 118) rfl), List.forall_mem_cons.mpr ⟨lwt_2 (List.mem_of_getElem? (l := tables_1_2) (i := 117) rfl), List.forall_mem_cons.mpr ⟨lwt_2 (List.mem_of_getElem? (l := tables_1_2) (i := 118) rfl), List.forall_mem_cons.mpr ⟨lwt_2 (List.mem_of_getElem? (l := tables_1_2) (i := 119) rfl), List.forall_mem_cons.mpr ⟨lwt_2 (List.mem_of_getElem? (l := tables_1_2) (i := 120) rfl), List.forall_mem_cons.mpr ⟨lwt_2 (List.mem_of_getElem? (l := tables_1_2) (i := 121) rfl), List.forall_mem_cons.mpr ⟨lwt_2 (List.mem_of_getElem? (l := tables_1_2) (i := 122) rfl), List.forall_mem_cons.mpr ⟨lwt_2 (List.mem_of_getElem? (l := tables_1_2) (i := 123) rfl), List.forall_mem_cons.mpr ⟨lwt_2 (List.mem_of_getElem? (l := tables_1_2) (i := 124) rfl), List.forall_mem_cons.mpr ⟨lwt_2 (List.mem_of_getElem? (l := tables_1_2) (i := 125) rfl), List.forall_mem_cons.mpr ⟨lwt_2 (List.mem_of_getElem? (l := tables_1_2) (i := 126) rfl), List.forall_mem_cons.mpr ⟨lwt_2 (List.mem_of_getElem? (l := tables_1_2) (i := 127) rfl), List.forall_mem_cons.mpr ⟨lwt_2 (List.mem_of_getElem? (l := tables_1_2) (i := 128) rfl), List.forall_mem_cons.mpr ⟨lwt_2 (List.mem_of_getElem? (l := tables_1_2) (i := 129) rfl), List.forall_mem_cons.mpr ⟨lwt_2 (List.mem_of_getElem? (l := tables_1_2) (i := 130) rfl), List.forall_mem_cons.mpr ⟨lwt_2 (List.mem_of_getElem? (l := tables_1_2) (i := 131) rfl), List.forall_mem_cons.mpr ⟨lwt_2 (List.mem_of_getElem? (l := tables_1_2) (i := 132) rfl), List.forall_mem_cons.mpr ⟨lwt_2 (List.mem_of_getElem? (l := tables_1_2) (i := 133) rfl), List.forall_mem_cons.mpr ⟨lwt_2 (List.mem_of_getElem? (l := tables_1_2) (i := 134) rfl), List.forall_mem_cons.mpr ⟨lwt_2 (List.mem_of_getElem? (l := tables_1_2) (i := 135) rfl), List.forall_mem_cons.mpr ⟨lwt_2 (List.mem_of_getElem? (l := tables_1_2) (i := 136) rfl), List.forall_mem_cons.mpr ⟨lwt_2 (List.mem_of_getElem? (l := tables_1_2) (i := 137) rfl), lw_nilin⟩⟩⟩⟩⟩⟩⟩⟩⟩⟩⟩⟩⟩⟩⟩⟩⟩⟩⟩⟩⟩⟩⟩⟩
set_option maxRecDepth 20000 in
theorem wsL_rin_13 : ∀ w ∈ wsL_law_r13, w ∈ lw_tbl := List.forall_mem_cons.mpr ⟨lwt_2 (List.mem_of_getElem? (l := tables_1_2) (i := 138) rfl), List.forall_mem_cons.mpr ⟨lwt_2 (List.mem_of_getElem? (l := tables_1_2) (i := 139) rfl), List.forall_mem_cons.mpr ⟨lwt_2 (List.mem_of_getElem? (l := tables_1_2) (i := 140) rfl), List.forall_mem_cons.mpr ⟨lwt_2 (List.mem_of_getElem? (l := tables_1_2) (i := 141) rfl), List.forall_mem_cons.mpr ⟨lwt_2 (List.mem_of_getElem? (l := tables_1_2) (i := 142) rfl), List.forall_mem_cons.mpr ⟨lwt_2 (List.mem_of_getElem? (l := tables_1_2) (i := 143) rfl), List.forall_mem_cons.mpr ⟨lwt_2 (List.mem_of_getElem? (l := tables_1_2) (i := 144) rfl), List.forall_mem_cons.mpr ⟨lwt_2 (List.mem_of_getElem? (l := tables_1_2) (i := 145) rfl), List.forall_mem_cons.mpr ⟨lwt_2 (List.mem_of_getElem? (l := tables_1_2) (i := 146) rfl), List.forall_mem_cons.mpr ⟨lwt_2 (List.mem_of_getElem? (l := tables_1_2) (i := 147) rfl), List.forall_mem_cons.mpr ⟨lwt_2 (List.mem_of_getElem? (l := tables_1_2) (i := 148) rfl), List.forall_mem_cons.mpr ⟨lwt_2 (List.mem_of_getElem? (l := tables_1_2) (i := 149) rfl), List.forall_mem_cons.mpr ⟨lwt_2 (List.mem_of_getElem? (l := tables_1_2) (i := 150) rfl), List.forall_mem_cons.mpr ⟨lwt_2 (List.mem_of_getElem? (l := tables_1_2) (i := 151) rfl), List.forall_mem_cons.mpr ⟨lwt_2 (List.mem_of_getElem? (l := tables_1_2) (i := 152) rfl), List.forall_mem_cons.mpr ⟨lwt_2 (List.mem_of_getElem? (l := tables_1_2) (i := 153) rfl), List.forall_mem_cons.mpr ⟨lwt_2 (List.mem_of_getElem? (l := tables_1_2) (i := 154) rfl), List.forall_mem_cons.mpr ⟨lwt_2 (List.mem_of_getElem? (l := tables_1_2) (i := 155) rfl), List.forall_mem_cons.mpr ⟨lwt_2 (List.mem_of_getElem? (l := tables_1_2) (i := 156) rfl), List.forall_mem_cons.mpr ⟨lwt_2 (List.mem_of_getElem? (l := tables_1_2) (i := 157) rfl), List.forall_mem_cons.mpr ⟨lwt_2 (List.mem_of_getElem? (l := tables_1_2) (i := 158) rfl), List.forall_mem_cons.mpr ⟨lwt_2 (List.mem_of_getElem? (l := tables_1_2) (i := 159) rfl), List.forall_mem_cons.mpr ⟨lwt_2 (List.mem_of_getElem? (l := tables_1_2) (i := 160) rfl), List.forall_mem_cons.mpr ⟨lwt_2 (List.mem_of_getElem? (l := tables_1_2) (i := 161) rfl), lw_nilin⟩⟩⟩⟩⟩⟩⟩⟩⟩⟩⟩⟩⟩⟩⟩⟩⟩⟩⟩⟩⟩⟩⟩⟩
set_option maxRecDepth 20000 in
theorem wsL_rin_14 : ∀ w ∈ wsL_law_r14, w ∈ lw_tbl := List.forall_mem_cons.mpr ⟨lwt_2 (List.mem_of_getElem? (l := tables_1_2) (i := 162) rfl), List.forall_mem_cons.mpr ⟨lwt_2 (List.mem_of_getElem? (l := tables_1_2) (i := 163) rfl), List.forall_mem_cons.mpr ⟨lwt_2 (List.mem_of_getElem? (l := tables_1_2) (i := 164) rfl), List.forall_mem_cons.mpr ⟨lwt_2 (List.mem_of_getElem? (l := tables_1_2) (i := 165) rfl), List.forall_mem_cons.mpr ⟨lwt_2 (List.mem_of_getElem? (l := tables_1_2) (i := 166) rfl), List.forall_mem_cons.mpr ⟨lwt_2 (List.mem_of_getElem? (l := tables_1_2) (i := 167) rfl), List.forall_mem_cons.mpr ⟨lwt_2 (List.mem_of_getElem? (l := tables_1_2) (i := 168) rfl), List.forall_mem_cons.mpr ⟨lwt_2 (List.mem_of_getElem? (l := tables_1_2) (i := 169) rfl), List.forall_mem_cons.mpr ⟨lwt_2 (List.mem_of_getElem? (l := tables_1_2) (i := 170) rfl), List.forall_mem_cons.mpr ⟨lwt_2 (List.mem_of_getElem? (l := tables_1_2) (i := 171) rfl), List.forall_mem_cons.mpr ⟨lwt_2 (List.mem_of_getElem? (l := tables_1_2) (i := 172) rfl), List.forall_mem_cons.mpr ⟨lwt_2 (List.mem_of_getElem? (l := tables_1_2) (i := 173) rfl), List.forall_mem_cons.mpr ⟨lwt_2 (List.mem_of_getElem? (l := tables_1_2) (i := 174) rfl), List.forall_mem_cons.mpr ⟨lwt_2 (List.mem_of_getElem? (l := tables_1_2) (i := 175) rfl), List.forall_mem_cons.mpr ⟨lwt_2 (List.mem_of_getElem? (l := tables_1_2) (i := 176) rfl), List.forall_mem_cons.mpr ⟨lwt_2 (List.mem_of_getElem? (l := tables_1_2) (i := 177) rfl), List.forall_mem_cons.mpr ⟨lwt_2 (List.mem_of_getElem? (l := tables_1_2) (i := 178) rfl), List.forall_mem_cons.mpr ⟨lwt_2 (List.mem_of_getElem? (l := tables_1_2) (i := 179) rfl), List.forall_mem_cons.mpr ⟨lwt_2 (List.mem_of_getElem? (l := tables_1_2) (i := 180) rfl), List.forall_mem_cons.mpr ⟨lwt_2 (List.mem_of_getElem? (l := tables_1_2) (i := 181) rfl), List.forall_mem_cons.mpr ⟨lwt_2 (List.mem_of_getElem? (l := tables_1_2) (i := 182) rfl), List.forall_mem_cons.mpr ⟨lwt_2 (List.mem_of_getElem? (l := tables_1_2) (i := 183) rfl), List.forall_mem_cons.mpr ⟨lwt_2 (List.mem_of_getElem? (l := tables_1_2) (i := 184) rfl), List.forall_mem_cons.mpr ⟨lwt_2 (List.mem_of_getElem? (l := tables_1_2) (i := 185) rfl), lw_nilin⟩⟩⟩⟩⟩⟩⟩⟩⟩⟩⟩⟩⟩⟩⟩⟩⟩⟩⟩⟩⟩⟩⟩⟩
set_option maxRecDepth 20000 in
theorem wsL_rin_15 : ∀ w ∈ wsL_law_r15, w ∈ lw_tbl := List.forall_mem_cons.mpr ⟨lwt_2 (List.mem_of_getElem? (l := tables_1_2) (i := 186) rfl), List.forall_mem_cons.mpr ⟨lwt_2 (List.mem_of_getElem? (l := tables_1_2) (i := 187) rfl), List.forall_mem_cons.mpr ⟨lwt_2 (List.mem_of_getElem? (l := tables_1_2) (i := 188) rfl), List.forall_mem_cons.mpr ⟨lwt_2 (List.mem_of_getElem? (l := tables_1_2) (i := 189) rfl), List.forall_mem_cons.mpr ⟨lwt_2 (List.mem_of_getElem? (l := tables_1_2) (i := 190) rfl), List.forall_mem_cons.mpr ⟨lwt_2 (List.mem_of_getElem? (l := tables_1_2) (i := 191) rfl), List.forall_mem_cons.mpr ⟨lwt_2 (List.mem_of_getElem? (l := tables_1_2) (i := 192) rfl), List.forall_mem_cons.mpr ⟨lwt_2 (List.mem_of_getElem? (l := tables_1_2) (i := 193) rfl), List.forall_mem_cons.mpr ⟨lwt_2 (List.mem_of_getElem? (l := tables_1_2) (i := 194) rfl), List.forall_mem_cons.mpr ⟨lwt_2 (List.mem_of_getElem? (l := tables_1_2) (i := 195) rfl), List.forall_mem_cons.mpr ⟨lwt_2 (List.mem_of_getElem? (l := tables_1_2) (i := 196) rfl), List.forall_mem_cons.mpr ⟨lwt_2 (List.mem_of_getElem? (l := tables_1_2) (i := 197) rfl), List.forall_mem_cons.mpr ⟨lwt_2 (List.mem_of_getElem? (l := tables_1_2) (i := 198) rfl), List.forall_mem_cons.mpr ⟨lwt_2 (List.mem_of_getElem? (l := tables_1_2) (i := 199) rfl), List.forall_mem_cons.mpr ⟨lwt_2 (List.mem_of_getElem? (l := tables_1_2) (i := 200) rfl), List.forall_mem_cons.mpr ⟨lwt_2 (List.mem_of_getElem? (l := tables_1_2) (i := 201) rfl), List.forall_mem_cons.mpr ⟨lwt_2 (List.mem_of_getElem? (l := tables_1_2) (i := 202) rfl), List.forall_mem_cons.mpr ⟨lwt_2 (List.mem_of_getElem? (l := tables_1_2) (i := 203) rfl), List.forall_mem_cons.mpr ⟨lwt_2 (List.mem_of_getElem? (l := tables_1_2) (i := 204) rfl), List.forall_mem_cons.mpr ⟨lwt_2 (List.mem_of_getElem? (l := tables_1_2) (i := 205) rfl), List.forall_mem_cons.mpr ⟨lwt_2 (List.mem_of_getElem? (l := tables_1_2) (i := 206) rfl), List.forall_mem_cons.mpr ⟨lwt_2 (List.mem_of_getElem? (l := tables_1_2) (i := 207) rfl), List.forall_mem_cons.mpr ⟨lwt_2 (List.mem_of_getElem? (l := tables_1_2) (i := 208) rfl), List.forall_mem_cons.mpr ⟨lwt_2 (List.mem_of_getElem? (l := tables_1_2) (i := 209) rfl), lw_nilin⟩⟩⟩⟩⟩⟩⟩⟩⟩⟩⟩⟩⟩⟩⟩⟩⟩⟩⟩⟩⟩⟩⟩⟩
set_option maxRecDepth 20000 in
theorem wsL_rin_16 : ∀ w ∈ wsL_law_r16, w ∈ lw_tbl := List.forall_mem_cons.mpr ⟨lwt_2 (List.mem_of_getElem? (l := tables_1_2) (i := 210) rfl), List.forall_mem_cons.mpr ⟨lwt_2 (List.mem_of_getElem? (l := tables_1_2) (i := 211) rfl), List.forall_mem_cons.mpr ⟨lwt_2 (List.mem_of_getElem? (l := tables_1_2) (i := 212) rfl), List.forall_mem_cons.mpr ⟨lwt_2 (List.mem_of_getElem? (l := tables_1_2) (i := 213) rfl), List.forall_mem_cons.mpr ⟨lwt_2 (List.mem_of_getElem? (l := tables_1_2) (i := 214) rfl), List.forall_mem_cons.mpr ⟨lwt_2 (List.mem_of_getElem? (l := tables_1_2) (i := 215) rfl), List.forall_mem_cons.mpr ⟨lwt_2 (List.mem_of_getElem? (l := tables_1_2) (i := 216) rfl), List.forall_mem_cons.mpr ⟨lwt_2 (List.mem_of_getElem? (l := tables_1_2) (i := 217) rfl), List.forall_mem_cons.mpr ⟨lwt_2 (List.mem_of_getElem? (l := tables_1_2) (i := 218) rfl), List.forall_mem_cons.mpr ⟨lwt_2 (List.mem_of_getElem? (l := tables_1_2) (i := 219) rfl), List.forall_mem_cons.mpr ⟨lwt_2 (List.mem_of_getElem? (l := tables_1_2) (i := 220) rfl), List.forall_mem_cons.mpr ⟨lwt_2 (List.mem_of_getElem? (l := tables_1_2) (i := 221) rfl), List.forall_mem_cons.mpr ⟨lwt_2 (List.mem_of_getElem? (l := tables_1_2) (i := 222) rfl), List.forall_mem_cons.mpr ⟨lwt_2 (List.mem_of_getElem? (l := tables_1_2) (i := 223) rfl), List.forall_mem_cons.mpr ⟨lwt_2 (List.mem_of_getElem? (l := tables_1_2) (i := 224) rfl), List.forall_mem_cons.mpr ⟨lwt_2 (List.mem_of_getElem? (l := tables_1_2) (i := 225) rfl), List.forall_mem_cons.mpr ⟨lwt_2 (List.mem_of_getElem? (l := tables_1_2) (i := 226) rfl), List.forall_mem_cons.mpr ⟨lwt_2 (List.mem_of_getElem? (l := tables_1_2) (i := 227) rfl), List.forall_mem_cons.mpr ⟨lwt_2 (List.mem_of_getElem? (l := tables_1_2) (i := 228) rfl), List.forall_mem_cons.mpr ⟨lwt_2 (List.mem_of_getElem? (l := tables_1_2) (i := 229) rfl), lw_nilin⟩⟩⟩⟩⟩⟩⟩⟩⟩⟩⟩⟩⟩⟩⟩⟩⟩⟩⟩⟩
theorem wsL_x1 : ∀ w ∈ wsX10, w ∈ lw_tbl := by decide +kernel
theorem wsL_x2 : ∀ w ∈ wsX20, w ∈ lw_tbl := by decide +kernel
theorem wsL_x3 : ∀ w ∈ wsX30, w ∈ lw_tbl := by decide +kernel
theorem wsL_x4 : ∀ w ∈ wsX40, w ∈ lw_tbl := by decide +kernel
theorem wsL_x5 : ∀ w ∈ wsX50, w ∈ lw_tbl := by decide +kernel
theorem wsL_x6 : ∀ w ∈ wsX60, w ∈ lw_tbl := by decide +kernel
theorem wsL_law_in : ∀ w ∈ wsL_law, w ∈ lw_tbl := by
  unfold wsL_law
  simp only [List.forall_mem_append]
  exact ⟨⟨⟨⟨⟨⟨⟨⟨wsL_rin_1, wsL_rin_2, wsL_rin_3, wsL_rin_4, wsL_rin_5, wsL_rin_6, wsL_rin_7, wsL_rin_8, wsL_rin_9, wsL_rin_10, wsL_rin_11, wsL_rin_12, wsL_rin_13, wsL_rin_14, wsL_rin_15, wsL_rin_16⟩, wsL_x6⟩, wsL_x5⟩, wsL_x3⟩, wsL_x1⟩, wsL_x2⟩, wsL_x4⟩, lw_nilin⟩
theorem inX0 : ∀ w ∈ wsX00, w ∈ lw_tbl := by decide +kernel
theorem inlX1 : ∀ w ∈ wsX10, w ∈ wsL_law := fun _ h => List.mem_append_left _ (List.mem_append_left _ (List.mem_append_left _ (List.mem_append_right _ h)))
theorem inX1 : ∀ w ∈ wsX10, w ∈ lw_tbl := fun w h => wsL_law_in w (inlX1 w h)
theorem inlX2 : ∀ w ∈ wsX20, w ∈ wsL_law := fun _ h => List.mem_append_left _ (List.mem_append_left _ (List.mem_append_right _ h))
theorem inX2 : ∀ w ∈ wsX20, w ∈ lw_tbl := fun w h => wsL_law_in w (inlX2 w h)
theorem inlX3 : ∀ w ∈ wsX30, w ∈ wsL_law := fun _ h => List.mem_append_left _ (List.mem_append_left _ (List.mem_append_left _ (List.mem_append_left _ (List.mem_append_right _ h))))
theorem inX3 : ∀ w ∈ wsX30, w ∈ lw_tbl := fun w h => wsL_law_in w (inlX3 w h)
theorem inlX4 : ∀ w ∈ wsX40, w ∈ wsL_law := fun _ h => List.mem_append_left _ (List.mem_append_right _ h)
theorem inX4 : ∀ w ∈ wsX40, w ∈ lw_tbl := fun w h => wsL_law_in w (inlX4 w h)
theorem inlX5 : ∀ w ∈ wsX50, w ∈ wsL_law := fun _ h => List.mem_append_left _ (List.mem_append_left _ (List.mem_append_left _ (List.mem_append_left _ (List.mem_append_left _ (List.mem_append_right _ h)))))
theorem inX5 : ∀ w ∈ wsX50, w ∈ lw_tbl := fun w h => wsL_law_in w (inlX5 w h)
theorem inlX6 : ∀ w ∈ wsX60, w ∈ wsL_law := fun _ h => List.mem_append_left _ (List.mem_append_left _ (List.mem_append_left _ (List.mem_append_left _ (List.mem_append_left _ (List.mem_append_left _ (List.mem_append_right _ h))))))
theorem inX6 : ∀ w ∈ wsX60, w ∈ lw_tbl := fun w h => wsL_law_in w (inlX6 w h)
theorem inX7 : ∀ w ∈ wsX70, w ∈ lw_tbl := by decide +kernel
abbrev vwCl : List vw_C := [(RX1, TX1, 6), (RX2, TX2, 8), (RX3, TX3, 6), (RX4, TX4, 2), (RX5, TX5, 6), (RX6, TX6, 6)]
