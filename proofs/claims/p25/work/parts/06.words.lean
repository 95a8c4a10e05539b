/-! the words by name -/
theorem wr_1 {w : Cond} (h : w ∈ wsL_law_r1) : w ∈ wsL_law := (List.mem_append_left _ (List.mem_append_left _ (List.mem_append_left _ (List.mem_append_left _ (List.mem_append_left _ (List.mem_append_left _ (List.mem_append_left _ (List.mem_append_left _ h))))))))
theorem mw_1_0 : (Cond.classLink RX8 15 RX6) ∈ wsL_law := wr_1 (List.mem_of_getElem? (l := wsL_law_r1) (i := 0) rfl)
theorem mw_1_1 : (Cond.instantiable RX6 6) ∈ wsL_law := wr_1 (List.mem_of_getElem? (l := wsL_law_r1) (i := 1) rfl)
theorem mw_1_2 : (Cond.initialized RX6) ∈ wsL_law := wr_1 (List.mem_of_getElem? (l := wsL_law_r1) (i := 2) rfl)
theorem mw_1_3 : (Cond.methodLink RX8 70 yX6_init) ∈ wsL_law := wr_1 (List.mem_of_getElem? (l := wsL_law_r1) (i := 3) rfl)
theorem mw_1_4 : (Cond.instanceMethod yX6_init) ∈ wsL_law := wr_1 (List.mem_of_getElem? (l := wsL_law_r1) (i := 4) rfl)
theorem mw_1_5 : (Cond.code yX6_init cX6_init 1 none) ∈ wsL_law := wr_1 (List.mem_of_getElem? (l := wsL_law_r1) (i := 5) rfl)
theorem mw_1_6 : (Cond.methodLink RX6 3 objectInit) ∈ wsL_law := wr_1 (List.mem_of_getElem? (l := wsL_law_r1) (i := 6) rfl)
theorem mw_1_7 : (Cond.instanceMethod objectInit) ∈ wsL_law := wr_1 (List.mem_of_getElem? (l := wsL_law_r1) (i := 7) rfl)
theorem mw_1_8 : (Cond.code objectInit ⟨#[0xb1]⟩ 1 none) ∈ wsL_law := wr_1 (List.mem_of_getElem? (l := wsL_law_r1) (i := 8) rfl)
theorem mw_1_9 : (Cond.classLink RX6 9 RX5) ∈ wsL_law := wr_1 (List.mem_of_getElem? (l := wsL_law_r1) (i := 9) rfl)
theorem mw_1_10 : (Cond.instantiable RX5 6) ∈ wsL_law := wr_1 (List.mem_of_getElem? (l := wsL_law_r1) (i := 10) rfl)
theorem mw_1_11 : (Cond.initialized RX5) ∈ wsL_law := wr_1 (List.mem_of_getElem? (l := wsL_law_r1) (i := 11) rfl)
theorem mw_1_12 : (Cond.fieldLink RX6 12 "ReshapedTexts" "now" "LReshapedTexts$State;") ∈ wsL_law := wr_1 (List.mem_of_getElem? (l := wsL_law_r1) (i := 12) rfl)
theorem mw_1_13 : (Cond.fieldLink RX6 16 "ReshapedTexts" "trial" "LReshapedTexts$State;") ∈ wsL_law := wr_1 (List.mem_of_getElem? (l := wsL_law_r1) (i := 13) rfl)
theorem mw_1_14 : (Cond.fieldLink RX6 19 "ReshapedTexts" "upwards" "LReshapedTexts$State;") ∈ wsL_law := wr_1 (List.mem_of_getElem? (l := wsL_law_r1) (i := 14) rfl)
theorem mw_1_15 : (Cond.fieldLink RX6 22 "ReshapedTexts" "downwards" "LReshapedTexts$State;") ∈ wsL_law := wr_1 (List.mem_of_getElem? (l := wsL_law_r1) (i := 15) rfl)
theorem mw_1_16 : (Cond.classLink RX6 25 RX3) ∈ wsL_law := wr_1 (List.mem_of_getElem? (l := wsL_law_r1) (i := 16) rfl)
theorem mw_1_17 : (Cond.instantiable RX3 6) ∈ wsL_law := wr_1 (List.mem_of_getElem? (l := wsL_law_r1) (i := 17) rfl)
theorem mw_1_18 : (Cond.initialized RX3) ∈ wsL_law := wr_1 (List.mem_of_getElem? (l := wsL_law_r1) (i := 18) rfl)
theorem mw_1_19 : (Cond.fieldLink RX6 28 "ReshapedTexts" "past" "LReshapedTexts$History;") ∈ wsL_law := wr_1 (List.mem_of_getElem? (l := wsL_law_r1) (i := 19) rfl)
theorem mw_1_20 : (Cond.classLink RX6 32 RX1) ∈ wsL_law := wr_1 (List.mem_of_getElem? (l := wsL_law_r1) (i := 20) rfl)
theorem mw_1_21 : (Cond.instantiable RX1 6) ∈ wsL_law := wr_1 (List.mem_of_getElem? (l := wsL_law_r1) (i := 21) rfl)
theorem mw_1_22 : (Cond.initialized RX1) ∈ wsL_law := wr_1 (List.mem_of_getElem? (l := wsL_law_r1) (i := 22) rfl)
theorem mw_1_23 : (Cond.fieldLink RX6 35 "ReshapedTexts" "commands" "LReshapedTexts$Commands;") ∈ wsL_law := wr_1 (List.mem_of_getElem? (l := wsL_law_r1) (i := 23) rfl)
theorem wr_2 {w : Cond} (h : w ∈ wsL_law_r2) : w ∈ wsL_law := (List.mem_append_left _ (List.mem_append_left _ (List.mem_append_left _ (List.mem_append_left _ (List.mem_append_left _ (List.mem_append_left _ (List.mem_append_left _ (List.mem_append_right _ (List.mem_append_left _ h)))))))))
theorem mw_2_0 : (Cond.methodLink RX6 11 yX5_init) ∈ wsL_law := wr_2 (List.mem_of_getElem? (l := wsL_law_r2) (i := 0) rfl)
theorem mw_2_1 : (Cond.instanceMethod yX5_init) ∈ wsL_law := wr_2 (List.mem_of_getElem? (l := wsL_law_r2) (i := 1) rfl)
theorem mw_2_2 : (Cond.code yX5_init cX5_init 1 none) ∈ wsL_law := wr_2 (List.mem_of_getElem? (l := wsL_law_r2) (i := 2) rfl)
theorem mw_2_3 : (Cond.methodLink RX5 3 objectInit) ∈ wsL_law := wr_2 (List.mem_of_getElem? (l := wsL_law_r2) (i := 3) rfl)
theorem mw_2_4 : (Cond.classLink RX5 9 RX2) ∈ wsL_law := wr_2 (List.mem_of_getElem? (l := wsL_law_r2) (i := 4) rfl)
theorem mw_2_5 : (Cond.instantiable RX2 8) ∈ wsL_law := wr_2 (List.mem_of_getElem? (l := wsL_law_r2) (i := 5) rfl)
theorem mw_2_6 : (Cond.initialized RX2) ∈ wsL_law := wr_2 (List.mem_of_getElem? (l := wsL_law_r2) (i := 6) rfl)
theorem mw_2_7 : (Cond.fieldLink RX5 14 "ReshapedTexts$State" "first" "LReshapedTexts$Editor;") ∈ wsL_law := wr_2 (List.mem_of_getElem? (l := wsL_law_r2) (i := 7) rfl)
theorem mw_2_8 : (Cond.fieldLink RX5 20 "ReshapedTexts$State" "second" "LReshapedTexts$Editor;") ∈ wsL_law := wr_2 (List.mem_of_getElem? (l := wsL_law_r2) (i := 8) rfl)
theorem mw_2_9 : (Cond.fieldLink RX5 23 "ReshapedTexts$State" "third" "LReshapedTexts$Editor;") ∈ wsL_law := wr_2 (List.mem_of_getElem? (l := wsL_law_r2) (i := 9) rfl)
theorem mw_2_10 : (Cond.classLink RX5 26 RX4) ∈ wsL_law := wr_2 (List.mem_of_getElem? (l := wsL_law_r2) (i := 10) rfl)
theorem mw_2_11 : (Cond.instantiable RX4 2) ∈ wsL_law := wr_2 (List.mem_of_getElem? (l := wsL_law_r2) (i := 11) rfl)
theorem mw_2_12 : (Cond.initialized RX4) ∈ wsL_law := wr_2 (List.mem_of_getElem? (l := wsL_law_r2) (i := 12) rfl)
theorem mw_2_13 : (Cond.fieldLink RX5 29 "ReshapedTexts$State" "log" "LReshapedTexts$Numbers;") ∈ wsL_law := wr_2 (List.mem_of_getElem? (l := wsL_law_r2) (i := 13) rfl)
theorem mw_2_14 : (Cond.fieldLink RX5 33 "ReshapedTexts$State" "text" "LReshapedTexts$Numbers;") ∈ wsL_law := wr_2 (List.mem_of_getElem? (l := wsL_law_r2) (i := 14) rfl)
theorem mw_2_15 : (Cond.fieldLink RX5 36 "ReshapedTexts$State" "writers" "LReshapedTexts$Numbers;") ∈ wsL_law := wr_2 (List.mem_of_getElem? (l := wsL_law_r2) (i := 15) rfl)
theorem mw_2_16 : (Cond.methodLink RX5 11 yX2_init) ∈ wsL_law := wr_2 (List.mem_of_getElem? (l := wsL_law_r2) (i := 16) rfl)
theorem mw_2_17 : (Cond.instanceMethod yX2_init) ∈ wsL_law := wr_2 (List.mem_of_getElem? (l := wsL_law_r2) (i := 17) rfl)
theorem mw_2_18 : (Cond.code yX2_init cX2_init 2 none) ∈ wsL_law := wr_2 (List.mem_of_getElem? (l := wsL_law_r2) (i := 18) rfl)
theorem mw_2_19 : (Cond.methodLink RX2 3 objectInit) ∈ wsL_law := wr_2 (List.mem_of_getElem? (l := wsL_law_r2) (i := 19) rfl)
theorem mw_2_20 : (Cond.fieldLink RX2 9 "ReshapedTexts$Editor" "number" "I") ∈ wsL_law := wr_2 (List.mem_of_getElem? (l := wsL_law_r2) (i := 20) rfl)
theorem mw_2_21 : (Cond.classLink RX2 15 RX4) ∈ wsL_law := wr_2 (List.mem_of_getElem? (l := wsL_law_r2) (i := 21) rfl)
theorem mw_2_22 : (Cond.fieldLink RX2 20 "ReshapedTexts$Editor" "copy" "LReshapedTexts$Numbers;") ∈ wsL_law := wr_2 (List.mem_of_getElem? (l := wsL_law_r2) (i := 22) rfl)
theorem mw_2_23 : (Cond.fieldLink RX2 24 "ReshapedTexts$Editor" "waiting" "LReshapedTexts$Numbers;") ∈ wsL_law := wr_2 (List.mem_of_getElem? (l := wsL_law_r2) (i := 23) rfl)
theorem wr_3 {w : Cond} (h : w ∈ wsL_law_r3) : w ∈ wsL_law := (List.mem_append_left _ (List.mem_append_left _ (List.mem_append_left _ (List.mem_append_left _ (List.mem_append_left _ (List.mem_append_left _ (List.mem_append_left _ (List.mem_append_right _ (List.mem_append_right _ (List.mem_append_left _ h))))))))))
theorem mw_3_0 : (Cond.fieldLink RX2 27 "ReshapedTexts$Editor" "backs" "LReshapedTexts$Numbers;") ∈ wsL_law := wr_3 (List.mem_of_getElem? (l := wsL_law_r3) (i := 0) rfl)
theorem mw_3_1 : (Cond.methodLink RX2 17 yX4_init) ∈ wsL_law := wr_3 (List.mem_of_getElem? (l := wsL_law_r3) (i := 1) rfl)
theorem mw_3_2 : (Cond.instanceMethod yX4_init) ∈ wsL_law := wr_3 (List.mem_of_getElem? (l := wsL_law_r3) (i := 2) rfl)
theorem mw_3_3 : (Cond.code yX4_init cX4_init 2 none) ∈ wsL_law := wr_3 (List.mem_of_getElem? (l := wsL_law_r3) (i := 3) rfl)
theorem mw_3_4 : (Cond.methodLink RX4 1 objectInit) ∈ wsL_law := wr_3 (List.mem_of_getElem? (l := wsL_law_r3) (i := 4) rfl)
theorem mw_3_5 : (Cond.methodLink RX4 7 Lib.Math.max.name) ∈ wsL_law := wr_3 (List.mem_of_getElem? (l := wsL_law_r3) (i := 5) rfl)
theorem mw_3_6 : (Cond.static Lib.Math.max.name) ∈ wsL_law := wr_3 (List.mem_of_getElem? (l := wsL_law_r3) (i := 6) rfl)
theorem mw_3_7 : (Cond.initialized "java/lang/Math") ∈ wsL_law := wr_3 (List.mem_of_getElem? (l := wsL_law_r3) (i := 7) rfl)
theorem mw_3_8 : (Cond.code Lib.Math.max.name Lib.Math.max.code 2 (some .int)) ∈ wsL_law := wr_3 (List.mem_of_getElem? (l := wsL_law_r3) (i := 8) rfl)
theorem mw_3_9 : (Cond.arrayClass .int) ∈ wsL_law := wr_3 (List.mem_of_getElem? (l := wsL_law_r3) (i := 9) rfl)
theorem mw_3_10 : (Cond.fieldLink RX4 13 "ReshapedTexts$Numbers" "cells" "[I") ∈ wsL_law := wr_3 (List.mem_of_getElem? (l := wsL_law_r3) (i := 10) rfl)
theorem mw_3_11 : (Cond.fieldLink RX4 19 "ReshapedTexts$Numbers" "size" "I") ∈ wsL_law := wr_3 (List.mem_of_getElem? (l := wsL_law_r3) (i := 11) rfl)
theorem mw_3_12 : (Cond.methodLink RX5 28 yX4_init) ∈ wsL_law := wr_3 (List.mem_of_getElem? (l := wsL_law_r3) (i := 12) rfl)
theorem mw_3_13 : (Cond.methodLink RX6 27 yX3_init) ∈ wsL_law := wr_3 (List.mem_of_getElem? (l := wsL_law_r3) (i := 13) rfl)
theorem mw_3_14 : (Cond.instanceMethod yX3_init) ∈ wsL_law := wr_3 (List.mem_of_getElem? (l := wsL_law_r3) (i := 14) rfl)
theorem mw_3_15 : (Cond.code yX3_init cX3_init 1 none) ∈ wsL_law := wr_3 (List.mem_of_getElem? (l := wsL_law_r3) (i := 15) rfl)
theorem mw_3_16 : (Cond.methodLink RX3 3 objectInit) ∈ wsL_law := wr_3 (List.mem_of_getElem? (l := wsL_law_r3) (i := 16) rfl)
theorem mw_3_17 : (Cond.classLink RX3 9 RX5) ∈ wsL_law := wr_3 (List.mem_of_getElem? (l := wsL_law_r3) (i := 17) rfl)
theorem mw_3_18 : (Cond.fieldLink RX3 12 "ReshapedTexts$History" "newest" "LReshapedTexts$State;") ∈ wsL_law := wr_3 (List.mem_of_getElem? (l := wsL_law_r3) (i := 18) rfl)
theorem mw_3_19 : (Cond.fieldLink RX3 18 "ReshapedTexts$History" "second" "LReshapedTexts$State;") ∈ wsL_law := wr_3 (List.mem_of_getElem? (l := wsL_law_r3) (i := 19) rfl)
theorem mw_3_20 : (Cond.fieldLink RX3 21 "ReshapedTexts$History" "third" "LReshapedTexts$State;") ∈ wsL_law := wr_3 (List.mem_of_getElem? (l := wsL_law_r3) (i := 20) rfl)
theorem mw_3_21 : (Cond.fieldLink RX3 24 "ReshapedTexts$History" "oldest" "LReshapedTexts$State;") ∈ wsL_law := wr_3 (List.mem_of_getElem? (l := wsL_law_r3) (i := 21) rfl)
theorem mw_3_22 : (Cond.fieldLink RX3 27 "ReshapedTexts$History" "spare" "LReshapedTexts$State;") ∈ wsL_law := wr_3 (List.mem_of_getElem? (l := wsL_law_r3) (i := 22) rfl)
theorem mw_3_23 : (Cond.methodLink RX3 11 yX5_init) ∈ wsL_law := wr_3 (List.mem_of_getElem? (l := wsL_law_r3) (i := 23) rfl)
theorem wr_4 {w : Cond} (h : w ∈ wsL_law_r4) : w ∈ wsL_law := (List.mem_append_left _ (List.mem_append_left _ (List.mem_append_left _ (List.mem_append_left _ (List.mem_append_left _ (List.mem_append_left _ (List.mem_append_left _ (List.mem_append_right _ (List.mem_append_right _ (List.mem_append_right _ (List.mem_append_left _ h)))))))))))
theorem mw_4_0 : (Cond.methodLink RX6 34 yX1_init) ∈ wsL_law := wr_4 (List.mem_of_getElem? (l := wsL_law_r4) (i := 0) rfl)
theorem mw_4_1 : (Cond.instanceMethod yX1_init) ∈ wsL_law := wr_4 (List.mem_of_getElem? (l := wsL_law_r4) (i := 1) rfl)
theorem mw_4_2 : (Cond.code yX1_init cX1_init 1 none) ∈ wsL_law := wr_4 (List.mem_of_getElem? (l := wsL_law_r4) (i := 2) rfl)
theorem mw_4_3 : (Cond.methodLink RX1 3 objectInit) ∈ wsL_law := wr_4 (List.mem_of_getElem? (l := wsL_law_r4) (i := 3) rfl)
theorem mw_4_4 : (Cond.classLink RX1 9 RX4) ∈ wsL_law := wr_4 (List.mem_of_getElem? (l := wsL_law_r4) (i := 4) rfl)
theorem mw_4_5 : (Cond.fieldLink RX1 14 "ReshapedTexts$Commands" "signs" "LReshapedTexts$Numbers;") ∈ wsL_law := wr_4 (List.mem_of_getElem? (l := wsL_law_r4) (i := 5) rfl)
theorem mw_4_6 : (Cond.fieldLink RX1 20 "ReshapedTexts$Commands" "numbers" "LReshapedTexts$Numbers;") ∈ wsL_law := wr_4 (List.mem_of_getElem? (l := wsL_law_r4) (i := 6) rfl)
theorem mw_4_7 : (Cond.methodLink RX1 11 yX4_init) ∈ wsL_law := wr_4 (List.mem_of_getElem? (l := wsL_law_r4) (i := 7) rfl)
theorem mw_4_8 : (Cond.methodLink RX8 71 yX8_cell) ∈ wsL_law := wr_4 (List.mem_of_getElem? (l := wsL_law_r4) (i := 8) rfl)
theorem mw_4_9 : (Cond.static yX8_cell) ∈ wsL_law := wr_4 (List.mem_of_getElem? (l := wsL_law_r4) (i := 9) rfl)
theorem mw_4_10 : (Cond.initialized RX8) ∈ wsL_law := wr_4 (List.mem_of_getElem? (l := wsL_law_r4) (i := 10) rfl)
theorem mw_4_11 : (Cond.code yX8_cell cX8_cell 2 (some .int)) ∈ wsL_law := wr_4 (List.mem_of_getElem? (l := wsL_law_r4) (i := 11) rfl)
theorem mw_4_12 : (Cond.methodLink RX8 8 yX8_low) ∈ wsL_law := wr_4 (List.mem_of_getElem? (l := wsL_law_r4) (i := 12) rfl)
theorem mw_4_13 : (Cond.static yX8_low) ∈ wsL_law := wr_4 (List.mem_of_getElem? (l := wsL_law_r4) (i := 13) rfl)
theorem mw_4_14 : (Cond.code yX8_low cX8_low 2 (some .int)) ∈ wsL_law := wr_4 (List.mem_of_getElem? (l := wsL_law_r4) (i := 14) rfl)
theorem mw_4_15 : (Cond.constant RX8 7 (2147483647)) ∈ wsL_law := wr_4 (List.mem_of_getElem? (l := wsL_law_r4) (i := 15) rfl)
theorem mw_4_16 : (Cond.methodLink RX8 14 yX6_editorOf) ∈ wsL_law := wr_4 (List.mem_of_getElem? (l := wsL_law_r4) (i := 16) rfl)
theorem mw_4_17 : (Cond.instanceMethod yX6_editorOf) ∈ wsL_law := wr_4 (List.mem_of_getElem? (l := wsL_law_r4) (i := 17) rfl)
theorem mw_4_18 : (Cond.selects RX6 yX6_editorOf yX6_editorOf) ∈ wsL_law := wr_4 (List.mem_of_getElem? (l := wsL_law_r4) (i := 18) rfl)
theorem mw_4_19 : (Cond.code yX6_editorOf cX6_editorOf 4 (some .int)) ∈ wsL_law := wr_4 (List.mem_of_getElem? (l := wsL_law_r4) (i := 19) rfl)
theorem mw_4_20 : (Cond.methodLink RX6 63 yX6_isNoEditor) ∈ wsL_law := wr_4 (List.mem_of_getElem? (l := wsL_law_r4) (i := 20) rfl)
theorem mw_4_21 : (Cond.static yX6_isNoEditor) ∈ wsL_law := wr_4 (List.mem_of_getElem? (l := wsL_law_r4) (i := 21) rfl)
theorem mw_4_22 : (Cond.code yX6_isNoEditor cX6_isNoEditor 1 (some .boolean)) ∈ wsL_law := wr_4 (List.mem_of_getElem? (l := wsL_law_r4) (i := 22) rfl)
theorem mw_4_23 : (Cond.methodLink RX6 70 yX5_editor) ∈ wsL_law := wr_4 (List.mem_of_getElem? (l := wsL_law_r4) (i := 23) rfl)
theorem wr_5 {w : Cond} (h : w ∈ wsL_law_r5) : w ∈ wsL_law := (List.mem_append_left _ (List.mem_append_left _ (List.mem_append_left _ (List.mem_append_left _ (List.mem_append_left _ (List.mem_append_left _ (List.mem_append_left _ (List.mem_append_right _ (List.mem_append_right _ (List.mem_append_right _ (List.mem_append_right _ (List.mem_append_left _ h))))))))))))
theorem mw_5_0 : (Cond.instanceMethod yX5_editor) ∈ wsL_law := wr_5 (List.mem_of_getElem? (l := wsL_law_r5) (i := 0) rfl)
theorem mw_5_1 : (Cond.selects RX5 yX5_editor yX5_editor) ∈ wsL_law := wr_5 (List.mem_of_getElem? (l := wsL_law_r5) (i := 1) rfl)
theorem mw_5_2 : (Cond.code yX5_editor cX5_editor 2 (some (.object "ReshapedTexts$Editor"))) ∈ wsL_law := wr_5 (List.mem_of_getElem? (l := wsL_law_r5) (i := 2) rfl)
theorem mw_5_3 : (Cond.methodLink RX6 47 yX4_size) ∈ wsL_law := wr_5 (List.mem_of_getElem? (l := wsL_law_r5) (i := 3) rfl)
theorem mw_5_4 : (Cond.instanceMethod yX4_size) ∈ wsL_law := wr_5 (List.mem_of_getElem? (l := wsL_law_r5) (i := 4) rfl)
theorem mw_5_5 : (Cond.selects RX4 yX4_size yX4_size) ∈ wsL_law := wr_5 (List.mem_of_getElem? (l := wsL_law_r5) (i := 5) rfl)
theorem mw_5_6 : (Cond.code yX4_size cX4_size 1 (some .int)) ∈ wsL_law := wr_5 (List.mem_of_getElem? (l := wsL_law_r5) (i := 6) rfl)
theorem mw_5_7 : (Cond.methodLink RX6 100 yX4_isSameAs) ∈ wsL_law := wr_5 (List.mem_of_getElem? (l := wsL_law_r5) (i := 7) rfl)
theorem mw_5_8 : (Cond.instanceMethod yX4_isSameAs) ∈ wsL_law := wr_5 (List.mem_of_getElem? (l := wsL_law_r5) (i := 8) rfl)
theorem mw_5_9 : (Cond.selects RX4 yX4_isSameAs yX4_isSameAs) ∈ wsL_law := wr_5 (List.mem_of_getElem? (l := wsL_law_r5) (i := 9) rfl)
theorem mw_5_10 : (Cond.code yX4_isSameAs cX4_isSameAs 3 (some .boolean)) ∈ wsL_law := wr_5 (List.mem_of_getElem? (l := wsL_law_r5) (i := 10) rfl)
theorem mw_5_11 : (Cond.methodLink RX4 30 yX4_at) ∈ wsL_law := wr_5 (List.mem_of_getElem? (l := wsL_law_r5) (i := 11) rfl)
theorem mw_5_12 : (Cond.instanceMethod yX4_at) ∈ wsL_law := wr_5 (List.mem_of_getElem? (l := wsL_law_r5) (i := 12) rfl)
theorem mw_5_13 : (Cond.selects RX4 yX4_at yX4_at) ∈ wsL_law := wr_5 (List.mem_of_getElem? (l := wsL_law_r5) (i := 13) rfl)
theorem mw_5_14 : (Cond.code yX4_at cX4_at 2 (some .int)) ∈ wsL_law := wr_5 (List.mem_of_getElem? (l := wsL_law_r5) (i := 14) rfl)
theorem mw_5_15 : (Cond.methodLink RX8 51 yX6_letter) ∈ wsL_law := wr_5 (List.mem_of_getElem? (l := wsL_law_r5) (i := 15) rfl)
theorem mw_5_16 : (Cond.instanceMethod yX6_letter) ∈ wsL_law := wr_5 (List.mem_of_getElem? (l := wsL_law_r5) (i := 16) rfl)
theorem mw_5_17 : (Cond.selects RX6 yX6_letter yX6_letter) ∈ wsL_law := wr_5 (List.mem_of_getElem? (l := wsL_law_r5) (i := 17) rfl)
theorem mw_5_18 : (Cond.code yX6_letter cX6_letter 4 (some .int)) ∈ wsL_law := wr_5 (List.mem_of_getElem? (l := wsL_law_r5) (i := 18) rfl)
theorem mw_5_19 : (Cond.methodLink RX6 79 yX4_at) ∈ wsL_law := wr_5 (List.mem_of_getElem? (l := wsL_law_r5) (i := 19) rfl)
theorem mw_5_20 : (Cond.methodLink RX8 75 yX8_does) ∈ wsL_law := wr_5 (List.mem_of_getElem? (l := wsL_law_r5) (i := 20) rfl)
theorem mw_5_21 : (Cond.static yX8_does) ∈ wsL_law := wr_5 (List.mem_of_getElem? (l := wsL_law_r5) (i := 21) rfl)
theorem mw_5_22 : (Cond.code yX8_does cX8_does 4 (some .int)) ∈ wsL_law := wr_5 (List.mem_of_getElem? (l := wsL_law_r5) (i := 22) rfl)
theorem mw_5_23 : (Cond.methodLink RX8 19 yX6_insert) ∈ wsL_law := wr_5 (List.mem_of_getElem? (l := wsL_law_r5) (i := 23) rfl)
theorem wr_6 {w : Cond} (h : w ∈ wsL_law_r6) : w ∈ wsL_law := (List.mem_append_left _ (List.mem_append_left _ (List.mem_append_left _ (List.mem_append_left _ (List.mem_append_left _ (List.mem_append_left _ (List.mem_append_left _ (List.mem_append_right _ (List.mem_append_right _ (List.mem_append_right _ (List.mem_append_right _ (List.mem_append_right _ (List.mem_append_left _ h)))))))))))))
theorem mw_6_0 : (Cond.instanceMethod yX6_insert) ∈ wsL_law := wr_6 (List.mem_of_getElem? (l := wsL_law_r6) (i := 0) rfl)
theorem mw_6_1 : (Cond.selects RX6 yX6_insert yX6_insert) ∈ wsL_law := wr_6 (List.mem_of_getElem? (l := wsL_law_r6) (i := 1) rfl)
theorem mw_6_2 : (Cond.code yX6_insert cX6_insert 4 (some .int)) ∈ wsL_law := wr_6 (List.mem_of_getElem? (l := wsL_law_r6) (i := 2) rfl)
theorem mw_6_3 : (Cond.methodLink RX6 39 yX6_recorded) ∈ wsL_law := wr_6 (List.mem_of_getElem? (l := wsL_law_r6) (i := 3) rfl)
theorem mw_6_4 : (Cond.instanceMethod yX6_recorded) ∈ wsL_law := wr_6 (List.mem_of_getElem? (l := wsL_law_r6) (i := 4) rfl)
theorem mw_6_5 : (Cond.selects RX6 yX6_recorded yX6_recorded) ∈ wsL_law := wr_6 (List.mem_of_getElem? (l := wsL_law_r6) (i := 5) rfl)
theorem mw_6_6 : (Cond.code yX6_recorded cX6_recorded 6 (some .int)) ∈ wsL_law := wr_6 (List.mem_of_getElem? (l := wsL_law_r6) (i := 6) rfl)
theorem mw_6_7 : (Cond.methodLink RX6 53 yX3_prepare) ∈ wsL_law := wr_6 (List.mem_of_getElem? (l := wsL_law_r6) (i := 7) rfl)
theorem mw_6_8 : (Cond.instanceMethod yX3_prepare) ∈ wsL_law := wr_6 (List.mem_of_getElem? (l := wsL_law_r6) (i := 8) rfl)
theorem mw_6_9 : (Cond.selects RX3 yX3_prepare yX3_prepare) ∈ wsL_law := wr_6 (List.mem_of_getElem? (l := wsL_law_r6) (i := 9) rfl)
theorem mw_6_10 : (Cond.code yX3_prepare cX3_prepare 2 none) ∈ wsL_law := wr_6 (List.mem_of_getElem? (l := wsL_law_r6) (i := 10) rfl)
theorem mw_6_11 : (Cond.methodLink RX3 30 yX5_copyState) ∈ wsL_law := wr_6 (List.mem_of_getElem? (l := wsL_law_r6) (i := 11) rfl)
theorem mw_6_12 : (Cond.instanceMethod yX5_copyState) ∈ wsL_law := wr_6 (List.mem_of_getElem? (l := wsL_law_r6) (i := 12) rfl)
theorem mw_6_13 : (Cond.selects RX5 yX5_copyState yX5_copyState) ∈ wsL_law := wr_6 (List.mem_of_getElem? (l := wsL_law_r6) (i := 13) rfl)
theorem mw_6_14 : (Cond.code yX5_copyState cX5_copyState 2 none) ∈ wsL_law := wr_6 (List.mem_of_getElem? (l := wsL_law_r6) (i := 14) rfl)
theorem mw_6_15 : (Cond.methodLink RX5 103 yX2_copyEditor) ∈ wsL_law := wr_6 (List.mem_of_getElem? (l := wsL_law_r6) (i := 15) rfl)
theorem mw_6_16 : (Cond.instanceMethod yX2_copyEditor) ∈ wsL_law := wr_6 (List.mem_of_getElem? (l := wsL_law_r6) (i := 16) rfl)
theorem mw_6_17 : (Cond.selects RX2 yX2_copyEditor yX2_copyEditor) ∈ wsL_law := wr_6 (List.mem_of_getElem? (l := wsL_law_r6) (i := 17) rfl)
theorem mw_6_18 : (Cond.code yX2_copyEditor cX2_copyEditor 2 none) ∈ wsL_law := wr_6 (List.mem_of_getElem? (l := wsL_law_r6) (i := 18) rfl)
theorem mw_6_19 : (Cond.fieldLink RX2 59 "ReshapedTexts$Editor" "underWay" "Z") ∈ wsL_law := wr_6 (List.mem_of_getElem? (l := wsL_law_r6) (i := 19) rfl)
theorem mw_6_20 : (Cond.fieldLink RX2 63 "ReshapedTexts$Editor" "heard" "I") ∈ wsL_law := wr_6 (List.mem_of_getElem? (l := wsL_law_r6) (i := 20) rfl)
theorem mw_6_21 : (Cond.fieldLink RX2 56 "ReshapedTexts$Editor" "spot" "I") ∈ wsL_law := wr_6 (List.mem_of_getElem? (l := wsL_law_r6) (i := 21) rfl)
theorem mw_6_22 : (Cond.fieldLink RX2 87 "ReshapedTexts$Editor" "written" "I") ∈ wsL_law := wr_6 (List.mem_of_getElem? (l := wsL_law_r6) (i := 22) rfl)
theorem mw_6_23 : (Cond.methodLink RX2 90 yX4_copyNumbers) ∈ wsL_law := wr_6 (List.mem_of_getElem? (l := wsL_law_r6) (i := 23) rfl)
theorem wr_7 {w : Cond} (h : w ∈ wsL_law_r7) : w ∈ wsL_law := (List.mem_append_left _ (List.mem_append_left _ (List.mem_append_left _ (List.mem_append_left _ (List.mem_append_left _ (List.mem_append_left _ (List.mem_append_left _ (List.mem_append_right _ (List.mem_append_right _ (List.mem_append_right _ (List.mem_append_right _ (List.mem_append_right _ (List.mem_append_right _ (List.mem_append_left _ h))))))))))))))
theorem mw_7_0 : (Cond.instanceMethod yX4_copyNumbers) ∈ wsL_law := wr_7 (List.mem_of_getElem? (l := wsL_law_r7) (i := 0) rfl)
theorem mw_7_1 : (Cond.selects RX4 yX4_copyNumbers yX4_copyNumbers) ∈ wsL_law := wr_7 (List.mem_of_getElem? (l := wsL_law_r7) (i := 1) rfl)
theorem mw_7_2 : (Cond.code yX4_copyNumbers cX4_copyNumbers 4 none) ∈ wsL_law := wr_7 (List.mem_of_getElem? (l := wsL_law_r7) (i := 2) rfl)
theorem mw_7_3 : (Cond.methodLink RX4 27 Lib.Math.min.name) ∈ wsL_law := wr_7 (List.mem_of_getElem? (l := wsL_law_r7) (i := 3) rfl)
theorem mw_7_4 : (Cond.static Lib.Math.min.name) ∈ wsL_law := wr_7 (List.mem_of_getElem? (l := wsL_law_r7) (i := 4) rfl)
theorem mw_7_5 : (Cond.code Lib.Math.min.name Lib.Math.min.code 2 (some .int)) ∈ wsL_law := wr_7 (List.mem_of_getElem? (l := wsL_law_r7) (i := 5) rfl)
theorem mw_7_6 : (Cond.methodLink RX5 107 yX4_copyNumbers) ∈ wsL_law := wr_7 (List.mem_of_getElem? (l := wsL_law_r7) (i := 6) rfl)
theorem mw_7_7 : (Cond.methodLink RX6 177 yX5_answer) ∈ wsL_law := wr_7 (List.mem_of_getElem? (l := wsL_law_r7) (i := 7) rfl)
theorem mw_7_8 : (Cond.instanceMethod yX5_answer) ∈ wsL_law := wr_7 (List.mem_of_getElem? (l := wsL_law_r7) (i := 8) rfl)
theorem mw_7_9 : (Cond.selects RX5 yX5_answer yX5_answer) ∈ wsL_law := wr_7 (List.mem_of_getElem? (l := wsL_law_r7) (i := 9) rfl)
theorem mw_7_10 : (Cond.code yX5_answer cX5_answer 6 (some .int)) ∈ wsL_law := wr_7 (List.mem_of_getElem? (l := wsL_law_r7) (i := 10) rfl)
theorem mw_7_11 : (Cond.methodLink RX5 43 yX5_editor) ∈ wsL_law := wr_7 (List.mem_of_getElem? (l := wsL_law_r7) (i := 11) rfl)
theorem mw_7_12 : (Cond.methodLink RX5 47 yX2_putIn) ∈ wsL_law := wr_7 (List.mem_of_getElem? (l := wsL_law_r7) (i := 12) rfl)
theorem mw_7_13 : (Cond.instanceMethod yX2_putIn) ∈ wsL_law := wr_7 (List.mem_of_getElem? (l := wsL_law_r7) (i := 13) rfl)
theorem mw_7_14 : (Cond.selects RX2 yX2_putIn yX2_putIn) ∈ wsL_law := wr_7 (List.mem_of_getElem? (l := wsL_law_r7) (i := 14) rfl)
theorem mw_7_15 : (Cond.code yX2_putIn cX2_putIn 3 (some .int)) ∈ wsL_law := wr_7 (List.mem_of_getElem? (l := wsL_law_r7) (i := 15) rfl)
theorem mw_7_16 : (Cond.methodLink RX2 30 yX4_size) ∈ wsL_law := wr_7 (List.mem_of_getElem? (l := wsL_law_r7) (i := 16) rfl)
theorem mw_7_17 : (Cond.methodLink RX2 34 yX0_of) ∈ wsL_law := wr_7 (List.mem_of_getElem? (l := wsL_law_r7) (i := 17) rfl)
theorem mw_7_18 : (Cond.static yX0_of) ∈ wsL_law := wr_7 (List.mem_of_getElem? (l := wsL_law_r7) (i := 18) rfl)
theorem mw_7_19 : (Cond.initialized RX0) ∈ wsL_law := wr_7 (List.mem_of_getElem? (l := wsL_law_r7) (i := 19) rfl)
theorem mw_7_20 : (Cond.code yX0_of cX0_of 4 (some .int)) ∈ wsL_law := wr_7 (List.mem_of_getElem? (l := wsL_law_r7) (i := 20) rfl)
theorem mw_7_21 : (Cond.methodLink RX2 40 yX2_write) ∈ wsL_law := wr_7 (List.mem_of_getElem? (l := wsL_law_r7) (i := 21) rfl)
theorem mw_7_22 : (Cond.instanceMethod yX2_write) ∈ wsL_law := wr_7 (List.mem_of_getElem? (l := wsL_law_r7) (i := 22) rfl)
theorem mw_7_23 : (Cond.selects RX2 yX2_write yX2_write) ∈ wsL_law := wr_7 (List.mem_of_getElem? (l := wsL_law_r7) (i := 23) rfl)
theorem wr_8 {w : Cond} (h : w ∈ wsL_law_r8) : w ∈ wsL_law := (List.mem_append_left _ (List.mem_append_left _ (List.mem_append_left _ (List.mem_append_left _ (List.mem_append_left _ (List.mem_append_left _ (List.mem_append_left _ (List.mem_append_right _ (List.mem_append_right _ (List.mem_append_right _ (List.mem_append_right _ (List.mem_append_right _ (List.mem_append_right _ (List.mem_append_right _ (List.mem_append_left _ h)))))))))))))))
theorem mw_8_0 : (Cond.code yX2_write cX2_write 2 none) ∈ wsL_law := wr_8 (List.mem_of_getElem? (l := wsL_law_r8) (i := 0) rfl)
theorem mw_8_1 : (Cond.methodLink RX2 77 yX2_apply) ∈ wsL_law := wr_8 (List.mem_of_getElem? (l := wsL_law_r8) (i := 1) rfl)
theorem mw_8_2 : (Cond.instanceMethod yX2_apply) ∈ wsL_law := wr_8 (List.mem_of_getElem? (l := wsL_law_r8) (i := 2) rfl)
theorem mw_8_3 : (Cond.selects RX2 yX2_apply yX2_apply) ∈ wsL_law := wr_8 (List.mem_of_getElem? (l := wsL_law_r8) (i := 3) rfl)
theorem mw_8_4 : (Cond.code yX2_apply cX2_apply 5 none) ∈ wsL_law := wr_8 (List.mem_of_getElem? (l := wsL_law_r8) (i := 4) rfl)
theorem mw_8_5 : (Cond.methodLink RX2 97 yX0_place) ∈ wsL_law := wr_8 (List.mem_of_getElem? (l := wsL_law_r8) (i := 5) rfl)
theorem mw_8_6 : (Cond.static yX0_place) ∈ wsL_law := wr_8 (List.mem_of_getElem? (l := wsL_law_r8) (i := 6) rfl)
theorem mw_8_7 : (Cond.code yX0_place cX0_place 1 (some .int)) ∈ wsL_law := wr_8 (List.mem_of_getElem? (l := wsL_law_r8) (i := 7) rfl)
theorem mw_8_8 : (Cond.methodLink RX2 50 yX0_kind) ∈ wsL_law := wr_8 (List.mem_of_getElem? (l := wsL_law_r8) (i := 8) rfl)
theorem mw_8_9 : (Cond.static yX0_kind) ∈ wsL_law := wr_8 (List.mem_of_getElem? (l := wsL_law_r8) (i := 9) rfl)
theorem mw_8_10 : (Cond.code yX0_kind cX0_kind 1 (some .int)) ∈ wsL_law := wr_8 (List.mem_of_getElem? (l := wsL_law_r8) (i := 10) rfl)
theorem mw_8_11 : (Cond.methodLink RX2 100 yX0_sign) ∈ wsL_law := wr_8 (List.mem_of_getElem? (l := wsL_law_r8) (i := 11) rfl)
theorem mw_8_12 : (Cond.static yX0_sign) ∈ wsL_law := wr_8 (List.mem_of_getElem? (l := wsL_law_r8) (i := 12) rfl)
theorem mw_8_13 : (Cond.code yX0_sign cX0_sign 1 (some .int)) ∈ wsL_law := wr_8 (List.mem_of_getElem? (l := wsL_law_r8) (i := 13) rfl)
theorem mw_8_14 : (Cond.methodLink RX2 103 yX4_addAt) ∈ wsL_law := wr_8 (List.mem_of_getElem? (l := wsL_law_r8) (i := 14) rfl)
theorem mw_8_15 : (Cond.instanceMethod yX4_addAt) ∈ wsL_law := wr_8 (List.mem_of_getElem? (l := wsL_law_r8) (i := 15) rfl)
theorem mw_8_16 : (Cond.selects RX4 yX4_addAt yX4_addAt) ∈ wsL_law := wr_8 (List.mem_of_getElem? (l := wsL_law_r8) (i := 16) rfl)
theorem mw_8_17 : (Cond.code yX4_addAt cX4_addAt 4 none) ∈ wsL_law := wr_8 (List.mem_of_getElem? (l := wsL_law_r8) (i := 17) rfl)
theorem mw_8_18 : (Cond.methodLink RX2 53 yX4_removeAt) ∈ wsL_law := wr_8 (List.mem_of_getElem? (l := wsL_law_r8) (i := 18) rfl)
theorem mw_8_19 : (Cond.instanceMethod yX4_removeAt) ∈ wsL_law := wr_8 (List.mem_of_getElem? (l := wsL_law_r8) (i := 19) rfl)
theorem mw_8_20 : (Cond.selects RX4 yX4_removeAt yX4_removeAt) ∈ wsL_law := wr_8 (List.mem_of_getElem? (l := wsL_law_r8) (i := 20) rfl)
theorem mw_8_21 : (Cond.code yX4_removeAt cX4_removeAt 3 none) ∈ wsL_law := wr_8 (List.mem_of_getElem? (l := wsL_law_r8) (i := 21) rfl)
theorem mw_8_22 : (Cond.methodLink RX2 46 yX4_at) ∈ wsL_law := wr_8 (List.mem_of_getElem? (l := wsL_law_r8) (i := 22) rfl)
theorem mw_8_23 : (Cond.methodLink RX2 66 yX0_reshaped) ∈ wsL_law := wr_8 (List.mem_of_getElem? (l := wsL_law_r8) (i := 23) rfl)
theorem wr_9 {w : Cond} (h : w ∈ wsL_law_r9) : w ∈ wsL_law := (List.mem_append_left _ (List.mem_append_left _ (List.mem_append_left _ (List.mem_append_left _ (List.mem_append_left _ (List.mem_append_left _ (List.mem_append_left _ (List.mem_append_right _ (List.mem_append_right _ (List.mem_append_right _ (List.mem_append_right _ (List.mem_append_right _ (List.mem_append_right _ (List.mem_append_right _ (List.mem_append_right _ (List.mem_append_left _ h))))))))))))))))
theorem mw_9_0 : (Cond.static yX0_reshaped) ∈ wsL_law := wr_9 (List.mem_of_getElem? (l := wsL_law_r9) (i := 0) rfl)
theorem mw_9_1 : (Cond.code yX0_reshaped cX0_reshaped 9 (some .int)) ∈ wsL_law := wr_9 (List.mem_of_getElem? (l := wsL_law_r9) (i := 1) rfl)
theorem mw_9_2 : (Cond.methodLink RX2 107 yX4_put) ∈ wsL_law := wr_9 (List.mem_of_getElem? (l := wsL_law_r9) (i := 2) rfl)
theorem mw_9_3 : (Cond.instanceMethod yX4_put) ∈ wsL_law := wr_9 (List.mem_of_getElem? (l := wsL_law_r9) (i := 3) rfl)
theorem mw_9_4 : (Cond.selects RX4 yX4_put yX4_put) ∈ wsL_law := wr_9 (List.mem_of_getElem? (l := wsL_law_r9) (i := 4) rfl)
theorem mw_9_5 : (Cond.code yX4_put cX4_put 3 none) ∈ wsL_law := wr_9 (List.mem_of_getElem? (l := wsL_law_r9) (i := 5) rfl)
theorem mw_9_6 : (Cond.methodLink RX2 94 yX4_add) ∈ wsL_law := wr_9 (List.mem_of_getElem? (l := wsL_law_r9) (i := 6) rfl)
theorem mw_9_7 : (Cond.instanceMethod yX4_add) ∈ wsL_law := wr_9 (List.mem_of_getElem? (l := wsL_law_r9) (i := 7) rfl)
theorem mw_9_8 : (Cond.selects RX4 yX4_add yX4_add) ∈ wsL_law := wr_9 (List.mem_of_getElem? (l := wsL_law_r9) (i := 8) rfl)
theorem mw_9_9 : (Cond.code yX4_add cX4_add 2 none) ∈ wsL_law := wr_9 (List.mem_of_getElem? (l := wsL_law_r9) (i := 9) rfl)
theorem mw_9_10 : (Cond.methodLink RX4 23 yX4_addAt) ∈ wsL_law := wr_9 (List.mem_of_getElem? (l := wsL_law_r9) (i := 10) rfl)
theorem mw_9_11 : (Cond.methodLink RX2 43 yX2_keepBack) ∈ wsL_law := wr_9 (List.mem_of_getElem? (l := wsL_law_r9) (i := 11) rfl)
theorem mw_9_12 : (Cond.instanceMethod yX2_keepBack) ∈ wsL_law := wr_9 (List.mem_of_getElem? (l := wsL_law_r9) (i := 12) rfl)
theorem mw_9_13 : (Cond.selects RX2 yX2_keepBack yX2_keepBack) ∈ wsL_law := wr_9 (List.mem_of_getElem? (l := wsL_law_r9) (i := 13) rfl)
theorem mw_9_14 : (Cond.code yX2_keepBack cX2_keepBack 2 none) ∈ wsL_law := wr_9 (List.mem_of_getElem? (l := wsL_law_r9) (i := 14) rfl)
theorem mw_9_15 : (Cond.methodLink RX5 51 yX2_takeOut) ∈ wsL_law := wr_9 (List.mem_of_getElem? (l := wsL_law_r9) (i := 15) rfl)
theorem mw_9_16 : (Cond.instanceMethod yX2_takeOut) ∈ wsL_law := wr_9 (List.mem_of_getElem? (l := wsL_law_r9) (i := 16) rfl)
theorem mw_9_17 : (Cond.selects RX2 yX2_takeOut yX2_takeOut) ∈ wsL_law := wr_9 (List.mem_of_getElem? (l := wsL_law_r9) (i := 17) rfl)
theorem mw_9_18 : (Cond.code yX2_takeOut cX2_takeOut 3 (some .int)) ∈ wsL_law := wr_9 (List.mem_of_getElem? (l := wsL_law_r9) (i := 18) rfl)
theorem mw_9_19 : (Cond.methodLink RX5 55 yX2_goBack) ∈ wsL_law := wr_9 (List.mem_of_getElem? (l := wsL_law_r9) (i := 19) rfl)
theorem mw_9_20 : (Cond.instanceMethod yX2_goBack) ∈ wsL_law := wr_9 (List.mem_of_getElem? (l := wsL_law_r9) (i := 20) rfl)
theorem mw_9_21 : (Cond.selects RX2 yX2_goBack yX2_goBack) ∈ wsL_law := wr_9 (List.mem_of_getElem? (l := wsL_law_r9) (i := 21) rfl)
theorem mw_9_22 : (Cond.code yX2_goBack cX2_goBack 4 (some .int)) ∈ wsL_law := wr_9 (List.mem_of_getElem? (l := wsL_law_r9) (i := 22) rfl)
theorem mw_9_23 : (Cond.methodLink RX5 59 yX2_setSpot) ∈ wsL_law := wr_9 (List.mem_of_getElem? (l := wsL_law_r9) (i := 23) rfl)
theorem wr_10 {w : Cond} (h : w ∈ wsL_law_r10) : w ∈ wsL_law := (List.mem_append_left _ (List.mem_append_left _ (List.mem_append_left _ (List.mem_append_left _ (List.mem_append_left _ (List.mem_append_left _ (List.mem_append_left _ (List.mem_append_right _ (List.mem_append_right _ (List.mem_append_right _ (List.mem_append_right _ (List.mem_append_right _ (List.mem_append_right _ (List.mem_append_right _ (List.mem_append_right _ (List.mem_append_right _ (List.mem_append_left _ h)))))))))))))))))
theorem mw_10_0 : (Cond.instanceMethod yX2_setSpot) ∈ wsL_law := wr_10 (List.mem_of_getElem? (l := wsL_law_r10) (i := 0) rfl)
theorem mw_10_1 : (Cond.selects RX2 yX2_setSpot yX2_setSpot) ∈ wsL_law := wr_10 (List.mem_of_getElem? (l := wsL_law_r10) (i := 1) rfl)
theorem mw_10_2 : (Cond.code yX2_setSpot cX2_setSpot 3 (some .int)) ∈ wsL_law := wr_10 (List.mem_of_getElem? (l := wsL_law_r10) (i := 2) rfl)
theorem mw_10_3 : (Cond.methodLink RX5 62 yX5_pass) ∈ wsL_law := wr_10 (List.mem_of_getElem? (l := wsL_law_r10) (i := 3) rfl)
theorem mw_10_4 : (Cond.instanceMethod yX5_pass) ∈ wsL_law := wr_10 (List.mem_of_getElem? (l := wsL_law_r10) (i := 4) rfl)
theorem mw_10_5 : (Cond.selects RX5 yX5_pass yX5_pass) ∈ wsL_law := wr_10 (List.mem_of_getElem? (l := wsL_law_r10) (i := 5) rfl)
theorem mw_10_6 : (Cond.code yX5_pass cX5_pass 2 (some .int)) ∈ wsL_law := wr_10 (List.mem_of_getElem? (l := wsL_law_r10) (i := 6) rfl)
theorem mw_10_7 : (Cond.methodLink RX5 115 yX2_canSend) ∈ wsL_law := wr_10 (List.mem_of_getElem? (l := wsL_law_r10) (i := 7) rfl)
theorem mw_10_8 : (Cond.instanceMethod yX2_canSend) ∈ wsL_law := wr_10 (List.mem_of_getElem? (l := wsL_law_r10) (i := 8) rfl)
theorem mw_10_9 : (Cond.selects RX2 yX2_canSend yX2_canSend) ∈ wsL_law := wr_10 (List.mem_of_getElem? (l := wsL_law_r10) (i := 9) rfl)
theorem mw_10_10 : (Cond.code yX2_canSend cX2_canSend 1 (some .boolean)) ∈ wsL_law := wr_10 (List.mem_of_getElem? (l := wsL_law_r10) (i := 10) rfl)
theorem mw_10_11 : (Cond.methodLink RX5 73 yX4_size) ∈ wsL_law := wr_10 (List.mem_of_getElem? (l := wsL_law_r10) (i := 11) rfl)
theorem mw_10_12 : (Cond.methodLink RX5 119 yX5_append) ∈ wsL_law := wr_10 (List.mem_of_getElem? (l := wsL_law_r10) (i := 12) rfl)
theorem mw_10_13 : (Cond.instanceMethod yX5_append) ∈ wsL_law := wr_10 (List.mem_of_getElem? (l := wsL_law_r10) (i := 13) rfl)
theorem mw_10_14 : (Cond.selects RX5 yX5_append yX5_append) ∈ wsL_law := wr_10 (List.mem_of_getElem? (l := wsL_law_r10) (i := 14) rfl)
theorem mw_10_15 : (Cond.code yX5_append cX5_append 5 none) ∈ wsL_law := wr_10 (List.mem_of_getElem? (l := wsL_law_r10) (i := 15) rfl)
theorem mw_10_16 : (Cond.methodLink RX5 122 yX2_outgoing) ∈ wsL_law := wr_10 (List.mem_of_getElem? (l := wsL_law_r10) (i := 16) rfl)
theorem mw_10_17 : (Cond.instanceMethod yX2_outgoing) ∈ wsL_law := wr_10 (List.mem_of_getElem? (l := wsL_law_r10) (i := 17) rfl)
theorem mw_10_18 : (Cond.selects RX2 yX2_outgoing yX2_outgoing) ∈ wsL_law := wr_10 (List.mem_of_getElem? (l := wsL_law_r10) (i := 18) rfl)
theorem mw_10_19 : (Cond.code yX2_outgoing cX2_outgoing 4 (some .int)) ∈ wsL_law := wr_10 (List.mem_of_getElem? (l := wsL_law_r10) (i := 19) rfl)
theorem mw_10_20 : (Cond.methodLink RX5 125 yX0_place) ∈ wsL_law := wr_10 (List.mem_of_getElem? (l := wsL_law_r10) (i := 20) rfl)
theorem mw_10_21 : (Cond.methodLink RX5 79 yX0_kind) ∈ wsL_law := wr_10 (List.mem_of_getElem? (l := wsL_law_r10) (i := 21) rfl)
theorem mw_10_22 : (Cond.methodLink RX5 128 yX0_sign) ∈ wsL_law := wr_10 (List.mem_of_getElem? (l := wsL_law_r10) (i := 22) rfl)
theorem mw_10_23 : (Cond.methodLink RX5 131 yX4_addAt) ∈ wsL_law := wr_10 (List.mem_of_getElem? (l := wsL_law_r10) (i := 23) rfl)
theorem wr_11 {w : Cond} (h : w ∈ wsL_law_r11) : w ∈ wsL_law := (List.mem_append_left _ (List.mem_append_left _ (List.mem_append_left _ (List.mem_append_left _ (List.mem_append_left _ (List.mem_append_left _ (List.mem_append_left _ (List.mem_append_right _ (List.mem_append_right _ (List.mem_append_right _ (List.mem_append_right _ (List.mem_append_right _ (List.mem_append_right _ (List.mem_append_right _ (List.mem_append_right _ (List.mem_append_right _ (List.mem_append_right _ (List.mem_append_left _ h))))))))))))))))))
theorem mw_11_0 : (Cond.methodLink RX5 135 yX0_writer) ∈ wsL_law := wr_11 (List.mem_of_getElem? (l := wsL_law_r11) (i := 0) rfl)
theorem mw_11_1 : (Cond.static yX0_writer) ∈ wsL_law := wr_11 (List.mem_of_getElem? (l := wsL_law_r11) (i := 1) rfl)
theorem mw_11_2 : (Cond.code yX0_writer cX0_writer 1 (some .int)) ∈ wsL_law := wr_11 (List.mem_of_getElem? (l := wsL_law_r11) (i := 2) rfl)
theorem mw_11_3 : (Cond.methodLink RX5 138 yX4_removeAt) ∈ wsL_law := wr_11 (List.mem_of_getElem? (l := wsL_law_r11) (i := 3) rfl)
theorem mw_11_4 : (Cond.methodLink RX5 141 yX4_add) ∈ wsL_law := wr_11 (List.mem_of_getElem? (l := wsL_law_r11) (i := 4) rfl)
theorem mw_11_5 : (Cond.methodLink RX5 66 yX2_hearNext) ∈ wsL_law := wr_11 (List.mem_of_getElem? (l := wsL_law_r11) (i := 5) rfl)
theorem mw_11_6 : (Cond.instanceMethod yX2_hearNext) ∈ wsL_law := wr_11 (List.mem_of_getElem? (l := wsL_law_r11) (i := 6) rfl)
theorem mw_11_7 : (Cond.selects RX2 yX2_hearNext yX2_hearNext) ∈ wsL_law := wr_11 (List.mem_of_getElem? (l := wsL_law_r11) (i := 7) rfl)
theorem mw_11_8 : (Cond.code yX2_hearNext cX2_hearNext 4 (some .int)) ∈ wsL_law := wr_11 (List.mem_of_getElem? (l := wsL_law_r11) (i := 8) rfl)
theorem mw_11_9 : (Cond.methodLink RX2 70 yX0_writer) ∈ wsL_law := wr_11 (List.mem_of_getElem? (l := wsL_law_r11) (i := 9) rfl)
theorem mw_11_10 : (Cond.methodLink RX2 73 yX0_passThrough) ∈ wsL_law := wr_11 (List.mem_of_getElem? (l := wsL_law_r11) (i := 10) rfl)
theorem mw_11_11 : (Cond.static yX0_passThrough) ∈ wsL_law := wr_11 (List.mem_of_getElem? (l := wsL_law_r11) (i := 11) rfl)
theorem mw_11_12 : (Cond.code yX0_passThrough cX0_passThrough 5 (some .int)) ∈ wsL_law := wr_11 (List.mem_of_getElem? (l := wsL_law_r11) (i := 12) rfl)
theorem mw_11_13 : (Cond.methodLink RX0 24 yX4_size) ∈ wsL_law := wr_11 (List.mem_of_getElem? (l := wsL_law_r11) (i := 13) rfl)
theorem mw_11_14 : (Cond.methodLink RX0 30 yX4_at) ∈ wsL_law := wr_11 (List.mem_of_getElem? (l := wsL_law_r11) (i := 14) rfl)
theorem mw_11_15 : (Cond.methodLink RX0 33 yX0_reshaped) ∈ wsL_law := wr_11 (List.mem_of_getElem? (l := wsL_law_r11) (i := 15) rfl)
theorem mw_11_16 : (Cond.methodLink RX0 37 yX4_put) ∈ wsL_law := wr_11 (List.mem_of_getElem? (l := wsL_law_r11) (i := 16) rfl)
theorem mw_11_17 : (Cond.methodLink RX5 70 yX2_hearRest) ∈ wsL_law := wr_11 (List.mem_of_getElem? (l := wsL_law_r11) (i := 17) rfl)
theorem mw_11_18 : (Cond.instanceMethod yX2_hearRest) ∈ wsL_law := wr_11 (List.mem_of_getElem? (l := wsL_law_r11) (i := 18) rfl)
theorem mw_11_19 : (Cond.selects RX2 yX2_hearRest yX2_hearRest) ∈ wsL_law := wr_11 (List.mem_of_getElem? (l := wsL_law_r11) (i := 19) rfl)
theorem mw_11_20 : (Cond.code yX2_hearRest cX2_hearRest 4 (some .int)) ∈ wsL_law := wr_11 (List.mem_of_getElem? (l := wsL_law_r11) (i := 20) rfl)
theorem mw_11_21 : (Cond.methodLink RX2 80 yX2_hearNext) ∈ wsL_law := wr_11 (List.mem_of_getElem? (l := wsL_law_r11) (i := 21) rfl)
theorem mw_11_22 : (Cond.methodLink RX6 57 yX3_keep) ∈ wsL_law := wr_11 (List.mem_of_getElem? (l := wsL_law_r11) (i := 22) rfl)
theorem mw_11_23 : (Cond.instanceMethod yX3_keep) ∈ wsL_law := wr_11 (List.mem_of_getElem? (l := wsL_law_r11) (i := 23) rfl)
theorem wr_12 {w : Cond} (h : w ∈ wsL_law_r12) : w ∈ wsL_law := (List.mem_append_left _ (List.mem_append_left _ (List.mem_append_left _ (List.mem_append_left _ (List.mem_append_left _ (List.mem_append_left _ (List.mem_append_left _ (List.mem_append_right _ (List.mem_append_right _ (List.mem_append_right _ (List.mem_append_right _ (List.mem_append_right _ (List.mem_append_right _ (List.mem_append_right _ (List.mem_append_right _ (List.mem_append_right _ (List.mem_append_right _ (List.mem_append_right _ (List.mem_append_left _ h)))))))))))))))))))
theorem mw_12_0 : (Cond.selects RX3 yX3_keep yX3_keep) ∈ wsL_law := wr_12 (List.mem_of_getElem? (l := wsL_law_r12) (i := 0) rfl)
theorem mw_12_1 : (Cond.code yX3_keep cX3_keep 2 none) ∈ wsL_law := wr_12 (List.mem_of_getElem? (l := wsL_law_r12) (i := 1) rfl)
theorem mw_12_2 : (Cond.fieldLink RX3 34 "ReshapedTexts$History" "size" "I") ∈ wsL_law := wr_12 (List.mem_of_getElem? (l := wsL_law_r12) (i := 2) rfl)
theorem mw_12_3 : (Cond.methodLink RX3 38 Lib.Math.min.name) ∈ wsL_law := wr_12 (List.mem_of_getElem? (l := wsL_law_r12) (i := 3) rfl)
theorem mw_12_4 : (Cond.methodLink RX8 23 yX6_delete) ∈ wsL_law := wr_12 (List.mem_of_getElem? (l := wsL_law_r12) (i := 4) rfl)
theorem mw_12_5 : (Cond.instanceMethod yX6_delete) ∈ wsL_law := wr_12 (List.mem_of_getElem? (l := wsL_law_r12) (i := 5) rfl)
theorem mw_12_6 : (Cond.selects RX6 yX6_delete yX6_delete) ∈ wsL_law := wr_12 (List.mem_of_getElem? (l := wsL_law_r12) (i := 6) rfl)
theorem mw_12_7 : (Cond.code yX6_delete cX6_delete 3 (some .int)) ∈ wsL_law := wr_12 (List.mem_of_getElem? (l := wsL_law_r12) (i := 7) rfl)
theorem mw_12_8 : (Cond.methodLink RX8 26 yX6_takeBack) ∈ wsL_law := wr_12 (List.mem_of_getElem? (l := wsL_law_r12) (i := 8) rfl)
theorem mw_12_9 : (Cond.instanceMethod yX6_takeBack) ∈ wsL_law := wr_12 (List.mem_of_getElem? (l := wsL_law_r12) (i := 9) rfl)
theorem mw_12_10 : (Cond.selects RX6 yX6_takeBack yX6_takeBack) ∈ wsL_law := wr_12 (List.mem_of_getElem? (l := wsL_law_r12) (i := 10) rfl)
theorem mw_12_11 : (Cond.code yX6_takeBack cX6_takeBack 2 (some .int)) ∈ wsL_law := wr_12 (List.mem_of_getElem? (l := wsL_law_r12) (i := 11) rfl)
theorem mw_12_12 : (Cond.methodLink RX8 30 yX6_mark) ∈ wsL_law := wr_12 (List.mem_of_getElem? (l := wsL_law_r12) (i := 12) rfl)
theorem mw_12_13 : (Cond.instanceMethod yX6_mark) ∈ wsL_law := wr_12 (List.mem_of_getElem? (l := wsL_law_r12) (i := 13) rfl)
theorem mw_12_14 : (Cond.selects RX6 yX6_mark yX6_mark) ∈ wsL_law := wr_12 (List.mem_of_getElem? (l := wsL_law_r12) (i := 14) rfl)
theorem mw_12_15 : (Cond.code yX6_mark cX6_mark 3 (some .int)) ∈ wsL_law := wr_12 (List.mem_of_getElem? (l := wsL_law_r12) (i := 15) rfl)
theorem mw_12_16 : (Cond.methodLink RX8 33 yX6_send) ∈ wsL_law := wr_12 (List.mem_of_getElem? (l := wsL_law_r12) (i := 16) rfl)
theorem mw_12_17 : (Cond.instanceMethod yX6_send) ∈ wsL_law := wr_12 (List.mem_of_getElem? (l := wsL_law_r12) (i := 17) rfl)
theorem mw_12_18 : (Cond.selects RX6 yX6_send yX6_send) ∈ wsL_law := wr_12 (List.mem_of_getElem? (l := wsL_law_r12) (i := 18) rfl)
theorem mw_12_19 : (Cond.code yX6_send cX6_send 2 (some .int)) ∈ wsL_law := wr_12 (List.mem_of_getElem? (l := wsL_law_r12) (i := 19) rfl)
theorem mw_12_20 : (Cond.methodLink RX8 36 yX6_hear) ∈ wsL_law := wr_12 (List.mem_of_getElem? (l := wsL_law_r12) (i := 20) rfl)
theorem mw_12_21 : (Cond.instanceMethod yX6_hear) ∈ wsL_law := wr_12 (List.mem_of_getElem? (l := wsL_law_r12) (i := 21) rfl)
theorem mw_12_22 : (Cond.selects RX6 yX6_hear yX6_hear) ∈ wsL_law := wr_12 (List.mem_of_getElem? (l := wsL_law_r12) (i := 22) rfl)
theorem mw_12_23 : (Cond.code yX6_hear cX6_hear 2 (some .int)) ∈ wsL_law := wr_12 (List.mem_of_getElem? (l := wsL_law_r12) (i := 23) rfl)
theorem wr_13 {w : Cond} (h : w ∈ wsL_law_r13) : w ∈ wsL_law := (List.mem_append_left _ (List.mem_append_left _ (List.mem_append_left _ (List.mem_append_left _ (List.mem_append_left _ (List.mem_append_left _ (List.mem_append_left _ (List.mem_append_right _ (List.mem_append_right _ (List.mem_append_right _ (List.mem_append_right _ (List.mem_append_right _ (List.mem_append_right _ (List.mem_append_right _ (List.mem_append_right _ (List.mem_append_right _ (List.mem_append_right _ (List.mem_append_right _ (List.mem_append_right _ (List.mem_append_left _ h))))))))))))))))))))
theorem mw_13_0 : (Cond.methodLink RX8 39 yX6_hearAll) ∈ wsL_law := wr_13 (List.mem_of_getElem? (l := wsL_law_r13) (i := 0) rfl)
theorem mw_13_1 : (Cond.instanceMethod yX6_hearAll) ∈ wsL_law := wr_13 (List.mem_of_getElem? (l := wsL_law_r13) (i := 1) rfl)
theorem mw_13_2 : (Cond.selects RX6 yX6_hearAll yX6_hearAll) ∈ wsL_law := wr_13 (List.mem_of_getElem? (l := wsL_law_r13) (i := 2) rfl)
theorem mw_13_3 : (Cond.code yX6_hearAll cX6_hearAll 2 (some .int)) ∈ wsL_law := wr_13 (List.mem_of_getElem? (l := wsL_law_r13) (i := 3) rfl)
theorem mw_13_4 : (Cond.methodLink RX8 79 yX8_areEditorsSo) ∈ wsL_law := wr_13 (List.mem_of_getElem? (l := wsL_law_r13) (i := 4) rfl)
theorem mw_13_5 : (Cond.static yX8_areEditorsSo) ∈ wsL_law := wr_13 (List.mem_of_getElem? (l := wsL_law_r13) (i := 5) rfl)
theorem mw_13_6 : (Cond.code yX8_areEditorsSo cX8_areEditorsSo 9 (some .boolean)) ∈ wsL_law := wr_13 (List.mem_of_getElem? (l := wsL_law_r13) (i := 6) rfl)
theorem mw_13_7 : (Cond.methodLink RX8 42 yX6_count) ∈ wsL_law := wr_13 (List.mem_of_getElem? (l := wsL_law_r13) (i := 7) rfl)
theorem mw_13_8 : (Cond.instanceMethod yX6_count) ∈ wsL_law := wr_13 (List.mem_of_getElem? (l := wsL_law_r13) (i := 8) rfl)
theorem mw_13_9 : (Cond.selects RX6 yX6_count yX6_count) ∈ wsL_law := wr_13 (List.mem_of_getElem? (l := wsL_law_r13) (i := 9) rfl)
theorem mw_13_10 : (Cond.code yX6_count cX6_count 2 (some .int)) ∈ wsL_law := wr_13 (List.mem_of_getElem? (l := wsL_law_r13) (i := 10) rfl)
theorem mw_13_11 : (Cond.methodLink RX6 114 yX5_nothingsInLog) ∈ wsL_law := wr_13 (List.mem_of_getElem? (l := wsL_law_r13) (i := 11) rfl)
theorem mw_13_12 : (Cond.instanceMethod yX5_nothingsInLog) ∈ wsL_law := wr_13 (List.mem_of_getElem? (l := wsL_law_r13) (i := 12) rfl)
theorem mw_13_13 : (Cond.selects RX5 yX5_nothingsInLog yX5_nothingsInLog) ∈ wsL_law := wr_13 (List.mem_of_getElem? (l := wsL_law_r13) (i := 13) rfl)
theorem mw_13_14 : (Cond.code yX5_nothingsInLog cX5_nothingsInLog 3 (some .int)) ∈ wsL_law := wr_13 (List.mem_of_getElem? (l := wsL_law_r13) (i := 14) rfl)
theorem mw_13_15 : (Cond.methodLink RX5 76 yX4_at) ∈ wsL_law := wr_13 (List.mem_of_getElem? (l := wsL_law_r13) (i := 15) rfl)
theorem mw_13_16 : (Cond.methodLink RX6 117 yX5_waitingOfAll) ∈ wsL_law := wr_13 (List.mem_of_getElem? (l := wsL_law_r13) (i := 16) rfl)
theorem mw_13_17 : (Cond.instanceMethod yX5_waitingOfAll) ∈ wsL_law := wr_13 (List.mem_of_getElem? (l := wsL_law_r13) (i := 17) rfl)
theorem mw_13_18 : (Cond.selects RX5 yX5_waitingOfAll yX5_waitingOfAll) ∈ wsL_law := wr_13 (List.mem_of_getElem? (l := wsL_law_r13) (i := 18) rfl)
theorem mw_13_19 : (Cond.code yX5_waitingOfAll cX5_waitingOfAll 1 (some .int)) ∈ wsL_law := wr_13 (List.mem_of_getElem? (l := wsL_law_r13) (i := 19) rfl)
theorem mw_13_20 : (Cond.methodLink RX6 120 yX5_settledEditors) ∈ wsL_law := wr_13 (List.mem_of_getElem? (l := wsL_law_r13) (i := 20) rfl)
theorem mw_13_21 : (Cond.instanceMethod yX5_settledEditors) ∈ wsL_law := wr_13 (List.mem_of_getElem? (l := wsL_law_r13) (i := 21) rfl)
theorem mw_13_22 : (Cond.selects RX5 yX5_settledEditors yX5_settledEditors) ∈ wsL_law := wr_13 (List.mem_of_getElem? (l := wsL_law_r13) (i := 22) rfl)
theorem mw_13_23 : (Cond.code yX5_settledEditors cX5_settledEditors 3 (some .int)) ∈ wsL_law := wr_13 (List.mem_of_getElem? (l := wsL_law_r13) (i := 23) rfl)
theorem wr_14 {w : Cond} (h : w ∈ wsL_law_r14) : w ∈ wsL_law := (List.mem_append_left _ (List.mem_append_left _ (List.mem_append_left _ (List.mem_append_left _ (List.mem_append_left _ (List.mem_append_left _ (List.mem_append_left _ (List.mem_append_right _ (List.mem_append_right _ (List.mem_append_right _ (List.mem_append_right _ (List.mem_append_right _ (List.mem_append_right _ (List.mem_append_right _ (List.mem_append_right _ (List.mem_append_right _ (List.mem_append_right _ (List.mem_append_right _ (List.mem_append_right _ (List.mem_append_right _ (List.mem_append_left _ h)))))))))))))))))))))
theorem mw_14_0 : (Cond.methodLink RX5 87 yX2_isSettled) ∈ wsL_law := wr_14 (List.mem_of_getElem? (l := wsL_law_r14) (i := 0) rfl)
theorem mw_14_1 : (Cond.instanceMethod yX2_isSettled) ∈ wsL_law := wr_14 (List.mem_of_getElem? (l := wsL_law_r14) (i := 1) rfl)
theorem mw_14_2 : (Cond.selects RX2 yX2_isSettled yX2_isSettled) ∈ wsL_law := wr_14 (List.mem_of_getElem? (l := wsL_law_r14) (i := 2) rfl)
theorem mw_14_3 : (Cond.code yX2_isSettled cX2_isSettled 2 (some .boolean)) ∈ wsL_law := wr_14 (List.mem_of_getElem? (l := wsL_law_r14) (i := 3) rfl)
theorem mw_14_4 : (Cond.methodLink RX8 45 yX6_logOf) ∈ wsL_law := wr_14 (List.mem_of_getElem? (l := wsL_law_r14) (i := 4) rfl)
theorem mw_14_5 : (Cond.instanceMethod yX6_logOf) ∈ wsL_law := wr_14 (List.mem_of_getElem? (l := wsL_law_r14) (i := 5) rfl)
theorem mw_14_6 : (Cond.selects RX6 yX6_logOf yX6_logOf) ∈ wsL_law := wr_14 (List.mem_of_getElem? (l := wsL_law_r14) (i := 6) rfl)
theorem mw_14_7 : (Cond.code yX6_logOf cX6_logOf 3 (some .int)) ∈ wsL_law := wr_14 (List.mem_of_getElem? (l := wsL_law_r14) (i := 7) rfl)
theorem mw_14_8 : (Cond.methodLink RX6 107 yX6_partOf) ∈ wsL_law := wr_14 (List.mem_of_getElem? (l := wsL_law_r14) (i := 8) rfl)
theorem mw_14_9 : (Cond.static yX6_partOf) ∈ wsL_law := wr_14 (List.mem_of_getElem? (l := wsL_law_r14) (i := 9) rfl)
theorem mw_14_10 : (Cond.code yX6_partOf cX6_partOf 3 (some .int)) ∈ wsL_law := wr_14 (List.mem_of_getElem? (l := wsL_law_r14) (i := 10) rfl)
theorem mw_14_11 : (Cond.methodLink RX6 143 yX0_part) ∈ wsL_law := wr_14 (List.mem_of_getElem? (l := wsL_law_r14) (i := 11) rfl)
theorem mw_14_12 : (Cond.static yX0_part) ∈ wsL_law := wr_14 (List.mem_of_getElem? (l := wsL_law_r14) (i := 12) rfl)
theorem mw_14_13 : (Cond.code yX0_part cX0_part 3 (some .int)) ∈ wsL_law := wr_14 (List.mem_of_getElem? (l := wsL_law_r14) (i := 13) rfl)
theorem mw_14_14 : (Cond.methodLink RX0 11 yX0_kind) ∈ wsL_law := wr_14 (List.mem_of_getElem? (l := wsL_law_r14) (i := 14) rfl)
theorem mw_14_15 : (Cond.methodLink RX0 15 yX0_place) ∈ wsL_law := wr_14 (List.mem_of_getElem? (l := wsL_law_r14) (i := 15) rfl)
theorem mw_14_16 : (Cond.methodLink RX0 18 yX0_sign) ∈ wsL_law := wr_14 (List.mem_of_getElem? (l := wsL_law_r14) (i := 16) rfl)
theorem mw_14_17 : (Cond.methodLink RX0 21 yX0_writer) ∈ wsL_law := wr_14 (List.mem_of_getElem? (l := wsL_law_r14) (i := 17) rfl)
theorem mw_14_18 : (Cond.methodLink RX8 48 yX6_waitingOf) ∈ wsL_law := wr_14 (List.mem_of_getElem? (l := wsL_law_r14) (i := 18) rfl)
theorem mw_14_19 : (Cond.instanceMethod yX6_waitingOf) ∈ wsL_law := wr_14 (List.mem_of_getElem? (l := wsL_law_r14) (i := 19) rfl)
theorem mw_14_20 : (Cond.selects RX6 yX6_waitingOf yX6_waitingOf) ∈ wsL_law := wr_14 (List.mem_of_getElem? (l := wsL_law_r14) (i := 20) rfl)
theorem mw_14_21 : (Cond.code yX6_waitingOf cX6_waitingOf 4 (some .int)) ∈ wsL_law := wr_14 (List.mem_of_getElem? (l := wsL_law_r14) (i := 21) rfl)
theorem mw_14_22 : (Cond.methodLink RX8 54 yX6_by) ∈ wsL_law := wr_14 (List.mem_of_getElem? (l := wsL_law_r14) (i := 22) rfl)
theorem mw_14_23 : (Cond.instanceMethod yX6_by) ∈ wsL_law := wr_14 (List.mem_of_getElem? (l := wsL_law_r14) (i := 23) rfl)
theorem wr_15 {w : Cond} (h : w ∈ wsL_law_r15) : w ∈ wsL_law := (List.mem_append_left _ (List.mem_append_left _ (List.mem_append_left _ (List.mem_append_left _ (List.mem_append_left _ (List.mem_append_left _ (List.mem_append_left _ (List.mem_append_right _ (List.mem_append_right _ (List.mem_append_right _ (List.mem_append_right _ (List.mem_append_right _ (List.mem_append_right _ (List.mem_append_right _ (List.mem_append_right _ (List.mem_append_right _ (List.mem_append_right _ (List.mem_append_right _ (List.mem_append_right _ (List.mem_append_right _ (List.mem_append_right _ (List.mem_append_left _ h))))))))))))))))))))))
theorem mw_15_0 : (Cond.selects RX6 yX6_by yX6_by) ∈ wsL_law := wr_15 (List.mem_of_getElem? (l := wsL_law_r15) (i := 0) rfl)
theorem mw_15_1 : (Cond.code yX6_by cX6_by 2 (some .int)) ∈ wsL_law := wr_15 (List.mem_of_getElem? (l := wsL_law_r15) (i := 1) rfl)
theorem mw_15_2 : (Cond.methodLink RX8 83 yX8_isSendSo) ∈ wsL_law := wr_15 (List.mem_of_getElem? (l := wsL_law_r15) (i := 2) rfl)
theorem mw_15_3 : (Cond.static yX8_isSendSo) ∈ wsL_law := wr_15 (List.mem_of_getElem? (l := wsL_law_r15) (i := 3) rfl)
theorem mw_15_4 : (Cond.code yX8_isSendSo cX8_isSendSo 8 (some .boolean)) ∈ wsL_law := wr_15 (List.mem_of_getElem? (l := wsL_law_r15) (i := 4) rfl)
theorem mw_15_5 : (Cond.methodLink RX8 57 yX6_wouldSend) ∈ wsL_law := wr_15 (List.mem_of_getElem? (l := wsL_law_r15) (i := 5) rfl)
theorem mw_15_6 : (Cond.instanceMethod yX6_wouldSend) ∈ wsL_law := wr_15 (List.mem_of_getElem? (l := wsL_law_r15) (i := 6) rfl)
theorem mw_15_7 : (Cond.selects RX6 yX6_wouldSend yX6_wouldSend) ∈ wsL_law := wr_15 (List.mem_of_getElem? (l := wsL_law_r15) (i := 7) rfl)
theorem mw_15_8 : (Cond.code yX6_wouldSend cX6_wouldSend 4 (some .int)) ∈ wsL_law := wr_15 (List.mem_of_getElem? (l := wsL_law_r15) (i := 8) rfl)
theorem mw_15_9 : (Cond.methodLink RX6 136 yX2_canSend) ∈ wsL_law := wr_15 (List.mem_of_getElem? (l := wsL_law_r15) (i := 9) rfl)
theorem mw_15_10 : (Cond.methodLink RX6 139 yX2_outgoing) ∈ wsL_law := wr_15 (List.mem_of_getElem? (l := wsL_law_r15) (i := 10) rfl)
theorem mw_15_11 : (Cond.methodLink RX8 60 yX6_undo) ∈ wsL_law := wr_15 (List.mem_of_getElem? (l := wsL_law_r15) (i := 11) rfl)
theorem mw_15_12 : (Cond.instanceMethod yX6_undo) ∈ wsL_law := wr_15 (List.mem_of_getElem? (l := wsL_law_r15) (i := 12) rfl)
theorem mw_15_13 : (Cond.selects RX6 yX6_undo yX6_undo) ∈ wsL_law := wr_15 (List.mem_of_getElem? (l := wsL_law_r15) (i := 13) rfl)
theorem mw_15_14 : (Cond.code yX6_undo cX6_undo 1 (some .int)) ∈ wsL_law := wr_15 (List.mem_of_getElem? (l := wsL_law_r15) (i := 14) rfl)
theorem mw_15_15 : (Cond.methodLink RX6 149 yX3_restore) ∈ wsL_law := wr_15 (List.mem_of_getElem? (l := wsL_law_r15) (i := 15) rfl)
theorem mw_15_16 : (Cond.instanceMethod yX3_restore) ∈ wsL_law := wr_15 (List.mem_of_getElem? (l := wsL_law_r15) (i := 16) rfl)
theorem mw_15_17 : (Cond.selects RX3 yX3_restore yX3_restore) ∈ wsL_law := wr_15 (List.mem_of_getElem? (l := wsL_law_r15) (i := 17) rfl)
theorem mw_15_18 : (Cond.code yX3_restore cX3_restore 3 none) ∈ wsL_law := wr_15 (List.mem_of_getElem? (l := wsL_law_r15) (i := 18) rfl)
theorem mw_15_19 : (Cond.methodLink RX3 44 Lib.Math.max.name) ∈ wsL_law := wr_15 (List.mem_of_getElem? (l := wsL_law_r15) (i := 19) rfl)
theorem mw_15_20 : (Cond.methodLink RX8 87 yX8_isBackSo) ∈ wsL_law := wr_15 (List.mem_of_getElem? (l := wsL_law_r15) (i := 20) rfl)
theorem mw_15_21 : (Cond.static yX8_isBackSo) ∈ wsL_law := wr_15 (List.mem_of_getElem? (l := wsL_law_r15) (i := 21) rfl)
theorem mw_15_22 : (Cond.code yX8_isBackSo cX8_isBackSo 9 (some .boolean)) ∈ wsL_law := wr_15 (List.mem_of_getElem? (l := wsL_law_r15) (i := 22) rfl)
theorem mw_15_23 : (Cond.methodLink RX8 91 yX8_isEndSo) ∈ wsL_law := wr_15 (List.mem_of_getElem? (l := wsL_law_r15) (i := 23) rfl)
theorem wr_16 {w : Cond} (h : w ∈ wsL_law_r16) : w ∈ wsL_law := (List.mem_append_left _ (List.mem_append_left _ (List.mem_append_left _ (List.mem_append_left _ (List.mem_append_left _ (List.mem_append_left _ (List.mem_append_left _ (List.mem_append_right _ (List.mem_append_right _ (List.mem_append_right _ (List.mem_append_right _ (List.mem_append_right _ (List.mem_append_right _ (List.mem_append_right _ (List.mem_append_right _ (List.mem_append_right _ (List.mem_append_right _ (List.mem_append_right _ (List.mem_append_right _ (List.mem_append_right _ (List.mem_append_right _ (List.mem_append_right _ h))))))))))))))))))))))
theorem mw_16_0 : (Cond.static yX8_isEndSo) ∈ wsL_law := wr_16 (List.mem_of_getElem? (l := wsL_law_r16) (i := 0) rfl)
theorem mw_16_1 : (Cond.code yX8_isEndSo cX8_isEndSo 7 (some .boolean)) ∈ wsL_law := wr_16 (List.mem_of_getElem? (l := wsL_law_r16) (i := 1) rfl)
theorem mw_16_2 : (Cond.methodLink RX8 64 yX6_both) ∈ wsL_law := wr_16 (List.mem_of_getElem? (l := wsL_law_r16) (i := 2) rfl)
theorem mw_16_3 : (Cond.instanceMethod yX6_both) ∈ wsL_law := wr_16 (List.mem_of_getElem? (l := wsL_law_r16) (i := 3) rfl)
theorem mw_16_4 : (Cond.selects RX6 yX6_both yX6_both) ∈ wsL_law := wr_16 (List.mem_of_getElem? (l := wsL_law_r16) (i := 4) rfl)
theorem mw_16_5 : (Cond.code yX6_both cX6_both 2 (some .int)) ∈ wsL_law := wr_16 (List.mem_of_getElem? (l := wsL_law_r16) (i := 5) rfl)
theorem mw_16_6 : (Cond.methodLink RX6 128 yX5_copyEndOf) ∈ wsL_law := wr_16 (List.mem_of_getElem? (l := wsL_law_r16) (i := 6) rfl)
theorem mw_16_7 : (Cond.instanceMethod yX5_copyEndOf) ∈ wsL_law := wr_16 (List.mem_of_getElem? (l := wsL_law_r16) (i := 7) rfl)
theorem mw_16_8 : (Cond.selects RX5 yX5_copyEndOf yX5_copyEndOf) ∈ wsL_law := wr_16 (List.mem_of_getElem? (l := wsL_law_r16) (i := 8) rfl)
theorem mw_16_9 : (Cond.code yX5_copyEndOf cX5_copyEndOf 6 none) ∈ wsL_law := wr_16 (List.mem_of_getElem? (l := wsL_law_r16) (i := 9) rfl)
theorem mw_16_10 : (Cond.methodLink RX5 111 yX5_copyState) ∈ wsL_law := wr_16 (List.mem_of_getElem? (l := wsL_law_r16) (i := 10) rfl)
theorem mw_16_11 : (Cond.methodLink RX6 132 yX5_isOneText) ∈ wsL_law := wr_16 (List.mem_of_getElem? (l := wsL_law_r16) (i := 11) rfl)
theorem mw_16_12 : (Cond.instanceMethod yX5_isOneText) ∈ wsL_law := wr_16 (List.mem_of_getElem? (l := wsL_law_r16) (i := 12) rfl)
theorem mw_16_13 : (Cond.selects RX5 yX5_isOneText yX5_isOneText) ∈ wsL_law := wr_16 (List.mem_of_getElem? (l := wsL_law_r16) (i := 13) rfl)
theorem mw_16_14 : (Cond.code yX5_isOneText cX5_isOneText 1 (some .boolean)) ∈ wsL_law := wr_16 (List.mem_of_getElem? (l := wsL_law_r16) (i := 14) rfl)
theorem mw_16_15 : (Cond.methodLink RX5 94 yX4_isSameAs) ∈ wsL_law := wr_16 (List.mem_of_getElem? (l := wsL_law_r16) (i := 15) rfl)
theorem mw_16_16 : (Cond.methodLink RX8 67 yX6_inTheEnd) ∈ wsL_law := wr_16 (List.mem_of_getElem? (l := wsL_law_r16) (i := 16) rfl)
theorem mw_16_17 : (Cond.instanceMethod yX6_inTheEnd) ∈ wsL_law := wr_16 (List.mem_of_getElem? (l := wsL_law_r16) (i := 17) rfl)
theorem mw_16_18 : (Cond.selects RX6 yX6_inTheEnd yX6_inTheEnd) ∈ wsL_law := wr_16 (List.mem_of_getElem? (l := wsL_law_r16) (i := 18) rfl)
theorem mw_16_19 : (Cond.code yX6_inTheEnd cX6_inTheEnd 3 (some .int)) ∈ wsL_law := wr_16 (List.mem_of_getElem? (l := wsL_law_r16) (i := 19) rfl)
theorem y_X6_init : zYI yX6_init cX6_init 1 := ⟨⟨mw_1_5, mw_1_2, by decide +kernel, by decide +kernel⟩, mw_1_4, rfl⟩
theorem n_X6_init : (parseMethodDescriptor yX6_init.desc).map (fun d => d.parameters.length) = some 0 := by decide +kernel
theorem y_X5_init : zYI yX5_init cX5_init 1 := ⟨⟨mw_2_2, mw_1_11, by decide +kernel, by decide +kernel⟩, mw_2_1, rfl⟩
theorem n_X5_init : (parseMethodDescriptor yX5_init.desc).map (fun d => d.parameters.length) = some 0 := by decide +kernel
theorem y_X2_init : zYI yX2_init cX2_init 2 := ⟨⟨mw_2_18, mw_2_6, by decide +kernel, by decide +kernel⟩, mw_2_17, rfl⟩
theorem n_X2_init : (parseMethodDescriptor yX2_init.desc).map (fun d => d.parameters.length) = some 1 := by decide +kernel
theorem y_X4_init : zYI yX4_init cX4_init 2 := ⟨⟨mw_3_3, mw_2_12, by decide +kernel, by decide +kernel⟩, mw_3_2, rfl⟩
theorem n_X4_init : (parseMethodDescriptor yX4_init.desc).map (fun d => d.parameters.length) = some 1 := by decide +kernel
theorem y_X3_init : zYI yX3_init cX3_init 1 := ⟨⟨mw_3_15, mw_1_18, by decide +kernel, by decide +kernel⟩, mw_3_14, rfl⟩
theorem n_X3_init : (parseMethodDescriptor yX3_init.desc).map (fun d => d.parameters.length) = some 0 := by decide +kernel
theorem y_X1_init : zYI yX1_init cX1_init 1 := ⟨⟨mw_4_2, mw_1_22, by decide +kernel, by decide +kernel⟩, mw_4_1, rfl⟩
theorem n_X1_init : (parseMethodDescriptor yX1_init.desc).map (fun d => d.parameters.length) = some 0 := by decide +kernel
theorem y_X8_cell : zYS yX8_cell cX8_cell 2 (some .int) := ⟨⟨mw_4_11, mw_4_10, by decide +kernel, by decide +kernel⟩, mw_4_9⟩
theorem n_X8_cell : (parseMethodDescriptor yX8_cell.desc).map (fun d => d.parameters.length) = some 2 := by decide +kernel
theorem y_X8_low : zYS yX8_low cX8_low 2 (some .int) := ⟨⟨mw_4_14, mw_4_10, by decide +kernel, by decide +kernel⟩, mw_4_13⟩
theorem n_X8_low : (parseMethodDescriptor yX8_low.desc).map (fun d => d.parameters.length) = some 2 := by decide +kernel
theorem y_X6_editorOf : zYV yX6_editorOf cX6_editorOf 4 (some .int) := ⟨⟨mw_4_19, mw_1_2, by decide +kernel, by decide +kernel⟩, mw_4_17, mw_4_18⟩
theorem n_X6_editorOf : (parseMethodDescriptor yX6_editorOf.desc).map (fun d => d.parameters.length) = some 2 := by decide +kernel
theorem y_X6_isNoEditor : zYS yX6_isNoEditor cX6_isNoEditor 1 (some .boolean) := ⟨⟨mw_4_22, mw_1_2, by decide +kernel, by decide +kernel⟩, mw_4_21⟩
theorem n_X6_isNoEditor : (parseMethodDescriptor yX6_isNoEditor.desc).map (fun d => d.parameters.length) = some 1 := by decide +kernel
theorem y_X5_editor : zYV yX5_editor cX5_editor 2 (some (.object "ReshapedTexts$Editor")) := ⟨⟨mw_5_2, mw_1_11, by decide +kernel, by decide +kernel⟩, mw_5_0, mw_5_1⟩
theorem n_X5_editor : (parseMethodDescriptor yX5_editor.desc).map (fun d => d.parameters.length) = some 1 := by decide +kernel
theorem y_X4_size : zYV yX4_size cX4_size 1 (some .int) := ⟨⟨mw_5_6, mw_2_12, by decide +kernel, by decide +kernel⟩, mw_5_4, mw_5_5⟩
theorem n_X4_size : (parseMethodDescriptor yX4_size.desc).map (fun d => d.parameters.length) = some 0 := by decide +kernel
theorem y_X4_isSameAs : zYV yX4_isSameAs cX4_isSameAs 3 (some .boolean) := ⟨⟨mw_5_10, mw_2_12, by decide +kernel, by decide +kernel⟩, mw_5_8, mw_5_9⟩
theorem n_X4_isSameAs : (parseMethodDescriptor yX4_isSameAs.desc).map (fun d => d.parameters.length) = some 1 := by decide +kernel
theorem y_X4_at : zYV yX4_at cX4_at 2 (some .int) := ⟨⟨mw_5_14, mw_2_12, by decide +kernel, by decide +kernel⟩, mw_5_12, mw_5_13⟩
theorem n_X4_at : (parseMethodDescriptor yX4_at.desc).map (fun d => d.parameters.length) = some 1 := by decide +kernel
theorem y_X6_letter : zYV yX6_letter cX6_letter 4 (some .int) := ⟨⟨mw_5_18, mw_1_2, by decide +kernel, by decide +kernel⟩, mw_5_16, mw_5_17⟩
theorem n_X6_letter : (parseMethodDescriptor yX6_letter.desc).map (fun d => d.parameters.length) = some 2 := by decide +kernel
theorem y_X8_does : zYS yX8_does cX8_does 4 (some .int) := ⟨⟨mw_5_22, mw_4_10, by decide +kernel, by decide +kernel⟩, mw_5_21⟩
theorem n_X8_does : (parseMethodDescriptor yX8_does.desc).map (fun d => d.parameters.length) = some 2 := by decide +kernel
theorem y_X6_insert : zYV yX6_insert cX6_insert 4 (some .int) := ⟨⟨mw_6_2, mw_1_2, by decide +kernel, by decide +kernel⟩, mw_6_0, mw_6_1⟩
theorem n_X6_insert : (parseMethodDescriptor yX6_insert.desc).map (fun d => d.parameters.length) = some 3 := by decide +kernel
theorem y_X6_recorded : zYV yX6_recorded cX6_recorded 6 (some .int) := ⟨⟨mw_6_6, mw_1_2, by decide +kernel, by decide +kernel⟩, mw_6_4, mw_6_5⟩
theorem n_X6_recorded : (parseMethodDescriptor yX6_recorded.desc).map (fun d => d.parameters.length) = some 4 := by decide +kernel
theorem y_X3_prepare : zYV yX3_prepare cX3_prepare 2 none := ⟨⟨mw_6_10, mw_1_18, by decide +kernel, by decide +kernel⟩, mw_6_8, mw_6_9⟩
theorem n_X3_prepare : (parseMethodDescriptor yX3_prepare.desc).map (fun d => d.parameters.length) = some 1 := by decide +kernel
theorem y_X5_copyState : zYV yX5_copyState cX5_copyState 2 none := ⟨⟨mw_6_14, mw_1_11, by decide +kernel, by decide +kernel⟩, mw_6_12, mw_6_13⟩
theorem n_X5_copyState : (parseMethodDescriptor yX5_copyState.desc).map (fun d => d.parameters.length) = some 1 := by decide +kernel
theorem y_X2_copyEditor : zYV yX2_copyEditor cX2_copyEditor 2 none := ⟨⟨mw_6_18, mw_2_6, by decide +kernel, by decide +kernel⟩, mw_6_16, mw_6_17⟩
theorem n_X2_copyEditor : (parseMethodDescriptor yX2_copyEditor.desc).map (fun d => d.parameters.length) = some 1 := by decide +kernel
theorem y_X4_copyNumbers : zYV yX4_copyNumbers cX4_copyNumbers 4 none := ⟨⟨mw_7_2, mw_2_12, by decide +kernel, by decide +kernel⟩, mw_7_0, mw_7_1⟩
theorem n_X4_copyNumbers : (parseMethodDescriptor yX4_copyNumbers.desc).map (fun d => d.parameters.length) = some 1 := by decide +kernel
theorem y_X5_answer : zYV yX5_answer cX5_answer 6 (some .int) := ⟨⟨mw_7_10, mw_1_11, by decide +kernel, by decide +kernel⟩, mw_7_8, mw_7_9⟩
theorem n_X5_answer : (parseMethodDescriptor yX5_answer.desc).map (fun d => d.parameters.length) = some 4 := by decide +kernel
theorem y_X2_putIn : zYV yX2_putIn cX2_putIn 3 (some .int) := ⟨⟨mw_7_15, mw_2_6, by decide +kernel, by decide +kernel⟩, mw_7_13, mw_7_14⟩
theorem n_X2_putIn : (parseMethodDescriptor yX2_putIn.desc).map (fun d => d.parameters.length) = some 2 := by decide +kernel
theorem y_X0_of : zYS yX0_of cX0_of 4 (some .int) := ⟨⟨mw_7_20, mw_7_19, by decide +kernel, by decide +kernel⟩, mw_7_18⟩
theorem n_X0_of : (parseMethodDescriptor yX0_of.desc).map (fun d => d.parameters.length) = some 4 := by decide +kernel
theorem y_X2_write : zYV yX2_write cX2_write 2 none := ⟨⟨mw_8_0, mw_2_6, by decide +kernel, by decide +kernel⟩, mw_7_22, mw_7_23⟩
theorem n_X2_write : (parseMethodDescriptor yX2_write.desc).map (fun d => d.parameters.length) = some 1 := by decide +kernel
theorem y_X2_apply : zYV yX2_apply cX2_apply 5 none := ⟨⟨mw_8_4, mw_2_6, by decide +kernel, by decide +kernel⟩, mw_8_2, mw_8_3⟩
theorem n_X2_apply : (parseMethodDescriptor yX2_apply.desc).map (fun d => d.parameters.length) = some 1 := by decide +kernel
theorem y_X0_place : zYS yX0_place cX0_place 1 (some .int) := ⟨⟨mw_8_7, mw_7_19, by decide +kernel, by decide +kernel⟩, mw_8_6⟩
theorem n_X0_place : (parseMethodDescriptor yX0_place.desc).map (fun d => d.parameters.length) = some 1 := by decide +kernel
theorem y_X0_kind : zYS yX0_kind cX0_kind 1 (some .int) := ⟨⟨mw_8_10, mw_7_19, by decide +kernel, by decide +kernel⟩, mw_8_9⟩
theorem n_X0_kind : (parseMethodDescriptor yX0_kind.desc).map (fun d => d.parameters.length) = some 1 := by decide +kernel
theorem y_X0_sign : zYS yX0_sign cX0_sign 1 (some .int) := ⟨⟨mw_8_13, mw_7_19, by decide +kernel, by decide +kernel⟩, mw_8_12⟩
theorem n_X0_sign : (parseMethodDescriptor yX0_sign.desc).map (fun d => d.parameters.length) = some 1 := by decide +kernel
theorem y_X4_addAt : zYV yX4_addAt cX4_addAt 4 none := ⟨⟨mw_8_17, mw_2_12, by decide +kernel, by decide +kernel⟩, mw_8_15, mw_8_16⟩
theorem n_X4_addAt : (parseMethodDescriptor yX4_addAt.desc).map (fun d => d.parameters.length) = some 2 := by decide +kernel
theorem y_X4_removeAt : zYV yX4_removeAt cX4_removeAt 3 none := ⟨⟨mw_8_21, mw_2_12, by decide +kernel, by decide +kernel⟩, mw_8_19, mw_8_20⟩
theorem n_X4_removeAt : (parseMethodDescriptor yX4_removeAt.desc).map (fun d => d.parameters.length) = some 1 := by decide +kernel
theorem y_X0_reshaped : zYS yX0_reshaped cX0_reshaped 9 (some .int) := ⟨⟨mw_9_1, mw_7_19, by decide +kernel, by decide +kernel⟩, mw_9_0⟩
theorem n_X0_reshaped : (parseMethodDescriptor yX0_reshaped.desc).map (fun d => d.parameters.length) = some 2 := by decide +kernel
theorem y_X4_put : zYV yX4_put cX4_put 3 none := ⟨⟨mw_9_5, mw_2_12, by decide +kernel, by decide +kernel⟩, mw_9_3, mw_9_4⟩
theorem n_X4_put : (parseMethodDescriptor yX4_put.desc).map (fun d => d.parameters.length) = some 2 := by decide +kernel
theorem y_X4_add : zYV yX4_add cX4_add 2 none := ⟨⟨mw_9_9, mw_2_12, by decide +kernel, by decide +kernel⟩, mw_9_7, mw_9_8⟩
theorem n_X4_add : (parseMethodDescriptor yX4_add.desc).map (fun d => d.parameters.length) = some 1 := by decide +kernel
theorem y_X2_keepBack : zYV yX2_keepBack cX2_keepBack 2 none := ⟨⟨mw_9_14, mw_2_6, by decide +kernel, by decide +kernel⟩, mw_9_12, mw_9_13⟩
theorem n_X2_keepBack : (parseMethodDescriptor yX2_keepBack.desc).map (fun d => d.parameters.length) = some 1 := by decide +kernel
theorem y_X2_takeOut : zYV yX2_takeOut cX2_takeOut 3 (some .int) := ⟨⟨mw_9_18, mw_2_6, by decide +kernel, by decide +kernel⟩, mw_9_16, mw_9_17⟩
theorem n_X2_takeOut : (parseMethodDescriptor yX2_takeOut.desc).map (fun d => d.parameters.length) = some 1 := by decide +kernel
theorem y_X2_goBack : zYV yX2_goBack cX2_goBack 4 (some .int) := ⟨⟨mw_9_22, mw_2_6, by decide +kernel, by decide +kernel⟩, mw_9_20, mw_9_21⟩
theorem n_X2_goBack : (parseMethodDescriptor yX2_goBack.desc).map (fun d => d.parameters.length) = some 0 := by decide +kernel
theorem y_X2_setSpot : zYV yX2_setSpot cX2_setSpot 3 (some .int) := ⟨⟨mw_10_2, mw_2_6, by decide +kernel, by decide +kernel⟩, mw_10_0, mw_10_1⟩
theorem n_X2_setSpot : (parseMethodDescriptor yX2_setSpot.desc).map (fun d => d.parameters.length) = some 1 := by decide +kernel
theorem y_X5_pass : zYV yX5_pass cX5_pass 2 (some .int) := ⟨⟨mw_10_6, mw_1_11, by decide +kernel, by decide +kernel⟩, mw_10_4, mw_10_5⟩
theorem n_X5_pass : (parseMethodDescriptor yX5_pass.desc).map (fun d => d.parameters.length) = some 1 := by decide +kernel
theorem y_X2_canSend : zYV yX2_canSend cX2_canSend 1 (some .boolean) := ⟨⟨mw_10_10, mw_2_6, by decide +kernel, by decide +kernel⟩, mw_10_8, mw_10_9⟩
theorem n_X2_canSend : (parseMethodDescriptor yX2_canSend.desc).map (fun d => d.parameters.length) = some 0 := by decide +kernel
theorem y_X5_append : zYV yX5_append cX5_append 5 none := ⟨⟨mw_10_15, mw_1_11, by decide +kernel, by decide +kernel⟩, mw_10_13, mw_10_14⟩
theorem n_X5_append : (parseMethodDescriptor yX5_append.desc).map (fun d => d.parameters.length) = some 1 := by decide +kernel
theorem y_X2_outgoing : zYV yX2_outgoing cX2_outgoing 4 (some .int) := ⟨⟨mw_10_19, mw_2_6, by decide +kernel, by decide +kernel⟩, mw_10_17, mw_10_18⟩
theorem n_X2_outgoing : (parseMethodDescriptor yX2_outgoing.desc).map (fun d => d.parameters.length) = some 1 := by decide +kernel
theorem y_X0_writer : zYS yX0_writer cX0_writer 1 (some .int) := ⟨⟨mw_11_2, mw_7_19, by decide +kernel, by decide +kernel⟩, mw_11_1⟩
theorem n_X0_writer : (parseMethodDescriptor yX0_writer.desc).map (fun d => d.parameters.length) = some 1 := by decide +kernel
theorem y_X2_hearNext : zYV yX2_hearNext cX2_hearNext 4 (some .int) := ⟨⟨mw_11_8, mw_2_6, by decide +kernel, by decide +kernel⟩, mw_11_6, mw_11_7⟩
theorem n_X2_hearNext : (parseMethodDescriptor yX2_hearNext.desc).map (fun d => d.parameters.length) = some 1 := by decide +kernel
theorem y_X0_passThrough : zYS yX0_passThrough cX0_passThrough 5 (some .int) := ⟨⟨mw_11_12, mw_7_19, by decide +kernel, by decide +kernel⟩, mw_11_11⟩
theorem n_X0_passThrough : (parseMethodDescriptor yX0_passThrough.desc).map (fun d => d.parameters.length) = some 2 := by decide +kernel
theorem y_X2_hearRest : zYV yX2_hearRest cX2_hearRest 4 (some .int) := ⟨⟨mw_11_20, mw_2_6, by decide +kernel, by decide +kernel⟩, mw_11_18, mw_11_19⟩
theorem n_X2_hearRest : (parseMethodDescriptor yX2_hearRest.desc).map (fun d => d.parameters.length) = some 1 := by decide +kernel
theorem y_X3_keep : zYV yX3_keep cX3_keep 2 none := ⟨⟨mw_12_1, mw_1_18, by decide +kernel, by decide +kernel⟩, mw_11_23, mw_12_0⟩
theorem n_X3_keep : (parseMethodDescriptor yX3_keep.desc).map (fun d => d.parameters.length) = some 0 := by decide +kernel
theorem y_X6_delete : zYV yX6_delete cX6_delete 3 (some .int) := ⟨⟨mw_12_7, mw_1_2, by decide +kernel, by decide +kernel⟩, mw_12_5, mw_12_6⟩
theorem n_X6_delete : (parseMethodDescriptor yX6_delete.desc).map (fun d => d.parameters.length) = some 2 := by decide +kernel
theorem y_X6_takeBack : zYV yX6_takeBack cX6_takeBack 2 (some .int) := ⟨⟨mw_12_11, mw_1_2, by decide +kernel, by decide +kernel⟩, mw_12_9, mw_12_10⟩
theorem n_X6_takeBack : (parseMethodDescriptor yX6_takeBack.desc).map (fun d => d.parameters.length) = some 1 := by decide +kernel
theorem y_X6_mark : zYV yX6_mark cX6_mark 3 (some .int) := ⟨⟨mw_12_15, mw_1_2, by decide +kernel, by decide +kernel⟩, mw_12_13, mw_12_14⟩
theorem n_X6_mark : (parseMethodDescriptor yX6_mark.desc).map (fun d => d.parameters.length) = some 2 := by decide +kernel
theorem y_X6_send : zYV yX6_send cX6_send 2 (some .int) := ⟨⟨mw_12_19, mw_1_2, by decide +kernel, by decide +kernel⟩, mw_12_17, mw_12_18⟩
theorem n_X6_send : (parseMethodDescriptor yX6_send.desc).map (fun d => d.parameters.length) = some 1 := by decide +kernel
theorem y_X6_hear : zYV yX6_hear cX6_hear 2 (some .int) := ⟨⟨mw_12_23, mw_1_2, by decide +kernel, by decide +kernel⟩, mw_12_21, mw_12_22⟩
theorem n_X6_hear : (parseMethodDescriptor yX6_hear.desc).map (fun d => d.parameters.length) = some 1 := by decide +kernel
theorem y_X6_hearAll : zYV yX6_hearAll cX6_hearAll 2 (some .int) := ⟨⟨mw_13_3, mw_1_2, by decide +kernel, by decide +kernel⟩, mw_13_1, mw_13_2⟩
theorem n_X6_hearAll : (parseMethodDescriptor yX6_hearAll.desc).map (fun d => d.parameters.length) = some 1 := by decide +kernel
theorem y_X8_areEditorsSo : zYS yX8_areEditorsSo cX8_areEditorsSo 9 (some .boolean) := ⟨⟨mw_13_6, mw_4_10, by decide +kernel, by decide +kernel⟩, mw_13_5⟩
theorem n_X8_areEditorsSo : (parseMethodDescriptor yX8_areEditorsSo.desc).map (fun d => d.parameters.length) = some 1 := by decide +kernel
theorem y_X6_count : zYV yX6_count cX6_count 2 (some .int) := ⟨⟨mw_13_10, mw_1_2, by decide +kernel, by decide +kernel⟩, mw_13_8, mw_13_9⟩
theorem n_X6_count : (parseMethodDescriptor yX6_count.desc).map (fun d => d.parameters.length) = some 1 := by decide +kernel
theorem y_X5_nothingsInLog : zYV yX5_nothingsInLog cX5_nothingsInLog 3 (some .int) := ⟨⟨mw_13_14, mw_1_11, by decide +kernel, by decide +kernel⟩, mw_13_12, mw_13_13⟩
theorem n_X5_nothingsInLog : (parseMethodDescriptor yX5_nothingsInLog.desc).map (fun d => d.parameters.length) = some 0 := by decide +kernel
theorem y_X5_waitingOfAll : zYV yX5_waitingOfAll cX5_waitingOfAll 1 (some .int) := ⟨⟨mw_13_19, mw_1_11, by decide +kernel, by decide +kernel⟩, mw_13_17, mw_13_18⟩
theorem n_X5_waitingOfAll : (parseMethodDescriptor yX5_waitingOfAll.desc).map (fun d => d.parameters.length) = some 0 := by decide +kernel
theorem y_X5_settledEditors : zYV yX5_settledEditors cX5_settledEditors 3 (some .int) := ⟨⟨mw_13_23, mw_1_11, by decide +kernel, by decide +kernel⟩, mw_13_21, mw_13_22⟩
theorem n_X5_settledEditors : (parseMethodDescriptor yX5_settledEditors.desc).map (fun d => d.parameters.length) = some 0 := by decide +kernel
theorem y_X2_isSettled : zYV yX2_isSettled cX2_isSettled 2 (some .boolean) := ⟨⟨mw_14_3, mw_2_6, by decide +kernel, by decide +kernel⟩, mw_14_1, mw_14_2⟩
theorem n_X2_isSettled : (parseMethodDescriptor yX2_isSettled.desc).map (fun d => d.parameters.length) = some 1 := by decide +kernel
theorem y_X6_logOf : zYV yX6_logOf cX6_logOf 3 (some .int) := ⟨⟨mw_14_7, mw_1_2, by decide +kernel, by decide +kernel⟩, mw_14_5, mw_14_6⟩
theorem n_X6_logOf : (parseMethodDescriptor yX6_logOf.desc).map (fun d => d.parameters.length) = some 2 := by decide +kernel
theorem y_X6_partOf : zYS yX6_partOf cX6_partOf 3 (some .int) := ⟨⟨mw_14_10, mw_1_2, by decide +kernel, by decide +kernel⟩, mw_14_9⟩
theorem n_X6_partOf : (parseMethodDescriptor yX6_partOf.desc).map (fun d => d.parameters.length) = some 3 := by decide +kernel
theorem y_X0_part : zYS yX0_part cX0_part 3 (some .int) := ⟨⟨mw_14_13, mw_7_19, by decide +kernel, by decide +kernel⟩, mw_14_12⟩
theorem n_X0_part : (parseMethodDescriptor yX0_part.desc).map (fun d => d.parameters.length) = some 2 := by decide +kernel
theorem y_X6_waitingOf : zYV yX6_waitingOf cX6_waitingOf 4 (some .int) := ⟨⟨mw_14_21, mw_1_2, by decide +kernel, by decide +kernel⟩, mw_14_19, mw_14_20⟩
theorem n_X6_waitingOf : (parseMethodDescriptor yX6_waitingOf.desc).map (fun d => d.parameters.length) = some 3 := by decide +kernel
theorem y_X6_by : zYV yX6_by cX6_by 2 (some .int) := ⟨⟨mw_15_1, mw_1_2, by decide +kernel, by decide +kernel⟩, mw_14_23, mw_15_0⟩
theorem n_X6_by : (parseMethodDescriptor yX6_by.desc).map (fun d => d.parameters.length) = some 1 := by decide +kernel
theorem y_X8_isSendSo : zYS yX8_isSendSo cX8_isSendSo 8 (some .boolean) := ⟨⟨mw_15_4, mw_4_10, by decide +kernel, by decide +kernel⟩, mw_15_3⟩
theorem n_X8_isSendSo : (parseMethodDescriptor yX8_isSendSo.desc).map (fun d => d.parameters.length) = some 2 := by decide +kernel
theorem y_X6_wouldSend : zYV yX6_wouldSend cX6_wouldSend 4 (some .int) := ⟨⟨mw_15_8, mw_1_2, by decide +kernel, by decide +kernel⟩, mw_15_6, mw_15_7⟩
theorem n_X6_wouldSend : (parseMethodDescriptor yX6_wouldSend.desc).map (fun d => d.parameters.length) = some 2 := by decide +kernel
theorem y_X6_undo : zYV yX6_undo cX6_undo 1 (some .int) := ⟨⟨mw_15_14, mw_1_2, by decide +kernel, by decide +kernel⟩, mw_15_12, mw_15_13⟩
theorem n_X6_undo : (parseMethodDescriptor yX6_undo.desc).map (fun d => d.parameters.length) = some 0 := by decide +kernel
theorem y_X3_restore : zYV yX3_restore cX3_restore 3 none := ⟨⟨mw_15_18, mw_1_18, by decide +kernel, by decide +kernel⟩, mw_15_16, mw_15_17⟩
theorem n_X3_restore : (parseMethodDescriptor yX3_restore.desc).map (fun d => d.parameters.length) = some 1 := by decide +kernel
theorem y_X8_isBackSo : zYS yX8_isBackSo cX8_isBackSo 9 (some .boolean) := ⟨⟨mw_15_22, mw_4_10, by decide +kernel, by decide +kernel⟩, mw_15_21⟩
theorem n_X8_isBackSo : (parseMethodDescriptor yX8_isBackSo.desc).map (fun d => d.parameters.length) = some 3 := by decide +kernel
theorem y_X8_isEndSo : zYS yX8_isEndSo cX8_isEndSo 7 (some .boolean) := ⟨⟨mw_16_1, mw_4_10, by decide +kernel, by decide +kernel⟩, mw_16_0⟩
theorem n_X8_isEndSo : (parseMethodDescriptor yX8_isEndSo.desc).map (fun d => d.parameters.length) = some 1 := by decide +kernel
theorem y_X6_both : zYV yX6_both cX6_both 2 (some .int) := ⟨⟨mw_16_5, mw_1_2, by decide +kernel, by decide +kernel⟩, mw_16_3, mw_16_4⟩
theorem n_X6_both : (parseMethodDescriptor yX6_both.desc).map (fun d => d.parameters.length) = some 1 := by decide +kernel
theorem y_X5_copyEndOf : zYV yX5_copyEndOf cX5_copyEndOf 6 none := ⟨⟨mw_16_9, mw_1_11, by decide +kernel, by decide +kernel⟩, mw_16_7, mw_16_8⟩
theorem n_X5_copyEndOf : (parseMethodDescriptor yX5_copyEndOf.desc).map (fun d => d.parameters.length) = some 2 := by decide +kernel
theorem y_X5_isOneText : zYV yX5_isOneText cX5_isOneText 1 (some .boolean) := ⟨⟨mw_16_14, mw_1_11, by decide +kernel, by decide +kernel⟩, mw_16_12, mw_16_13⟩
theorem n_X5_isOneText : (parseMethodDescriptor yX5_isOneText.desc).map (fun d => d.parameters.length) = some 0 := by decide +kernel
theorem y_X6_inTheEnd : zYV yX6_inTheEnd cX6_inTheEnd 3 (some .int) := ⟨⟨mw_16_19, mw_1_2, by decide +kernel, by decide +kernel⟩, mw_16_17, mw_16_18⟩
theorem n_X6_inTheEnd : (parseMethodDescriptor yX6_inTheEnd.desc).map (fun d => d.parameters.length) = some 2 := by decide +kernel
section ZC0
variable {p : Program} {l : Launch} {e : Env} {R : Room} {s : State} {m : MethodId} {args : Array Value} {below : List Frame} {meth : Method} {c : Code} {own : String} {cc : ByteArray} {nL : Nat} {ret : Option FieldType} {D : va_G} {cI : ClassId} {A : Nat → Prop} {cells slots : Nat} {Qf : State → Prop} {bs : List va_W} {pc : Nat} {ls : List (Option Value)} {st : List Value}
theorem z_callV0 (C : ZC p s m args meth c own cc nL ret D cI A) {S : Type} {y : MethodName} {yc : ByteArray} {yL : Nat} {yr : Option FieldType} {rm : Room} {rv : S → Option Value} {w1 : S → List va_W} {Q : S → Prop} {As rest : List Value} {idx : Nat} (wc wr : List va_W) {b ci N : Nat} {T : u_T} {fs : List Value} (hci : vwCl[ci]? = some (y.cls, T, N)) (hrc : wc.flatten[0]? = some (b, .inr (ci, fs))) (hM : ZM l D cI y yc yL yr rm (.ref b :: As) wc rv w1 Q) (hy : zYV y yc yL yr) (hlk : Cond.methodLink own idx y ∈ wsL_law) (hdg : decode cc pc = .ok (.invokevirtual idx, 3)) (hst : st = As.reverse ++ .ref b :: rest) {n : Nat} (hn : (parseMethodDescriptor y.desc).map (fun d => d.parameters.length) = some n) (hn2 : As.length = n) (hR : rm.frames + 1 ≤ R.frames ∧ 8 + (yL + 11) + rm.locals ≤ R.locals) (hc0 : rm.cells = 0 ∧ rm.slots = 0 ∧ cells ≤ R.cells ∧ slots ≤ R.slots) (hrest : (rest.map fun v => v.category).sum ≤ 8) (hp : bs.Perm (wc ++ wr)) (kk : ∀ u : S, Q u → ZZ p l e R s m args below meth c D A nL cells slots Qf (w1 u ++ wr) (pc + 3) ls ((rv u).toList ++ rest)) : ZZ p l e R s m args below meth c D A nL cells slots Qf bs pc ls st :=
  z_callV C hci hrc hM hy hlk hdg hst (hn2 ▸ hn) hR ⟨by rw [hc0.1]; exact hc0.2.2.1, by rw [hc0.2.1]; exact hc0.2.2.2⟩ hrest hp (fun u hu => by rw [hc0.1, hc0.2.1]; exact kk u hu)
theorem z_callFV (C : ZC p s m args meth c own cc nL ret D cI A) {y : MethodName} {yc : ByteArray} {yL : Nat} {yr : Option FieldType} {rm : Room} {v : Value} {As rest : List Value} {idx : Nat} (wc wr : List va_W) {b ci N : Nat} {T : u_T} {fs : List Value} (hci : vwCl[ci]? = some (y.cls, T, N)) (hrc : wc.flatten[0]? = some (b, .inr (ci, fs))) (hM : ZM l D cI y yc yL yr rm (.ref b :: As) wc (fun _ : Unit => some v) (fun _ => wc) (fun _ => True)) (hy : zYV y yc yL yr) (hlk : Cond.methodLink own idx y ∈ wsL_law) (hdg : decode cc pc = .ok (.invokevirtual idx, 3)) (hst : st = As.reverse ++ .ref b :: rest) {n : Nat} (hn : (parseMethodDescriptor y.desc).map (fun d => d.parameters.length) = some n) (hn2 : As.length = n) (hR : rm.frames + 1 ≤ R.frames ∧ 8 + (yL + 11) + rm.locals ≤ R.locals) (hc0 : rm.cells = 0 ∧ rm.slots = 0 ∧ cells ≤ R.cells ∧ slots ≤ R.slots) (hrest : (rest.map fun v => v.category).sum ≤ 8) (hp : bs.Perm (wc ++ wr)) (kk : ZZ p l e R s m args below meth c D A nL cells slots Qf bs (pc + 3) ls (v :: rest)) : ZZ p l e R s m args below meth c D A nL cells slots Qf bs pc ls st :=
  z_callV0 C wc wr hci hrc hM hy hlk hdg hst hn hn2 hR hc0 hrest hp (fun u _ => z_perm C bs hp.symm kk)
theorem z_callS0 (C : ZC p s m args meth c own cc nL ret D cI A) {S : Type} {y : MethodName} {yc : ByteArray} {yL : Nat} {yr : Option FieldType} {rm : Room} {rv : S → Option Value} {w1 : S → List va_W} {Q : S → Prop} {As rest : List Value} {idx : Nat} (wc wr : List va_W) (hM : ZM l D cI y yc yL yr rm As wc rv w1 Q) (hy : zYS y yc yL yr) (hlk : Cond.methodLink own idx y ∈ wsL_law) (hdg : decode cc pc = .ok (.invokestatic idx, 3)) (hst : st = As.reverse ++ rest) {n : Nat} (hn : (parseMethodDescriptor y.desc).map (fun d => d.parameters.length) = some n) (hn2 : As.length = n) (hR : rm.frames + 1 ≤ R.frames ∧ 8 + (yL + 11) + rm.locals ≤ R.locals) (hc0 : rm.cells = 0 ∧ rm.slots = 0 ∧ cells ≤ R.cells ∧ slots ≤ R.slots) (hrest : (rest.map fun v => v.category).sum ≤ 8) (hp : bs.Perm (wc ++ wr)) (kk : ∀ u : S, Q u → ZZ p l e R s m args below meth c D A nL cells slots Qf (w1 u ++ wr) (pc + 3) ls ((rv u).toList ++ rest)) : ZZ p l e R s m args below meth c D A nL cells slots Qf bs pc ls st :=
  z_callS C hM hy hlk hdg hst (hn2 ▸ hn) hR ⟨by rw [hc0.1]; exact hc0.2.2.1, by rw [hc0.2.1]; exact hc0.2.2.2⟩ hrest hp (fun u hu => by rw [hc0.1, hc0.2.1]; exact kk u hu)
theorem z_callFS (C : ZC p s m args meth c own cc nL ret D cI A) {y : MethodName} {yc : ByteArray} {yL : Nat} {yr : Option FieldType} {rm : Room} {v : Value} {As rest : List Value} {idx : Nat} (wc wr : List va_W) (hM : ZM l D cI y yc yL yr rm As wc (fun _ : Unit => some v) (fun _ => wc) (fun _ => True)) (hy : zYS y yc yL yr) (hlk : Cond.methodLink own idx y ∈ wsL_law) (hdg : decode cc pc = .ok (.invokestatic idx, 3)) (hst : st = As.reverse ++ rest) {n : Nat} (hn : (parseMethodDescriptor y.desc).map (fun d => d.parameters.length) = some n) (hn2 : As.length = n) (hR : rm.frames + 1 ≤ R.frames ∧ 8 + (yL + 11) + rm.locals ≤ R.locals) (hc0 : rm.cells = 0 ∧ rm.slots = 0 ∧ cells ≤ R.cells ∧ slots ≤ R.slots) (hrest : (rest.map fun v => v.category).sum ≤ 8) (hp : bs.Perm (wc ++ wr)) (kk : ZZ p l e R s m args below meth c D A nL cells slots Qf bs (pc + 3) ls (v :: rest)) : ZZ p l e R s m args below meth c D A nL cells slots Qf bs pc ls st :=
  z_callS0 C wc wr hM hy hlk hdg hst hn hn2 hR hc0 hrest hp (fun u _ => z_perm C bs hp.symm kk)
theorem z_callSN0 (C : ZC p s m args meth c own cc nL ret D cI A) {S : Type} {y : MethodName} {yc : ByteArray} {yL : Nat} {yr : Option FieldType} {rm : Room} {rv : S → Option Value} {w1 : S → List va_W} {Q : S → Prop} {As rest : List Value} {idx : Nat} (wc wr : List va_W) {host : String} (hM : ZM l D cI y yc yL yr rm As wc rv w1 Q) (hy : zYS y yc yL yr) (hlk : Cond.methodLinkNest own idx y host ∈ z_nest) (hdg : decode cc pc = .ok (.invokestatic idx, 3)) (hst : st = As.reverse ++ rest) {n : Nat} (hn : (parseMethodDescriptor y.desc).map (fun d => d.parameters.length) = some n) (hn2 : As.length = n) (hR : rm.frames + 1 ≤ R.frames ∧ 8 + (yL + 11) + rm.locals ≤ R.locals) (hc0 : rm.cells = 0 ∧ rm.slots = 0 ∧ cells ≤ R.cells ∧ slots ≤ R.slots) (hrest : (rest.map fun v => v.category).sum ≤ 8) (hp : bs.Perm (wc ++ wr)) (kk : ∀ u : S, Q u → ZZ p l e R s m args below meth c D A nL cells slots Qf (w1 u ++ wr) (pc + 3) ls ((rv u).toList ++ rest)) : ZZ p l e R s m args below meth c D A nL cells slots Qf bs pc ls st :=
  z_callSN C hM hy hlk hdg hst (hn2 ▸ hn) hR ⟨by rw [hc0.1]; exact hc0.2.2.1, by rw [hc0.2.1]; exact hc0.2.2.2⟩ hrest hp (fun u hu => by rw [hc0.1, hc0.2.1]; exact kk u hu)
theorem z_callFSN (C : ZC p s m args meth c own cc nL ret D cI A) {y : MethodName} {yc : ByteArray} {yL : Nat} {yr : Option FieldType} {rm : Room} {v : Value} {As rest : List Value} {idx : Nat} (wc wr : List va_W) {host : String} (hM : ZM l D cI y yc yL yr rm As wc (fun _ : Unit => some v) (fun _ => wc) (fun _ => True)) (hy : zYS y yc yL yr) (hlk : Cond.methodLinkNest own idx y host ∈ z_nest) (hdg : decode cc pc = .ok (.invokestatic idx, 3)) (hst : st = As.reverse ++ rest) {n : Nat} (hn : (parseMethodDescriptor y.desc).map (fun d => d.parameters.length) = some n) (hn2 : As.length = n) (hR : rm.frames + 1 ≤ R.frames ∧ 8 + (yL + 11) + rm.locals ≤ R.locals) (hc0 : rm.cells = 0 ∧ rm.slots = 0 ∧ cells ≤ R.cells ∧ slots ≤ R.slots) (hrest : (rest.map fun v => v.category).sum ≤ 8) (hp : bs.Perm (wc ++ wr)) (kk : ZZ p l e R s m args below meth c D A nL cells slots Qf bs (pc + 3) ls (v :: rest)) : ZZ p l e R s m args below meth c D A nL cells slots Qf bs pc ls st :=
  z_callSN0 C wc wr hM hy hlk hdg hst hn hn2 hR hc0 hrest hp (fun u _ => z_perm C bs hp.symm kk)
theorem z_bs (bs1 : List va_W) (st1 : List Value) (h1 : bs = bs1) (h2 : st = st1) (kk : ZZ p l e R s m args below meth c D A nL cells slots Qf bs1 pc ls st1) : ZZ p l e R s m args below meth c D A nL cells slots Qf bs pc ls st := by
  subst h1; subst h2; exact kk
theorem z_top (C : ZC p s m args meth c own cc nL ret D cI A) {x : Int32} (v : Int32) (h : x = v) (kk : ZZ p l e R s m args below meth c D A nL cells slots Qf bs pc ls (.int v :: st)) : ZZ p l e R s m args below meth c D A nL cells slots Qf bs pc ls (.int x :: st) := by
  subst h; exact kk
theorem z_focus (bi : Nat) {k : Nat} (hk : k < 3) {g : Nat → Nat} {t : zT} (bs1 : List va_W) (hbi : bs[bi]? = some (wS cI g t)) (h : bs.take bi ++ ([wF cI g t k (tEd t k)] ++ bs.drop (bi + 1)) = bs1) (kk : ZZ p l e R s m args below meth c D A nL cells slots Qf bs1 pc ls st) : ZZ p l e R s m args below meth c D A nL cells slots Qf bs pc ls st :=
  z_openP bi _ bs1 hbi (by simpa using wF_focus hk) h kk
theorem z_unfocus (bi : Nat) {k : Nat} (hk : k < 3) {g : Nat → Nat} {t : zT} {e0 : zE} (t1 : zT) (bs1 : List va_W) (ht : tSetEd t k e0 = t1) (hbi : bs[bi]? = some (wF cI g t k e0)) (h : bs.take bi ++ ([wS cI g t1] ++ bs.drop (bi + 1)) = bs1) (kk : ZZ p l e R s m args below meth c D A nL cells slots Qf bs1 pc ls st) : ZZ p l e R s m args below meth c D A nL cells slots Qf bs pc ls st := by
  subst ht
  exact z_openP bi _ bs1 hbi (by simpa using wF_perm hk) h kk
theorem z_unfocus0 (bi : Nat) {k : Nat} (hk : k < 3) {g : Nat → Nat} {t : zT} (bs1 : List va_W) (hbi : bs[bi]? = some (wF cI g t k (tEd t k))) (h : bs.take bi ++ ([wS cI g t] ++ bs.drop (bi + 1)) = bs1) (kk : ZZ p l e R s m args below meth c D A nL cells slots Qf bs1 pc ls st) : ZZ p l e R s m args below meth c D A nL cells slots Qf bs pc ls st :=
  z_openP bi _ bs1 hbi (by simpa using (wF_focus hk).symm) h kk
theorem z_tableAt (C : ZC p s m args meth c own cc nL ret D cI A) {dflt lo hi : Int} {offs : Array Int} {len : Nat} {x : Int32} (hdg : decode cc pc = .ok (.tableswitch dflt lo hi offs, len)) (v : Int32) (hx : x = v) (h1 : ¬ v.toInt < lo) (h2 : ¬ hi < v.toInt) (off : Int) (ho : offs[(v.toInt - lo).toNat]? = some off) (tgt : Nat) (ht : (pc : Int) + off = (tgt : Int)) (kk : ZZ p l e R s m args below meth c D A nL cells slots Qf bs tgt ls st) : ZZ p l e R s m args below meth c D A nL cells slots Qf bs pc ls (.int x :: st) := by
  subst hx; exact z_tableIn C hdg h1 h2 off ho tgt ht kk
theorem z_lookupAt (C : ZC p s m args meth c own cc nL ret D cI A) {dflt : Int} {ps : Array (Int × Int)} {len : Nat} {x : Int32} (hdg : decode cc pc = .ok (.lookupswitch dflt ps, len)) (hp : (ps.toList.zip (ps.toList.drop 1)).all (fun (a, next) => a.1 < next.1) = true) (v : Int32) (hx : x = v) (off : Int) (ho : Op.lookupswitch.offset ps.toList dflt v.toInt = off) (tgt : Nat) (ht : (pc : Int) + off = (tgt : Int)) (kk : ZZ p l e R s m args below meth c D A nL cells slots Qf bs tgt ls st) : ZZ p l e R s m args below meth c D A nL cells slots Qf bs pc ls (.int x :: st) := by
  subst hx; exact z_lookup C hdg hp off ho tgt ht kk
end ZC0
def zB (x : Int32) : Prop := narrow .boolean (.int x) = .int x ∧ fits .boolean (.int x) = true
def z3 {α : Type} (a b c : α) : Nat → α
  | 0 => a
  | 1 => b
  | _ => c
def z5 {α : Type} (a b c d e : α) : Nat → α
  | 0 => a
  | 1 => b
  | 2 => c
  | 3 => d
  | _ => e
