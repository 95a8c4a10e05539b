section
-- ===== PART A: goes FIRST, ahead of the names: the tables' words, and 'selects' of the private methods out of them =====
/-- a private method of a class that the tables say can be made, by its rows of tables_1 -/
def lw_okq (q : MethodName × Nat) : Prop := (q.1.cls ≠ "java/lang/invoke/MethodHandle" ∧ q.1.cls ≠ "java/lang/invoke/VarHandle") ∧ Cond.instantiable q.1.cls q.2 ∈ tables_1 ∧ Cond.privateMethod q.1 ∈ tables_1 ∧ Cond.instanceMethod q.1 ∈ tables_1
theorem lw_p0 : lw_okq (⟨"ReshapedTexts", "recorded", "(IIII)I"⟩, 6) := ⟨⟨by decide +kernel, by decide +kernel⟩, List.mem_of_getElem? (i := 11) (by decide +kernel), List.mem_of_getElem? (i := 190) (by decide +kernel), List.mem_of_getElem? (i := 191) (by decide +kernel)⟩
theorem lw_p1 : lw_okq (⟨"ReshapedTexts$Editor", "write", "(I)V"⟩, 8) := ⟨⟨by decide +kernel, by decide +kernel⟩, List.mem_of_getElem? (i := 25) (by decide +kernel), List.mem_of_getElem? (i := 236) (by decide +kernel), List.mem_of_getElem? (i := 237) (by decide +kernel)⟩
theorem lw_p2 : lw_okq (⟨"ReshapedTexts$Editor", "apply", "(I)V"⟩, 8) := ⟨⟨by decide +kernel, by decide +kernel⟩, List.mem_of_getElem? (i := 25) (by decide +kernel), List.mem_of_getElem? (i := 240) (by decide +kernel), List.mem_of_getElem? (i := 241) (by decide +kernel)⟩
theorem lw_p3 : lw_okq (⟨"ReshapedTexts$Editor", "keepBack", "(I)V"⟩, 8) := ⟨⟨by decide +kernel, by decide +kernel⟩, List.mem_of_getElem? (i := 25) (by decide +kernel), List.mem_of_getElem? (i := 277) (by decide +kernel), List.mem_of_getElem? (i := 278) (by decide +kernel)⟩
theorem lw_p4 : lw_okq (⟨"ReshapedTexts$State", "pass", "(LReshapedTexts$Editor;)I"⟩, 6) := ⟨⟨by decide +kernel, by decide +kernel⟩, List.mem_of_getElem? (i := 19) (by decide +kernel), List.mem_of_getElem? (i := 293) (by decide +kernel), List.mem_of_getElem? (i := 294) (by decide +kernel)⟩
theorem lw_p5 : lw_okq (⟨"ReshapedTexts$State", "append", "(LReshapedTexts$Editor;)V"⟩, 6) := ⟨⟨by decide +kernel, by decide +kernel⟩, List.mem_of_getElem? (i := 19) (by decide +kernel), List.mem_of_getElem? (i := 302) (by decide +kernel), List.mem_of_getElem? (i := 303) (by decide +kernel)⟩
theorem lw_p6 : lw_okq (⟨"ReshapedTexts$Commands", "read", "(I)I"⟩, 6) := ⟨⟨by decide +kernel, by decide +kernel⟩, List.mem_of_getElem? (i := 135) (by decide +kernel), List.mem_of_getElem? (i := 495) (by decide +kernel), List.mem_of_getElem? (i := 496) (by decide +kernel)⟩
theorem lw_p7 : lw_okq (⟨"ReshapedTexts$Commands", "digitsAt", "(I)I"⟩, 6) := ⟨⟨by decide +kernel, by decide +kernel⟩, List.mem_of_getElem? (i := 135) (by decide +kernel), List.mem_of_getElem? (i := 504) (by decide +kernel), List.mem_of_getElem? (i := 505) (by decide +kernel)⟩
theorem lw_p8 : lw_okq (⟨"ReshapedTexts$Commands", "numberAt", "(II)I"⟩, 6) := ⟨⟨by decide +kernel, by decide +kernel⟩, List.mem_of_getElem? (i := 135) (by decide +kernel), List.mem_of_getElem? (i := 511) (by decide +kernel), List.mem_of_getElem? (i := 512) (by decide +kernel)⟩
theorem lw_p9 : lw_okq (⟨"ReshapedTextsModel", "insertFault", "(III)I"⟩, 17) := ⟨⟨by decide +kernel, by decide +kernel⟩, List.mem_of_getElem? (i := 521) (by decide +kernel), List.mem_of_getElem? (i := 583) (by decide +kernel), List.mem_of_getElem? (i := 584) (by decide +kernel)⟩
theorem lw_p10 : lw_okq (⟨"ReshapedTextsModel", "know", "()V"⟩, 17) := ⟨⟨by decide +kernel, by decide +kernel⟩, List.mem_of_getElem? (i := 521) (by decide +kernel), List.mem_of_getElem? (i := 596) (by decide +kernel), List.mem_of_getElem? (i := 597) (by decide +kernel)⟩
theorem lw_p11 : lw_okq (⟨"ReshapedTextsModel", "inserts", "(III)I"⟩, 17) := ⟨⟨by decide +kernel, by decide +kernel⟩, List.mem_of_getElem? (i := 521) (by decide +kernel), List.mem_of_getElem? (i := 600) (by decide +kernel), List.mem_of_getElem? (i := 601) (by decide +kernel)⟩
theorem lw_p12 : lw_okq (⟨"ReshapedTextsModel", "writes", "(II)V"⟩, 17) := ⟨⟨by decide +kernel, by decide +kernel⟩, List.mem_of_getElem? (i := 521) (by decide +kernel), List.mem_of_getElem? (i := 607) (by decide +kernel), List.mem_of_getElem? (i := 608) (by decide +kernel)⟩
theorem lw_p13 : lw_okq (⟨"ReshapedTextsModel", "perform", "(II)V"⟩, 17) := ⟨⟨by decide +kernel, by decide +kernel⟩, List.mem_of_getElem? (i := 521) (by decide +kernel), List.mem_of_getElem? (i := 611) (by decide +kernel), List.mem_of_getElem? (i := 612) (by decide +kernel)⟩
theorem lw_p14 : lw_okq (⟨"ReshapedTextsModel", "keep", "(II)V"⟩, 17) := ⟨⟨by decide +kernel, by decide +kernel⟩, List.mem_of_getElem? (i := 521) (by decide +kernel), List.mem_of_getElem? (i := 630) (by decide +kernel), List.mem_of_getElem? (i := 631) (by decide +kernel)⟩
theorem lw_p15 : lw_okq (⟨"ReshapedTextsModel", "deleteFault", "(II)I"⟩, 17) := ⟨⟨by decide +kernel, by decide +kernel⟩, List.mem_of_getElem? (i := 521) (by decide +kernel), List.mem_of_getElem? (i := 638) (by decide +kernel), List.mem_of_getElem? (i := 639) (by decide +kernel)⟩
def lw_privs_1 : List (MethodName × Nat) := [(⟨"ReshapedTexts", "recorded", "(IIII)I"⟩, 6), (⟨"ReshapedTexts$Editor", "write", "(I)V"⟩, 8), (⟨"ReshapedTexts$Editor", "apply", "(I)V"⟩, 8), (⟨"ReshapedTexts$Editor", "keepBack", "(I)V"⟩, 8), (⟨"ReshapedTexts$State", "pass", "(LReshapedTexts$Editor;)I"⟩, 6), (⟨"ReshapedTexts$State", "append", "(LReshapedTexts$Editor;)V"⟩, 6), (⟨"ReshapedTexts$Commands", "read", "(I)I"⟩, 6), (⟨"ReshapedTexts$Commands", "digitsAt", "(I)I"⟩, 6), (⟨"ReshapedTexts$Commands", "numberAt", "(II)I"⟩, 6), (⟨"ReshapedTextsModel", "insertFault", "(III)I"⟩, 17), (⟨"ReshapedTextsModel", "know", "()V"⟩, 17), (⟨"ReshapedTextsModel", "inserts", "(III)I"⟩, 17), (⟨"ReshapedTextsModel", "writes", "(II)V"⟩, 17), (⟨"ReshapedTextsModel", "perform", "(II)V"⟩, 17), (⟨"ReshapedTextsModel", "keep", "(II)V"⟩, 17), (⟨"ReshapedTextsModel", "deleteFault", "(II)I"⟩, 17)]
theorem lw_r1 : ∀ q ∈ lw_privs_1, lw_okq q := List.forall_mem_cons.mpr ⟨lw_p0, List.forall_mem_cons.mpr ⟨lw_p1, List.forall_mem_cons.mpr ⟨lw_p2, List.forall_mem_cons.mpr ⟨lw_p3, List.forall_mem_cons.mpr ⟨lw_p4, List.forall_mem_cons.mpr ⟨lw_p5, List.forall_mem_cons.mpr ⟨lw_p6, List.forall_mem_cons.mpr ⟨lw_p7, List.forall_mem_cons.mpr ⟨lw_p8, List.forall_mem_cons.mpr ⟨lw_p9, List.forall_mem_cons.mpr ⟨lw_p10, List.forall_mem_cons.mpr ⟨lw_p11, List.forall_mem_cons.mpr ⟨lw_p12, List.forall_mem_cons.mpr ⟨lw_p13, List.forall_mem_cons.mpr ⟨lw_p14, List.forall_mem_cons.mpr ⟨lw_p15, fun _ h => absurd h List.not_mem_nil⟩⟩⟩⟩⟩⟩⟩⟩⟩⟩⟩⟩⟩⟩⟩⟩
theorem lw_p16 : lw_okq (⟨"ReshapedTextsModel", "deletes", "(II)I"⟩, 17) := ⟨⟨by decide +kernel, by decide +kernel⟩, List.mem_of_getElem? (i := 521) (by decide +kernel), List.mem_of_getElem? (i := 642) (by decide +kernel), List.mem_of_getElem? (i := 643) (by decide +kernel)⟩
theorem lw_p17 : lw_okq (⟨"ReshapedTextsModel", "backFault", "(I)I"⟩, 17) := ⟨⟨by decide +kernel, by decide +kernel⟩, List.mem_of_getElem? (i := 521) (by decide +kernel), List.mem_of_getElem? (i := 650) (by decide +kernel), List.mem_of_getElem? (i := 651) (by decide +kernel)⟩
theorem lw_p18 : lw_okq (⟨"ReshapedTextsModel", "backs", "(I)I"⟩, 17) := ⟨⟨by decide +kernel, by decide +kernel⟩, List.mem_of_getElem? (i := 521) (by decide +kernel), List.mem_of_getElem? (i := 654) (by decide +kernel), List.mem_of_getElem? (i := 655) (by decide +kernel)⟩
theorem lw_p19 : lw_okq (⟨"ReshapedTextsModel", "sendFault", "(I)I"⟩, 17) := ⟨⟨by decide +kernel, by decide +kernel⟩, List.mem_of_getElem? (i := 521) (by decide +kernel), List.mem_of_getElem? (i := 666) (by decide +kernel), List.mem_of_getElem? (i := 667) (by decide +kernel)⟩
theorem lw_p20 : lw_okq (⟨"ReshapedTextsModel", "canSend", "(I)Z"⟩, 17) := ⟨⟨by decide +kernel, by decide +kernel⟩, List.mem_of_getElem? (i := 521) (by decide +kernel), List.mem_of_getElem? (i := 670) (by decide +kernel), List.mem_of_getElem? (i := 671) (by decide +kernel)⟩
theorem lw_p21 : lw_okq (⟨"ReshapedTextsModel", "sends", "(I)I"⟩, 17) := ⟨⟨by decide +kernel, by decide +kernel⟩, List.mem_of_getElem? (i := 521) (by decide +kernel), List.mem_of_getElem? (i := 674) (by decide +kernel), List.mem_of_getElem? (i := 675) (by decide +kernel)⟩
theorem lw_p22 : lw_okq (⟨"ReshapedTextsModel", "behind", "(II)I"⟩, 17) := ⟨⟨by decide +kernel, by decide +kernel⟩, List.mem_of_getElem? (i := 521) (by decide +kernel), List.mem_of_getElem? (i := 678) (by decide +kernel), List.mem_of_getElem? (i := 679) (by decide +kernel)⟩
theorem lw_p23 : lw_okq (⟨"ReshapedTextsModel", "hearFault", "(I)I"⟩, 17) := ⟨⟨by decide +kernel, by decide +kernel⟩, List.mem_of_getElem? (i := 521) (by decide +kernel), List.mem_of_getElem? (i := 686) (by decide +kernel), List.mem_of_getElem? (i := 687) (by decide +kernel)⟩
theorem lw_p24 : lw_okq (⟨"ReshapedTextsModel", "hears", "(I)I"⟩, 17) := ⟨⟨by decide +kernel, by decide +kernel⟩, List.mem_of_getElem? (i := 521) (by decide +kernel), List.mem_of_getElem? (i := 690) (by decide +kernel), List.mem_of_getElem? (i := 691) (by decide +kernel)⟩
theorem lw_p25 : lw_okq (⟨"ReshapedTextsModel", "hearsAll", "(I)I"⟩, 17) := ⟨⟨by decide +kernel, by decide +kernel⟩, List.mem_of_getElem? (i := 521) (by decide +kernel), List.mem_of_getElem? (i := 698) (by decide +kernel), List.mem_of_getElem? (i := 699) (by decide +kernel)⟩
theorem lw_p26 : lw_okq (⟨"ReshapedTextsModel", "lay", "()V"⟩, 17) := ⟨⟨by decide +kernel, by decide +kernel⟩, List.mem_of_getElem? (i := 521) (by decide +kernel), List.mem_of_getElem? (i := 710) (by decide +kernel), List.mem_of_getElem? (i := 711) (by decide +kernel)⟩
theorem lw_p27 : lw_okq (⟨"ReshapedTextsModel", "isSame", "(I)Z"⟩, 17) := ⟨⟨by decide +kernel, by decide +kernel⟩, List.mem_of_getElem? (i := 521) (by decide +kernel), List.mem_of_getElem? (i := 718) (by decide +kernel), List.mem_of_getElem? (i := 719) (by decide +kernel)⟩
theorem lw_p28 : lw_okq (⟨"ReshapedTextsModel", "sum", "(I)I"⟩, 17) := ⟨⟨by decide +kernel, by decide +kernel⟩, List.mem_of_getElem? (i := 521) (by decide +kernel), List.mem_of_getElem? (i := 741) (by decide +kernel), List.mem_of_getElem? (i := 742) (by decide +kernel)⟩
theorem lw_p29 : lw_okq (⟨"ReshapedTextsModel", "end", "(I)V"⟩, 17) := ⟨⟨by decide +kernel, by decide +kernel⟩, List.mem_of_getElem? (i := 521) (by decide +kernel), List.mem_of_getElem? (i := 749) (by decide +kernel), List.mem_of_getElem? (i := 750) (by decide +kernel)⟩
theorem lw_p30 : lw_okq (⟨"ReshapedTextsModel", "putAside", "()V"⟩, 17) := ⟨⟨by decide +kernel, by decide +kernel⟩, List.mem_of_getElem? (i := 521) (by decide +kernel), List.mem_of_getElem? (i := 753) (by decide +kernel), List.mem_of_getElem? (i := 754) (by decide +kernel)⟩
theorem lw_p31 : lw_okq (⟨"ReshapedTextsModel", "putBack", "()V"⟩, 17) := ⟨⟨by decide +kernel, by decide +kernel⟩, List.mem_of_getElem? (i := 521) (by decide +kernel), List.mem_of_getElem? (i := 757) (by decide +kernel), List.mem_of_getElem? (i := 758) (by decide +kernel)⟩
def lw_privs_2 : List (MethodName × Nat) := [(⟨"ReshapedTextsModel", "deletes", "(II)I"⟩, 17), (⟨"ReshapedTextsModel", "backFault", "(I)I"⟩, 17), (⟨"ReshapedTextsModel", "backs", "(I)I"⟩, 17), (⟨"ReshapedTextsModel", "sendFault", "(I)I"⟩, 17), (⟨"ReshapedTextsModel", "canSend", "(I)Z"⟩, 17), (⟨"ReshapedTextsModel", "sends", "(I)I"⟩, 17), (⟨"ReshapedTextsModel", "behind", "(II)I"⟩, 17), (⟨"ReshapedTextsModel", "hearFault", "(I)I"⟩, 17), (⟨"ReshapedTextsModel", "hears", "(I)I"⟩, 17), (⟨"ReshapedTextsModel", "hearsAll", "(I)I"⟩, 17), (⟨"ReshapedTextsModel", "lay", "()V"⟩, 17), (⟨"ReshapedTextsModel", "isSame", "(I)Z"⟩, 17), (⟨"ReshapedTextsModel", "sum", "(I)I"⟩, 17), (⟨"ReshapedTextsModel", "end", "(I)V"⟩, 17), (⟨"ReshapedTextsModel", "putAside", "()V"⟩, 17), (⟨"ReshapedTextsModel", "putBack", "()V"⟩, 17)]
theorem lw_r2 : ∀ q ∈ lw_privs_2, lw_okq q := List.forall_mem_cons.mpr ⟨lw_p16, List.forall_mem_cons.mpr ⟨lw_p17, List.forall_mem_cons.mpr ⟨lw_p18, List.forall_mem_cons.mpr ⟨lw_p19, List.forall_mem_cons.mpr ⟨lw_p20, List.forall_mem_cons.mpr ⟨lw_p21, List.forall_mem_cons.mpr ⟨lw_p22, List.forall_mem_cons.mpr ⟨lw_p23, List.forall_mem_cons.mpr ⟨lw_p24, List.forall_mem_cons.mpr ⟨lw_p25, List.forall_mem_cons.mpr ⟨lw_p26, List.forall_mem_cons.mpr ⟨lw_p27, List.forall_mem_cons.mpr ⟨lw_p28, List.forall_mem_cons.mpr ⟨lw_p29, List.forall_mem_cons.mpr ⟨lw_p30, List.forall_mem_cons.mpr ⟨lw_p31, fun _ h => absurd h List.not_mem_nil⟩⟩⟩⟩⟩⟩⟩⟩⟩⟩⟩⟩⟩⟩⟩⟩
theorem lw_p32 : lw_okq (⟨"ReshapedTextsModel", "look", "()V"⟩, 17) := ⟨⟨by decide +kernel, by decide +kernel⟩, List.mem_of_getElem? (i := 521) (by decide +kernel), List.mem_of_getElem? (i := 785) (by decide +kernel), List.mem_of_getElem? (i := 786) (by decide +kernel)⟩
theorem lw_p33 : lw_okq (⟨"ReshapedTextsModel", "go", "()I"⟩, 17) := ⟨⟨by decide +kernel, by decide +kernel⟩, List.mem_of_getElem? (i := 521) (by decide +kernel), List.mem_of_getElem? (i := 789) (by decide +kernel), List.mem_of_getElem? (i := 790) (by decide +kernel)⟩
theorem lw_p34 : lw_okq (⟨"ReshapedTextsModel", "read", "()V"⟩, 17) := ⟨⟨by decide +kernel, by decide +kernel⟩, List.mem_of_getElem? (i := 521) (by decide +kernel), List.mem_of_getElem? (i := 793) (by decide +kernel), List.mem_of_getElem? (i := 794) (by decide +kernel)⟩
theorem lw_p35 : lw_okq (⟨"ReshapedTextsModel", "sign", "(II)I"⟩, 17) := ⟨⟨by decide +kernel, by decide +kernel⟩, List.mem_of_getElem? (i := 521) (by decide +kernel), List.mem_of_getElem? (i := 797) (by decide +kernel), List.mem_of_getElem? (i := 798) (by decide +kernel)⟩
theorem lw_p36 : lw_okq (⟨"ReshapedTextsModel", "number", "()I"⟩, 17) := ⟨⟨by decide +kernel, by decide +kernel⟩, List.mem_of_getElem? (i := 521) (by decide +kernel), List.mem_of_getElem? (i := 801) (by decide +kernel), List.mem_of_getElem? (i := 802) (by decide +kernel)⟩
theorem lw_p37 : lw_okq (⟨"ReshapedTextsModel", "does", "()I"⟩, 17) := ⟨⟨by decide +kernel, by decide +kernel⟩, List.mem_of_getElem? (i := 521) (by decide +kernel), List.mem_of_getElem? (i := 805) (by decide +kernel), List.mem_of_getElem? (i := 806) (by decide +kernel)⟩
def lw_privs_3 : List (MethodName × Nat) := [(⟨"ReshapedTextsModel", "look", "()V"⟩, 17), (⟨"ReshapedTextsModel", "go", "()I"⟩, 17), (⟨"ReshapedTextsModel", "read", "()V"⟩, 17), (⟨"ReshapedTextsModel", "sign", "(II)I"⟩, 17), (⟨"ReshapedTextsModel", "number", "()I"⟩, 17), (⟨"ReshapedTextsModel", "does", "()I"⟩, 17)]
theorem lw_r3 : ∀ q ∈ lw_privs_3, lw_okq q := List.forall_mem_cons.mpr ⟨lw_p32, List.forall_mem_cons.mpr ⟨lw_p33, List.forall_mem_cons.mpr ⟨lw_p34, List.forall_mem_cons.mpr ⟨lw_p35, List.forall_mem_cons.mpr ⟨lw_p36, List.forall_mem_cons.mpr ⟨lw_p37, fun _ h => absurd h List.not_mem_nil⟩⟩⟩⟩⟩⟩
def lw_privs : List (MethodName × Nat) := lw_privs_1 ++ (lw_privs_2 ++ (lw_privs_3))
def lw_tbl : List Cond := k2_sels lw_privs ++ tables_1
theorem lw_privs_ok : ∀ q ∈ lw_privs, lw_okq q := by
  show ∀ q ∈ lw_privs_1 ++ (lw_privs_2 ++ (lw_privs_3)), lw_okq q
  exact List.forall_mem_append.mpr ⟨lw_r1, List.forall_mem_append.mpr ⟨lw_r2, lw_r3⟩⟩
/-! ===== BEGIN words of one list among another's, by their places ===== -/
theorem goodIn_r {big : List Cond} (ws : List Cond) (ps : List Nat) (hp : ws = ps.filterMap (fun i => big[i]?)) (h : ws.all goodWord = true) : GoodIn big ws := by
  intro w hw
  have h1 := List.all_eq_true.mp h w hw
  rw [hp] at hw
  obtain ⟨i, -, hi⟩ := List.mem_filterMap.mp hw
  have hm : w ∈ big := by first | exact List.mem_of_getElem? hi | exact List.getElem?_mem hi
  exact ⟨hm, good_of_word h1⟩
theorem goodIn_app {big a b : List Cond} (ha : GoodIn big a) (hb : GoodIn big b) : GoodIn big (a ++ b) := fun w h => (List.mem_append.mp h).elim (ha w) (hb w)
theorem goodIn_ca {big a b : List Cond} {c : Cond} (ha : GoodIn big (c :: a)) (hb : GoodIn big b) : GoodIn big (c :: (a ++ b)) := fun w h => (List.mem_cons.mp h).elim (fun e => ha w (List.mem_cons.mpr (Or.inl e))) (fun h => (List.mem_append.mp h).elim (fun h => ha w (List.mem_cons.mpr (Or.inr h))) (hb w))
theorem goodIn_sub {big ws : List Cond} (hm : ∀ w ∈ ws, w ∈ big) (h : ws.all goodWord = true) : GoodIn big ws := fun w hw => ⟨hm w hw, good_of_word (List.all_eq_true.mp h w hw)⟩
/-! ===== END ===== -/
/-! ===== BEGIN printed: names, fields, word lists, decode rows ===== -/
def RX0 : String := "ReshapedTexts$Change"
def TX0 : u_T := fun k => match k with
  | _ => ("", "", "", false)
def tyX0 : Nat → FieldType := fun k => match k with
  | _ => .int
abbrev wsX00 : List Cond := u_ws RX0 TX0 0
theorem nmX0 : ∀ a, a < 0 → ∀ b, b < 0 → a ≠ b → (TX0 a).2.1 ≠ (TX0 b).2.1 := by decide +kernel
theorem tyX0_ok : ∀ k, k < 0 → parseFieldDescriptor (TX0 k).2.2.1 = some (tyX0 k) := by decide +kernel
abbrev cX0_of : ByteArray := prog_2_method_2_code
def yX0_of : MethodName := ⟨RX0, "of", "(IIII)I"⟩
abbrev cX0_kind : ByteArray := prog_2_method_3_code
def yX0_kind : MethodName := ⟨RX0, "kind", "(I)I"⟩
abbrev cX0_place : ByteArray := prog_2_method_4_code
def yX0_place : MethodName := ⟨RX0, "place", "(I)I"⟩
abbrev cX0_sign : ByteArray := prog_2_method_5_code
def yX0_sign : MethodName := ⟨RX0, "sign", "(I)I"⟩
abbrev cX0_writer : ByteArray := prog_2_method_6_code
def yX0_writer : MethodName := ⟨RX0, "writer", "(I)I"⟩
abbrev cX0_part : ByteArray := prog_2_method_7_code
def yX0_part : MethodName := ⟨RX0, "part", "(II)I"⟩
abbrev cX0_reshaped : ByteArray := prog_2_method_8_code
def yX0_reshaped : MethodName := ⟨RX0, "reshaped", "(II)I"⟩
abbrev cX0_passThrough : ByteArray := prog_2_method_9_code
def yX0_passThrough : MethodName := ⟨RX0, "passThrough", "(LReshapedTexts$Numbers;I)I"⟩
def RX1 : String := "ReshapedTexts$Commands"
def TX1 : u_T := fun k => match k with
  | 0 => ("ReshapedTexts$Commands", "signs", "LReshapedTexts$Numbers;", true)
  | 1 => ("ReshapedTexts$Commands", "numbers", "LReshapedTexts$Numbers;", true)
  | 2 => ("ReshapedTexts$Commands", "position", "I", false)
  | 3 => ("ReshapedTexts$Commands", "reason", "I", false)
  | 4 => ("ReshapedTexts$Commands", "cause", "I", false)
  | _ => ("ReshapedTexts$Commands", "done", "I", false)
def tyX1 : Nat → FieldType := fun k => match k with
  | 0 => .object "ReshapedTexts$Numbers"
  | 1 => .object "ReshapedTexts$Numbers"
  | 2 => .int
  | 3 => .int
  | 4 => .int
  | _ => .int
abbrev wsX10 : List Cond := u_ws RX1 TX1 6
theorem nmX1 : ∀ a, a < 6 → ∀ b, b < 6 → a ≠ b → (TX1 a).2.1 ≠ (TX1 b).2.1 := by decide +kernel
theorem tyX1_ok : ∀ k, k < 6 → parseFieldDescriptor (TX1 k).2.2.1 = some (tyX1 k) := by decide +kernel
abbrev cX1_init : ByteArray := prog_3_method_1_code
def yX1_init : MethodName := ⟨RX1, "<init>", "()V"⟩
abbrev cX1_runOn : ByteArray := prog_3_method_2_code
def yX1_runOn : MethodName := ⟨RX1, "runOn", "(LReshapedTexts$State;)V"⟩
abbrev cX1_read : ByteArray := prog_3_method_3_code
def yX1_read : MethodName := ⟨RX1, "read", "(I)I"⟩
abbrev cX1_numbersOf : ByteArray := prog_3_method_4_code
def yX1_numbersOf : MethodName := ⟨RX1, "numbersOf", "(I)I"⟩
abbrev cX1_digitsAt : ByteArray := prog_3_method_5_code
def yX1_digitsAt : MethodName := ⟨RX1, "digitsAt", "(I)I"⟩
abbrev cX1_numberAt : ByteArray := prog_3_method_6_code
def yX1_numberAt : MethodName := ⟨RX1, "numberAt", "(II)I"⟩
abbrev cX1_isDigit : ByteArray := prog_3_method_7_code
def yX1_isDigit : MethodName := ⟨RX1, "isDigit", "(I)Z"⟩
def RX2 : String := "ReshapedTexts$Editor"
def TX2 : u_T := fun k => match k with
  | 0 => ("ReshapedTexts$Editor", "number", "I", true)
  | 1 => ("ReshapedTexts$Editor", "copy", "LReshapedTexts$Numbers;", true)
  | 2 => ("ReshapedTexts$Editor", "waiting", "LReshapedTexts$Numbers;", true)
  | 3 => ("ReshapedTexts$Editor", "backs", "LReshapedTexts$Numbers;", true)
  | 4 => ("ReshapedTexts$Editor", "underWay", "Z", false)
  | 5 => ("ReshapedTexts$Editor", "heard", "I", false)
  | 6 => ("ReshapedTexts$Editor", "spot", "I", false)
  | _ => ("ReshapedTexts$Editor", "written", "I", false)
def tyX2 : Nat → FieldType := fun k => match k with
  | 0 => .int
  | 1 => .object "ReshapedTexts$Numbers"
  | 2 => .object "ReshapedTexts$Numbers"
  | 3 => .object "ReshapedTexts$Numbers"
  | 4 => .boolean
  | 5 => .int
  | 6 => .int
  | _ => .int
abbrev wsX20 : List Cond := u_ws RX2 TX2 8
theorem nmX2 : ∀ a, a < 8 → ∀ b, b < 8 → a ≠ b → (TX2 a).2.1 ≠ (TX2 b).2.1 := by decide +kernel
theorem tyX2_ok : ∀ k, k < 8 → parseFieldDescriptor (TX2 k).2.2.1 = some (tyX2 k) := by decide +kernel
abbrev cX2_init : ByteArray := prog_4_method_1_code
def yX2_init : MethodName := ⟨RX2, "<init>", "(I)V"⟩
abbrev cX2_putIn : ByteArray := prog_4_method_2_code
def yX2_putIn : MethodName := ⟨RX2, "putIn", "(II)I"⟩
abbrev cX2_takeOut : ByteArray := prog_4_method_3_code
def yX2_takeOut : MethodName := ⟨RX2, "takeOut", "(I)I"⟩
abbrev cX2_goBack : ByteArray := prog_4_method_4_code
def yX2_goBack : MethodName := ⟨RX2, "goBack", "()I"⟩
abbrev cX2_setSpot : ByteArray := prog_4_method_5_code
def yX2_setSpot : MethodName := ⟨RX2, "setSpot", "(I)I"⟩
abbrev cX2_canSend : ByteArray := prog_4_method_6_code
def yX2_canSend : MethodName := ⟨RX2, "canSend", "()Z"⟩
abbrev cX2_outgoing : ByteArray := prog_4_method_7_code
def yX2_outgoing : MethodName := ⟨RX2, "outgoing", "(LReshapedTexts$Numbers;)I"⟩
abbrev cX2_hearNext : ByteArray := prog_4_method_8_code
def yX2_hearNext : MethodName := ⟨RX2, "hearNext", "(LReshapedTexts$Numbers;)I"⟩
abbrev cX2_hearRest : ByteArray := prog_4_method_9_code
def yX2_hearRest : MethodName := ⟨RX2, "hearRest", "(LReshapedTexts$Numbers;)I"⟩
abbrev cX2_isSettled : ByteArray := prog_4_method_10_code
def yX2_isSettled : MethodName := ⟨RX2, "isSettled", "(LReshapedTexts$Numbers;)Z"⟩
abbrev cX2_forget : ByteArray := prog_4_method_11_code
def yX2_forget : MethodName := ⟨RX2, "forget", "()V"⟩
abbrev cX2_copyEditor : ByteArray := prog_4_method_12_code
def yX2_copyEditor : MethodName := ⟨RX2, "copyEditor", "(LReshapedTexts$Editor;)V"⟩
abbrev cX2_write : ByteArray := prog_4_method_13_code
def yX2_write : MethodName := ⟨RX2, "write", "(I)V"⟩
abbrev cX2_apply : ByteArray := prog_4_method_14_code
def yX2_apply : MethodName := ⟨RX2, "apply", "(I)V"⟩
abbrev cX2_keepBack : ByteArray := prog_4_method_15_code
def yX2_keepBack : MethodName := ⟨RX2, "keepBack", "(I)V"⟩
def RX3 : String := "ReshapedTexts$History"
def TX3 : u_T := fun k => match k with
  | 0 => ("ReshapedTexts$History", "newest", "LReshapedTexts$State;", false)
  | 1 => ("ReshapedTexts$History", "second", "LReshapedTexts$State;", false)
  | 2 => ("ReshapedTexts$History", "third", "LReshapedTexts$State;", false)
  | 3 => ("ReshapedTexts$History", "oldest", "LReshapedTexts$State;", false)
  | 4 => ("ReshapedTexts$History", "spare", "LReshapedTexts$State;", false)
  | _ => ("ReshapedTexts$History", "size", "I", false)
def tyX3 : Nat → FieldType := fun k => match k with
  | 0 => .object "ReshapedTexts$State"
  | 1 => .object "ReshapedTexts$State"
  | 2 => .object "ReshapedTexts$State"
  | 3 => .object "ReshapedTexts$State"
  | 4 => .object "ReshapedTexts$State"
  | _ => .int
abbrev wsX30 : List Cond := u_ws RX3 TX3 6
theorem nmX3 : ∀ a, a < 6 → ∀ b, b < 6 → a ≠ b → (TX3 a).2.1 ≠ (TX3 b).2.1 := by decide +kernel
theorem tyX3_ok : ∀ k, k < 6 → parseFieldDescriptor (TX3 k).2.2.1 = some (tyX3 k) := by decide +kernel
abbrev cX3_init : ByteArray := prog_5_method_1_code
def yX3_init : MethodName := ⟨RX3, "<init>", "()V"⟩
abbrev cX3_prepare : ByteArray := prog_5_method_2_code
def yX3_prepare : MethodName := ⟨RX3, "prepare", "(LReshapedTexts$State;)V"⟩
abbrev cX3_keep : ByteArray := prog_5_method_3_code
def yX3_keep : MethodName := ⟨RX3, "keep", "()V"⟩
abbrev cX3_restore : ByteArray := prog_5_method_4_code
def yX3_restore : MethodName := ⟨RX3, "restore", "(LReshapedTexts$State;)V"⟩
def RX4 : String := "ReshapedTexts$Numbers"
def TX4 : u_T := fun k => match k with
  | 0 => ("ReshapedTexts$Numbers", "cells", "[I", true)
  | _ => ("ReshapedTexts$Numbers", "size", "I", false)
def tyX4 : Nat → FieldType := fun k => match k with
  | 0 => .array .int
  | _ => .int
abbrev wsX40 : List Cond := u_ws RX4 TX4 2
theorem nmX4 : ∀ a, a < 2 → ∀ b, b < 2 → a ≠ b → (TX4 a).2.1 ≠ (TX4 b).2.1 := by decide +kernel
theorem tyX4_ok : ∀ k, k < 2 → parseFieldDescriptor (TX4 k).2.2.1 = some (tyX4 k) := by decide +kernel
abbrev cX4_init : ByteArray := prog_6_method_1_code
def yX4_init : MethodName := ⟨RX4, "<init>", "(I)V"⟩
abbrev cX4_size : ByteArray := prog_6_method_2_code
def yX4_size : MethodName := ⟨RX4, "size", "()I"⟩
abbrev cX4_at : ByteArray := prog_6_method_3_code
def yX4_at : MethodName := ⟨RX4, "at", "(I)I"⟩
abbrev cX4_put : ByteArray := prog_6_method_4_code
def yX4_put : MethodName := ⟨RX4, "put", "(II)V"⟩
abbrev cX4_add : ByteArray := prog_6_method_5_code
def yX4_add : MethodName := ⟨RX4, "add", "(I)V"⟩
abbrev cX4_addAt : ByteArray := prog_6_method_6_code
def yX4_addAt : MethodName := ⟨RX4, "addAt", "(II)V"⟩
abbrev cX4_removeAt : ByteArray := prog_6_method_7_code
def yX4_removeAt : MethodName := ⟨RX4, "removeAt", "(I)V"⟩
abbrev cX4_empty : ByteArray := prog_6_method_8_code
def yX4_empty : MethodName := ⟨RX4, "empty", "()V"⟩
abbrev cX4_copyNumbers : ByteArray := prog_6_method_9_code
def yX4_copyNumbers : MethodName := ⟨RX4, "copyNumbers", "(LReshapedTexts$Numbers;)V"⟩
abbrev cX4_isSameAs : ByteArray := prog_6_method_10_code
def yX4_isSameAs : MethodName := ⟨RX4, "isSameAs", "(LReshapedTexts$Numbers;)Z"⟩
def RX5 : String := "ReshapedTexts$State"
def TX5 : u_T := fun k => match k with
  | 0 => ("ReshapedTexts$State", "first", "LReshapedTexts$Editor;", true)
  | 1 => ("ReshapedTexts$State", "second", "LReshapedTexts$Editor;", true)
  | 2 => ("ReshapedTexts$State", "third", "LReshapedTexts$Editor;", true)
  | 3 => ("ReshapedTexts$State", "log", "LReshapedTexts$Numbers;", true)
  | 4 => ("ReshapedTexts$State", "text", "LReshapedTexts$Numbers;", true)
  | _ => ("ReshapedTexts$State", "writers", "LReshapedTexts$Numbers;", true)
def tyX5 : Nat → FieldType := fun k => match k with
  | 0 => .object "ReshapedTexts$Editor"
  | 1 => .object "ReshapedTexts$Editor"
  | 2 => .object "ReshapedTexts$Editor"
  | 3 => .object "ReshapedTexts$Numbers"
  | 4 => .object "ReshapedTexts$Numbers"
  | _ => .object "ReshapedTexts$Numbers"
abbrev wsX50 : List Cond := u_ws RX5 TX5 6
theorem nmX5 : ∀ a, a < 6 → ∀ b, b < 6 → a ≠ b → (TX5 a).2.1 ≠ (TX5 b).2.1 := by decide +kernel
theorem tyX5_ok : ∀ k, k < 6 → parseFieldDescriptor (TX5 k).2.2.1 = some (tyX5 k) := by decide +kernel
abbrev cX5_init : ByteArray := prog_7_method_1_code
def yX5_init : MethodName := ⟨RX5, "<init>", "()V"⟩
abbrev cX5_editor : ByteArray := prog_7_method_2_code
def yX5_editor : MethodName := ⟨RX5, "editor", "(I)LReshapedTexts$Editor;"⟩
abbrev cX5_answer : ByteArray := prog_7_method_3_code
def yX5_answer : MethodName := ⟨RX5, "answer", "(IIII)I"⟩
abbrev cX5_nothingsInLog : ByteArray := prog_7_method_4_code
def yX5_nothingsInLog : MethodName := ⟨RX5, "nothingsInLog", "()I"⟩
abbrev cX5_waitingOfAll : ByteArray := prog_7_method_5_code
def yX5_waitingOfAll : MethodName := ⟨RX5, "waitingOfAll", "()I"⟩
abbrev cX5_settledEditors : ByteArray := prog_7_method_6_code
def yX5_settledEditors : MethodName := ⟨RX5, "settledEditors", "()I"⟩
abbrev cX5_isOneText : ByteArray := prog_7_method_7_code
def yX5_isOneText : MethodName := ⟨RX5, "isOneText", "()Z"⟩
abbrev cX5_begin : ByteArray := prog_7_method_8_code
def yX5_begin : MethodName := ⟨RX5, "begin", "()V"⟩
abbrev cX5_copyState : ByteArray := prog_7_method_9_code
def yX5_copyState : MethodName := ⟨RX5, "copyState", "(LReshapedTexts$State;)V"⟩
abbrev cX5_copyEndOf : ByteArray := prog_7_method_10_code
def yX5_copyEndOf : MethodName := ⟨RX5, "copyEndOf", "(LReshapedTexts$State;Z)V"⟩
abbrev cX5_pass : ByteArray := prog_7_method_11_code
def yX5_pass : MethodName := ⟨RX5, "pass", "(LReshapedTexts$Editor;)I"⟩
abbrev cX5_append : ByteArray := prog_7_method_12_code
def yX5_append : MethodName := ⟨RX5, "append", "(LReshapedTexts$Editor;)V"⟩
def RX6 : String := "ReshapedTexts"
def TX6 : u_T := fun k => match k with
  | 0 => ("ReshapedTexts", "now", "LReshapedTexts$State;", true)
  | 1 => ("ReshapedTexts", "trial", "LReshapedTexts$State;", true)
  | 2 => ("ReshapedTexts", "upwards", "LReshapedTexts$State;", true)
  | 3 => ("ReshapedTexts", "downwards", "LReshapedTexts$State;", true)
  | 4 => ("ReshapedTexts", "past", "LReshapedTexts$History;", true)
  | _ => ("ReshapedTexts", "commands", "LReshapedTexts$Commands;", true)
def tyX6 : Nat → FieldType := fun k => match k with
  | 0 => .object "ReshapedTexts$State"
  | 1 => .object "ReshapedTexts$State"
  | 2 => .object "ReshapedTexts$State"
  | 3 => .object "ReshapedTexts$State"
  | 4 => .object "ReshapedTexts$History"
  | _ => .object "ReshapedTexts$Commands"
abbrev wsX60 : List Cond := u_ws RX6 TX6 6
theorem nmX6 : ∀ a, a < 6 → ∀ b, b < 6 → a ≠ b → (TX6 a).2.1 ≠ (TX6 b).2.1 := by decide +kernel
theorem tyX6_ok : ∀ k, k < 6 → parseFieldDescriptor (TX6 k).2.2.1 = some (tyX6 k) := by decide +kernel
abbrev cX6_init : ByteArray := prog_1_method_1_code
def yX6_init : MethodName := ⟨RX6, "<init>", "()V"⟩
abbrev cX6_insert : ByteArray := prog_1_method_2_code
def yX6_insert : MethodName := ⟨RX6, "insert", "(III)I"⟩
abbrev cX6_delete : ByteArray := prog_1_method_3_code
def yX6_delete : MethodName := ⟨RX6, "delete", "(II)I"⟩
abbrev cX6_takeBack : ByteArray := prog_1_method_4_code
def yX6_takeBack : MethodName := ⟨RX6, "takeBack", "(I)I"⟩
abbrev cX6_mark : ByteArray := prog_1_method_5_code
def yX6_mark : MethodName := ⟨RX6, "mark", "(II)I"⟩
abbrev cX6_send : ByteArray := prog_1_method_6_code
def yX6_send : MethodName := ⟨RX6, "send", "(I)I"⟩
abbrev cX6_hear : ByteArray := prog_1_method_7_code
def yX6_hear : MethodName := ⟨RX6, "hear", "(I)I"⟩
abbrev cX6_hearAll : ByteArray := prog_1_method_8_code
def yX6_hearAll : MethodName := ⟨RX6, "hearAll", "(I)I"⟩
abbrev cX6_clear : ByteArray := prog_1_method_9_code
def yX6_clear : MethodName := ⟨RX6, "clear", "()I"⟩
abbrev cX6_letter : ByteArray := prog_1_method_10_code
def yX6_letter : MethodName := ⟨RX6, "letter", "(II)I"⟩
abbrev cX6_editorOf : ByteArray := prog_1_method_11_code
def yX6_editorOf : MethodName := ⟨RX6, "editorOf", "(II)I"⟩
abbrev cX6_waitingOf : ByteArray := prog_1_method_12_code
def yX6_waitingOf : MethodName := ⟨RX6, "waitingOf", "(III)I"⟩
abbrev cX6_logOf : ByteArray := prog_1_method_13_code
def yX6_logOf : MethodName := ⟨RX6, "logOf", "(II)I"⟩
abbrev cX6_by : ByteArray := prog_1_method_14_code
def yX6_by : MethodName := ⟨RX6, "by", "(I)I"⟩
abbrev cX6_count : ByteArray := prog_1_method_15_code
def yX6_count : MethodName := ⟨RX6, "count", "(I)I"⟩
abbrev cX6_inTheEnd : ByteArray := prog_1_method_16_code
def yX6_inTheEnd : MethodName := ⟨RX6, "inTheEnd", "(II)I"⟩
abbrev cX6_both : ByteArray := prog_1_method_17_code
def yX6_both : MethodName := ⟨RX6, "both", "(I)I"⟩
abbrev cX6_wouldSend : ByteArray := prog_1_method_18_code
def yX6_wouldSend : MethodName := ⟨RX6, "wouldSend", "(II)I"⟩
abbrev cX6_undo : ByteArray := prog_1_method_19_code
def yX6_undo : MethodName := ⟨RX6, "undo", "()I"⟩
abbrev cX6_type : ByteArray := prog_1_method_20_code
def yX6_type : MethodName := ⟨RX6, "type", "(I)I"⟩
abbrev cX6_clearText : ByteArray := prog_1_method_21_code
def yX6_clearText : MethodName := ⟨RX6, "clearText", "()I"⟩
abbrev cX6_fault : ByteArray := prog_1_method_22_code
def yX6_fault : MethodName := ⟨RX6, "fault", "(I)I"⟩
abbrev cX6_play : ByteArray := prog_1_method_23_code
def yX6_play : MethodName := ⟨RX6, "play", "()I"⟩
abbrev cX6_recorded : ByteArray := prog_1_method_24_code
def yX6_recorded : MethodName := ⟨RX6, "recorded", "(IIII)I"⟩
abbrev cX6_isNoEditor : ByteArray := prog_1_method_25_code
def yX6_isNoEditor : MethodName := ⟨RX6, "isNoEditor", "(I)Z"⟩
abbrev cX6_partOf : ByteArray := prog_1_method_26_code
def yX6_partOf : MethodName := ⟨RX6, "partOf", "(LReshapedTexts$Numbers;II)I"⟩
def RX7 : String := "ReshapedTextsModel"
def TX7 : u_T := fun k => match k with
  | 0 => ("ReshapedTextsModel", "s", "[I", true)
  | 1 => ("ReshapedTextsModel", "aside", "[I", true)
  | 2 => ("ReshapedTextsModel", "before", "[I", true)
  | 3 => ("ReshapedTextsModel", "known", "I", false)
  | 4 => ("ReshapedTextsModel", "text", "[I", true)
  | 5 => ("ReshapedTextsModel", "length", "I", false)
  | 6 => ("ReshapedTextsModel", "letters", "[I", true)
  | 7 => ("ReshapedTextsModel", "bys", "[I", true)
  | 8 => ("ReshapedTextsModel", "logLong", "I", false)
  | 9 => ("ReshapedTextsModel", "areSame", "Z", false)
  | 10 => ("ReshapedTextsModel", "first", "[I", true)
  | 11 => ("ReshapedTextsModel", "at", "I", false)
  | 12 => ("ReshapedTextsModel", "isWrong", "Z", false)
  | 13 => ("ReshapedTextsModel", "command", "[I", true)
  | 14 => ("ReshapedTextsModel", "position", "I", false)
  | 15 => ("ReshapedTextsModel", "reason", "I", false)
  | _ => ("ReshapedTextsModel", "cause", "I", false)
def tyX7 : Nat → FieldType := fun k => match k with
  | 0 => .array .int
  | 1 => .array .int
  | 2 => .array .int
  | 3 => .int
  | 4 => .array .int
  | 5 => .int
  | 6 => .array .int
  | 7 => .array .int
  | 8 => .int
  | 9 => .boolean
  | 10 => .array .int
  | 11 => .int
  | 12 => .boolean
  | 13 => .array .int
  | 14 => .int
  | 15 => .int
  | _ => .int
abbrev wsX70 : List Cond := u_ws RX7 TX7 17
theorem nmX7 : ∀ a, a < 17 → ∀ b, b < 17 → a ≠ b → (TX7 a).2.1 ≠ (TX7 b).2.1 := by decide +kernel
theorem tyX7_ok : ∀ k, k < 17 → parseFieldDescriptor (TX7 k).2.2.1 = some (tyX7 k) := by decide +kernel
abbrev cX7_init : ByteArray := prog_9_method_1_code
def yX7_init : MethodName := ⟨RX7, "<init>", "()V"⟩
abbrev cX7_in : ByteArray := prog_9_method_3_code
def yX7_in : MethodName := ⟨RX7, "in", "(III)Z"⟩
abbrev cX7_isEditor : ByteArray := prog_9_method_4_code
def yX7_isEditor : MethodName := ⟨RX7, "isEditor", "(I)Z"⟩
abbrev cX7_of : ByteArray := prog_9_method_5_code
def yX7_of : MethodName := ⟨RX7, "of", "(II)I"⟩
abbrev cX7_know : ByteArray := prog_9_method_6_code
def yX7_know : MethodName := ⟨RX7, "know", "()V"⟩
abbrev cX7_putAside : ByteArray := prog_9_method_7_code
def yX7_putAside : MethodName := ⟨RX7, "putAside", "()V"⟩
abbrev cX7_putBack : ByteArray := prog_9_method_8_code
def yX7_putBack : MethodName := ⟨RX7, "putBack", "()V"⟩
abbrev cX7_made : ByteArray := prog_9_method_9_code
def yX7_made : MethodName := ⟨RX7, "made", "(IIII)I"⟩
abbrev cX7_kindOf : ByteArray := prog_9_method_10_code
def yX7_kindOf : MethodName := ⟨RX7, "kindOf", "(I)I"⟩
abbrev cX7_placeOf : ByteArray := prog_9_method_11_code
def yX7_placeOf : MethodName := ⟨RX7, "placeOf", "(I)I"⟩
abbrev cX7_letterOf : ByteArray := prog_9_method_12_code
def yX7_letterOf : MethodName := ⟨RX7, "letterOf", "(I)I"⟩
abbrev cX7_editorBy : ByteArray := prog_9_method_13_code
def yX7_editorBy : MethodName := ⟨RX7, "editorBy", "(I)I"⟩
abbrev cX7_reshaped : ByteArray := prog_9_method_14_code
def yX7_reshaped : MethodName := ⟨RX7, "reshaped", "(II)I"⟩
abbrev cX7_perform : ByteArray := prog_9_method_15_code
def yX7_perform : MethodName := ⟨RX7, "perform", "(II)V"⟩
abbrev cX7_writes : ByteArray := prog_9_method_16_code
def yX7_writes : MethodName := ⟨RX7, "writes", "(II)V"⟩
abbrev cX7_keep : ByteArray := prog_9_method_17_code
def yX7_keep : MethodName := ⟨RX7, "keep", "(II)V"⟩
abbrev cX7_insertFault : ByteArray := prog_9_method_18_code
def yX7_insertFault : MethodName := ⟨RX7, "insertFault", "(III)I"⟩
abbrev cX7_inserts : ByteArray := prog_9_method_19_code
def yX7_inserts : MethodName := ⟨RX7, "inserts", "(III)I"⟩
abbrev cX7_deleteFault : ByteArray := prog_9_method_20_code
def yX7_deleteFault : MethodName := ⟨RX7, "deleteFault", "(II)I"⟩
abbrev cX7_deletes : ByteArray := prog_9_method_21_code
def yX7_deletes : MethodName := ⟨RX7, "deletes", "(II)I"⟩
abbrev cX7_backFault : ByteArray := prog_9_method_22_code
def yX7_backFault : MethodName := ⟨RX7, "backFault", "(I)I"⟩
abbrev cX7_backs : ByteArray := prog_9_method_23_code
def yX7_backs : MethodName := ⟨RX7, "backs", "(I)I"⟩
abbrev cX7_behind : ByteArray := prog_9_method_24_code
def yX7_behind : MethodName := ⟨RX7, "behind", "(II)I"⟩
abbrev cX7_canSend : ByteArray := prog_9_method_25_code
def yX7_canSend : MethodName := ⟨RX7, "canSend", "(I)Z"⟩
abbrev cX7_sendFault : ByteArray := prog_9_method_26_code
def yX7_sendFault : MethodName := ⟨RX7, "sendFault", "(I)I"⟩
abbrev cX7_sends : ByteArray := prog_9_method_27_code
def yX7_sends : MethodName := ⟨RX7, "sends", "(I)I"⟩
abbrev cX7_hearFault : ByteArray := prog_9_method_28_code
def yX7_hearFault : MethodName := ⟨RX7, "hearFault", "(I)I"⟩
abbrev cX7_hears : ByteArray := prog_9_method_29_code
def yX7_hears : MethodName := ⟨RX7, "hears", "(I)I"⟩
abbrev cX7_hearsAll : ByteArray := prog_9_method_30_code
def yX7_hearsAll : MethodName := ⟨RX7, "hearsAll", "(I)I"⟩
abbrev cX7_insert : ByteArray := prog_9_method_31_code
def yX7_insert : MethodName := ⟨RX7, "insert", "(III)I"⟩
abbrev cX7_delete : ByteArray := prog_9_method_32_code
def yX7_delete : MethodName := ⟨RX7, "delete", "(II)I"⟩
abbrev cX7_takeBack : ByteArray := prog_9_method_33_code
def yX7_takeBack : MethodName := ⟨RX7, "takeBack", "(I)I"⟩
abbrev cX7_mark : ByteArray := prog_9_method_34_code
def yX7_mark : MethodName := ⟨RX7, "mark", "(II)I"⟩
abbrev cX7_send : ByteArray := prog_9_method_35_code
def yX7_send : MethodName := ⟨RX7, "send", "(I)I"⟩
abbrev cX7_hear : ByteArray := prog_9_method_36_code
def yX7_hear : MethodName := ⟨RX7, "hear", "(I)I"⟩
abbrev cX7_hearAll : ByteArray := prog_9_method_37_code
def yX7_hearAll : MethodName := ⟨RX7, "hearAll", "(I)I"⟩
abbrev cX7_clear : ByteArray := prog_9_method_38_code
def yX7_clear : MethodName := ⟨RX7, "clear", "()I"⟩
abbrev cX7_lay : ByteArray := prog_9_method_39_code
def yX7_lay : MethodName := ⟨RX7, "lay", "()V"⟩
abbrev cX7_isSame : ByteArray := prog_9_method_40_code
def yX7_isSame : MethodName := ⟨RX7, "isSame", "(I)Z"⟩
abbrev cX7_letter : ByteArray := prog_9_method_41_code
def yX7_letter : MethodName := ⟨RX7, "letter", "(II)I"⟩
abbrev cX7_editorOf : ByteArray := prog_9_method_42_code
def yX7_editorOf : MethodName := ⟨RX7, "editorOf", "(II)I"⟩
abbrev cX7_told : ByteArray := prog_9_method_43_code
def yX7_told : MethodName := ⟨RX7, "told", "(II)I"⟩
abbrev cX7_waitingOf : ByteArray := prog_9_method_44_code
def yX7_waitingOf : MethodName := ⟨RX7, "waitingOf", "(III)I"⟩
abbrev cX7_logOf : ByteArray := prog_9_method_45_code
def yX7_logOf : MethodName := ⟨RX7, "logOf", "(II)I"⟩
abbrev cX7_by : ByteArray := prog_9_method_46_code
def yX7_by : MethodName := ⟨RX7, "by", "(I)I"⟩
abbrev cX7_sum : ByteArray := prog_9_method_47_code
def yX7_sum : MethodName := ⟨RX7, "sum", "(I)I"⟩
abbrev cX7_count : ByteArray := prog_9_method_48_code
def yX7_count : MethodName := ⟨RX7, "count", "(I)I"⟩
abbrev cX7_end : ByteArray := prog_9_method_49_code
def yX7_end : MethodName := ⟨RX7, "end", "(I)V"⟩
abbrev cX7_inTheEnd : ByteArray := prog_9_method_50_code
def yX7_inTheEnd : MethodName := ⟨RX7, "inTheEnd", "(II)I"⟩
abbrev cX7_both : ByteArray := prog_9_method_51_code
def yX7_both : MethodName := ⟨RX7, "both", "(I)I"⟩
abbrev cX7_wouldSend : ByteArray := prog_9_method_52_code
def yX7_wouldSend : MethodName := ⟨RX7, "wouldSend", "(II)I"⟩
abbrev cX7_undo : ByteArray := prog_9_method_53_code
def yX7_undo : MethodName := ⟨RX7, "undo", "()I"⟩
abbrev cX7_type : ByteArray := prog_9_method_54_code
def yX7_type : MethodName := ⟨RX7, "type", "(I)I"⟩
abbrev cX7_clearText : ByteArray := prog_9_method_55_code
def yX7_clearText : MethodName := ⟨RX7, "clearText", "()I"⟩
abbrev cX7_sign : ByteArray := prog_9_method_56_code
def yX7_sign : MethodName := ⟨RX7, "sign", "(II)I"⟩
abbrev cX7_number : ByteArray := prog_9_method_57_code
def yX7_number : MethodName := ⟨RX7, "number", "()I"⟩
abbrev cX7_read : ByteArray := prog_9_method_58_code
def yX7_read : MethodName := ⟨RX7, "read", "()V"⟩
abbrev cX7_does : ByteArray := prog_9_method_59_code
def yX7_does : MethodName := ⟨RX7, "does", "()I"⟩
abbrev cX7_go : ByteArray := prog_9_method_60_code
def yX7_go : MethodName := ⟨RX7, "go", "()I"⟩
abbrev cX7_look : ByteArray := prog_9_method_61_code
def yX7_look : MethodName := ⟨RX7, "look", "()V"⟩
abbrev cX7_fault : ByteArray := prog_9_method_62_code
def yX7_fault : MethodName := ⟨RX7, "fault", "(I)I"⟩
abbrev cX7_play : ByteArray := prog_9_method_63_code
def yX7_play : MethodName := ⟨RX7, "play", "()I"⟩
def RJ9 : String := "java/lang/Math"
def TJ9 : u_T := fun k => match k with
  | _ => ("", "", "", false)
def tyJ9 : Nat → FieldType := fun k => match k with
  | _ => .int
theorem nmJ9 : ∀ a, a < 0 → ∀ b, b < 0 → a ≠ b → (TJ9 a).2.1 ≠ (TJ9 b).2.1 := by decide +kernel
theorem tyJ9_ok : ∀ k, k < 0 → parseFieldDescriptor (TJ9 k).2.2.1 = some (tyJ9 k) := by decide +kernel
abbrev cJ9_max_7cf53 : ByteArray := prog_10_method_65_code
def yJ9_max_7cf53 : MethodName := ⟨RJ9, "max", "(II)I"⟩
abbrev cJ9_min_7cf53 : ByteArray := prog_10_method_69_code
def yJ9_min_7cf53 : MethodName := ⟨RJ9, "min", "(II)I"⟩
def RL : String := "ReshapedTextsLaw"
abbrev cL_law : ByteArray := code
def yL_law : MethodName := ⟨RL, "law", "([I)Z"⟩
def wsL_law_r1 : List Cond := [Cond.classLink RL 7 RX6, Cond.instantiable RX6 6, Cond.initialized RX6, Cond.classLink RL 10 RX7, Cond.instantiable RX7 17, Cond.initialized RX7, Cond.methodLink RL 9 yX6_init, Cond.instanceMethod yX6_init, Cond.code yX6_init cX6_init 1 none, Cond.methodLink RX6 3 objectInit, Cond.instanceMethod objectInit, Cond.code objectInit ⟨#[0xb1]⟩ 1 none, Cond.classLink RX6 9 RX5, Cond.instantiable RX5 6, Cond.initialized RX5, Cond.fieldLink RX6 12 "ReshapedTexts" "now" "LReshapedTexts$State;", Cond.fieldLink RX6 16 "ReshapedTexts" "trial" "LReshapedTexts$State;", Cond.fieldLink RX6 19 "ReshapedTexts" "upwards" "LReshapedTexts$State;", Cond.fieldLink RX6 22 "ReshapedTexts" "downwards" "LReshapedTexts$State;", Cond.classLink RX6 25 RX3, Cond.instantiable RX3 6, Cond.initialized RX3, Cond.fieldLink RX6 28 "ReshapedTexts" "past" "LReshapedTexts$History;", Cond.classLink RX6 32 RX1]
def wsL_law_r2 : List Cond := [Cond.instantiable RX1 6, Cond.initialized RX1, Cond.fieldLink RX6 35 "ReshapedTexts" "commands" "LReshapedTexts$Commands;", Cond.methodLink RX6 11 yX5_init, Cond.instanceMethod yX5_init, Cond.code yX5_init cX5_init 1 none, Cond.methodLink RX5 3 objectInit, Cond.classLink RX5 9 RX2, Cond.instantiable RX2 8, Cond.initialized RX2, Cond.fieldLink RX5 14 "ReshapedTexts$State" "first" "LReshapedTexts$Editor;", Cond.fieldLink RX5 20 "ReshapedTexts$State" "second" "LReshapedTexts$Editor;", Cond.fieldLink RX5 23 "ReshapedTexts$State" "third" "LReshapedTexts$Editor;", Cond.classLink RX5 26 RX4, Cond.instantiable RX4 2, Cond.initialized RX4, Cond.fieldLink RX5 29 "ReshapedTexts$State" "log" "LReshapedTexts$Numbers;", Cond.fieldLink RX5 33 "ReshapedTexts$State" "text" "LReshapedTexts$Numbers;", Cond.fieldLink RX5 36 "ReshapedTexts$State" "writers" "LReshapedTexts$Numbers;", Cond.methodLink RX5 11 yX2_init, Cond.instanceMethod yX2_init, Cond.code yX2_init cX2_init 2 none, Cond.methodLink RX2 3 objectInit, Cond.fieldLink RX2 9 "ReshapedTexts$Editor" "number" "I"]
def wsL_law_r3 : List Cond := [Cond.classLink RX2 15 RX4, Cond.fieldLink RX2 20 "ReshapedTexts$Editor" "copy" "LReshapedTexts$Numbers;", Cond.fieldLink RX2 24 "ReshapedTexts$Editor" "waiting" "LReshapedTexts$Numbers;", Cond.fieldLink RX2 27 "ReshapedTexts$Editor" "backs" "LReshapedTexts$Numbers;", Cond.methodLink RX2 17 yX4_init, Cond.instanceMethod yX4_init, Cond.code yX4_init cX4_init 2 none, Cond.methodLink RX4 1 objectInit, Cond.methodLink RX4 7 Lib.Math.max.name, Cond.static Lib.Math.max.name, Cond.initialized "java/lang/Math", Cond.code Lib.Math.max.name Lib.Math.max.code 2 (some .int), Cond.arrayClass .int, Cond.fieldLink RX4 13 "ReshapedTexts$Numbers" "cells" "[I", Cond.fieldLink RX4 19 "ReshapedTexts$Numbers" "size" "I", Cond.methodLink RX5 28 yX4_init, Cond.methodLink RX6 27 yX3_init, Cond.instanceMethod yX3_init, Cond.code yX3_init cX3_init 1 none, Cond.methodLink RX3 3 objectInit, Cond.classLink RX3 9 RX5, Cond.fieldLink RX3 12 "ReshapedTexts$History" "newest" "LReshapedTexts$State;", Cond.fieldLink RX3 18 "ReshapedTexts$History" "second" "LReshapedTexts$State;", Cond.fieldLink RX3 21 "ReshapedTexts$History" "third" "LReshapedTexts$State;"]
def wsL_law_r4 : List Cond := [Cond.fieldLink RX3 24 "ReshapedTexts$History" "oldest" "LReshapedTexts$State;", Cond.fieldLink RX3 27 "ReshapedTexts$History" "spare" "LReshapedTexts$State;", Cond.methodLink RX3 11 yX5_init, Cond.methodLink RX6 34 yX1_init, Cond.instanceMethod yX1_init, Cond.code yX1_init cX1_init 1 none, Cond.methodLink RX1 3 objectInit, Cond.classLink RX1 9 RX4, Cond.fieldLink RX1 14 "ReshapedTexts$Commands" "signs" "LReshapedTexts$Numbers;", Cond.fieldLink RX1 20 "ReshapedTexts$Commands" "numbers" "LReshapedTexts$Numbers;", Cond.methodLink RX1 11 yX4_init, Cond.methodLink RL 12 yX7_init, Cond.instanceMethod yX7_init, Cond.code yX7_init cX7_init 1 none, Cond.methodLink RX7 1 objectInit, Cond.fieldLink RX7 7 "ReshapedTextsModel" "s" "[I", Cond.fieldLink RX7 13 "ReshapedTextsModel" "aside" "[I", Cond.fieldLink RX7 16 "ReshapedTextsModel" "before" "[I", Cond.fieldLink RX7 19 "ReshapedTextsModel" "text" "[I", Cond.fieldLink RX7 22 "ReshapedTextsModel" "letters" "[I", Cond.fieldLink RX7 25 "ReshapedTextsModel" "bys" "[I", Cond.fieldLink RX7 28 "ReshapedTextsModel" "first" "[I", Cond.fieldLink RX7 31 "ReshapedTextsModel" "command" "[I", Cond.methodLink RL 13 yX6_insert]
def wsL_law_r5 : List Cond := [Cond.instanceMethod yX6_insert, Cond.selects RX6 yX6_insert yX6_insert, Cond.code yX6_insert cX6_insert 4 (some .int), Cond.methodLink RX6 39 yX6_recorded, Cond.instanceMethod yX6_recorded, Cond.selects RX6 yX6_recorded yX6_recorded, Cond.code yX6_recorded cX6_recorded 6 (some .int), Cond.methodLink RX6 53 yX3_prepare, Cond.instanceMethod yX3_prepare, Cond.selects RX3 yX3_prepare yX3_prepare, Cond.code yX3_prepare cX3_prepare 2 none, Cond.methodLink RX3 30 yX5_copyState, Cond.instanceMethod yX5_copyState, Cond.selects RX5 yX5_copyState yX5_copyState, Cond.code yX5_copyState cX5_copyState 2 none, Cond.methodLink RX5 103 yX2_copyEditor, Cond.instanceMethod yX2_copyEditor, Cond.selects RX2 yX2_copyEditor yX2_copyEditor, Cond.code yX2_copyEditor cX2_copyEditor 2 none, Cond.fieldLink RX2 59 "ReshapedTexts$Editor" "underWay" "Z", Cond.fieldLink RX2 63 "ReshapedTexts$Editor" "heard" "I", Cond.fieldLink RX2 56 "ReshapedTexts$Editor" "spot" "I", Cond.fieldLink RX2 87 "ReshapedTexts$Editor" "written" "I", Cond.methodLink RX2 90 yX4_copyNumbers]
def wsL_law_r6 : List Cond := [Cond.instanceMethod yX4_copyNumbers, Cond.selects RX4 yX4_copyNumbers yX4_copyNumbers, Cond.code yX4_copyNumbers cX4_copyNumbers 4 none, Cond.methodLink RX4 27 Lib.Math.min.name, Cond.static Lib.Math.min.name, Cond.code Lib.Math.min.name Lib.Math.min.code 2 (some .int), Cond.methodLink RX5 107 yX4_copyNumbers, Cond.methodLink RX6 177 yX5_answer, Cond.instanceMethod yX5_answer, Cond.selects RX5 yX5_answer yX5_answer, Cond.code yX5_answer cX5_answer 6 (some .int), Cond.static yX6_isNoEditor, Cond.code yX6_isNoEditor cX6_isNoEditor 1 (some .boolean), Cond.methodLink RX5 43 yX5_editor, Cond.instanceMethod yX5_editor, Cond.selects RX5 yX5_editor yX5_editor, Cond.code yX5_editor cX5_editor 2 (some (.object "ReshapedTexts$Editor")), Cond.methodLink RX5 47 yX2_putIn, Cond.instanceMethod yX2_putIn, Cond.selects RX2 yX2_putIn yX2_putIn, Cond.code yX2_putIn cX2_putIn 3 (some .int), Cond.methodLink RX2 30 yX4_size, Cond.instanceMethod yX4_size, Cond.selects RX4 yX4_size yX4_size]
def wsL_law_r7 : List Cond := [Cond.code yX4_size cX4_size 1 (some .int), Cond.methodLink RX2 34 yX0_of, Cond.static yX0_of, Cond.initialized RX0, Cond.code yX0_of cX0_of 4 (some .int), Cond.methodLink RX2 40 yX2_write, Cond.instanceMethod yX2_write, Cond.selects RX2 yX2_write yX2_write, Cond.code yX2_write cX2_write 2 none, Cond.methodLink RX2 77 yX2_apply, Cond.instanceMethod yX2_apply, Cond.selects RX2 yX2_apply yX2_apply, Cond.code yX2_apply cX2_apply 5 none, Cond.methodLink RX2 97 yX0_place, Cond.static yX0_place, Cond.code yX0_place cX0_place 1 (some .int), Cond.methodLink RX2 50 yX0_kind, Cond.static yX0_kind, Cond.code yX0_kind cX0_kind 1 (some .int), Cond.methodLink RX2 100 yX0_sign, Cond.static yX0_sign, Cond.code yX0_sign cX0_sign 1 (some .int), Cond.methodLink RX2 103 yX4_addAt, Cond.instanceMethod yX4_addAt]
def wsL_law_r8 : List Cond := [Cond.selects RX4 yX4_addAt yX4_addAt, Cond.code yX4_addAt cX4_addAt 4 none, Cond.methodLink RX2 53 yX4_removeAt, Cond.instanceMethod yX4_removeAt, Cond.selects RX4 yX4_removeAt yX4_removeAt, Cond.code yX4_removeAt cX4_removeAt 3 none, Cond.methodLink RX2 46 yX4_at, Cond.instanceMethod yX4_at, Cond.selects RX4 yX4_at yX4_at, Cond.code yX4_at cX4_at 2 (some .int), Cond.methodLink RX2 66 yX0_reshaped, Cond.static yX0_reshaped, Cond.code yX0_reshaped cX0_reshaped 9 (some .int), Cond.methodLink RX2 107 yX4_put, Cond.instanceMethod yX4_put, Cond.selects RX4 yX4_put yX4_put, Cond.code yX4_put cX4_put 3 none, Cond.methodLink RX2 94 yX4_add, Cond.instanceMethod yX4_add, Cond.selects RX4 yX4_add yX4_add, Cond.code yX4_add cX4_add 2 none, Cond.methodLink RX4 23 yX4_addAt, Cond.methodLink RX2 43 yX2_keepBack, Cond.instanceMethod yX2_keepBack]
def wsL_law_r9 : List Cond := [Cond.selects RX2 yX2_keepBack yX2_keepBack, Cond.code yX2_keepBack cX2_keepBack 2 none, Cond.methodLink RX5 51 yX2_takeOut, Cond.instanceMethod yX2_takeOut, Cond.selects RX2 yX2_takeOut yX2_takeOut, Cond.code yX2_takeOut cX2_takeOut 3 (some .int), Cond.methodLink RX5 55 yX2_goBack, Cond.instanceMethod yX2_goBack, Cond.selects RX2 yX2_goBack yX2_goBack, Cond.code yX2_goBack cX2_goBack 4 (some .int), Cond.methodLink RX5 59 yX2_setSpot, Cond.instanceMethod yX2_setSpot, Cond.selects RX2 yX2_setSpot yX2_setSpot, Cond.code yX2_setSpot cX2_setSpot 3 (some .int), Cond.methodLink RX5 62 yX5_pass, Cond.instanceMethod yX5_pass, Cond.selects RX5 yX5_pass yX5_pass, Cond.code yX5_pass cX5_pass 2 (some .int), Cond.methodLink RX5 115 yX2_canSend, Cond.instanceMethod yX2_canSend, Cond.selects RX2 yX2_canSend yX2_canSend, Cond.code yX2_canSend cX2_canSend 1 (some .boolean), Cond.methodLink RX5 73 yX4_size, Cond.methodLink RX5 119 yX5_append]
def wsL_law_r10 : List Cond := [Cond.instanceMethod yX5_append, Cond.selects RX5 yX5_append yX5_append, Cond.code yX5_append cX5_append 5 none, Cond.methodLink RX5 122 yX2_outgoing, Cond.instanceMethod yX2_outgoing, Cond.selects RX2 yX2_outgoing yX2_outgoing, Cond.code yX2_outgoing cX2_outgoing 4 (some .int), Cond.methodLink RX5 125 yX0_place, Cond.methodLink RX5 79 yX0_kind, Cond.methodLink RX5 128 yX0_sign, Cond.methodLink RX5 131 yX4_addAt, Cond.methodLink RX5 135 yX0_writer, Cond.static yX0_writer, Cond.code yX0_writer cX0_writer 1 (some .int), Cond.methodLink RX5 138 yX4_removeAt, Cond.methodLink RX5 141 yX4_add, Cond.methodLink RX5 66 yX2_hearNext, Cond.instanceMethod yX2_hearNext, Cond.selects RX2 yX2_hearNext yX2_hearNext, Cond.code yX2_hearNext cX2_hearNext 4 (some .int), Cond.methodLink RX2 70 yX0_writer, Cond.methodLink RX2 73 yX0_passThrough, Cond.static yX0_passThrough, Cond.code yX0_passThrough cX0_passThrough 5 (some .int)]
def wsL_law_r11 : List Cond := [Cond.methodLink RX0 24 yX4_size, Cond.methodLink RX0 30 yX4_at, Cond.methodLink RX0 33 yX0_reshaped, Cond.methodLink RX0 37 yX4_put, Cond.methodLink RX5 70 yX2_hearRest, Cond.instanceMethod yX2_hearRest, Cond.selects RX2 yX2_hearRest yX2_hearRest, Cond.code yX2_hearRest cX2_hearRest 4 (some .int), Cond.methodLink RX2 80 yX2_hearNext, Cond.methodLink RX6 57 yX3_keep, Cond.instanceMethod yX3_keep, Cond.selects RX3 yX3_keep yX3_keep, Cond.code yX3_keep cX3_keep 2 none, Cond.fieldLink RX3 34 "ReshapedTexts$History" "size" "I", Cond.methodLink RX3 38 Lib.Math.min.name, Cond.methodLink RL 17 yX7_insert, Cond.instanceMethod yX7_insert, Cond.selects RX7 yX7_insert yX7_insert, Cond.code yX7_insert cX7_insert 5 (some .int), Cond.methodLink RX7 89 yX7_insertFault, Cond.instanceMethod yX7_insertFault, Cond.selects RX7 yX7_insertFault yX7_insertFault, Cond.code yX7_insertFault cX7_insertFault 4 (some .int), Cond.methodLink RX7 70 yX7_isEditor]
def wsL_law_r12 : List Cond := [Cond.static yX7_isEditor, Cond.code yX7_isEditor cX7_isEditor 1 (some .boolean), Cond.methodLink RX7 34 yX7_in, Cond.static yX7_in, Cond.code yX7_in cX7_in 3 (some .boolean), Cond.methodLink RX7 59 yX7_of, Cond.static yX7_of, Cond.code yX7_of cX7_of 2 (some .int), Cond.methodLink RX7 93 yX7_know, Cond.instanceMethod yX7_know, Cond.selects RX7 yX7_know yX7_know, Cond.code yX7_know cX7_know 2 none, Cond.fieldLink RX7 38 "ReshapedTextsModel" "known" "I", Cond.methodLink RX7 96 yX7_inserts, Cond.instanceMethod yX7_inserts, Cond.selects RX7 yX7_inserts yX7_inserts, Cond.code yX7_inserts cX7_inserts 4 (some .int), Cond.methodLink RX7 55 yX7_made, Cond.static yX7_made, Cond.code yX7_made cX7_made 4 (some .int), Cond.methodLink RX7 74 yX7_writes, Cond.instanceMethod yX7_writes, Cond.selects RX7 yX7_writes yX7_writes, Cond.code yX7_writes cX7_writes 3 none]
def wsL_law_r13 : List Cond := [Cond.methodLink RX7 66 yX7_perform, Cond.instanceMethod yX7_perform, Cond.selects RX7 yX7_perform yX7_perform, Cond.code yX7_perform cX7_perform 6 none, Cond.methodLink RX7 42 yX7_placeOf, Cond.static yX7_placeOf, Cond.code yX7_placeOf cX7_placeOf 1 (some .int), Cond.methodLink RX7 46 yX7_kindOf, Cond.static yX7_kindOf, Cond.code yX7_kindOf cX7_kindOf 1 (some .int), Cond.methodLink RX7 52 yX7_letterOf, Cond.static yX7_letterOf, Cond.code yX7_letterOf cX7_letterOf 1 (some .int), Cond.methodLink RX7 63 yX7_reshaped, Cond.static yX7_reshaped, Cond.code yX7_reshaped cX7_reshaped 6 (some .int), Cond.methodLink RX7 49 yX7_editorBy, Cond.static yX7_editorBy, Cond.code yX7_editorBy cX7_editorBy 1 (some .int), Cond.methodLink RX7 77 yX7_keep, Cond.instanceMethod yX7_keep, Cond.selects RX7 yX7_keep yX7_keep, Cond.code yX7_keep cX7_keep 4 none, Cond.methodLink RL 18 yX6_delete]
def wsL_law_r14 : List Cond := [Cond.instanceMethod yX6_delete, Cond.selects RX6 yX6_delete yX6_delete, Cond.code yX6_delete cX6_delete 3 (some .int), Cond.methodLink RL 22 yX7_delete, Cond.instanceMethod yX7_delete, Cond.selects RX7 yX7_delete yX7_delete, Cond.code yX7_delete cX7_delete 4 (some .int), Cond.methodLink RX7 99 yX7_deleteFault, Cond.instanceMethod yX7_deleteFault, Cond.selects RX7 yX7_deleteFault yX7_deleteFault, Cond.code yX7_deleteFault cX7_deleteFault 3 (some .int), Cond.methodLink RX7 102 yX7_deletes, Cond.instanceMethod yX7_deletes, Cond.selects RX7 yX7_deletes yX7_deletes, Cond.code yX7_deletes cX7_deletes 4 (some .int), Cond.methodLink RL 23 yX6_takeBack, Cond.instanceMethod yX6_takeBack, Cond.selects RX6 yX6_takeBack yX6_takeBack, Cond.code yX6_takeBack cX6_takeBack 2 (some .int), Cond.methodLink RL 27 yX7_takeBack, Cond.instanceMethod yX7_takeBack, Cond.selects RX7 yX7_takeBack yX7_takeBack, Cond.code yX7_takeBack cX7_takeBack 3 (some .int), Cond.methodLink RX7 105 yX7_backFault]
def wsL_law_r15 : List Cond := [Cond.instanceMethod yX7_backFault, Cond.selects RX7 yX7_backFault yX7_backFault, Cond.code yX7_backFault cX7_backFault 4 (some .int), Cond.methodLink RX7 108 yX7_backs, Cond.instanceMethod yX7_backs, Cond.selects RX7 yX7_backs yX7_backs, Cond.code yX7_backs cX7_backs 3 (some .int), Cond.methodLink RL 28 yX6_mark, Cond.instanceMethod yX6_mark, Cond.selects RX6 yX6_mark yX6_mark, Cond.code yX6_mark cX6_mark 3 (some .int), Cond.methodLink RL 31 yX7_mark, Cond.instanceMethod yX7_mark, Cond.selects RX7 yX7_mark yX7_mark, Cond.code yX7_mark cX7_mark 4 (some .int), Cond.methodLink RL 32 yX6_send, Cond.instanceMethod yX6_send, Cond.selects RX6 yX6_send yX6_send, Cond.code yX6_send cX6_send 2 (some .int), Cond.methodLink RL 35 yX7_send, Cond.instanceMethod yX7_send, Cond.selects RX7 yX7_send yX7_send, Cond.code yX7_send cX7_send 3 (some .int), Cond.methodLink RX7 111 yX7_sendFault]
def wsL_law_r16 : List Cond := [Cond.instanceMethod yX7_sendFault, Cond.selects RX7 yX7_sendFault yX7_sendFault, Cond.code yX7_sendFault cX7_sendFault 2 (some .int), Cond.methodLink RX7 80 yX7_canSend, Cond.instanceMethod yX7_canSend, Cond.selects RX7 yX7_canSend yX7_canSend, Cond.code yX7_canSend cX7_canSend 2 (some .boolean), Cond.methodLink RX7 114 yX7_sends, Cond.instanceMethod yX7_sends, Cond.selects RX7 yX7_sends yX7_sends, Cond.code yX7_sends cX7_sends 2 (some .int), Cond.methodLink RX7 83 yX7_behind, Cond.instanceMethod yX7_behind, Cond.selects RX7 yX7_behind yX7_behind, Cond.code yX7_behind cX7_behind 5 (some .int), Cond.methodLink RL 36 yX6_hear, Cond.instanceMethod yX6_hear, Cond.selects RX6 yX6_hear yX6_hear, Cond.code yX6_hear cX6_hear 2 (some .int), Cond.methodLink RL 39 yX7_hear, Cond.instanceMethod yX7_hear, Cond.selects RX7 yX7_hear yX7_hear, Cond.code yX7_hear cX7_hear 3 (some .int), Cond.methodLink RX7 117 yX7_hearFault]
def wsL_law_r17 : List Cond := [Cond.instanceMethod yX7_hearFault, Cond.selects RX7 yX7_hearFault yX7_hearFault, Cond.code yX7_hearFault cX7_hearFault 2 (some .int), Cond.methodLink RX7 86 yX7_hears, Cond.instanceMethod yX7_hears, Cond.selects RX7 yX7_hears yX7_hears, Cond.code yX7_hears cX7_hears 5 (some .int), Cond.methodLink RL 40 yX6_hearAll, Cond.instanceMethod yX6_hearAll, Cond.selects RX6 yX6_hearAll yX6_hearAll, Cond.code yX6_hearAll cX6_hearAll 2 (some .int), Cond.methodLink RL 43 yX7_hearAll, Cond.instanceMethod yX7_hearAll, Cond.selects RX7 yX7_hearAll yX7_hearAll, Cond.code yX7_hearAll cX7_hearAll 3 (some .int), Cond.methodLink RX7 120 yX7_hearsAll, Cond.instanceMethod yX7_hearsAll, Cond.selects RX7 yX7_hearsAll yX7_hearsAll, Cond.code yX7_hearsAll cX7_hearsAll 4 (some .int), Cond.methodLink RL 44 yX6_clear, Cond.instanceMethod yX6_clear, Cond.selects RX6 yX6_clear yX6_clear, Cond.code yX6_clear cX6_clear 2 (some .int), Cond.methodLink RX6 47 yX4_size]
def wsL_law_r18 : List Cond := [Cond.methodLink RX6 60 yX5_begin, Cond.instanceMethod yX5_begin, Cond.selects RX5 yX5_begin yX5_begin, Cond.code yX5_begin cX5_begin 1 none, Cond.methodLink RX5 97 yX2_forget, Cond.instanceMethod yX2_forget, Cond.selects RX2 yX2_forget yX2_forget, Cond.code yX2_forget cX2_forget 1 none, Cond.methodLink RX2 84 yX4_empty, Cond.instanceMethod yX4_empty, Cond.selects RX4 yX4_empty yX4_empty, Cond.code yX4_empty cX4_empty 1 none, Cond.methodLink RX5 100 yX4_empty, Cond.methodLink RL 48 yX7_clear, Cond.instanceMethod yX7_clear, Cond.selects RX7 yX7_clear yX7_clear, Cond.code yX7_clear cX7_clear 3 (some .int), Cond.methodLink RL 49 yX6_letter, Cond.instanceMethod yX6_letter, Cond.selects RX6 yX6_letter yX6_letter, Cond.code yX6_letter cX6_letter 4 (some .int), Cond.methodLink RX6 63 yX6_isNoEditor, Cond.methodLink RX6 70 yX5_editor, Cond.methodLink RX6 79 yX4_at]
def wsL_law_r19 : List Cond := [Cond.methodLink RL 52 yX7_letter, Cond.instanceMethod yX7_letter, Cond.selects RX7 yX7_letter yX7_letter, Cond.code yX7_letter cX7_letter 3 (some .int), Cond.fieldLink RX7 123 "ReshapedTextsModel" "logLong" "I", Cond.methodLink RX7 126 yX7_lay, Cond.instanceMethod yX7_lay, Cond.selects RX7 yX7_lay yX7_lay, Cond.code yX7_lay cX7_lay 5 none, Cond.methodLink RL 53 yX6_editorOf, Cond.instanceMethod yX6_editorOf, Cond.selects RX6 yX6_editorOf yX6_editorOf, Cond.code yX6_editorOf cX6_editorOf 4 (some .int), Cond.methodLink RX6 100 yX4_isSameAs, Cond.instanceMethod yX4_isSameAs, Cond.selects RX4 yX4_isSameAs yX4_isSameAs, Cond.code yX4_isSameAs cX4_isSameAs 3 (some .boolean), Cond.methodLink RX4 30 yX4_at, Cond.methodLink RL 56 yX7_editorOf, Cond.instanceMethod yX7_editorOf, Cond.selects RX7 yX7_editorOf yX7_editorOf, Cond.code yX7_editorOf cX7_editorOf 3 (some .int), Cond.methodLink RX7 129 yX7_isSame, Cond.instanceMethod yX7_isSame]
def wsL_law_r20 : List Cond := [Cond.selects RX7 yX7_isSame yX7_isSame, Cond.code yX7_isSame cX7_isSame 4 (some .boolean), Cond.methodLink RL 57 yX6_waitingOf, Cond.instanceMethod yX6_waitingOf, Cond.selects RX6 yX6_waitingOf yX6_waitingOf, Cond.code yX6_waitingOf cX6_waitingOf 4 (some .int), Cond.methodLink RX6 107 yX6_partOf, Cond.static yX6_partOf, Cond.code yX6_partOf cX6_partOf 3 (some .int), Cond.methodLink RX6 143 yX0_part, Cond.static yX0_part, Cond.code yX0_part cX0_part 3 (some .int), Cond.methodLink RX0 11 yX0_kind, Cond.methodLink RX0 15 yX0_place, Cond.methodLink RX0 18 yX0_sign, Cond.methodLink RX0 21 yX0_writer, Cond.methodLink RL 60 yX7_waitingOf, Cond.instanceMethod yX7_waitingOf, Cond.selects RX7 yX7_waitingOf yX7_waitingOf, Cond.code yX7_waitingOf cX7_waitingOf 4 (some .int), Cond.methodLink RX7 132 yX7_told, Cond.static yX7_told, Cond.code yX7_told cX7_told 3 (some .int), Cond.methodLink RL 61 yX6_logOf]
def wsL_law_r21 : List Cond := [Cond.instanceMethod yX6_logOf, Cond.selects RX6 yX6_logOf yX6_logOf, Cond.code yX6_logOf cX6_logOf 3 (some .int), Cond.methodLink RL 64 yX7_logOf, Cond.instanceMethod yX7_logOf, Cond.selects RX7 yX7_logOf yX7_logOf, Cond.code yX7_logOf cX7_logOf 3 (some .int), Cond.methodLink RL 65 yX6_by, Cond.instanceMethod yX6_by, Cond.selects RX6 yX6_by yX6_by, Cond.code yX6_by cX6_by 2 (some .int), Cond.methodLink RL 68 yX7_by, Cond.instanceMethod yX7_by, Cond.selects RX7 yX7_by yX7_by, Cond.code yX7_by cX7_by 2 (some .int), Cond.methodLink RL 69 yX6_count, Cond.instanceMethod yX6_count, Cond.selects RX6 yX6_count yX6_count, Cond.code yX6_count cX6_count 2 (some .int), Cond.methodLink RX6 114 yX5_nothingsInLog, Cond.instanceMethod yX5_nothingsInLog, Cond.selects RX5 yX5_nothingsInLog yX5_nothingsInLog, Cond.code yX5_nothingsInLog cX5_nothingsInLog 3 (some .int), Cond.methodLink RX5 76 yX4_at]
def wsL_law_r22 : List Cond := [Cond.methodLink RX6 117 yX5_waitingOfAll, Cond.instanceMethod yX5_waitingOfAll, Cond.selects RX5 yX5_waitingOfAll yX5_waitingOfAll, Cond.code yX5_waitingOfAll cX5_waitingOfAll 1 (some .int), Cond.methodLink RX6 120 yX5_settledEditors, Cond.instanceMethod yX5_settledEditors, Cond.selects RX5 yX5_settledEditors yX5_settledEditors, Cond.code yX5_settledEditors cX5_settledEditors 3 (some .int), Cond.methodLink RX5 87 yX2_isSettled, Cond.instanceMethod yX2_isSettled, Cond.selects RX2 yX2_isSettled yX2_isSettled, Cond.code yX2_isSettled cX2_isSettled 2 (some .boolean), Cond.methodLink RL 72 yX7_count, Cond.instanceMethod yX7_count, Cond.selects RX7 yX7_count yX7_count, Cond.code yX7_count cX7_count 2 (some .int), Cond.fieldLink RX7 138 "ReshapedTextsModel" "length" "I", Cond.methodLink RX7 135 yX7_sum, Cond.instanceMethod yX7_sum, Cond.selects RX7 yX7_sum yX7_sum, Cond.code yX7_sum cX7_sum 5 (some .int), Cond.methodLink RL 73 yX6_inTheEnd, Cond.instanceMethod yX6_inTheEnd, Cond.selects RX6 yX6_inTheEnd yX6_inTheEnd]
def wsL_law_r23 : List Cond := [Cond.code yX6_inTheEnd cX6_inTheEnd 3 (some .int), Cond.methodLink RX6 128 yX5_copyEndOf, Cond.instanceMethod yX5_copyEndOf, Cond.selects RX5 yX5_copyEndOf yX5_copyEndOf, Cond.code yX5_copyEndOf cX5_copyEndOf 6 none, Cond.methodLink RX5 111 yX5_copyState, Cond.methodLink RL 76 yX7_inTheEnd, Cond.instanceMethod yX7_inTheEnd, Cond.selects RX7 yX7_inTheEnd yX7_inTheEnd, Cond.code yX7_inTheEnd cX7_inTheEnd 3 (some .int), Cond.methodLink RX7 151 yX7_end, Cond.instanceMethod yX7_end, Cond.selects RX7 yX7_end yX7_end, Cond.code yX7_end cX7_end 5 none, Cond.fieldLink RX7 144 "ReshapedTextsModel" "areSame" "Z", Cond.methodLink RX7 141 yX7_putAside, Cond.instanceMethod yX7_putAside, Cond.selects RX7 yX7_putAside yX7_putAside, Cond.code yX7_putAside cX7_putAside 2 none, Cond.methodLink RX7 148 yX7_putBack, Cond.instanceMethod yX7_putBack, Cond.selects RX7 yX7_putBack yX7_putBack, Cond.code yX7_putBack cX7_putBack 2 none, Cond.methodLink RL 77 yX6_both]
def wsL_law_r24 : List Cond := [Cond.instanceMethod yX6_both, Cond.selects RX6 yX6_both yX6_both, Cond.code yX6_both cX6_both 2 (some .int), Cond.methodLink RX6 132 yX5_isOneText, Cond.instanceMethod yX5_isOneText, Cond.selects RX5 yX5_isOneText yX5_isOneText, Cond.code yX5_isOneText cX5_isOneText 1 (some .boolean), Cond.methodLink RX5 94 yX4_isSameAs, Cond.methodLink RL 80 yX7_both, Cond.instanceMethod yX7_both, Cond.selects RX7 yX7_both yX7_both, Cond.code yX7_both cX7_both 6 (some .int), Cond.methodLink RL 81 yX6_wouldSend, Cond.instanceMethod yX6_wouldSend, Cond.selects RX6 yX6_wouldSend yX6_wouldSend, Cond.code yX6_wouldSend cX6_wouldSend 4 (some .int), Cond.methodLink RX6 136 yX2_canSend, Cond.methodLink RX6 139 yX2_outgoing, Cond.methodLink RL 84 yX7_wouldSend, Cond.instanceMethod yX7_wouldSend, Cond.selects RX7 yX7_wouldSend yX7_wouldSend, Cond.code yX7_wouldSend cX7_wouldSend 3 (some .int), Cond.methodLink RL 85 yX6_undo, Cond.instanceMethod yX6_undo]
def wsL_law_r25 : List Cond := [Cond.selects RX6 yX6_undo yX6_undo, Cond.code yX6_undo cX6_undo 1 (some .int), Cond.methodLink RX6 149 yX3_restore, Cond.instanceMethod yX3_restore, Cond.selects RX3 yX3_restore yX3_restore, Cond.code yX3_restore cX3_restore 3 none, Cond.methodLink RX3 44 Lib.Math.max.name, Cond.methodLink RL 88 yX7_undo, Cond.instanceMethod yX7_undo, Cond.selects RX7 yX7_undo yX7_undo, Cond.code yX7_undo cX7_undo 2 (some .int), Cond.methodLink RL 89 yX6_type, Cond.instanceMethod yX6_type, Cond.selects RX6 yX6_type yX6_type, Cond.code yX6_type cX6_type 2 (some .int), Cond.methodLink RX6 152 yX4_add, Cond.methodLink RL 92 yX7_type, Cond.instanceMethod yX7_type, Cond.selects RX7 yX7_type yX7_type, Cond.code yX7_type cX7_type 2 (some .int), Cond.methodLink RL 93 yX6_clearText, Cond.instanceMethod yX6_clearText, Cond.selects RX6 yX6_clearText yX6_clearText, Cond.code yX6_clearText cX6_clearText 2 (some .int)]
def wsL_law_r26 : List Cond := [Cond.methodLink RX6 156 yX4_empty, Cond.methodLink RL 96 yX7_clearText, Cond.instanceMethod yX7_clearText, Cond.selects RX7 yX7_clearText yX7_clearText, Cond.code yX7_clearText cX7_clearText 2 (some .int), Cond.methodLink RL 97 yX6_fault, Cond.instanceMethod yX6_fault, Cond.selects RX6 yX6_fault yX6_fault, Cond.code yX6_fault cX6_fault 2 (some .int), Cond.methodLink RX6 159 yX5_copyState, Cond.methodLink RX6 162 yX1_runOn, Cond.instanceMethod yX1_runOn, Cond.selects RX1 yX1_runOn yX1_runOn, Cond.code yX1_runOn cX1_runOn 5 none, Cond.fieldLink RX1 23 "ReshapedTexts$Commands" "position" "I", Cond.fieldLink RX1 27 "ReshapedTexts$Commands" "reason" "I", Cond.fieldLink RX1 30 "ReshapedTexts$Commands" "cause" "I", Cond.fieldLink RX1 33 "ReshapedTexts$Commands" "done" "I", Cond.methodLink RX1 36 yX4_size, Cond.methodLink RX1 40 yX1_read, Cond.instanceMethod yX1_read, Cond.selects RX1 yX1_read yX1_read, Cond.code yX1_read cX1_read 7 (some .int), Cond.methodLink RX1 44 yX4_at]
def wsL_law_r27 : List Cond := [Cond.methodLink RX1 53 yX1_numbersOf, Cond.static yX1_numbersOf, Cond.code yX1_numbersOf cX1_numbersOf 1 (some .int), Cond.methodLink RX1 56 yX4_empty, Cond.methodLink RX1 59 yX1_digitsAt, Cond.instanceMethod yX1_digitsAt, Cond.selects RX1 yX1_digitsAt yX1_digitsAt, Cond.code yX1_digitsAt cX1_digitsAt 2 (some .int), Cond.methodLink RX1 69 yX1_isDigit, Cond.static yX1_isDigit, Cond.code yX1_isDigit cX1_isDigit 1 (some .boolean), Cond.methodLink RX1 62 yX1_numberAt, Cond.instanceMethod yX1_numberAt, Cond.selects RX1 yX1_numberAt yX1_numberAt, Cond.code yX1_numberAt cX1_numberAt 4 (some .int), Cond.methodLink RX1 66 yX4_add, Cond.methodLink RX1 47 yX5_answer, Cond.methodLink RL 100 yX7_fault, Cond.instanceMethod yX7_fault, Cond.selects RX7 yX7_fault yX7_fault, Cond.code yX7_fault cX7_fault 2 (some .int), Cond.fieldLink RX7 168 "ReshapedTextsModel" "reason" "I", Cond.fieldLink RX7 171 "ReshapedTextsModel" "position" "I", Cond.fieldLink RX7 180 "ReshapedTextsModel" "cause" "I"]
def wsL_law_r28 : List Cond := [Cond.methodLink RX7 186 yX7_look, Cond.instanceMethod yX7_look, Cond.selects RX7 yX7_look yX7_look, Cond.code yX7_look cX7_look 2 none, Cond.methodLink RX7 183 yX7_go, Cond.instanceMethod yX7_go, Cond.selects RX7 yX7_go yX7_go, Cond.code yX7_go cX7_go 2 (some .int), Cond.fieldLink RX7 155 "ReshapedTextsModel" "at" "I", Cond.fieldLink RX7 158 "ReshapedTextsModel" "isWrong" "Z", Cond.methodLink RX7 174 yX7_read, Cond.instanceMethod yX7_read, Cond.selects RX7 yX7_read yX7_read, Cond.code yX7_read cX7_read 5 none, Cond.methodLink RX7 161 yX7_sign, Cond.instanceMethod yX7_sign, Cond.selects RX7 yX7_sign yX7_sign, Cond.code yX7_sign cX7_sign 4 (some .int), Cond.methodLink RX7 164 yX7_number, Cond.instanceMethod yX7_number, Cond.selects RX7 yX7_number yX7_number, Cond.code yX7_number cX7_number 3 (some .int), Cond.methodLink RX7 177 yX7_does, Cond.instanceMethod yX7_does]
def wsL_law_r29 : List Cond := [Cond.selects RX7 yX7_does yX7_does, Cond.code yX7_does cX7_does 6 (some .int), Cond.methodLink RL 101 yX6_play, Cond.instanceMethod yX6_play, Cond.selects RX6 yX6_play yX6_play, Cond.code yX6_play cX6_play 1 (some .int), Cond.methodLink RL 104 yX7_play, Cond.instanceMethod yX7_play, Cond.selects RX7 yX7_play yX7_play, Cond.code yX7_play cX7_play 1 (some .int)]
def wsL_law : List Cond := (wsL_law_r1 ++ (wsL_law_r2 ++ (wsL_law_r3 ++ (wsL_law_r4 ++ (wsL_law_r5 ++ (wsL_law_r6 ++ (wsL_law_r7 ++ (wsL_law_r8 ++ (wsL_law_r9 ++ (wsL_law_r10 ++ (wsL_law_r11 ++ (wsL_law_r12 ++ (wsL_law_r13 ++ (wsL_law_r14 ++ (wsL_law_r15 ++ (wsL_law_r16 ++ (wsL_law_r17 ++ (wsL_law_r18 ++ (wsL_law_r19 ++ (wsL_law_r20 ++ (wsL_law_r21 ++ (wsL_law_r22 ++ (wsL_law_r23 ++ (wsL_law_r24 ++ (wsL_law_r25 ++ (wsL_law_r26 ++ (wsL_law_r27 ++ (wsL_law_r28 ++ wsL_law_r29)))))))))))))))))))))))))))) ++ wsX60 ++ wsX70 ++ wsX50 ++ wsX30 ++ wsX10 ++ wsX20 ++ wsX40 ++ ([] : List Cond)
theorem lwt_0 {w : Cond} (h : w ∈ k2_sels lw_privs) : w ∈ lw_tbl := List.mem_append_left _ h
theorem lwt_1 {w : Cond} (h : w ∈ tables_1_1) : w ∈ lw_tbl := List.mem_append_right _ (List.mem_append_left _ h)
theorem lwt_2 {w : Cond} (h : w ∈ tables_1_2) : w ∈ lw_tbl := List.mem_append_right _ (List.mem_append_right _ (List.mem_append_left _ h))
theorem lwt_3 {w : Cond} (h : w ∈ tables_1_3) : w ∈ lw_tbl := List.mem_append_right _ (List.mem_append_right _ (List.mem_append_right _ (List.mem_append_left _ h)))
theorem lwt_4 {w : Cond} (h : w ∈ tables_1_4) : w ∈ lw_tbl := List.mem_append_right _ (List.mem_append_right _ (List.mem_append_right _ (List.mem_append_right _ h)))
theorem lw_nilin {P : Cond → Prop} : ∀ w ∈ ([] : List Cond), P w := fun _ h => absurd h List.not_mem_nil
set_option maxRecDepth 20000 in
theorem wsL_rin_1 : ∀ w ∈ wsL_law_r1, w ∈ lw_tbl := List.forall_mem_cons.mpr ⟨lwt_1 (List.mem_of_getElem? (l := tables_1_1) (i := 10) rfl), List.forall_mem_cons.mpr ⟨lwt_1 (List.mem_of_getElem? (l := tables_1_1) (i := 11) rfl), List.forall_mem_cons.mpr ⟨lwt_1 (List.mem_of_getElem? (l := tables_1_1) (i := 1) rfl), List.forall_mem_cons.mpr ⟨lwt_3 (List.mem_of_getElem? (l := tables_1_3) (i := 40) rfl), List.forall_mem_cons.mpr ⟨lwt_3 (List.mem_of_getElem? (l := tables_1_3) (i := 41) rfl), List.forall_mem_cons.mpr ⟨lwt_1 (List.mem_of_getElem? (l := tables_1_1) (i := 8) rfl), List.forall_mem_cons.mpr ⟨lwt_1 (List.mem_of_getElem? (l := tables_1_1) (i := 12) rfl), List.forall_mem_cons.mpr ⟨lwt_1 (List.mem_of_getElem? (l := tables_1_1) (i := 13) rfl), List.forall_mem_cons.mpr ⟨lwt_1 (List.mem_of_getElem? (l := tables_1_1) (i := 14) rfl), List.forall_mem_cons.mpr ⟨lwt_1 (List.mem_of_getElem? (l := tables_1_1) (i := 15) rfl), List.forall_mem_cons.mpr ⟨lwt_1 (List.mem_of_getElem? (l := tables_1_1) (i := 16) rfl), List.forall_mem_cons.mpr ⟨lwt_1 (List.mem_of_getElem? (l := tables_1_1) (i := 17) rfl), List.forall_mem_cons.mpr ⟨lwt_1 (List.mem_of_getElem? (l := tables_1_1) (i := 18) rfl), List.forall_mem_cons.mpr ⟨lwt_1 (List.mem_of_getElem? (l := tables_1_1) (i := 19) rfl), List.forall_mem_cons.mpr ⟨lwt_1 (List.mem_of_getElem? (l := tables_1_1) (i := 2) rfl), List.forall_mem_cons.mpr ⟨lwt_1 (List.mem_of_getElem? (l := tables_1_1) (i := 166) rfl), List.forall_mem_cons.mpr ⟨lwt_1 (List.mem_of_getElem? (l := tables_1_1) (i := 167) rfl), List.forall_mem_cons.mpr ⟨lwt_1 (List.mem_of_getElem? (l := tables_1_1) (i := 168) rfl), List.forall_mem_cons.mpr ⟨lwt_1 (List.mem_of_getElem? (l := tables_1_1) (i := 169) rfl), List.forall_mem_cons.mpr ⟨lwt_1 (List.mem_of_getElem? (l := tables_1_1) (i := 106) rfl), List.forall_mem_cons.mpr ⟨lwt_1 (List.mem_of_getElem? (l := tables_1_1) (i := 107) rfl), List.forall_mem_cons.mpr ⟨lwt_1 (List.mem_of_getElem? (l := tables_1_1) (i := 6) rfl), List.forall_mem_cons.mpr ⟨lwt_1 (List.mem_of_getElem? (l := tables_1_1) (i := 170) rfl), List.forall_mem_cons.mpr ⟨lwt_1 (List.mem_of_getElem? (l := tables_1_1) (i := 134) rfl), lw_nilin⟩⟩⟩⟩⟩⟩⟩⟩⟩⟩⟩⟩⟩⟩⟩⟩⟩⟩⟩⟩⟩⟩⟩⟩
set_option maxRecDepth 20000 in
theorem wsL_rin_2 : ∀ w ∈ wsL_law_r2, w ∈ lw_tbl := List.forall_mem_cons.mpr ⟨lwt_1 (List.mem_of_getElem? (l := tables_1_1) (i := 135) rfl), List.forall_mem_cons.mpr ⟨lwt_1 (List.mem_of_getElem? (l := tables_1_1) (i := 7) rfl), List.forall_mem_cons.mpr ⟨lwt_1 (List.mem_of_getElem? (l := tables_1_1) (i := 171) rfl), List.forall_mem_cons.mpr ⟨lwt_1 (List.mem_of_getElem? (l := tables_1_1) (i := 20) rfl), List.forall_mem_cons.mpr ⟨lwt_1 (List.mem_of_getElem? (l := tables_1_1) (i := 21) rfl), List.forall_mem_cons.mpr ⟨lwt_1 (List.mem_of_getElem? (l := tables_1_1) (i := 22) rfl), List.forall_mem_cons.mpr ⟨lwt_1 (List.mem_of_getElem? (l := tables_1_1) (i := 23) rfl), List.forall_mem_cons.mpr ⟨lwt_1 (List.mem_of_getElem? (l := tables_1_1) (i := 24) rfl), List.forall_mem_cons.mpr ⟨lwt_1 (List.mem_of_getElem? (l := tables_1_1) (i := 25) rfl), List.forall_mem_cons.mpr ⟨lwt_1 (List.mem_of_getElem? (l := tables_1_1) (i := 3) rfl), List.forall_mem_cons.mpr ⟨lwt_1 (List.mem_of_getElem? (l := tables_1_1) (i := 84) rfl), List.forall_mem_cons.mpr ⟨lwt_1 (List.mem_of_getElem? (l := tables_1_1) (i := 85) rfl), List.forall_mem_cons.mpr ⟨lwt_1 (List.mem_of_getElem? (l := tables_1_1) (i := 86) rfl), List.forall_mem_cons.mpr ⟨lwt_1 (List.mem_of_getElem? (l := tables_1_1) (i := 82) rfl), List.forall_mem_cons.mpr ⟨lwt_1 (List.mem_of_getElem? (l := tables_1_1) (i := 31) rfl), List.forall_mem_cons.mpr ⟨lwt_1 (List.mem_of_getElem? (l := tables_1_1) (i := 4) rfl), List.forall_mem_cons.mpr ⟨lwt_1 (List.mem_of_getElem? (l := tables_1_1) (i := 87) rfl), List.forall_mem_cons.mpr ⟨lwt_1 (List.mem_of_getElem? (l := tables_1_1) (i := 89) rfl), List.forall_mem_cons.mpr ⟨lwt_1 (List.mem_of_getElem? (l := tables_1_1) (i := 91) rfl), List.forall_mem_cons.mpr ⟨lwt_1 (List.mem_of_getElem? (l := tables_1_1) (i := 26) rfl), List.forall_mem_cons.mpr ⟨lwt_1 (List.mem_of_getElem? (l := tables_1_1) (i := 27) rfl), List.forall_mem_cons.mpr ⟨lwt_1 (List.mem_of_getElem? (l := tables_1_1) (i := 28) rfl), List.forall_mem_cons.mpr ⟨lwt_1 (List.mem_of_getElem? (l := tables_1_1) (i := 29) rfl), List.forall_mem_cons.mpr ⟨lwt_1 (List.mem_of_getElem? (l := tables_1_1) (i := 47) rfl), lw_nilin⟩⟩⟩⟩⟩⟩⟩⟩⟩⟩⟩⟩⟩⟩⟩⟩⟩⟩⟩⟩⟩⟩⟩⟩
set_option maxRecDepth 20000 in
theorem wsL_rin_3 : ∀ w ∈ wsL_law_r3, w ∈ lw_tbl := List.forall_mem_cons.mpr ⟨lwt_1 (List.mem_of_getElem? (l := tables_1_1) (i := 30) rfl), List.forall_mem_cons.mpr ⟨lwt_1 (List.mem_of_getElem? (l := tables_1_1) (i := 48) rfl), List.forall_mem_cons.mpr ⟨lwt_1 (List.mem_of_getElem? (l := tables_1_1) (i := 51) rfl), List.forall_mem_cons.mpr ⟨lwt_1 (List.mem_of_getElem? (l := tables_1_1) (i := 54) rfl), List.forall_mem_cons.mpr ⟨lwt_1 (List.mem_of_getElem? (l := tables_1_1) (i := 32) rfl), List.forall_mem_cons.mpr ⟨lwt_1 (List.mem_of_getElem? (l := tables_1_1) (i := 33) rfl), List.forall_mem_cons.mpr ⟨lwt_1 (List.mem_of_getElem? (l := tables_1_1) (i := 34) rfl), List.forall_mem_cons.mpr ⟨lwt_1 (List.mem_of_getElem? (l := tables_1_1) (i := 35) rfl), List.forall_mem_cons.mpr ⟨lwt_1 (List.mem_of_getElem? (l := tables_1_1) (i := 36) rfl), List.forall_mem_cons.mpr ⟨lwt_1 (List.mem_of_getElem? (l := tables_1_1) (i := 37) rfl), List.forall_mem_cons.mpr ⟨lwt_1 (List.mem_of_getElem? (l := tables_1_1) (i := 5) rfl), List.forall_mem_cons.mpr ⟨lwt_1 (List.mem_of_getElem? (l := tables_1_1) (i := 38) rfl), List.forall_mem_cons.mpr ⟨lwt_1 (List.mem_of_getElem? (l := tables_1_1) (i := 46) rfl), List.forall_mem_cons.mpr ⟨lwt_1 (List.mem_of_getElem? (l := tables_1_1) (i := 39) rfl), List.forall_mem_cons.mpr ⟨lwt_1 (List.mem_of_getElem? (l := tables_1_1) (i := 40) rfl), List.forall_mem_cons.mpr ⟨lwt_1 (List.mem_of_getElem? (l := tables_1_1) (i := 83) rfl), List.forall_mem_cons.mpr ⟨lwt_1 (List.mem_of_getElem? (l := tables_1_1) (i := 108) rfl), List.forall_mem_cons.mpr ⟨lwt_1 (List.mem_of_getElem? (l := tables_1_1) (i := 109) rfl), List.forall_mem_cons.mpr ⟨lwt_1 (List.mem_of_getElem? (l := tables_1_1) (i := 110) rfl), List.forall_mem_cons.mpr ⟨lwt_1 (List.mem_of_getElem? (l := tables_1_1) (i := 111) rfl), List.forall_mem_cons.mpr ⟨lwt_1 (List.mem_of_getElem? (l := tables_1_1) (i := 112) rfl), List.forall_mem_cons.mpr ⟨lwt_1 (List.mem_of_getElem? (l := tables_1_1) (i := 114) rfl), List.forall_mem_cons.mpr ⟨lwt_1 (List.mem_of_getElem? (l := tables_1_1) (i := 115) rfl), List.forall_mem_cons.mpr ⟨lwt_1 (List.mem_of_getElem? (l := tables_1_1) (i := 116) rfl), lw_nilin⟩⟩⟩⟩⟩⟩⟩⟩⟩⟩⟩⟩⟩⟩⟩⟩⟩⟩⟩⟩⟩⟩⟩⟩
set_option maxRecDepth 20000 in
theorem wsL_rin_4 : ∀ w ∈ wsL_law_r4, w ∈ lw_tbl := List.forall_mem_cons.mpr ⟨lwt_1 (List.mem_of_getElem? (l := tables_1_1) (i := 117) rfl), List.forall_mem_cons.mpr ⟨lwt_1 (List.mem_of_getElem? (l := tables_1_1) (i := 118) rfl), List.forall_mem_cons.mpr ⟨lwt_1 (List.mem_of_getElem? (l := tables_1_1) (i := 113) rfl), List.forall_mem_cons.mpr ⟨lwt_1 (List.mem_of_getElem? (l := tables_1_1) (i := 136) rfl), List.forall_mem_cons.mpr ⟨lwt_1 (List.mem_of_getElem? (l := tables_1_1) (i := 137) rfl), List.forall_mem_cons.mpr ⟨lwt_1 (List.mem_of_getElem? (l := tables_1_1) (i := 138) rfl), List.forall_mem_cons.mpr ⟨lwt_1 (List.mem_of_getElem? (l := tables_1_1) (i := 139) rfl), List.forall_mem_cons.mpr ⟨lwt_1 (List.mem_of_getElem? (l := tables_1_1) (i := 140) rfl), List.forall_mem_cons.mpr ⟨lwt_1 (List.mem_of_getElem? (l := tables_1_1) (i := 142) rfl), List.forall_mem_cons.mpr ⟨lwt_1 (List.mem_of_getElem? (l := tables_1_1) (i := 144) rfl), List.forall_mem_cons.mpr ⟨lwt_1 (List.mem_of_getElem? (l := tables_1_1) (i := 141) rfl), List.forall_mem_cons.mpr ⟨lwt_3 (List.mem_of_getElem? (l := tables_1_3) (i := 42) rfl), List.forall_mem_cons.mpr ⟨lwt_3 (List.mem_of_getElem? (l := tables_1_3) (i := 43) rfl), List.forall_mem_cons.mpr ⟨lwt_3 (List.mem_of_getElem? (l := tables_1_3) (i := 44) rfl), List.forall_mem_cons.mpr ⟨lwt_3 (List.mem_of_getElem? (l := tables_1_3) (i := 45) rfl), List.forall_mem_cons.mpr ⟨lwt_3 (List.mem_of_getElem? (l := tables_1_3) (i := 46) rfl), List.forall_mem_cons.mpr ⟨lwt_3 (List.mem_of_getElem? (l := tables_1_3) (i := 47) rfl), List.forall_mem_cons.mpr ⟨lwt_3 (List.mem_of_getElem? (l := tables_1_3) (i := 48) rfl), List.forall_mem_cons.mpr ⟨lwt_3 (List.mem_of_getElem? (l := tables_1_3) (i := 50) rfl), List.forall_mem_cons.mpr ⟨lwt_3 (List.mem_of_getElem? (l := tables_1_3) (i := 52) rfl), List.forall_mem_cons.mpr ⟨lwt_3 (List.mem_of_getElem? (l := tables_1_3) (i := 53) rfl), List.forall_mem_cons.mpr ⟨lwt_3 (List.mem_of_getElem? (l := tables_1_3) (i := 56) rfl), List.forall_mem_cons.mpr ⟨lwt_3 (List.mem_of_getElem? (l := tables_1_3) (i := 59) rfl), List.forall_mem_cons.mpr ⟨lwt_1 (List.mem_of_getElem? (l := tables_1_1) (i := 185) rfl), lw_nilin⟩⟩⟩⟩⟩⟩⟩⟩⟩⟩⟩⟩⟩⟩⟩⟩⟩⟩⟩⟩⟩⟩⟩⟩
set_option maxRecDepth 20000 in
theorem wsL_rin_5 : ∀ w ∈ wsL_law_r5, w ∈ lw_tbl := List.forall_mem_cons.mpr ⟨lwt_1 (List.mem_of_getElem? (l := tables_1_1) (i := 186) rfl), List.forall_mem_cons.mpr ⟨lwt_1 (List.mem_of_getElem? (l := tables_1_1) (i := 187) rfl), List.forall_mem_cons.mpr ⟨lwt_1 (List.mem_of_getElem? (l := tables_1_1) (i := 188) rfl), List.forall_mem_cons.mpr ⟨lwt_1 (List.mem_of_getElem? (l := tables_1_1) (i := 189) rfl), List.forall_mem_cons.mpr ⟨lwt_1 (List.mem_of_getElem? (l := tables_1_1) (i := 191) rfl), List.forall_mem_cons.mpr ⟨lwt_0 (List.mem_of_getElem? (l := k2_sels lw_privs) (i := 0) rfl), List.forall_mem_cons.mpr ⟨lwt_1 (List.mem_of_getElem? (l := tables_1_1) (i := 192) rfl), List.forall_mem_cons.mpr ⟨lwt_1 (List.mem_of_getElem? (l := tables_1_1) (i := 193) rfl), List.forall_mem_cons.mpr ⟨lwt_1 (List.mem_of_getElem? (l := tables_1_1) (i := 194) rfl), List.forall_mem_cons.mpr ⟨lwt_1 (List.mem_of_getElem? (l := tables_1_1) (i := 195) rfl), List.forall_mem_cons.mpr ⟨lwt_1 (List.mem_of_getElem? (l := tables_1_1) (i := 196) rfl), List.forall_mem_cons.mpr ⟨lwt_1 (List.mem_of_getElem? (l := tables_1_1) (i := 197) rfl), List.forall_mem_cons.mpr ⟨lwt_1 (List.mem_of_getElem? (l := tables_1_1) (i := 198) rfl), List.forall_mem_cons.mpr ⟨lwt_1 (List.mem_of_getElem? (l := tables_1_1) (i := 199) rfl), List.forall_mem_cons.mpr ⟨lwt_1 (List.mem_of_getElem? (l := tables_1_1) (i := 200) rfl), List.forall_mem_cons.mpr ⟨lwt_1 (List.mem_of_getElem? (l := tables_1_1) (i := 201) rfl), List.forall_mem_cons.mpr ⟨lwt_1 (List.mem_of_getElem? (l := tables_1_1) (i := 202) rfl), List.forall_mem_cons.mpr ⟨lwt_1 (List.mem_of_getElem? (l := tables_1_1) (i := 203) rfl), List.forall_mem_cons.mpr ⟨lwt_1 (List.mem_of_getElem? (l := tables_1_1) (i := 204) rfl), List.forall_mem_cons.mpr ⟨lwt_1 (List.mem_of_getElem? (l := tables_1_1) (i := 56) rfl), List.forall_mem_cons.mpr ⟨lwt_1 (List.mem_of_getElem? (l := tables_1_1) (i := 59) rfl), List.forall_mem_cons.mpr ⟨lwt_1 (List.mem_of_getElem? (l := tables_1_1) (i := 61) rfl), List.forall_mem_cons.mpr ⟨lwt_1 (List.mem_of_getElem? (l := tables_1_1) (i := 63) rfl), List.forall_mem_cons.mpr ⟨lwt_1 (List.mem_of_getElem? (l := tables_1_1) (i := 205) rfl), lw_nilin⟩⟩⟩⟩⟩⟩⟩⟩⟩⟩⟩⟩⟩⟩⟩⟩⟩⟩⟩⟩⟩⟩⟩⟩
set_option maxRecDepth 20000 in
theorem wsL_rin_6 : ∀ w ∈ wsL_law_r6, w ∈ lw_tbl := List.forall_mem_cons.mpr ⟨lwt_1 (List.mem_of_getElem? (l := tables_1_1) (i := 206) rfl), List.forall_mem_cons.mpr ⟨lwt_1 (List.mem_of_getElem? (l := tables_1_1) (i := 207) rfl), List.forall_mem_cons.mpr ⟨lwt_1 (List.mem_of_getElem? (l := tables_1_1) (i := 208) rfl), List.forall_mem_cons.mpr ⟨lwt_1 (List.mem_of_getElem? (l := tables_1_1) (i := 209) rfl), List.forall_mem_cons.mpr ⟨lwt_1 (List.mem_of_getElem? (l := tables_1_1) (i := 210) rfl), List.forall_mem_cons.mpr ⟨lwt_1 (List.mem_of_getElem? (l := tables_1_1) (i := 211) rfl), List.forall_mem_cons.mpr ⟨lwt_1 (List.mem_of_getElem? (l := tables_1_1) (i := 212) rfl), List.forall_mem_cons.mpr ⟨lwt_1 (List.mem_of_getElem? (l := tables_1_1) (i := 213) rfl), List.forall_mem_cons.mpr ⟨lwt_1 (List.mem_of_getElem? (l := tables_1_1) (i := 214) rfl), List.forall_mem_cons.mpr ⟨lwt_1 (List.mem_of_getElem? (l := tables_1_1) (i := 215) rfl), List.forall_mem_cons.mpr ⟨lwt_1 (List.mem_of_getElem? (l := tables_1_1) (i := 216) rfl), List.forall_mem_cons.mpr ⟨lwt_1 (List.mem_of_getElem? (l := tables_1_1) (i := 218) rfl), List.forall_mem_cons.mpr ⟨lwt_1 (List.mem_of_getElem? (l := tables_1_1) (i := 219) rfl), List.forall_mem_cons.mpr ⟨lwt_1 (List.mem_of_getElem? (l := tables_1_1) (i := 220) rfl), List.forall_mem_cons.mpr ⟨lwt_1 (List.mem_of_getElem? (l := tables_1_1) (i := 221) rfl), List.forall_mem_cons.mpr ⟨lwt_1 (List.mem_of_getElem? (l := tables_1_1) (i := 222) rfl), List.forall_mem_cons.mpr ⟨lwt_1 (List.mem_of_getElem? (l := tables_1_1) (i := 223) rfl), List.forall_mem_cons.mpr ⟨lwt_1 (List.mem_of_getElem? (l := tables_1_1) (i := 224) rfl), List.forall_mem_cons.mpr ⟨lwt_1 (List.mem_of_getElem? (l := tables_1_1) (i := 225) rfl), List.forall_mem_cons.mpr ⟨lwt_1 (List.mem_of_getElem? (l := tables_1_1) (i := 226) rfl), List.forall_mem_cons.mpr ⟨lwt_1 (List.mem_of_getElem? (l := tables_1_1) (i := 227) rfl), List.forall_mem_cons.mpr ⟨lwt_1 (List.mem_of_getElem? (l := tables_1_1) (i := 228) rfl), List.forall_mem_cons.mpr ⟨lwt_1 (List.mem_of_getElem? (l := tables_1_1) (i := 229) rfl), List.forall_mem_cons.mpr ⟨lwt_1 (List.mem_of_getElem? (l := tables_1_1) (i := 230) rfl), lw_nilin⟩⟩⟩⟩⟩⟩⟩⟩⟩⟩⟩⟩⟩⟩⟩⟩⟩⟩⟩⟩⟩⟩⟩⟩
set_option maxRecDepth 20000 in
theorem wsL_rin_7 : ∀ w ∈ wsL_law_r7, w ∈ lw_tbl := List.forall_mem_cons.mpr ⟨lwt_1 (List.mem_of_getElem? (l := tables_1_1) (i := 231) rfl), List.forall_mem_cons.mpr ⟨lwt_1 (List.mem_of_getElem? (l := tables_1_1) (i := 232) rfl), List.forall_mem_cons.mpr ⟨lwt_1 (List.mem_of_getElem? (l := tables_1_1) (i := 233) rfl), List.forall_mem_cons.mpr ⟨lwt_1 (List.mem_of_getElem? (l := tables_1_1) (i := 9) rfl), List.forall_mem_cons.mpr ⟨lwt_1 (List.mem_of_getElem? (l := tables_1_1) (i := 234) rfl), List.forall_mem_cons.mpr ⟨lwt_1 (List.mem_of_getElem? (l := tables_1_1) (i := 235) rfl), List.forall_mem_cons.mpr ⟨lwt_1 (List.mem_of_getElem? (l := tables_1_1) (i := 237) rfl), List.forall_mem_cons.mpr ⟨lwt_0 (List.mem_of_getElem? (l := k2_sels lw_privs) (i := 1) rfl), List.forall_mem_cons.mpr ⟨lwt_1 (List.mem_of_getElem? (l := tables_1_1) (i := 238) rfl), List.forall_mem_cons.mpr ⟨lwt_1 (List.mem_of_getElem? (l := tables_1_1) (i := 239) rfl), List.forall_mem_cons.mpr ⟨lwt_2 (List.mem_of_getElem? (l := tables_1_2) (i := 1) rfl), List.forall_mem_cons.mpr ⟨lwt_0 (List.mem_of_getElem? (l := k2_sels lw_privs) (i := 2) rfl), List.forall_mem_cons.mpr ⟨lwt_2 (List.mem_of_getElem? (l := tables_1_2) (i := 2) rfl), List.forall_mem_cons.mpr ⟨lwt_2 (List.mem_of_getElem? (l := tables_1_2) (i := 3) rfl), List.forall_mem_cons.mpr ⟨lwt_2 (List.mem_of_getElem? (l := tables_1_2) (i := 4) rfl), List.forall_mem_cons.mpr ⟨lwt_2 (List.mem_of_getElem? (l := tables_1_2) (i := 5) rfl), List.forall_mem_cons.mpr ⟨lwt_2 (List.mem_of_getElem? (l := tables_1_2) (i := 6) rfl), List.forall_mem_cons.mpr ⟨lwt_2 (List.mem_of_getElem? (l := tables_1_2) (i := 7) rfl), List.forall_mem_cons.mpr ⟨lwt_2 (List.mem_of_getElem? (l := tables_1_2) (i := 8) rfl), List.forall_mem_cons.mpr ⟨lwt_2 (List.mem_of_getElem? (l := tables_1_2) (i := 9) rfl), List.forall_mem_cons.mpr ⟨lwt_2 (List.mem_of_getElem? (l := tables_1_2) (i := 10) rfl), List.forall_mem_cons.mpr ⟨lwt_2 (List.mem_of_getElem? (l := tables_1_2) (i := 11) rfl), List.forall_mem_cons.mpr ⟨lwt_2 (List.mem_of_getElem? (l := tables_1_2) (i := 12) rfl), List.forall_mem_cons.mpr ⟨lwt_2 (List.mem_of_getElem? (l := tables_1_2) (i := 13) rfl), lw_nilin⟩⟩⟩⟩⟩⟩⟩⟩⟩⟩⟩⟩⟩⟩⟩⟩⟩⟩⟩⟩⟩⟩⟩⟩
set_option maxRecDepth 20000 in
theorem wsL_rin_8 : ∀ w ∈ wsL_law_r8, w ∈ lw_tbl := List.forall_mem_cons.mpr ⟨lwt_2 (List.mem_of_getElem? (l := tables_1_2) (i := 14) rfl), List.forall_mem_cons.mpr ⟨lwt_2 (List.mem_of_getElem? (l := tables_1_2) (i := 15) rfl), List.forall_mem_cons.mpr ⟨lwt_2 (List.mem_of_getElem? (l := tables_1_2) (i := 16) rfl), List.forall_mem_cons.mpr ⟨lwt_2 (List.mem_of_getElem? (l := tables_1_2) (i := 17) rfl), List.forall_mem_cons.mpr ⟨lwt_2 (List.mem_of_getElem? (l := tables_1_2) (i := 18) rfl), List.forall_mem_cons.mpr ⟨lwt_2 (List.mem_of_getElem? (l := tables_1_2) (i := 19) rfl), List.forall_mem_cons.mpr ⟨lwt_2 (List.mem_of_getElem? (l := tables_1_2) (i := 20) rfl), List.forall_mem_cons.mpr ⟨lwt_2 (List.mem_of_getElem? (l := tables_1_2) (i := 21) rfl), List.forall_mem_cons.mpr ⟨lwt_2 (List.mem_of_getElem? (l := tables_1_2) (i := 22) rfl), List.forall_mem_cons.mpr ⟨lwt_2 (List.mem_of_getElem? (l := tables_1_2) (i := 23) rfl), List.forall_mem_cons.mpr ⟨lwt_2 (List.mem_of_getElem? (l := tables_1_2) (i := 24) rfl), List.forall_mem_cons.mpr ⟨lwt_2 (List.mem_of_getElem? (l := tables_1_2) (i := 25) rfl), List.forall_mem_cons.mpr ⟨lwt_2 (List.mem_of_getElem? (l := tables_1_2) (i := 26) rfl), List.forall_mem_cons.mpr ⟨lwt_2 (List.mem_of_getElem? (l := tables_1_2) (i := 27) rfl), List.forall_mem_cons.mpr ⟨lwt_2 (List.mem_of_getElem? (l := tables_1_2) (i := 28) rfl), List.forall_mem_cons.mpr ⟨lwt_2 (List.mem_of_getElem? (l := tables_1_2) (i := 29) rfl), List.forall_mem_cons.mpr ⟨lwt_2 (List.mem_of_getElem? (l := tables_1_2) (i := 30) rfl), List.forall_mem_cons.mpr ⟨lwt_2 (List.mem_of_getElem? (l := tables_1_2) (i := 31) rfl), List.forall_mem_cons.mpr ⟨lwt_2 (List.mem_of_getElem? (l := tables_1_2) (i := 32) rfl), List.forall_mem_cons.mpr ⟨lwt_2 (List.mem_of_getElem? (l := tables_1_2) (i := 33) rfl), List.forall_mem_cons.mpr ⟨lwt_2 (List.mem_of_getElem? (l := tables_1_2) (i := 34) rfl), List.forall_mem_cons.mpr ⟨lwt_2 (List.mem_of_getElem? (l := tables_1_2) (i := 35) rfl), List.forall_mem_cons.mpr ⟨lwt_2 (List.mem_of_getElem? (l := tables_1_2) (i := 36) rfl), List.forall_mem_cons.mpr ⟨lwt_2 (List.mem_of_getElem? (l := tables_1_2) (i := 38) rfl), lw_nilin⟩⟩⟩⟩⟩⟩⟩⟩⟩⟩⟩⟩⟩⟩⟩⟩⟩⟩⟩⟩⟩⟩⟩⟩
set_option maxRecDepth 20000 in
theorem wsL_rin_9 : ∀ w ∈ wsL_law_r9, w ∈ lw_tbl := List.forall_mem_cons.mpr ⟨lwt_0 (List.mem_of_getElem? (l := k2_sels lw_privs) (i := 3) rfl), List.forall_mem_cons.mpr ⟨lwt_2 (List.mem_of_getElem? (l := tables_1_2) (i := 39) rfl), List.forall_mem_cons.mpr ⟨lwt_2 (List.mem_of_getElem? (l := tables_1_2) (i := 40) rfl), List.forall_mem_cons.mpr ⟨lwt_2 (List.mem_of_getElem? (l := tables_1_2) (i := 41) rfl), List.forall_mem_cons.mpr ⟨lwt_2 (List.mem_of_getElem? (l := tables_1_2) (i := 42) rfl), List.forall_mem_cons.mpr ⟨lwt_2 (List.mem_of_getElem? (l := tables_1_2) (i := 43) rfl), List.forall_mem_cons.mpr ⟨lwt_2 (List.mem_of_getElem? (l := tables_1_2) (i := 44) rfl), List.forall_mem_cons.mpr ⟨lwt_2 (List.mem_of_getElem? (l := tables_1_2) (i := 45) rfl), List.forall_mem_cons.mpr ⟨lwt_2 (List.mem_of_getElem? (l := tables_1_2) (i := 46) rfl), List.forall_mem_cons.mpr ⟨lwt_2 (List.mem_of_getElem? (l := tables_1_2) (i := 47) rfl), List.forall_mem_cons.mpr ⟨lwt_2 (List.mem_of_getElem? (l := tables_1_2) (i := 48) rfl), List.forall_mem_cons.mpr ⟨lwt_2 (List.mem_of_getElem? (l := tables_1_2) (i := 49) rfl), List.forall_mem_cons.mpr ⟨lwt_2 (List.mem_of_getElem? (l := tables_1_2) (i := 50) rfl), List.forall_mem_cons.mpr ⟨lwt_2 (List.mem_of_getElem? (l := tables_1_2) (i := 51) rfl), List.forall_mem_cons.mpr ⟨lwt_2 (List.mem_of_getElem? (l := tables_1_2) (i := 52) rfl), List.forall_mem_cons.mpr ⟨lwt_2 (List.mem_of_getElem? (l := tables_1_2) (i := 54) rfl), List.forall_mem_cons.mpr ⟨lwt_0 (List.mem_of_getElem? (l := k2_sels lw_privs) (i := 4) rfl), List.forall_mem_cons.mpr ⟨lwt_2 (List.mem_of_getElem? (l := tables_1_2) (i := 55) rfl), List.forall_mem_cons.mpr ⟨lwt_2 (List.mem_of_getElem? (l := tables_1_2) (i := 56) rfl), List.forall_mem_cons.mpr ⟨lwt_2 (List.mem_of_getElem? (l := tables_1_2) (i := 57) rfl), List.forall_mem_cons.mpr ⟨lwt_2 (List.mem_of_getElem? (l := tables_1_2) (i := 58) rfl), List.forall_mem_cons.mpr ⟨lwt_2 (List.mem_of_getElem? (l := tables_1_2) (i := 59) rfl), List.forall_mem_cons.mpr ⟨lwt_2 (List.mem_of_getElem? (l := tables_1_2) (i := 60) rfl), List.forall_mem_cons.mpr ⟨lwt_2 (List.mem_of_getElem? (l := tables_1_2) (i := 61) rfl), lw_nilin⟩⟩⟩⟩⟩⟩⟩⟩⟩⟩⟩⟩⟩⟩⟩⟩⟩⟩⟩⟩⟩⟩⟩⟩
set_option maxRecDepth 20000 in
theorem wsL_rin_10 : ∀ w ∈ wsL_law_r10, w ∈ lw_tbl := List.forall_mem_cons.mpr ⟨lwt_2 (List.mem_of_getElem? (l := tables_1_2) (i := 63) rfl), List.forall_mem_cons.mpr ⟨lwt_0 (List.mem_of_getElem? (l := k2_sels lw_privs) (i := 5) rfl), List.forall_mem_cons.mpr ⟨lwt_2 (List.mem_of_getElem? (l := tables_1_2) (i := 64) rfl), List.forall_mem_cons.mpr ⟨lwt_2 (List.mem_of_getElem? (l := tables_1_2) (i := 65) rfl), List.forall_mem_cons.mpr ⟨lwt_2 (List.mem_of_getElem? (l := tables_1_2) (i := 66) rfl), List.forall_mem_cons.mpr ⟨lwt_2 (List.mem_of_getElem? (l := tables_1_2) (i := 67) rfl), List.forall_mem_cons.mpr ⟨lwt_2 (List.mem_of_getElem? (l := tables_1_2) (i := 68) rfl), List.forall_mem_cons.mpr ⟨lwt_2 (List.mem_of_getElem? (l := tables_1_2) (i := 69) rfl), List.forall_mem_cons.mpr ⟨lwt_2 (List.mem_of_getElem? (l := tables_1_2) (i := 70) rfl), List.forall_mem_cons.mpr ⟨lwt_2 (List.mem_of_getElem? (l := tables_1_2) (i := 71) rfl), List.forall_mem_cons.mpr ⟨lwt_2 (List.mem_of_getElem? (l := tables_1_2) (i := 72) rfl), List.forall_mem_cons.mpr ⟨lwt_2 (List.mem_of_getElem? (l := tables_1_2) (i := 73) rfl), List.forall_mem_cons.mpr ⟨lwt_2 (List.mem_of_getElem? (l := tables_1_2) (i := 74) rfl), List.forall_mem_cons.mpr ⟨lwt_2 (List.mem_of_getElem? (l := tables_1_2) (i := 75) rfl), List.forall_mem_cons.mpr ⟨lwt_2 (List.mem_of_getElem? (l := tables_1_2) (i := 76) rfl), List.forall_mem_cons.mpr ⟨lwt_2 (List.mem_of_getElem? (l := tables_1_2) (i := 77) rfl), List.forall_mem_cons.mpr ⟨lwt_2 (List.mem_of_getElem? (l := tables_1_2) (i := 78) rfl), List.forall_mem_cons.mpr ⟨lwt_2 (List.mem_of_getElem? (l := tables_1_2) (i := 79) rfl), List.forall_mem_cons.mpr ⟨lwt_2 (List.mem_of_getElem? (l := tables_1_2) (i := 80) rfl), List.forall_mem_cons.mpr ⟨lwt_2 (List.mem_of_getElem? (l := tables_1_2) (i := 81) rfl), List.forall_mem_cons.mpr ⟨lwt_2 (List.mem_of_getElem? (l := tables_1_2) (i := 82) rfl), List.forall_mem_cons.mpr ⟨lwt_2 (List.mem_of_getElem? (l := tables_1_2) (i := 83) rfl), List.forall_mem_cons.mpr ⟨lwt_2 (List.mem_of_getElem? (l := tables_1_2) (i := 84) rfl), List.forall_mem_cons.mpr ⟨lwt_2 (List.mem_of_getElem? (l := tables_1_2) (i := 85) rfl), lw_nilin⟩⟩⟩⟩⟩⟩⟩⟩⟩⟩⟩⟩⟩⟩⟩⟩⟩⟩⟩⟩⟩⟩⟩⟩
set_option maxRecDepth 20000 in
theorem wsL_rin_11 : ∀ w ∈ wsL_law_r11, w ∈ lw_tbl := List.forall_mem_cons.mpr ⟨lwt_2 (List.mem_of_getElem? (l := tables_1_2) (i := 86) rfl), List.forall_mem_cons.mpr ⟨lwt_2 (List.mem_of_getElem? (l := tables_1_2) (i := 87) rfl), List.forall_mem_cons.mpr ⟨lwt_2 (List.mem_of_getElem? (l := tables_1_2) (i := 88) rfl), List.forall_mem_cons.mpr ⟨lwt_2 (List.mem_of_getElem? (l := tables_1_2) (i := 89) rfl), List.forall_mem_cons.mpr ⟨lwt_2 (List.mem_of_getElem? (l := tables_1_2) (i := 90) rfl), List.forall_mem_cons.mpr ⟨lwt_2 (List.mem_of_getElem? (l := tables_1_2) (i := 91) rfl), List.forall_mem_cons.mpr ⟨lwt_2 (List.mem_of_getElem? (l := tables_1_2) (i := 92) rfl), List.forall_mem_cons.mpr ⟨lwt_2 (List.mem_of_getElem? (l := tables_1_2) (i := 93) rfl), List.forall_mem_cons.mpr ⟨lwt_2 (List.mem_of_getElem? (l := tables_1_2) (i := 94) rfl), List.forall_mem_cons.mpr ⟨lwt_2 (List.mem_of_getElem? (l := tables_1_2) (i := 95) rfl), List.forall_mem_cons.mpr ⟨lwt_2 (List.mem_of_getElem? (l := tables_1_2) (i := 96) rfl), List.forall_mem_cons.mpr ⟨lwt_2 (List.mem_of_getElem? (l := tables_1_2) (i := 97) rfl), List.forall_mem_cons.mpr ⟨lwt_2 (List.mem_of_getElem? (l := tables_1_2) (i := 98) rfl), List.forall_mem_cons.mpr ⟨lwt_1 (List.mem_of_getElem? (l := tables_1_1) (i := 119) rfl), List.forall_mem_cons.mpr ⟨lwt_2 (List.mem_of_getElem? (l := tables_1_2) (i := 99) rfl), List.forall_mem_cons.mpr ⟨lwt_3 (List.mem_of_getElem? (l := tables_1_3) (i := 98) rfl), List.forall_mem_cons.mpr ⟨lwt_3 (List.mem_of_getElem? (l := tables_1_3) (i := 99) rfl), List.forall_mem_cons.mpr ⟨lwt_3 (List.mem_of_getElem? (l := tables_1_3) (i := 100) rfl), List.forall_mem_cons.mpr ⟨lwt_3 (List.mem_of_getElem? (l := tables_1_3) (i := 101) rfl), List.forall_mem_cons.mpr ⟨lwt_3 (List.mem_of_getElem? (l := tables_1_3) (i := 102) rfl), List.forall_mem_cons.mpr ⟨lwt_3 (List.mem_of_getElem? (l := tables_1_3) (i := 104) rfl), List.forall_mem_cons.mpr ⟨lwt_0 (List.mem_of_getElem? (l := k2_sels lw_privs) (i := 9) rfl), List.forall_mem_cons.mpr ⟨lwt_3 (List.mem_of_getElem? (l := tables_1_3) (i := 105) rfl), List.forall_mem_cons.mpr ⟨lwt_3 (List.mem_of_getElem? (l := tables_1_3) (i := 106) rfl), lw_nilin⟩⟩⟩⟩⟩⟩⟩⟩⟩⟩⟩⟩⟩⟩⟩⟩⟩⟩⟩⟩⟩⟩⟩⟩
set_option maxRecDepth 20000 in
theorem wsL_rin_12 : ∀ w ∈ wsL_law_r12, w ∈ lw_tbl := List.forall_mem_cons.mpr ⟨lwt_3 (List.mem_of_getElem? (l := tables_1_3) (i := 107) rfl), List.forall_mem_cons.mpr ⟨lwt_3 (List.mem_of_getElem? (l := tables_1_3) (i := 108) rfl), List.forall_mem_cons.mpr ⟨lwt_3 (List.mem_of_getElem? (l := tables_1_3) (i := 109) rfl), List.forall_mem_cons.mpr ⟨lwt_3 (List.mem_of_getElem? (l := tables_1_3) (i := 110) rfl), List.forall_mem_cons.mpr ⟨lwt_3 (List.mem_of_getElem? (l := tables_1_3) (i := 111) rfl), List.forall_mem_cons.mpr ⟨lwt_3 (List.mem_of_getElem? (l := tables_1_3) (i := 112) rfl), List.forall_mem_cons.mpr ⟨lwt_3 (List.mem_of_getElem? (l := tables_1_3) (i := 113) rfl), List.forall_mem_cons.mpr ⟨lwt_3 (List.mem_of_getElem? (l := tables_1_3) (i := 114) rfl), List.forall_mem_cons.mpr ⟨lwt_3 (List.mem_of_getElem? (l := tables_1_3) (i := 115) rfl), List.forall_mem_cons.mpr ⟨lwt_3 (List.mem_of_getElem? (l := tables_1_3) (i := 117) rfl), List.forall_mem_cons.mpr ⟨lwt_0 (List.mem_of_getElem? (l := k2_sels lw_privs) (i := 10) rfl), List.forall_mem_cons.mpr ⟨lwt_3 (List.mem_of_getElem? (l := tables_1_3) (i := 118) rfl), List.forall_mem_cons.mpr ⟨lwt_3 (List.mem_of_getElem? (l := tables_1_3) (i := 49) rfl), List.forall_mem_cons.mpr ⟨lwt_3 (List.mem_of_getElem? (l := tables_1_3) (i := 119) rfl), List.forall_mem_cons.mpr ⟨lwt_3 (List.mem_of_getElem? (l := tables_1_3) (i := 121) rfl), List.forall_mem_cons.mpr ⟨lwt_0 (List.mem_of_getElem? (l := k2_sels lw_privs) (i := 11) rfl), List.forall_mem_cons.mpr ⟨lwt_3 (List.mem_of_getElem? (l := tables_1_3) (i := 122) rfl), List.forall_mem_cons.mpr ⟨lwt_3 (List.mem_of_getElem? (l := tables_1_3) (i := 123) rfl), List.forall_mem_cons.mpr ⟨lwt_3 (List.mem_of_getElem? (l := tables_1_3) (i := 124) rfl), List.forall_mem_cons.mpr ⟨lwt_3 (List.mem_of_getElem? (l := tables_1_3) (i := 125) rfl), List.forall_mem_cons.mpr ⟨lwt_3 (List.mem_of_getElem? (l := tables_1_3) (i := 126) rfl), List.forall_mem_cons.mpr ⟨lwt_3 (List.mem_of_getElem? (l := tables_1_3) (i := 128) rfl), List.forall_mem_cons.mpr ⟨lwt_0 (List.mem_of_getElem? (l := k2_sels lw_privs) (i := 12) rfl), List.forall_mem_cons.mpr ⟨lwt_3 (List.mem_of_getElem? (l := tables_1_3) (i := 129) rfl), lw_nilin⟩⟩⟩⟩⟩⟩⟩⟩⟩⟩⟩⟩⟩⟩⟩⟩⟩⟩⟩⟩⟩⟩⟩⟩
set_option maxRecDepth 20000 in
theorem wsL_rin_13 : ∀ w ∈ wsL_law_r13, w ∈ lw_tbl := List.forall_mem_cons.mpr ⟨lwt_3 (List.mem_of_getElem? (l := tables_1_3) (i := 130) rfl), List.forall_mem_cons.mpr ⟨lwt_3 (List.mem_of_getElem? (l := tables_1_3) (i := 132) rfl), List.forall_mem_cons.mpr ⟨lwt_0 (List.mem_of_getElem? (l := k2_sels lw_privs) (i := 13) rfl), List.forall_mem_cons.mpr ⟨lwt_3 (List.mem_of_getElem? (l := tables_1_3) (i := 133) rfl), List.forall_mem_cons.mpr ⟨lwt_3 (List.mem_of_getElem? (l := tables_1_3) (i := 134) rfl), List.forall_mem_cons.mpr ⟨lwt_3 (List.mem_of_getElem? (l := tables_1_3) (i := 135) rfl), List.forall_mem_cons.mpr ⟨lwt_3 (List.mem_of_getElem? (l := tables_1_3) (i := 136) rfl), List.forall_mem_cons.mpr ⟨lwt_3 (List.mem_of_getElem? (l := tables_1_3) (i := 137) rfl), List.forall_mem_cons.mpr ⟨lwt_3 (List.mem_of_getElem? (l := tables_1_3) (i := 138) rfl), List.forall_mem_cons.mpr ⟨lwt_3 (List.mem_of_getElem? (l := tables_1_3) (i := 139) rfl), List.forall_mem_cons.mpr ⟨lwt_3 (List.mem_of_getElem? (l := tables_1_3) (i := 140) rfl), List.forall_mem_cons.mpr ⟨lwt_3 (List.mem_of_getElem? (l := tables_1_3) (i := 141) rfl), List.forall_mem_cons.mpr ⟨lwt_3 (List.mem_of_getElem? (l := tables_1_3) (i := 142) rfl), List.forall_mem_cons.mpr ⟨lwt_3 (List.mem_of_getElem? (l := tables_1_3) (i := 143) rfl), List.forall_mem_cons.mpr ⟨lwt_3 (List.mem_of_getElem? (l := tables_1_3) (i := 144) rfl), List.forall_mem_cons.mpr ⟨lwt_3 (List.mem_of_getElem? (l := tables_1_3) (i := 145) rfl), List.forall_mem_cons.mpr ⟨lwt_3 (List.mem_of_getElem? (l := tables_1_3) (i := 146) rfl), List.forall_mem_cons.mpr ⟨lwt_3 (List.mem_of_getElem? (l := tables_1_3) (i := 147) rfl), List.forall_mem_cons.mpr ⟨lwt_3 (List.mem_of_getElem? (l := tables_1_3) (i := 148) rfl), List.forall_mem_cons.mpr ⟨lwt_3 (List.mem_of_getElem? (l := tables_1_3) (i := 149) rfl), List.forall_mem_cons.mpr ⟨lwt_3 (List.mem_of_getElem? (l := tables_1_3) (i := 151) rfl), List.forall_mem_cons.mpr ⟨lwt_0 (List.mem_of_getElem? (l := k2_sels lw_privs) (i := 14) rfl), List.forall_mem_cons.mpr ⟨lwt_3 (List.mem_of_getElem? (l := tables_1_3) (i := 152) rfl), List.forall_mem_cons.mpr ⟨lwt_2 (List.mem_of_getElem? (l := tables_1_2) (i := 100) rfl), lw_nilin⟩⟩⟩⟩⟩⟩⟩⟩⟩⟩⟩⟩⟩⟩⟩⟩⟩⟩⟩⟩⟩⟩⟩⟩
set_option maxRecDepth 20000 in
theorem wsL_rin_14 : ∀ w ∈ wsL_law_r14, w ∈ lw_tbl := List.forall_mem_cons.mpr ⟨lwt_2 (List.mem_of_getElem? (l := tables_1_2) (i := 101) rfl), List.forall_mem_cons.mpr ⟨lwt_2 (List.mem_of_getElem? (l := tables_1_2) (i := 102) rfl), List.forall_mem_cons.mpr ⟨lwt_2 (List.mem_of_getElem? (l := tables_1_2) (i := 103) rfl), List.forall_mem_cons.mpr ⟨lwt_3 (List.mem_of_getElem? (l := tables_1_3) (i := 153) rfl), List.forall_mem_cons.mpr ⟨lwt_3 (List.mem_of_getElem? (l := tables_1_3) (i := 154) rfl), List.forall_mem_cons.mpr ⟨lwt_3 (List.mem_of_getElem? (l := tables_1_3) (i := 155) rfl), List.forall_mem_cons.mpr ⟨lwt_3 (List.mem_of_getElem? (l := tables_1_3) (i := 156) rfl), List.forall_mem_cons.mpr ⟨lwt_3 (List.mem_of_getElem? (l := tables_1_3) (i := 157) rfl), List.forall_mem_cons.mpr ⟨lwt_3 (List.mem_of_getElem? (l := tables_1_3) (i := 159) rfl), List.forall_mem_cons.mpr ⟨lwt_0 (List.mem_of_getElem? (l := k2_sels lw_privs) (i := 15) rfl), List.forall_mem_cons.mpr ⟨lwt_3 (List.mem_of_getElem? (l := tables_1_3) (i := 160) rfl), List.forall_mem_cons.mpr ⟨lwt_3 (List.mem_of_getElem? (l := tables_1_3) (i := 161) rfl), List.forall_mem_cons.mpr ⟨lwt_3 (List.mem_of_getElem? (l := tables_1_3) (i := 163) rfl), List.forall_mem_cons.mpr ⟨lwt_0 (List.mem_of_getElem? (l := k2_sels lw_privs) (i := 16) rfl), List.forall_mem_cons.mpr ⟨lwt_3 (List.mem_of_getElem? (l := tables_1_3) (i := 164) rfl), List.forall_mem_cons.mpr ⟨lwt_2 (List.mem_of_getElem? (l := tables_1_2) (i := 104) rfl), List.forall_mem_cons.mpr ⟨lwt_2 (List.mem_of_getElem? (l := tables_1_2) (i := 105) rfl), List.forall_mem_cons.mpr ⟨lwt_2 (List.mem_of_getElem? (l := tables_1_2) (i := 106) rfl), List.forall_mem_cons.mpr ⟨lwt_2 (List.mem_of_getElem? (l := tables_1_2) (i := 107) rfl), List.forall_mem_cons.mpr ⟨lwt_3 (List.mem_of_getElem? (l := tables_1_3) (i := 165) rfl), List.forall_mem_cons.mpr ⟨lwt_3 (List.mem_of_getElem? (l := tables_1_3) (i := 166) rfl), List.forall_mem_cons.mpr ⟨lwt_3 (List.mem_of_getElem? (l := tables_1_3) (i := 167) rfl), List.forall_mem_cons.mpr ⟨lwt_3 (List.mem_of_getElem? (l := tables_1_3) (i := 168) rfl), List.forall_mem_cons.mpr ⟨lwt_3 (List.mem_of_getElem? (l := tables_1_3) (i := 169) rfl), lw_nilin⟩⟩⟩⟩⟩⟩⟩⟩⟩⟩⟩⟩⟩⟩⟩⟩⟩⟩⟩⟩⟩⟩⟩⟩
set_option maxRecDepth 20000 in
theorem wsL_rin_15 : ∀ w ∈ wsL_law_r15, w ∈ lw_tbl := List.forall_mem_cons.mpr ⟨lwt_3 (List.mem_of_getElem? (l := tables_1_3) (i := 171) rfl), List.forall_mem_cons.mpr ⟨lwt_0 (List.mem_of_getElem? (l := k2_sels lw_privs) (i := 17) rfl), List.forall_mem_cons.mpr ⟨lwt_3 (List.mem_of_getElem? (l := tables_1_3) (i := 172) rfl), List.forall_mem_cons.mpr ⟨lwt_3 (List.mem_of_getElem? (l := tables_1_3) (i := 173) rfl), List.forall_mem_cons.mpr ⟨lwt_3 (List.mem_of_getElem? (l := tables_1_3) (i := 175) rfl), List.forall_mem_cons.mpr ⟨lwt_0 (List.mem_of_getElem? (l := k2_sels lw_privs) (i := 18) rfl), List.forall_mem_cons.mpr ⟨lwt_3 (List.mem_of_getElem? (l := tables_1_3) (i := 176) rfl), List.forall_mem_cons.mpr ⟨lwt_2 (List.mem_of_getElem? (l := tables_1_2) (i := 108) rfl), List.forall_mem_cons.mpr ⟨lwt_2 (List.mem_of_getElem? (l := tables_1_2) (i := 109) rfl), List.forall_mem_cons.mpr ⟨lwt_2 (List.mem_of_getElem? (l := tables_1_2) (i := 110) rfl), List.forall_mem_cons.mpr ⟨lwt_2 (List.mem_of_getElem? (l := tables_1_2) (i := 111) rfl), List.forall_mem_cons.mpr ⟨lwt_3 (List.mem_of_getElem? (l := tables_1_3) (i := 177) rfl), List.forall_mem_cons.mpr ⟨lwt_3 (List.mem_of_getElem? (l := tables_1_3) (i := 178) rfl), List.forall_mem_cons.mpr ⟨lwt_3 (List.mem_of_getElem? (l := tables_1_3) (i := 179) rfl), List.forall_mem_cons.mpr ⟨lwt_3 (List.mem_of_getElem? (l := tables_1_3) (i := 180) rfl), List.forall_mem_cons.mpr ⟨lwt_2 (List.mem_of_getElem? (l := tables_1_2) (i := 112) rfl), List.forall_mem_cons.mpr ⟨lwt_2 (List.mem_of_getElem? (l := tables_1_2) (i := 113) rfl), List.forall_mem_cons.mpr ⟨lwt_2 (List.mem_of_getElem? (l := tables_1_2) (i := 114) rfl), List.forall_mem_cons.mpr ⟨lwt_2 (List.mem_of_getElem? (l := tables_1_2) (i := 115) rfl), List.forall_mem_cons.mpr ⟨lwt_3 (List.mem_of_getElem? (l := tables_1_3) (i := 181) rfl), List.forall_mem_cons.mpr ⟨lwt_3 (List.mem_of_getElem? (l := tables_1_3) (i := 182) rfl), List.forall_mem_cons.mpr ⟨lwt_3 (List.mem_of_getElem? (l := tables_1_3) (i := 183) rfl), List.forall_mem_cons.mpr ⟨lwt_3 (List.mem_of_getElem? (l := tables_1_3) (i := 184) rfl), List.forall_mem_cons.mpr ⟨lwt_3 (List.mem_of_getElem? (l := tables_1_3) (i := 185) rfl), lw_nilin⟩⟩⟩⟩⟩⟩⟩⟩⟩⟩⟩⟩⟩⟩⟩⟩⟩⟩⟩⟩⟩⟩⟩⟩
set_option maxRecDepth 20000 in
theorem wsL_rin_16 : ∀ w ∈ wsL_law_r16, w ∈ lw_tbl := List.forall_mem_cons.mpr ⟨lwt_3 (List.mem_of_getElem? (l := tables_1_3) (i := 187) rfl), List.forall_mem_cons.mpr ⟨lwt_0 (List.mem_of_getElem? (l := k2_sels lw_privs) (i := 19) rfl), List.forall_mem_cons.mpr ⟨lwt_3 (List.mem_of_getElem? (l := tables_1_3) (i := 188) rfl), List.forall_mem_cons.mpr ⟨lwt_3 (List.mem_of_getElem? (l := tables_1_3) (i := 189) rfl), List.forall_mem_cons.mpr ⟨lwt_3 (List.mem_of_getElem? (l := tables_1_3) (i := 191) rfl), List.forall_mem_cons.mpr ⟨lwt_0 (List.mem_of_getElem? (l := k2_sels lw_privs) (i := 20) rfl), List.forall_mem_cons.mpr ⟨lwt_3 (List.mem_of_getElem? (l := tables_1_3) (i := 192) rfl), List.forall_mem_cons.mpr ⟨lwt_3 (List.mem_of_getElem? (l := tables_1_3) (i := 193) rfl), List.forall_mem_cons.mpr ⟨lwt_3 (List.mem_of_getElem? (l := tables_1_3) (i := 195) rfl), List.forall_mem_cons.mpr ⟨lwt_0 (List.mem_of_getElem? (l := k2_sels lw_privs) (i := 21) rfl), List.forall_mem_cons.mpr ⟨lwt_3 (List.mem_of_getElem? (l := tables_1_3) (i := 196) rfl), List.forall_mem_cons.mpr ⟨lwt_3 (List.mem_of_getElem? (l := tables_1_3) (i := 197) rfl), List.forall_mem_cons.mpr ⟨lwt_3 (List.mem_of_getElem? (l := tables_1_3) (i := 199) rfl), List.forall_mem_cons.mpr ⟨lwt_0 (List.mem_of_getElem? (l := k2_sels lw_privs) (i := 22) rfl), List.forall_mem_cons.mpr ⟨lwt_3 (List.mem_of_getElem? (l := tables_1_3) (i := 200) rfl), List.forall_mem_cons.mpr ⟨lwt_2 (List.mem_of_getElem? (l := tables_1_2) (i := 116) rfl), List.forall_mem_cons.mpr ⟨lwt_2 (List.mem_of_getElem? (l := tables_1_2) (i := 117) rfl), List.forall_mem_cons.mpr ⟨lwt_2 (List.mem_of_getElem? (l := tables_1_2) (i := 118) rfl), List.forall_mem_cons.mpr ⟨lwt_2 (List.mem_of_getElem? (l := tables_1_2) (i := 119) rfl), List.forall_mem_cons.mpr ⟨lwt_3 (List.mem_of_getElem? (l := tables_1_3) (i := 201) rfl), List.forall_mem_cons.mpr ⟨lwt_3 (List.mem_of_getElem? (l := tables_1_3) (i := 202) rfl), List.forall_mem_cons.mpr ⟨lwt_3 (List.mem_of_getElem? (l := tables_1_3) (i := 203) rfl), List.forall_mem_cons.mpr ⟨lwt_3 (List.mem_of_getElem? (l := tables_1_3) (i := 204) rfl), List.forall_mem_cons.mpr ⟨lwt_3 (List.mem_of_getElem? (l := tables_1_3) (i := 205) rfl), lw_nilin⟩⟩⟩⟩⟩⟩⟩⟩⟩⟩⟩⟩⟩⟩⟩⟩⟩⟩⟩⟩⟩⟩⟩⟩
set_option maxRecDepth 20000 in
theorem wsL_rin_17 : ∀ w ∈ wsL_law_r17, w ∈ lw_tbl := List.forall_mem_cons.mpr ⟨lwt_3 (List.mem_of_getElem? (l := tables_1_3) (i := 207) rfl), List.forall_mem_cons.mpr ⟨lwt_0 (List.mem_of_getElem? (l := k2_sels lw_privs) (i := 23) rfl), List.forall_mem_cons.mpr ⟨lwt_3 (List.mem_of_getElem? (l := tables_1_3) (i := 208) rfl), List.forall_mem_cons.mpr ⟨lwt_3 (List.mem_of_getElem? (l := tables_1_3) (i := 209) rfl), List.forall_mem_cons.mpr ⟨lwt_3 (List.mem_of_getElem? (l := tables_1_3) (i := 211) rfl), List.forall_mem_cons.mpr ⟨lwt_0 (List.mem_of_getElem? (l := k2_sels lw_privs) (i := 24) rfl), List.forall_mem_cons.mpr ⟨lwt_3 (List.mem_of_getElem? (l := tables_1_3) (i := 212) rfl), List.forall_mem_cons.mpr ⟨lwt_2 (List.mem_of_getElem? (l := tables_1_2) (i := 120) rfl), List.forall_mem_cons.mpr ⟨lwt_2 (List.mem_of_getElem? (l := tables_1_2) (i := 121) rfl), List.forall_mem_cons.mpr ⟨lwt_2 (List.mem_of_getElem? (l := tables_1_2) (i := 122) rfl), List.forall_mem_cons.mpr ⟨lwt_2 (List.mem_of_getElem? (l := tables_1_2) (i := 123) rfl), List.forall_mem_cons.mpr ⟨lwt_3 (List.mem_of_getElem? (l := tables_1_3) (i := 213) rfl), List.forall_mem_cons.mpr ⟨lwt_3 (List.mem_of_getElem? (l := tables_1_3) (i := 214) rfl), List.forall_mem_cons.mpr ⟨lwt_3 (List.mem_of_getElem? (l := tables_1_3) (i := 215) rfl), List.forall_mem_cons.mpr ⟨lwt_3 (List.mem_of_getElem? (l := tables_1_3) (i := 216) rfl), List.forall_mem_cons.mpr ⟨lwt_3 (List.mem_of_getElem? (l := tables_1_3) (i := 217) rfl), List.forall_mem_cons.mpr ⟨lwt_3 (List.mem_of_getElem? (l := tables_1_3) (i := 219) rfl), List.forall_mem_cons.mpr ⟨lwt_0 (List.mem_of_getElem? (l := k2_sels lw_privs) (i := 25) rfl), List.forall_mem_cons.mpr ⟨lwt_3 (List.mem_of_getElem? (l := tables_1_3) (i := 220) rfl), List.forall_mem_cons.mpr ⟨lwt_2 (List.mem_of_getElem? (l := tables_1_2) (i := 124) rfl), List.forall_mem_cons.mpr ⟨lwt_2 (List.mem_of_getElem? (l := tables_1_2) (i := 125) rfl), List.forall_mem_cons.mpr ⟨lwt_2 (List.mem_of_getElem? (l := tables_1_2) (i := 126) rfl), List.forall_mem_cons.mpr ⟨lwt_2 (List.mem_of_getElem? (l := tables_1_2) (i := 127) rfl), List.forall_mem_cons.mpr ⟨lwt_2 (List.mem_of_getElem? (l := tables_1_2) (i := 128) rfl), lw_nilin⟩⟩⟩⟩⟩⟩⟩⟩⟩⟩⟩⟩⟩⟩⟩⟩⟩⟩⟩⟩⟩⟩⟩⟩
set_option maxRecDepth 20000 in
theorem wsL_rin_18 : ∀ w ∈ wsL_law_r18, w ∈ lw_tbl := List.forall_mem_cons.mpr ⟨lwt_2 (List.mem_of_getElem? (l := tables_1_2) (i := 129) rfl), List.forall_mem_cons.mpr ⟨lwt_2 (List.mem_of_getElem? (l := tables_1_2) (i := 130) rfl), List.forall_mem_cons.mpr ⟨lwt_2 (List.mem_of_getElem? (l := tables_1_2) (i := 131) rfl), List.forall_mem_cons.mpr ⟨lwt_2 (List.mem_of_getElem? (l := tables_1_2) (i := 132) rfl), List.forall_mem_cons.mpr ⟨lwt_2 (List.mem_of_getElem? (l := tables_1_2) (i := 133) rfl), List.forall_mem_cons.mpr ⟨lwt_2 (List.mem_of_getElem? (l := tables_1_2) (i := 134) rfl), List.forall_mem_cons.mpr ⟨lwt_2 (List.mem_of_getElem? (l := tables_1_2) (i := 135) rfl), List.forall_mem_cons.mpr ⟨lwt_2 (List.mem_of_getElem? (l := tables_1_2) (i := 136) rfl), List.forall_mem_cons.mpr ⟨lwt_2 (List.mem_of_getElem? (l := tables_1_2) (i := 137) rfl), List.forall_mem_cons.mpr ⟨lwt_2 (List.mem_of_getElem? (l := tables_1_2) (i := 138) rfl), List.forall_mem_cons.mpr ⟨lwt_2 (List.mem_of_getElem? (l := tables_1_2) (i := 139) rfl), List.forall_mem_cons.mpr ⟨lwt_2 (List.mem_of_getElem? (l := tables_1_2) (i := 140) rfl), List.forall_mem_cons.mpr ⟨lwt_2 (List.mem_of_getElem? (l := tables_1_2) (i := 141) rfl), List.forall_mem_cons.mpr ⟨lwt_3 (List.mem_of_getElem? (l := tables_1_3) (i := 221) rfl), List.forall_mem_cons.mpr ⟨lwt_3 (List.mem_of_getElem? (l := tables_1_3) (i := 222) rfl), List.forall_mem_cons.mpr ⟨lwt_3 (List.mem_of_getElem? (l := tables_1_3) (i := 223) rfl), List.forall_mem_cons.mpr ⟨lwt_3 (List.mem_of_getElem? (l := tables_1_3) (i := 224) rfl), List.forall_mem_cons.mpr ⟨lwt_2 (List.mem_of_getElem? (l := tables_1_2) (i := 142) rfl), List.forall_mem_cons.mpr ⟨lwt_2 (List.mem_of_getElem? (l := tables_1_2) (i := 143) rfl), List.forall_mem_cons.mpr ⟨lwt_2 (List.mem_of_getElem? (l := tables_1_2) (i := 144) rfl), List.forall_mem_cons.mpr ⟨lwt_2 (List.mem_of_getElem? (l := tables_1_2) (i := 145) rfl), List.forall_mem_cons.mpr ⟨lwt_2 (List.mem_of_getElem? (l := tables_1_2) (i := 146) rfl), List.forall_mem_cons.mpr ⟨lwt_2 (List.mem_of_getElem? (l := tables_1_2) (i := 147) rfl), List.forall_mem_cons.mpr ⟨lwt_2 (List.mem_of_getElem? (l := tables_1_2) (i := 148) rfl), lw_nilin⟩⟩⟩⟩⟩⟩⟩⟩⟩⟩⟩⟩⟩⟩⟩⟩⟩⟩⟩⟩⟩⟩⟩⟩
set_option maxRecDepth 20000 in
theorem wsL_rin_19 : ∀ w ∈ wsL_law_r19, w ∈ lw_tbl := List.forall_mem_cons.mpr ⟨lwt_3 (List.mem_of_getElem? (l := tables_1_3) (i := 225) rfl), List.forall_mem_cons.mpr ⟨lwt_3 (List.mem_of_getElem? (l := tables_1_3) (i := 226) rfl), List.forall_mem_cons.mpr ⟨lwt_3 (List.mem_of_getElem? (l := tables_1_3) (i := 227) rfl), List.forall_mem_cons.mpr ⟨lwt_3 (List.mem_of_getElem? (l := tables_1_3) (i := 228) rfl), List.forall_mem_cons.mpr ⟨lwt_3 (List.mem_of_getElem? (l := tables_1_3) (i := 54) rfl), List.forall_mem_cons.mpr ⟨lwt_3 (List.mem_of_getElem? (l := tables_1_3) (i := 229) rfl), List.forall_mem_cons.mpr ⟨lwt_3 (List.mem_of_getElem? (l := tables_1_3) (i := 231) rfl), List.forall_mem_cons.mpr ⟨lwt_0 (List.mem_of_getElem? (l := k2_sels lw_privs) (i := 26) rfl), List.forall_mem_cons.mpr ⟨lwt_3 (List.mem_of_getElem? (l := tables_1_3) (i := 232) rfl), List.forall_mem_cons.mpr ⟨lwt_2 (List.mem_of_getElem? (l := tables_1_2) (i := 149) rfl), List.forall_mem_cons.mpr ⟨lwt_2 (List.mem_of_getElem? (l := tables_1_2) (i := 150) rfl), List.forall_mem_cons.mpr ⟨lwt_2 (List.mem_of_getElem? (l := tables_1_2) (i := 151) rfl), List.forall_mem_cons.mpr ⟨lwt_2 (List.mem_of_getElem? (l := tables_1_2) (i := 152) rfl), List.forall_mem_cons.mpr ⟨lwt_2 (List.mem_of_getElem? (l := tables_1_2) (i := 153) rfl), List.forall_mem_cons.mpr ⟨lwt_2 (List.mem_of_getElem? (l := tables_1_2) (i := 154) rfl), List.forall_mem_cons.mpr ⟨lwt_2 (List.mem_of_getElem? (l := tables_1_2) (i := 155) rfl), List.forall_mem_cons.mpr ⟨lwt_2 (List.mem_of_getElem? (l := tables_1_2) (i := 156) rfl), List.forall_mem_cons.mpr ⟨lwt_2 (List.mem_of_getElem? (l := tables_1_2) (i := 157) rfl), List.forall_mem_cons.mpr ⟨lwt_3 (List.mem_of_getElem? (l := tables_1_3) (i := 233) rfl), List.forall_mem_cons.mpr ⟨lwt_3 (List.mem_of_getElem? (l := tables_1_3) (i := 234) rfl), List.forall_mem_cons.mpr ⟨lwt_3 (List.mem_of_getElem? (l := tables_1_3) (i := 235) rfl), List.forall_mem_cons.mpr ⟨lwt_3 (List.mem_of_getElem? (l := tables_1_3) (i := 236) rfl), List.forall_mem_cons.mpr ⟨lwt_3 (List.mem_of_getElem? (l := tables_1_3) (i := 237) rfl), List.forall_mem_cons.mpr ⟨lwt_3 (List.mem_of_getElem? (l := tables_1_3) (i := 239) rfl), lw_nilin⟩⟩⟩⟩⟩⟩⟩⟩⟩⟩⟩⟩⟩⟩⟩⟩⟩⟩⟩⟩⟩⟩⟩⟩
set_option maxRecDepth 20000 in
theorem wsL_rin_20 : ∀ w ∈ wsL_law_r20, w ∈ lw_tbl := List.forall_mem_cons.mpr ⟨lwt_0 (List.mem_of_getElem? (l := k2_sels lw_privs) (i := 27) rfl), List.forall_mem_cons.mpr ⟨lwt_4 (List.mem_of_getElem? (l := tables_1_4) (i := 0) rfl), List.forall_mem_cons.mpr ⟨lwt_2 (List.mem_of_getElem? (l := tables_1_2) (i := 158) rfl), List.forall_mem_cons.mpr ⟨lwt_2 (List.mem_of_getElem? (l := tables_1_2) (i := 159) rfl), List.forall_mem_cons.mpr ⟨lwt_2 (List.mem_of_getElem? (l := tables_1_2) (i := 160) rfl), List.forall_mem_cons.mpr ⟨lwt_2 (List.mem_of_getElem? (l := tables_1_2) (i := 161) rfl), List.forall_mem_cons.mpr ⟨lwt_2 (List.mem_of_getElem? (l := tables_1_2) (i := 162) rfl), List.forall_mem_cons.mpr ⟨lwt_2 (List.mem_of_getElem? (l := tables_1_2) (i := 163) rfl), List.forall_mem_cons.mpr ⟨lwt_2 (List.mem_of_getElem? (l := tables_1_2) (i := 164) rfl), List.forall_mem_cons.mpr ⟨lwt_2 (List.mem_of_getElem? (l := tables_1_2) (i := 165) rfl), List.forall_mem_cons.mpr ⟨lwt_2 (List.mem_of_getElem? (l := tables_1_2) (i := 166) rfl), List.forall_mem_cons.mpr ⟨lwt_2 (List.mem_of_getElem? (l := tables_1_2) (i := 167) rfl), List.forall_mem_cons.mpr ⟨lwt_2 (List.mem_of_getElem? (l := tables_1_2) (i := 168) rfl), List.forall_mem_cons.mpr ⟨lwt_2 (List.mem_of_getElem? (l := tables_1_2) (i := 169) rfl), List.forall_mem_cons.mpr ⟨lwt_2 (List.mem_of_getElem? (l := tables_1_2) (i := 170) rfl), List.forall_mem_cons.mpr ⟨lwt_2 (List.mem_of_getElem? (l := tables_1_2) (i := 171) rfl), List.forall_mem_cons.mpr ⟨lwt_4 (List.mem_of_getElem? (l := tables_1_4) (i := 1) rfl), List.forall_mem_cons.mpr ⟨lwt_4 (List.mem_of_getElem? (l := tables_1_4) (i := 2) rfl), List.forall_mem_cons.mpr ⟨lwt_4 (List.mem_of_getElem? (l := tables_1_4) (i := 3) rfl), List.forall_mem_cons.mpr ⟨lwt_4 (List.mem_of_getElem? (l := tables_1_4) (i := 4) rfl), List.forall_mem_cons.mpr ⟨lwt_4 (List.mem_of_getElem? (l := tables_1_4) (i := 5) rfl), List.forall_mem_cons.mpr ⟨lwt_4 (List.mem_of_getElem? (l := tables_1_4) (i := 6) rfl), List.forall_mem_cons.mpr ⟨lwt_4 (List.mem_of_getElem? (l := tables_1_4) (i := 7) rfl), List.forall_mem_cons.mpr ⟨lwt_2 (List.mem_of_getElem? (l := tables_1_2) (i := 172) rfl), lw_nilin⟩⟩⟩⟩⟩⟩⟩⟩⟩⟩⟩⟩⟩⟩⟩⟩⟩⟩⟩⟩⟩⟩⟩⟩
set_option maxRecDepth 20000 in
theorem wsL_rin_21 : ∀ w ∈ wsL_law_r21, w ∈ lw_tbl := List.forall_mem_cons.mpr ⟨lwt_2 (List.mem_of_getElem? (l := tables_1_2) (i := 173) rfl), List.forall_mem_cons.mpr ⟨lwt_2 (List.mem_of_getElem? (l := tables_1_2) (i := 174) rfl), List.forall_mem_cons.mpr ⟨lwt_2 (List.mem_of_getElem? (l := tables_1_2) (i := 175) rfl), List.forall_mem_cons.mpr ⟨lwt_4 (List.mem_of_getElem? (l := tables_1_4) (i := 8) rfl), List.forall_mem_cons.mpr ⟨lwt_4 (List.mem_of_getElem? (l := tables_1_4) (i := 9) rfl), List.forall_mem_cons.mpr ⟨lwt_4 (List.mem_of_getElem? (l := tables_1_4) (i := 10) rfl), List.forall_mem_cons.mpr ⟨lwt_4 (List.mem_of_getElem? (l := tables_1_4) (i := 11) rfl), List.forall_mem_cons.mpr ⟨lwt_2 (List.mem_of_getElem? (l := tables_1_2) (i := 176) rfl), List.forall_mem_cons.mpr ⟨lwt_2 (List.mem_of_getElem? (l := tables_1_2) (i := 177) rfl), List.forall_mem_cons.mpr ⟨lwt_2 (List.mem_of_getElem? (l := tables_1_2) (i := 178) rfl), List.forall_mem_cons.mpr ⟨lwt_2 (List.mem_of_getElem? (l := tables_1_2) (i := 179) rfl), List.forall_mem_cons.mpr ⟨lwt_4 (List.mem_of_getElem? (l := tables_1_4) (i := 12) rfl), List.forall_mem_cons.mpr ⟨lwt_4 (List.mem_of_getElem? (l := tables_1_4) (i := 13) rfl), List.forall_mem_cons.mpr ⟨lwt_4 (List.mem_of_getElem? (l := tables_1_4) (i := 14) rfl), List.forall_mem_cons.mpr ⟨lwt_4 (List.mem_of_getElem? (l := tables_1_4) (i := 15) rfl), List.forall_mem_cons.mpr ⟨lwt_2 (List.mem_of_getElem? (l := tables_1_2) (i := 180) rfl), List.forall_mem_cons.mpr ⟨lwt_2 (List.mem_of_getElem? (l := tables_1_2) (i := 181) rfl), List.forall_mem_cons.mpr ⟨lwt_2 (List.mem_of_getElem? (l := tables_1_2) (i := 182) rfl), List.forall_mem_cons.mpr ⟨lwt_2 (List.mem_of_getElem? (l := tables_1_2) (i := 183) rfl), List.forall_mem_cons.mpr ⟨lwt_2 (List.mem_of_getElem? (l := tables_1_2) (i := 184) rfl), List.forall_mem_cons.mpr ⟨lwt_2 (List.mem_of_getElem? (l := tables_1_2) (i := 185) rfl), List.forall_mem_cons.mpr ⟨lwt_2 (List.mem_of_getElem? (l := tables_1_2) (i := 186) rfl), List.forall_mem_cons.mpr ⟨lwt_2 (List.mem_of_getElem? (l := tables_1_2) (i := 187) rfl), List.forall_mem_cons.mpr ⟨lwt_2 (List.mem_of_getElem? (l := tables_1_2) (i := 188) rfl), lw_nilin⟩⟩⟩⟩⟩⟩⟩⟩⟩⟩⟩⟩⟩⟩⟩⟩⟩⟩⟩⟩⟩⟩⟩⟩
set_option maxRecDepth 20000 in
theorem wsL_rin_22 : ∀ w ∈ wsL_law_r22, w ∈ lw_tbl := List.forall_mem_cons.mpr ⟨lwt_2 (List.mem_of_getElem? (l := tables_1_2) (i := 189) rfl), List.forall_mem_cons.mpr ⟨lwt_2 (List.mem_of_getElem? (l := tables_1_2) (i := 190) rfl), List.forall_mem_cons.mpr ⟨lwt_2 (List.mem_of_getElem? (l := tables_1_2) (i := 191) rfl), List.forall_mem_cons.mpr ⟨lwt_2 (List.mem_of_getElem? (l := tables_1_2) (i := 192) rfl), List.forall_mem_cons.mpr ⟨lwt_2 (List.mem_of_getElem? (l := tables_1_2) (i := 193) rfl), List.forall_mem_cons.mpr ⟨lwt_2 (List.mem_of_getElem? (l := tables_1_2) (i := 194) rfl), List.forall_mem_cons.mpr ⟨lwt_2 (List.mem_of_getElem? (l := tables_1_2) (i := 195) rfl), List.forall_mem_cons.mpr ⟨lwt_2 (List.mem_of_getElem? (l := tables_1_2) (i := 196) rfl), List.forall_mem_cons.mpr ⟨lwt_2 (List.mem_of_getElem? (l := tables_1_2) (i := 197) rfl), List.forall_mem_cons.mpr ⟨lwt_2 (List.mem_of_getElem? (l := tables_1_2) (i := 198) rfl), List.forall_mem_cons.mpr ⟨lwt_2 (List.mem_of_getElem? (l := tables_1_2) (i := 199) rfl), List.forall_mem_cons.mpr ⟨lwt_2 (List.mem_of_getElem? (l := tables_1_2) (i := 200) rfl), List.forall_mem_cons.mpr ⟨lwt_4 (List.mem_of_getElem? (l := tables_1_4) (i := 16) rfl), List.forall_mem_cons.mpr ⟨lwt_4 (List.mem_of_getElem? (l := tables_1_4) (i := 17) rfl), List.forall_mem_cons.mpr ⟨lwt_4 (List.mem_of_getElem? (l := tables_1_4) (i := 18) rfl), List.forall_mem_cons.mpr ⟨lwt_4 (List.mem_of_getElem? (l := tables_1_4) (i := 19) rfl), List.forall_mem_cons.mpr ⟨lwt_3 (List.mem_of_getElem? (l := tables_1_3) (i := 51) rfl), List.forall_mem_cons.mpr ⟨lwt_4 (List.mem_of_getElem? (l := tables_1_4) (i := 20) rfl), List.forall_mem_cons.mpr ⟨lwt_4 (List.mem_of_getElem? (l := tables_1_4) (i := 22) rfl), List.forall_mem_cons.mpr ⟨lwt_0 (List.mem_of_getElem? (l := k2_sels lw_privs) (i := 28) rfl), List.forall_mem_cons.mpr ⟨lwt_4 (List.mem_of_getElem? (l := tables_1_4) (i := 23) rfl), List.forall_mem_cons.mpr ⟨lwt_2 (List.mem_of_getElem? (l := tables_1_2) (i := 201) rfl), List.forall_mem_cons.mpr ⟨lwt_2 (List.mem_of_getElem? (l := tables_1_2) (i := 202) rfl), List.forall_mem_cons.mpr ⟨lwt_2 (List.mem_of_getElem? (l := tables_1_2) (i := 203) rfl), lw_nilin⟩⟩⟩⟩⟩⟩⟩⟩⟩⟩⟩⟩⟩⟩⟩⟩⟩⟩⟩⟩⟩⟩⟩⟩
set_option maxRecDepth 20000 in
theorem wsL_rin_23 : ∀ w ∈ wsL_law_r23, w ∈ lw_tbl := List.forall_mem_cons.mpr ⟨lwt_2 (List.mem_of_getElem? (l := tables_1_2) (i := 204) rfl), List.forall_mem_cons.mpr ⟨lwt_2 (List.mem_of_getElem? (l := tables_1_2) (i := 205) rfl), List.forall_mem_cons.mpr ⟨lwt_2 (List.mem_of_getElem? (l := tables_1_2) (i := 206) rfl), List.forall_mem_cons.mpr ⟨lwt_2 (List.mem_of_getElem? (l := tables_1_2) (i := 207) rfl), List.forall_mem_cons.mpr ⟨lwt_2 (List.mem_of_getElem? (l := tables_1_2) (i := 208) rfl), List.forall_mem_cons.mpr ⟨lwt_2 (List.mem_of_getElem? (l := tables_1_2) (i := 209) rfl), List.forall_mem_cons.mpr ⟨lwt_4 (List.mem_of_getElem? (l := tables_1_4) (i := 24) rfl), List.forall_mem_cons.mpr ⟨lwt_4 (List.mem_of_getElem? (l := tables_1_4) (i := 25) rfl), List.forall_mem_cons.mpr ⟨lwt_4 (List.mem_of_getElem? (l := tables_1_4) (i := 26) rfl), List.forall_mem_cons.mpr ⟨lwt_4 (List.mem_of_getElem? (l := tables_1_4) (i := 27) rfl), List.forall_mem_cons.mpr ⟨lwt_4 (List.mem_of_getElem? (l := tables_1_4) (i := 28) rfl), List.forall_mem_cons.mpr ⟨lwt_4 (List.mem_of_getElem? (l := tables_1_4) (i := 30) rfl), List.forall_mem_cons.mpr ⟨lwt_0 (List.mem_of_getElem? (l := k2_sels lw_privs) (i := 29) rfl), List.forall_mem_cons.mpr ⟨lwt_4 (List.mem_of_getElem? (l := tables_1_4) (i := 31) rfl), List.forall_mem_cons.mpr ⟨lwt_3 (List.mem_of_getElem? (l := tables_1_3) (i := 55) rfl), List.forall_mem_cons.mpr ⟨lwt_4 (List.mem_of_getElem? (l := tables_1_4) (i := 32) rfl), List.forall_mem_cons.mpr ⟨lwt_4 (List.mem_of_getElem? (l := tables_1_4) (i := 34) rfl), List.forall_mem_cons.mpr ⟨lwt_0 (List.mem_of_getElem? (l := k2_sels lw_privs) (i := 30) rfl), List.forall_mem_cons.mpr ⟨lwt_4 (List.mem_of_getElem? (l := tables_1_4) (i := 35) rfl), List.forall_mem_cons.mpr ⟨lwt_4 (List.mem_of_getElem? (l := tables_1_4) (i := 36) rfl), List.forall_mem_cons.mpr ⟨lwt_4 (List.mem_of_getElem? (l := tables_1_4) (i := 38) rfl), List.forall_mem_cons.mpr ⟨lwt_0 (List.mem_of_getElem? (l := k2_sels lw_privs) (i := 31) rfl), List.forall_mem_cons.mpr ⟨lwt_4 (List.mem_of_getElem? (l := tables_1_4) (i := 39) rfl), List.forall_mem_cons.mpr ⟨lwt_2 (List.mem_of_getElem? (l := tables_1_2) (i := 210) rfl), lw_nilin⟩⟩⟩⟩⟩⟩⟩⟩⟩⟩⟩⟩⟩⟩⟩⟩⟩⟩⟩⟩⟩⟩⟩⟩
set_option maxRecDepth 20000 in
theorem wsL_rin_24 : ∀ w ∈ wsL_law_r24, w ∈ lw_tbl := List.forall_mem_cons.mpr ⟨lwt_2 (List.mem_of_getElem? (l := tables_1_2) (i := 211) rfl), List.forall_mem_cons.mpr ⟨lwt_2 (List.mem_of_getElem? (l := tables_1_2) (i := 212) rfl), List.forall_mem_cons.mpr ⟨lwt_2 (List.mem_of_getElem? (l := tables_1_2) (i := 213) rfl), List.forall_mem_cons.mpr ⟨lwt_2 (List.mem_of_getElem? (l := tables_1_2) (i := 214) rfl), List.forall_mem_cons.mpr ⟨lwt_2 (List.mem_of_getElem? (l := tables_1_2) (i := 215) rfl), List.forall_mem_cons.mpr ⟨lwt_2 (List.mem_of_getElem? (l := tables_1_2) (i := 216) rfl), List.forall_mem_cons.mpr ⟨lwt_2 (List.mem_of_getElem? (l := tables_1_2) (i := 217) rfl), List.forall_mem_cons.mpr ⟨lwt_2 (List.mem_of_getElem? (l := tables_1_2) (i := 218) rfl), List.forall_mem_cons.mpr ⟨lwt_4 (List.mem_of_getElem? (l := tables_1_4) (i := 40) rfl), List.forall_mem_cons.mpr ⟨lwt_4 (List.mem_of_getElem? (l := tables_1_4) (i := 41) rfl), List.forall_mem_cons.mpr ⟨lwt_4 (List.mem_of_getElem? (l := tables_1_4) (i := 42) rfl), List.forall_mem_cons.mpr ⟨lwt_4 (List.mem_of_getElem? (l := tables_1_4) (i := 43) rfl), List.forall_mem_cons.mpr ⟨lwt_2 (List.mem_of_getElem? (l := tables_1_2) (i := 219) rfl), List.forall_mem_cons.mpr ⟨lwt_2 (List.mem_of_getElem? (l := tables_1_2) (i := 220) rfl), List.forall_mem_cons.mpr ⟨lwt_2 (List.mem_of_getElem? (l := tables_1_2) (i := 221) rfl), List.forall_mem_cons.mpr ⟨lwt_2 (List.mem_of_getElem? (l := tables_1_2) (i := 222) rfl), List.forall_mem_cons.mpr ⟨lwt_2 (List.mem_of_getElem? (l := tables_1_2) (i := 223) rfl), List.forall_mem_cons.mpr ⟨lwt_2 (List.mem_of_getElem? (l := tables_1_2) (i := 224) rfl), List.forall_mem_cons.mpr ⟨lwt_4 (List.mem_of_getElem? (l := tables_1_4) (i := 44) rfl), List.forall_mem_cons.mpr ⟨lwt_4 (List.mem_of_getElem? (l := tables_1_4) (i := 45) rfl), List.forall_mem_cons.mpr ⟨lwt_4 (List.mem_of_getElem? (l := tables_1_4) (i := 46) rfl), List.forall_mem_cons.mpr ⟨lwt_4 (List.mem_of_getElem? (l := tables_1_4) (i := 47) rfl), List.forall_mem_cons.mpr ⟨lwt_2 (List.mem_of_getElem? (l := tables_1_2) (i := 225) rfl), List.forall_mem_cons.mpr ⟨lwt_2 (List.mem_of_getElem? (l := tables_1_2) (i := 226) rfl), lw_nilin⟩⟩⟩⟩⟩⟩⟩⟩⟩⟩⟩⟩⟩⟩⟩⟩⟩⟩⟩⟩⟩⟩⟩⟩
set_option maxRecDepth 20000 in
theorem wsL_rin_25 : ∀ w ∈ wsL_law_r25, w ∈ lw_tbl := List.forall_mem_cons.mpr ⟨lwt_2 (List.mem_of_getElem? (l := tables_1_2) (i := 227) rfl), List.forall_mem_cons.mpr ⟨lwt_2 (List.mem_of_getElem? (l := tables_1_2) (i := 228) rfl), List.forall_mem_cons.mpr ⟨lwt_2 (List.mem_of_getElem? (l := tables_1_2) (i := 229) rfl), List.forall_mem_cons.mpr ⟨lwt_2 (List.mem_of_getElem? (l := tables_1_2) (i := 230) rfl), List.forall_mem_cons.mpr ⟨lwt_2 (List.mem_of_getElem? (l := tables_1_2) (i := 231) rfl), List.forall_mem_cons.mpr ⟨lwt_2 (List.mem_of_getElem? (l := tables_1_2) (i := 232) rfl), List.forall_mem_cons.mpr ⟨lwt_2 (List.mem_of_getElem? (l := tables_1_2) (i := 233) rfl), List.forall_mem_cons.mpr ⟨lwt_4 (List.mem_of_getElem? (l := tables_1_4) (i := 48) rfl), List.forall_mem_cons.mpr ⟨lwt_4 (List.mem_of_getElem? (l := tables_1_4) (i := 49) rfl), List.forall_mem_cons.mpr ⟨lwt_4 (List.mem_of_getElem? (l := tables_1_4) (i := 50) rfl), List.forall_mem_cons.mpr ⟨lwt_4 (List.mem_of_getElem? (l := tables_1_4) (i := 51) rfl), List.forall_mem_cons.mpr ⟨lwt_2 (List.mem_of_getElem? (l := tables_1_2) (i := 234) rfl), List.forall_mem_cons.mpr ⟨lwt_2 (List.mem_of_getElem? (l := tables_1_2) (i := 235) rfl), List.forall_mem_cons.mpr ⟨lwt_2 (List.mem_of_getElem? (l := tables_1_2) (i := 236) rfl), List.forall_mem_cons.mpr ⟨lwt_2 (List.mem_of_getElem? (l := tables_1_2) (i := 237) rfl), List.forall_mem_cons.mpr ⟨lwt_2 (List.mem_of_getElem? (l := tables_1_2) (i := 238) rfl), List.forall_mem_cons.mpr ⟨lwt_4 (List.mem_of_getElem? (l := tables_1_4) (i := 52) rfl), List.forall_mem_cons.mpr ⟨lwt_4 (List.mem_of_getElem? (l := tables_1_4) (i := 53) rfl), List.forall_mem_cons.mpr ⟨lwt_4 (List.mem_of_getElem? (l := tables_1_4) (i := 54) rfl), List.forall_mem_cons.mpr ⟨lwt_4 (List.mem_of_getElem? (l := tables_1_4) (i := 55) rfl), List.forall_mem_cons.mpr ⟨lwt_2 (List.mem_of_getElem? (l := tables_1_2) (i := 239) rfl), List.forall_mem_cons.mpr ⟨lwt_3 (List.mem_of_getElem? (l := tables_1_3) (i := 0) rfl), List.forall_mem_cons.mpr ⟨lwt_3 (List.mem_of_getElem? (l := tables_1_3) (i := 1) rfl), List.forall_mem_cons.mpr ⟨lwt_3 (List.mem_of_getElem? (l := tables_1_3) (i := 2) rfl), lw_nilin⟩⟩⟩⟩⟩⟩⟩⟩⟩⟩⟩⟩⟩⟩⟩⟩⟩⟩⟩⟩⟩⟩⟩⟩
set_option maxRecDepth 20000 in
theorem wsL_rin_26 : ∀ w ∈ wsL_law_r26, w ∈ lw_tbl := List.forall_mem_cons.mpr ⟨lwt_3 (List.mem_of_getElem? (l := tables_1_3) (i := 3) rfl), List.forall_mem_cons.mpr ⟨lwt_4 (List.mem_of_getElem? (l := tables_1_4) (i := 56) rfl), List.forall_mem_cons.mpr ⟨lwt_4 (List.mem_of_getElem? (l := tables_1_4) (i := 57) rfl), List.forall_mem_cons.mpr ⟨lwt_4 (List.mem_of_getElem? (l := tables_1_4) (i := 58) rfl), List.forall_mem_cons.mpr ⟨lwt_4 (List.mem_of_getElem? (l := tables_1_4) (i := 59) rfl), List.forall_mem_cons.mpr ⟨lwt_3 (List.mem_of_getElem? (l := tables_1_3) (i := 4) rfl), List.forall_mem_cons.mpr ⟨lwt_3 (List.mem_of_getElem? (l := tables_1_3) (i := 5) rfl), List.forall_mem_cons.mpr ⟨lwt_3 (List.mem_of_getElem? (l := tables_1_3) (i := 6) rfl), List.forall_mem_cons.mpr ⟨lwt_3 (List.mem_of_getElem? (l := tables_1_3) (i := 7) rfl), List.forall_mem_cons.mpr ⟨lwt_3 (List.mem_of_getElem? (l := tables_1_3) (i := 8) rfl), List.forall_mem_cons.mpr ⟨lwt_3 (List.mem_of_getElem? (l := tables_1_3) (i := 9) rfl), List.forall_mem_cons.mpr ⟨lwt_3 (List.mem_of_getElem? (l := tables_1_3) (i := 10) rfl), List.forall_mem_cons.mpr ⟨lwt_3 (List.mem_of_getElem? (l := tables_1_3) (i := 11) rfl), List.forall_mem_cons.mpr ⟨lwt_3 (List.mem_of_getElem? (l := tables_1_3) (i := 12) rfl), List.forall_mem_cons.mpr ⟨lwt_1 (List.mem_of_getElem? (l := tables_1_1) (i := 145) rfl), List.forall_mem_cons.mpr ⟨lwt_1 (List.mem_of_getElem? (l := tables_1_1) (i := 147) rfl), List.forall_mem_cons.mpr ⟨lwt_1 (List.mem_of_getElem? (l := tables_1_1) (i := 149) rfl), List.forall_mem_cons.mpr ⟨lwt_1 (List.mem_of_getElem? (l := tables_1_1) (i := 151) rfl), List.forall_mem_cons.mpr ⟨lwt_3 (List.mem_of_getElem? (l := tables_1_3) (i := 13) rfl), List.forall_mem_cons.mpr ⟨lwt_3 (List.mem_of_getElem? (l := tables_1_3) (i := 14) rfl), List.forall_mem_cons.mpr ⟨lwt_3 (List.mem_of_getElem? (l := tables_1_3) (i := 16) rfl), List.forall_mem_cons.mpr ⟨lwt_0 (List.mem_of_getElem? (l := k2_sels lw_privs) (i := 6) rfl), List.forall_mem_cons.mpr ⟨lwt_3 (List.mem_of_getElem? (l := tables_1_3) (i := 17) rfl), List.forall_mem_cons.mpr ⟨lwt_3 (List.mem_of_getElem? (l := tables_1_3) (i := 18) rfl), lw_nilin⟩⟩⟩⟩⟩⟩⟩⟩⟩⟩⟩⟩⟩⟩⟩⟩⟩⟩⟩⟩⟩⟩⟩⟩
set_option maxRecDepth 20000 in
theorem wsL_rin_27 : ∀ w ∈ wsL_law_r27, w ∈ lw_tbl := List.forall_mem_cons.mpr ⟨lwt_3 (List.mem_of_getElem? (l := tables_1_3) (i := 19) rfl), List.forall_mem_cons.mpr ⟨lwt_3 (List.mem_of_getElem? (l := tables_1_3) (i := 20) rfl), List.forall_mem_cons.mpr ⟨lwt_3 (List.mem_of_getElem? (l := tables_1_3) (i := 21) rfl), List.forall_mem_cons.mpr ⟨lwt_3 (List.mem_of_getElem? (l := tables_1_3) (i := 22) rfl), List.forall_mem_cons.mpr ⟨lwt_3 (List.mem_of_getElem? (l := tables_1_3) (i := 23) rfl), List.forall_mem_cons.mpr ⟨lwt_3 (List.mem_of_getElem? (l := tables_1_3) (i := 25) rfl), List.forall_mem_cons.mpr ⟨lwt_0 (List.mem_of_getElem? (l := k2_sels lw_privs) (i := 7) rfl), List.forall_mem_cons.mpr ⟨lwt_3 (List.mem_of_getElem? (l := tables_1_3) (i := 26) rfl), List.forall_mem_cons.mpr ⟨lwt_3 (List.mem_of_getElem? (l := tables_1_3) (i := 27) rfl), List.forall_mem_cons.mpr ⟨lwt_3 (List.mem_of_getElem? (l := tables_1_3) (i := 28) rfl), List.forall_mem_cons.mpr ⟨lwt_3 (List.mem_of_getElem? (l := tables_1_3) (i := 29) rfl), List.forall_mem_cons.mpr ⟨lwt_3 (List.mem_of_getElem? (l := tables_1_3) (i := 30) rfl), List.forall_mem_cons.mpr ⟨lwt_3 (List.mem_of_getElem? (l := tables_1_3) (i := 32) rfl), List.forall_mem_cons.mpr ⟨lwt_0 (List.mem_of_getElem? (l := k2_sels lw_privs) (i := 8) rfl), List.forall_mem_cons.mpr ⟨lwt_3 (List.mem_of_getElem? (l := tables_1_3) (i := 33) rfl), List.forall_mem_cons.mpr ⟨lwt_3 (List.mem_of_getElem? (l := tables_1_3) (i := 34) rfl), List.forall_mem_cons.mpr ⟨lwt_3 (List.mem_of_getElem? (l := tables_1_3) (i := 35) rfl), List.forall_mem_cons.mpr ⟨lwt_4 (List.mem_of_getElem? (l := tables_1_4) (i := 60) rfl), List.forall_mem_cons.mpr ⟨lwt_4 (List.mem_of_getElem? (l := tables_1_4) (i := 61) rfl), List.forall_mem_cons.mpr ⟨lwt_4 (List.mem_of_getElem? (l := tables_1_4) (i := 62) rfl), List.forall_mem_cons.mpr ⟨lwt_4 (List.mem_of_getElem? (l := tables_1_4) (i := 63) rfl), List.forall_mem_cons.mpr ⟨lwt_3 (List.mem_of_getElem? (l := tables_1_3) (i := 61) rfl), List.forall_mem_cons.mpr ⟨lwt_3 (List.mem_of_getElem? (l := tables_1_3) (i := 60) rfl), List.forall_mem_cons.mpr ⟨lwt_3 (List.mem_of_getElem? (l := tables_1_3) (i := 62) rfl), lw_nilin⟩⟩⟩⟩⟩⟩⟩⟩⟩⟩⟩⟩⟩⟩⟩⟩⟩⟩⟩⟩⟩⟩⟩⟩
set_option maxRecDepth 20000 in
theorem wsL_rin_28 : ∀ w ∈ wsL_law_r28, w ∈ lw_tbl := List.forall_mem_cons.mpr ⟨lwt_4 (List.mem_of_getElem? (l := tables_1_4) (i := 64) rfl), List.forall_mem_cons.mpr ⟨lwt_4 (List.mem_of_getElem? (l := tables_1_4) (i := 66) rfl), List.forall_mem_cons.mpr ⟨lwt_0 (List.mem_of_getElem? (l := k2_sels lw_privs) (i := 32) rfl), List.forall_mem_cons.mpr ⟨lwt_4 (List.mem_of_getElem? (l := tables_1_4) (i := 67) rfl), List.forall_mem_cons.mpr ⟨lwt_4 (List.mem_of_getElem? (l := tables_1_4) (i := 68) rfl), List.forall_mem_cons.mpr ⟨lwt_4 (List.mem_of_getElem? (l := tables_1_4) (i := 70) rfl), List.forall_mem_cons.mpr ⟨lwt_0 (List.mem_of_getElem? (l := k2_sels lw_privs) (i := 33) rfl), List.forall_mem_cons.mpr ⟨lwt_4 (List.mem_of_getElem? (l := tables_1_4) (i := 71) rfl), List.forall_mem_cons.mpr ⟨lwt_3 (List.mem_of_getElem? (l := tables_1_3) (i := 57) rfl), List.forall_mem_cons.mpr ⟨lwt_3 (List.mem_of_getElem? (l := tables_1_3) (i := 58) rfl), List.forall_mem_cons.mpr ⟨lwt_4 (List.mem_of_getElem? (l := tables_1_4) (i := 72) rfl), List.forall_mem_cons.mpr ⟨lwt_4 (List.mem_of_getElem? (l := tables_1_4) (i := 74) rfl), List.forall_mem_cons.mpr ⟨lwt_0 (List.mem_of_getElem? (l := k2_sels lw_privs) (i := 34) rfl), List.forall_mem_cons.mpr ⟨lwt_4 (List.mem_of_getElem? (l := tables_1_4) (i := 75) rfl), List.forall_mem_cons.mpr ⟨lwt_4 (List.mem_of_getElem? (l := tables_1_4) (i := 76) rfl), List.forall_mem_cons.mpr ⟨lwt_4 (List.mem_of_getElem? (l := tables_1_4) (i := 78) rfl), List.forall_mem_cons.mpr ⟨lwt_0 (List.mem_of_getElem? (l := k2_sels lw_privs) (i := 35) rfl), List.forall_mem_cons.mpr ⟨lwt_4 (List.mem_of_getElem? (l := tables_1_4) (i := 79) rfl), List.forall_mem_cons.mpr ⟨lwt_4 (List.mem_of_getElem? (l := tables_1_4) (i := 80) rfl), List.forall_mem_cons.mpr ⟨lwt_4 (List.mem_of_getElem? (l := tables_1_4) (i := 82) rfl), List.forall_mem_cons.mpr ⟨lwt_0 (List.mem_of_getElem? (l := k2_sels lw_privs) (i := 36) rfl), List.forall_mem_cons.mpr ⟨lwt_4 (List.mem_of_getElem? (l := tables_1_4) (i := 83) rfl), List.forall_mem_cons.mpr ⟨lwt_4 (List.mem_of_getElem? (l := tables_1_4) (i := 84) rfl), List.forall_mem_cons.mpr ⟨lwt_4 (List.mem_of_getElem? (l := tables_1_4) (i := 86) rfl), lw_nilin⟩⟩⟩⟩⟩⟩⟩⟩⟩⟩⟩⟩⟩⟩⟩⟩⟩⟩⟩⟩⟩⟩⟩⟩
set_option maxRecDepth 20000 in
theorem wsL_rin_29 : ∀ w ∈ wsL_law_r29, w ∈ lw_tbl := List.forall_mem_cons.mpr ⟨lwt_0 (List.mem_of_getElem? (l := k2_sels lw_privs) (i := 37) rfl), List.forall_mem_cons.mpr ⟨lwt_4 (List.mem_of_getElem? (l := tables_1_4) (i := 87) rfl), List.forall_mem_cons.mpr ⟨lwt_3 (List.mem_of_getElem? (l := tables_1_3) (i := 36) rfl), List.forall_mem_cons.mpr ⟨lwt_3 (List.mem_of_getElem? (l := tables_1_3) (i := 37) rfl), List.forall_mem_cons.mpr ⟨lwt_3 (List.mem_of_getElem? (l := tables_1_3) (i := 38) rfl), List.forall_mem_cons.mpr ⟨lwt_3 (List.mem_of_getElem? (l := tables_1_3) (i := 39) rfl), List.forall_mem_cons.mpr ⟨lwt_4 (List.mem_of_getElem? (l := tables_1_4) (i := 88) rfl), List.forall_mem_cons.mpr ⟨lwt_4 (List.mem_of_getElem? (l := tables_1_4) (i := 89) rfl), List.forall_mem_cons.mpr ⟨lwt_4 (List.mem_of_getElem? (l := tables_1_4) (i := 90) rfl), List.forall_mem_cons.mpr ⟨lwt_4 (List.mem_of_getElem? (l := tables_1_4) (i := 91) rfl), lw_nilin⟩⟩⟩⟩⟩⟩⟩⟩⟩⟩
theorem wsL_x1 : ∀ w ∈ wsX10, w ∈ lw_tbl := by decide +kernel
theorem wsL_x2 : ∀ w ∈ wsX20, w ∈ lw_tbl := by decide +kernel
theorem wsL_x3 : ∀ w ∈ wsX30, w ∈ lw_tbl := by decide +kernel
theorem wsL_x4 : ∀ w ∈ wsX40, w ∈ lw_tbl := by decide +kernel
theorem wsL_x5 : ∀ w ∈ wsX50, w ∈ lw_tbl := by decide +kernel
theorem wsL_x6 : ∀ w ∈ wsX60, w ∈ lw_tbl := by decide +kernel
theorem wsL_x7 : ∀ w ∈ wsX70, w ∈ lw_tbl := by decide +kernel
theorem wsL_law_in : ∀ w ∈ wsL_law, w ∈ lw_tbl := by
  unfold wsL_law
  simp only [List.forall_mem_append]
  exact ⟨⟨⟨⟨⟨⟨⟨⟨⟨wsL_rin_1, wsL_rin_2, wsL_rin_3, wsL_rin_4, wsL_rin_5, wsL_rin_6, wsL_rin_7, wsL_rin_8, wsL_rin_9, wsL_rin_10, wsL_rin_11, wsL_rin_12, wsL_rin_13, wsL_rin_14, wsL_rin_15, wsL_rin_16, wsL_rin_17, wsL_rin_18, wsL_rin_19, wsL_rin_20, wsL_rin_21, wsL_rin_22, wsL_rin_23, wsL_rin_24, wsL_rin_25, wsL_rin_26, wsL_rin_27, wsL_rin_28, wsL_rin_29⟩, wsL_x6⟩, wsL_x7⟩, wsL_x5⟩, wsL_x3⟩, wsL_x1⟩, wsL_x2⟩, wsL_x4⟩, lw_nilin⟩
theorem inX0 : ∀ w ∈ wsX00, w ∈ lw_tbl := by decide +kernel
theorem inlX1 : ∀ w ∈ wsX10, w ∈ wsL_law := fun _ h => List.mem_append_left _ (List.mem_append_left _ (List.mem_append_left _ (List.mem_append_right _ h)))
theorem inX1 : ∀ w ∈ wsX10, w ∈ lw_tbl := fun w h => wsL_law_in w (inlX1 w h)
theorem inlX2 : ∀ w ∈ wsX20, w ∈ wsL_law := fun _ h => List.mem_append_left _ (List.mem_append_left _ (List.mem_append_right _ h))
theorem inX2 : ∀ w ∈ wsX20, w ∈ lw_tbl := fun w h => wsL_law_in w (inlX2 w h)
theorem inlX3 : ∀ w ∈ wsX30, w ∈ wsL_law := fun _ h => List.mem_append_left _ (List.mem_append_left _ (List.mem_append_left _ (List.mem_append_left _ (List.mem_append_right _ h))))
theorem inX3 : ∀ w ∈ wsX30, w ∈ lw_tbl := fun w h => wsL_law_in w (inlX3 w h)
theorem inlX4 : ∀ w ∈ wsX40, w ∈ wsL_law := fun _ h => List.mem_append_left _ (List.mem_append_right _ h)
theorem inX4 : ∀ w ∈ wsX40, w ∈ lw_tbl := fun w h => wsL_law_in w (inlX4 w h)
theorem inlX5 : ∀ w ∈ wsX50, w ∈ wsL_law := fun _ h => List.mem_append_left _ (List.mem_append_left _ (List.mem_append_left _ (List.mem_append_left _ (List.mem_append_left _ (List.mem_append_right _ h)))))
theorem inX5 : ∀ w ∈ wsX50, w ∈ lw_tbl := fun w h => wsL_law_in w (inlX5 w h)
theorem inlX6 : ∀ w ∈ wsX60, w ∈ wsL_law := fun _ h => List.mem_append_left _ (List.mem_append_left _ (List.mem_append_left _ (List.mem_append_left _ (List.mem_append_left _ (List.mem_append_left _ (List.mem_append_left _ (List.mem_append_right _ h)))))))
theorem inX6 : ∀ w ∈ wsX60, w ∈ lw_tbl := fun w h => wsL_law_in w (inlX6 w h)
theorem inlX7 : ∀ w ∈ wsX70, w ∈ wsL_law := fun _ h => List.mem_append_left _ (List.mem_append_left _ (List.mem_append_left _ (List.mem_append_left _ (List.mem_append_left _ (List.mem_append_left _ (List.mem_append_right _ h))))))
theorem inX7 : ∀ w ∈ wsX70, w ∈ lw_tbl := fun w h => wsL_law_in w (inlX7 w h)
abbrev vwCl : List vw_C := [(RX1, TX1, 6), (RX2, TX2, 8), (RX3, TX3, 6), (RX4, TX4, 2), (RX5, TX5, 6), (RX6, TX6, 6), (RX7, TX7, 17)]
end
section
/-! Z: a layer over the kit's rows: the world, the locals and the stack stand in the goal -/
-- lists in another order
theorem z_pm {α : Type} {l l' : List α} (is : List Nat) (n : Nat) (hn : l.length = n) (h1 : is.Perm (List.range n)) (h2 : is.map (fun i => l[i]?) = l'.map some) : l.Perm l' := by
  subst hn
  have e : (List.range l.length).map (fun i => l[i]?) = l.map some := by
    apply List.ext_getElem?
    intro i
    simp only [List.getElem?_map]
    by_cases hi : i < l.length
    · rw [List.getElem?_range hi]; simp [hi]
    · rw [List.getElem?_eq_none (by simpa using hi), List.getElem?_eq_none (by simpa using hi)]; rfl
  have h3 : (l.map some).Perm (l'.map some) := by rw [← e, ← h2]; exact (h1.map _).symm
  have h4 := h3.filterMap id
  simpa [List.filterMap_map] using h4
theorem z_flat_set {w : va_W} {x : Nat × va_E} : ∀ (bs : List va_W) (bi qi : Nat), bs[bi]? = some w → w[qi]? = some x → ∃ q0 : Nat, bs.flatten[q0]? = some x ∧ ∀ y : Nat × va_E, bs.flatten.set q0 y = (bs.set bi (w.set qi y)).flatten
  | [], bi, qi, h, _ => by simp at h
  | b :: bs, 0, qi, h, h2 => by
    simp only [List.getElem?_cons_zero, Option.some.injEq] at h
    subst h
    have hq : qi < b.length := (List.getElem?_eq_some_iff.mp h2).1
    refine ⟨qi, ?_, fun y => ?_⟩
    · rw [List.flatten_cons, List.getElem?_append_left hq]; exact h2
    · rw [List.flatten_cons, List.set_append_left _ _ hq]; rfl
  | b :: bs, bi + 1, qi, h, h2 => by
    simp only [List.getElem?_cons_succ] at h
    obtain ⟨q0, h3, h4⟩ := z_flat_set bs bi qi h h2
    refine ⟨b.length + q0, ?_, fun y => ?_⟩
    · rw [List.flatten_cons, List.getElem?_append_right (Nat.le_add_right _ _), Nat.add_sub_cancel_left]; exact h3
    · rw [List.flatten_cons, List.set_append_right _ _ (Nat.le_add_right _ _), Nat.add_sub_cancel_left, h4 y]; rfl
-- worlds as sets of cells at addresses that are apart
theorem z_P {D : va_G} {cl : List vw_C} {ws : va_W} {H : Heap} : va_P D cl ws H ↔ ∀ q ∈ ws, va_at D cl q H := by
  constructor
  · intro h q hq
    obtain ⟨i, hi⟩ := List.getElem?_of_mem hq
    exact h i q hi
  · intro h k q hk
    exact h q (List.mem_of_getElem? hk)
theorem z_D {A : Nat → Prop} {ws : va_W} : va_D A ws ↔ (ws.map Prod.fst).Nodup ∧ ∀ q ∈ ws, A q.1 := by
  constructor
  · intro h
    refine ⟨?_, fun q hq => ?_⟩
    · rw [List.Nodup, List.pairwise_map, List.pairwise_iff_getElem]
      intro i j hi hj hij he
      have := h.1 i j _ _ (List.getElem?_eq_getElem hi) (List.getElem?_eq_getElem hj) he
      omega
    · obtain ⟨i, hi⟩ := List.getElem?_of_mem hq
      exact h.2 i q hi
  · intro h
    have hn := h.1
    rw [List.Nodup, List.pairwise_map, List.pairwise_iff_getElem] at hn
    refine ⟨fun i j p q hp hq he => ?_, fun k q hk => h.2 q (List.mem_of_getElem? hk)⟩
    obtain ⟨hi, rfl⟩ := List.getElem?_eq_some_iff.mp hp
    obtain ⟨hj, rfl⟩ := List.getElem?_eq_some_iff.mp hq
    rcases Nat.lt_trichotomy i j with hl | hl | hl
    · exact absurd he (hn i j hi hj hl)
    · exact hl
    · exact absurd he.symm (hn j i hj hi hl)
theorem z_Pp {D : va_G} {cl : List vw_C} {ws ws' : va_W} {H : Heap} (h : ws.Perm ws') (hP : va_P D cl ws H) : va_P D cl ws' H := z_P.mpr fun q hq => z_P.mp hP q (h.mem_iff.mpr hq)
theorem z_Dp {A : Nat → Prop} {ws ws' : va_W} (h : ws.Perm ws') (hD : va_D A ws) : va_D A ws' := by
  have h2 := z_D.mp hD
  exact z_D.mpr ⟨(h.map Prod.fst).nodup_iff.mp h2.1, fun q hq => h2.2 q (h.mem_iff.mpr hq)⟩
theorem z_Pl {D : va_G} {cl : List vw_C} {a b : va_W} {H : Heap} (hP : va_P D cl (a ++ b) H) : va_P D cl a H := z_P.mpr fun q hq => z_P.mp hP q (List.mem_append_left _ hq)
theorem z_Pr {D : va_G} {cl : List vw_C} {a b : va_W} {H : Heap} (hP : va_P D cl (a ++ b) H) : va_P D cl b H := z_P.mpr fun q hq => z_P.mp hP q (List.mem_append_right _ hq)
theorem z_Dl {A : Nat → Prop} {a b : va_W} (hD : va_D A (a ++ b)) : va_D A a := by
  have h := z_D.mp hD
  rw [List.map_append] at h
  exact z_D.mpr ⟨(List.nodup_append.mp h.1).1, fun q hq => h.2 q (List.mem_append_left _ hq)⟩
theorem z_Aiff {ws : va_W} {sz q : Nat} : va_A ws sz q ↔ q ∈ ws.map Prod.fst ∨ sz ≤ q := by
  constructor
  · rintro (⟨k, e, h⟩ | h)
    · exact Or.inl (List.mem_map.mpr ⟨_, List.mem_of_getElem? h, rfl⟩)
    · exact Or.inr h
  · rintro (h | h)
    · obtain ⟨⟨a, e⟩, h1, rfl⟩ := List.mem_map.mp h
      obtain ⟨k, hk⟩ := List.getElem?_of_mem h1
      exact Or.inl ⟨k, e, hk⟩
    · exact Or.inr h
/-- behind a call: the callee's new world beside the rest, which is unchanged -/
theorem z_join {A0 : Nat → Prop} {D : va_G} {cl : List vw_C} {wc wr w1 : va_W} {H H1 : Heap} (hP : va_P D cl (wc ++ wr) H) (hD : va_D A0 (wc ++ wr)) (hlt : ∀ q ∈ wr, q.1 < H.size)
    (hk : ∀ q : Nat, q < H.size → ¬ va_A wc H.size q → H1[q]? = H[q]?) (hF : ∀ q, va_A wc H.size q → A0 q) (hP1 : va_P D cl w1 H1) (hD1 : va_D (va_A wc H.size) w1) : va_P D cl (w1 ++ wr) H1 ∧ va_D A0 (w1 ++ wr) := by
  have hd := z_D.mp hD
  rw [List.map_append, List.nodup_append] at hd
  obtain ⟨⟨n1, n2, n3⟩, ha⟩ := hd
  have hout : ∀ q ∈ wr, ¬ va_A wc H.size q.1 := by
    intro q hq h
    rcases z_Aiff.mp h with h | h
    · exact n3 _ h _ (List.mem_map.mpr ⟨q, hq, rfl⟩) rfl
    · exact absurd (hlt q hq) (by omega)
  constructor
  · refine z_P.mpr fun q hq => ?_
    rcases List.mem_append.mp hq with h | h
    · exact z_P.mp hP1 q h
    · exact (z_P.mp hP q (List.mem_append_right _ h)).kept (hk _ (hlt q h) (hout q h))
  · have h1 := z_D.mp hD1
    refine z_D.mpr ⟨?_, fun q hq => ?_⟩
    · rw [List.map_append, List.nodup_append]
      refine ⟨h1.1, n2, fun a ha1 b hb1 e => ?_⟩
      subst e
      obtain ⟨q, hq, rfl⟩ := List.mem_map.mp ha1
      obtain ⟨q2, hq2, e2⟩ := List.mem_map.mp hb1
      exact hout q2 hq2 (by rw [e2]; exact h1.2 q hq)
    · rcases List.mem_append.mp hq with h | h
      · exact hF _ (h1.2 q h)
      · exact ha q (List.mem_append_right _ h)
-- locals: by their places; 'none': not known
def z_pairs : Nat → List (Option Value) → List (Nat × Value)
  | _, [] => []
  | i, none :: t => z_pairs (i + 1) t
  | i, some v :: t => (i, v) :: z_pairs (i + 1) t
theorem z_pairs_mem {j : Nat} {w : Value} : ∀ (ls : List (Option Value)) (k : Nat), (j, w) ∈ z_pairs k ls ↔ k ≤ j ∧ ls[j - k]? = some (some w)
  | [], k => by simp [z_pairs]
  | none :: t, k => by
    rw [z_pairs, z_pairs_mem t (k + 1)]
    constructor
    · rintro ⟨h1, h2⟩
      refine ⟨by omega, ?_⟩
      rw [show j - k = (j - (k + 1)) + 1 by omega, List.getElem?_cons_succ]; exact h2
    · rintro ⟨h1, h2⟩
      have : j ≠ k := by
        intro e; subst e; simp at h2
      refine ⟨by omega, ?_⟩
      rw [show j - k = (j - (k + 1)) + 1 by omega, List.getElem?_cons_succ] at h2; exact h2
  | some v :: t, k => by
    rw [z_pairs, List.mem_cons, z_pairs_mem t (k + 1)]
    constructor
    · rintro (h | ⟨h1, h2⟩)
      · cases h; exact ⟨Nat.le_refl _, by simp⟩
      · refine ⟨by omega, ?_⟩
        rw [show j - k = (j - (k + 1)) + 1 by omega, List.getElem?_cons_succ]; exact h2
    · rintro ⟨h1, h2⟩
      by_cases e : j = k
      · subst e; simp at h2; exact Or.inl (by rw [h2])
      · refine Or.inr ⟨by omega, ?_⟩
        rw [show j - k = (j - (k + 1)) + 1 by omega, List.getElem?_cons_succ] at h2; exact h2
def z_cat1 (ls : List (Option Value)) : Prop := ∀ v : Value, some v ∈ ls → v.category = 1
def zL (la : Array Slot) (nL : Nat) (ls : List (Option Value)) : Prop := lv_has la nL (z_pairs 0 ls) ∧ z_cat1 ls
theorem zL.at {la : Array Slot} {nL : Nat} {ls : List (Option Value)} (h : zL la nL ls) {i : Nat} {v : Value} (hi : ls[i]? = some (some v)) : la[i]? = some (.val v) := h.1.2.2 (i, v) ((z_pairs_mem ls 0).mpr ⟨Nat.zero_le _, by simpa using hi⟩)
theorem zL.set {la : Array Slot} {nL i : Nat} {v : Value} {ls : List (Option Value)} (h : zL la nL ls) {la' : Array Slot} (h' : lv_has la' nL ((i, v) :: (z_pairs 0 ls).filter (fun q => !(q.1 == i) && !(q.1 + 1 == i && q.2.category == 2)))) (hv : v.category = 1) : zL la' nL (ls.set i (some v)) := by
  refine ⟨⟨h'.1, h'.2.1, fun q hq => ?_⟩, fun w hw => ?_⟩
  · obtain ⟨j, w⟩ := q
    have hq2 := ((z_pairs_mem _ 0).mp hq).2
    simp only [Nat.sub_zero] at hq2
    by_cases e : j = i
    · subst e
      have hl : j < (ls.set j (some v)).length := (List.getElem?_eq_some_iff.mp hq2).1
      rw [List.getElem?_set_self (by simpa using hl)] at hq2
      simp at hq2
      subst hq2
      exact h'.2.2 _ List.mem_cons_self
    · rw [List.getElem?_set_ne (by omega)] at hq2
      have hc : w.category = 1 := h.2 w (List.mem_of_getElem? hq2)
      refine h'.2.2 _ (List.mem_cons_of_mem _ (List.mem_filter.mpr ⟨(z_pairs_mem ls 0).mpr ⟨Nat.zero_le _, by simpa using hq2⟩, ?_⟩))
      simp [e, hc]
  · rcases List.mem_or_eq_of_mem_set hw with h2 | h2
    · exact h.2 w h2
    · cases h2; exact hv
theorem zL.sub {la : Array Slot} {nL : Nat} {ls ls' : List (Option Value)} (h : zL la nL ls) (hs : ∀ (i : Nat) (v : Value), ls'[i]? = some (some v) → ls[i]? = some (some v)) : zL la nL ls' := by
  refine ⟨⟨h.1.1, h.1.2.1, fun q hq => ?_⟩, fun v hv => ?_⟩
  · obtain ⟨j, w⟩ := q
    have hq2 := ((z_pairs_mem _ 0).mp hq).2
    exact h.at (hs _ _ (by simpa using hq2))
  · obtain ⟨i, hi⟩ := List.getElem?_of_mem hv
    exact h.2 v (List.mem_of_getElem? (hs i v hi))
def z_mask : List Bool → List (Option Value) → List (Option Value)
  | b :: bs, x :: xs => (if b then x else none) :: z_mask bs xs
  | _, _ => []
theorem z_mask_sub : ∀ (bs : List Bool) (ls : List (Option Value)) (i : Nat) (v : Value), (z_mask bs ls)[i]? = some (some v) → ls[i]? = some (some v)
  | [], _, i, v, h => by simp [z_mask] at h
  | _ :: _, [], i, v, h => by simp [z_mask] at h
  | b :: bs, x :: xs, 0, v, h => by
    simp only [z_mask, List.getElem?_cons_zero] at h ⊢
    by_cases hb : b = true
    · simpa [hb] using h
    · simp [hb] at h
  | b :: bs, x :: xs, i + 1, v, h => by
    simp only [z_mask, List.getElem?_cons_succ] at h ⊢
    exact z_mask_sub bs xs i v h
theorem lv_args_mem {j : Nat} {w : Value} : ∀ (vs : List Value) (k : Nat), (∀ v ∈ vs, v.category = 1) → k ≤ j → vs[j - k]? = some w → (j, w) ∈ lv_args k vs
  | [], k, _, _, h => by simp at h
  | v :: vs, k, hc, hk, h => by
    have h1 : ¬ v.category = 2 := by rw [hc v List.mem_cons_self]; decide
    rw [lv_args, if_neg h1]
    by_cases e : j = k
    · subst e; simp at h; subst h; exact List.mem_cons_self
    · refine List.mem_cons_of_mem _ (lv_args_mem vs (k + 1) (fun v hv => hc v (List.mem_cons_of_mem _ hv)) (by omega) ?_)
      rw [show j - k = (j - (k + 1)) + 1 by omega, List.getElem?_cons_succ] at h; exact h
theorem zL.entry (vs : List Value) {n : Nat} (hc : ∀ v ∈ vs, v.category = 1) (h : (lg_sl vs).length ≤ n) (ls : List (Option Value)) (hls : ls = vs.map some ++ List.replicate (n - vs.length) none) : zL ((lg_sl vs ++ List.replicate (n - (lg_sl vs).length) Slot.unset).toArray) n ls := by
  have h1 := lv_entry vs h
  subst hls
  refine ⟨⟨h1.1, h1.2.1, fun q hq => ?_⟩, fun v hv => ?_⟩
  · obtain ⟨j, w⟩ := q
    have hq2 := ((z_pairs_mem _ 0).mp hq).2
    simp only [Nat.sub_zero] at hq2
    refine h1.2.2 _ (lv_args_mem vs 0 hc (Nat.zero_le _) ?_)
    by_cases hj : j < vs.length
    · rw [List.getElem?_append_left (by simpa using hj), List.getElem?_map] at hq2
      cases hv : vs[j]? with
      | none => rw [hv] at hq2; simp at hq2
      | some x => rw [hv] at hq2; simp at hq2; subst hq2; simpa using hv
    · rw [List.getElem?_append_right (by simpa using hj)] at hq2
      have := List.eq_of_mem_replicate (List.mem_of_getElem? hq2)
      cases this
  · rcases List.mem_append.mp hv with h2 | h2
    · obtain ⟨x, hx, e⟩ := List.mem_map.mp h2
      cases e; exact hc _ hx
    · cases List.eq_of_mem_replicate h2
end
section
/-! ZZ: the machine at pc, with the world bs, the locals ls and the stack st; ZC: what stays the same in a method; ZM: a method's contract -/
theorem z_words : wsL_law.all goodWord = true := by decide +kernel
theorem z_good {w : Cond} (h : w ∈ wsL_law) : (w.onTables && w.keeps) = true ∨ ∃ ty, w = .arrayClass ty := good_of_word (List.all_eq_true.mp z_words w h)
def z_nest : List Cond := [.fieldLinkNest "ReshapedTexts" 104 "ReshapedTexts$Editor" "written" "I" "ReshapedTexts", .fieldLinkNest "ReshapedTexts" 111 "ReshapedTexts$State" "writers" "LReshapedTexts$Numbers;" "ReshapedTexts", .fieldLinkNest "ReshapedTexts" 123 "ReshapedTexts$History" "size" "I" "ReshapedTexts", .fieldLinkNest "ReshapedTexts" 125 "ReshapedTexts$Commands" "signs" "LReshapedTexts$Numbers;" "ReshapedTexts", .fieldLinkNest "ReshapedTexts" 165 "ReshapedTexts$Commands" "reason" "I" "ReshapedTexts", .fieldLinkNest "ReshapedTexts" 168 "ReshapedTexts$Commands" "position" "I" "ReshapedTexts", .fieldLinkNest "ReshapedTexts" 171 "ReshapedTexts$Commands" "cause" "I" "ReshapedTexts", .fieldLinkNest "ReshapedTexts" 174 "ReshapedTexts$Commands" "done" "I" "ReshapedTexts", .fieldLinkNest "ReshapedTexts" 43 "ReshapedTexts$State" "log" "LReshapedTexts$Numbers;" "ReshapedTexts", .fieldLinkNest "ReshapedTexts" 67 "ReshapedTexts$State" "text" "LReshapedTexts$Numbers;" "ReshapedTexts", .fieldLinkNest "ReshapedTexts" 74 "ReshapedTexts$Editor" "copy" "LReshapedTexts$Numbers;" "ReshapedTexts", .fieldLinkNest "ReshapedTexts" 83 "ReshapedTexts$Editor" "waiting" "LReshapedTexts$Numbers;" "ReshapedTexts", .fieldLinkNest "ReshapedTexts" 86 "ReshapedTexts$Editor" "underWay" "Z" "ReshapedTexts", .fieldLinkNest "ReshapedTexts" 90 "ReshapedTexts$Editor" "heard" "I" "ReshapedTexts", .fieldLinkNest "ReshapedTexts" 94 "ReshapedTexts$Editor" "spot" "I" "ReshapedTexts", .fieldLinkNest "ReshapedTexts" 97 "ReshapedTexts$Editor" "backs" "LReshapedTexts$Numbers;" "ReshapedTexts", .fieldLinkNest "ReshapedTexts$State" 144 "ReshapedTexts$Editor" "underWay" "Z" "ReshapedTexts", .fieldLinkNest "ReshapedTexts$State" 84 "ReshapedTexts$Editor" "waiting" "LReshapedTexts$Numbers;" "ReshapedTexts", .fieldLinkNest "ReshapedTexts$State" 91 "ReshapedTexts$Editor" "copy" "LReshapedTexts$Numbers;" "ReshapedTexts", .methodLinkNest "ReshapedTexts$State" 39 ⟨"ReshapedTexts", "isNoEditor", "(I)Z"⟩ "ReshapedTexts"]
def z_nestOK (U : State) : Prop := ∀ w ∈ z_nest, va_Nw w U
theorem z_nest_on : z_nest.all (fun w => w.onTables) = true := by decide +kernel
theorem z_nestOK.same {u U : State} (h : u.vm = U.vm) (hZ : z_nestOK u) : z_nestOK U := fun w hw => va_Nw.same (List.all_eq_true.mp z_nest_on w hw) h (hZ w hw)
theorem z_nestOK.warm {s U : State} (hW : s.WarmedH U.vm) (hZ : z_nestOK s) : z_nestOK U := by
  intro w hw
  have h := hZ w hw
  simp only [z_nest, List.mem_cons, List.not_mem_nil, or_false] at hw
  rcases hw with rfl | rfl | rfl | rfl | rfl | rfl | rfl | rfl | rfl | rfl | rfl | rfl | rfl | rfl | rfl | rfl | rfl | rfl | rfl | rfl <;> first | exact va_Nw.warmF hW h | exact va_Nw.warmM hW h
abbrev z_tys (cI : ClassId) : List (ClassId × FieldType) := [(cI, .int)]
def ZC (p : Program) (s : State) (m : MethodId) (args : Array Value) (meth : Method) (c : Code) (own : String) (cc : ByteArray) (nL : Nat) (ret : Option FieldType) (D : va_G) (cI : ClassId) (A : Nat → Prop) : Prop :=
  CallFix p m c cc nL s args wsL_law own ∧ va_K D vwCl (z_tys cI) s ∧ z_nestOK s ∧ (∀ q : Nat, s.heap.size ≤ q → A q) ∧ meth.locks = false ∧ meth.sig.returnType = ret
def ZZ (p : Program) (l : Launch) (e : Env) (R : Room) (s : State) (m : MethodId) (args : Array Value) (below : List Frame) (meth : Method) (c : Code) (D : va_G) (A : Nat → Prop) (nL cells slots : Nat) (Qf : State → Prop) (bs : List va_W) (pc : Nat) (ls : List (Option Value)) (st : List Value) : Prop :=
  ∀ (H : Heap) (locs : List Loc) (la : Array Slot), va_P D vwCl bs.flatten H → va_D A bs.flatten → va_S A s.heap H locs → zL la nL ls → W p l e R s m args below meth c H locs cells slots Qf (F0 m pc la st)
def ZQ (D : va_G) (A : Nat → Prop) {S : Type} (rv : S → Option Value) (w1 : S → List va_W) (Q : S → Prop) : Array Value → State → Outcome → State → Prop := fun _ st o t => (∃ u : S, o = .returned (rv u) ∧ Q u ∧ va_P D vwCl (w1 u).flatten t.heap ∧ va_D A (w1 u).flatten) ∧ va_F A st t
def ZM {S : Type} (l : Launch) (D : va_G) (cI : ClassId) (y : MethodName) (cc : ByteArray) (nL : Nat) (ret : Option FieldType) (rm : Room) (av : List Value) (w0 : List va_W) (rv : S → Option Value) (w1 : S → List va_W) (Q : S → Prop) : Prop :=
  ∀ sz : Nat, Met l y (.code y cc nL ret :: wsL_law) rm (va_Pc av (fun U => U.heap.size = sz ∧ va_P D vwCl w0.flatten U.heap ∧ va_K D vwCl (z_tys cI) U ∧ z_nestOK U ∧ va_D (fun _ => True) w0.flatten)) (ZQ D (va_A w0.flatten sz) rv w1 Q) rm.cells rm.slots (va_A w0.flatten sz)
theorem z_vals {v : Value} {vs : List Value} (h : vs.all (fun v => v.category == 1) = true) : ∀ v ∈ vs, v.category = 1 := fun v hv => by simpa using List.all_eq_true.mp h v hv
/-- a method's contract, out of its walk -/
theorem z_body {S : Type} {l : Launch} {D : va_G} {cI : ClassId} {y : MethodName} {cc : ByteArray} {nL : Nat} {ret : Option FieldType} {rm : Room} {av : List Value} {w0 : List va_W} {rv : S → Option Value} {w1 : S → List va_W} {Q : S → Prop} (ls0 : List (Option Value))
    (hy : plainName y.cls = true) (hc : av.all (fun v => v.category == 1) = true) (hn : (lg_sl av).length ≤ nL) (hls : ls0 = av.map some ++ List.replicate (nL - av.length) none)
    (h : ∀ (p : Program) (e : Env) (s : State) (m : MethodId) (args : Array Value) (below : List Frame) (meth : Method) (c : Code) (A : Nat → Prop), ZC p s m args meth c y.cls cc nL ret D cI A → meth.name = y.name →
      ZZ p l e rm s m args below meth c D A nL 0 0 (MQ below (ZQ D A rv w1 Q) args s rm.cells rm.slots A) w0 0 ls0 []) : ZM l D cI y cc nL ret rm av w0 rv w1 Q := by
  intro sz
  refine Met.ofW (cc := cc) (maxL := nL) (ret := ret) hy rfl ?_
  intro p e s m args below meth c s₁ B hml hv
  obtain ⟨rfl, hsz, hP, hK, hN, hD0⟩ := hv
  subst hsz
  have hts := atoms_spec (ws := .code y cc nL ret :: wsL_law) B.pre
  have hown : s.vm.findClass y.cls = some m.cls := findClass_of_methodNamed B.named
  have hD := hD0.self (sz := s.heap.size)
  have hA : ∀ q : Nat, s.heap.size ≤ q → va_A w0.flatten s.heap.size q := fun q h => Or.inr h
  have hin := (name_of_methodNamed B.named B.method).1
  rw [lg_entry_eq]
  exact h p e s m _ below meth c _ ⟨⟨B.exec, B.bytes, hml, hown, fun w hw => hts w (List.mem_cons_of_mem _ hw)⟩, hK, hN, hA, B.notSynchronized, B.returns⟩ hin s.heap [] _ hP hD va_S.rf (zL.entry av (z_vals (v := .int 0) hc) hn ls0 hls)
section ZR
variable {p : Program} {l : Launch} {e : Env} {R : Room} {s : State} {m : MethodId} {args : Array Value} {below : List Frame} {meth : Method} {c : Code} {own : String} {cc : ByteArray} {nL : Nat} {ret : Option FieldType} {D : va_G} {cI : ClassId} {A : Nat → Prop} {cells slots : Nat} {Qf : State → Prop} {bs : List va_W} {pc : Nat} {ls : List (Option Value)} {st : List Value}

theorem z_iconst (C : ZC p s m args meth c own cc nL ret D cI A) {n : Int} (hdg : decode cc pc = .ok (.iconst n, 1)) (v : Int32) (hv : Int32.ofInt n = v) (kk : ZZ p l e R s m args below meth c D A nL cells slots Qf bs (pc + 1) ls (.int v :: st)) : ZZ p l e R s m args below meth c D A nL cells slots Qf bs pc ls st := by
  intro H locs la hP hD hS hl
  obtain ⟨⟨hx, hb, hml, hown, hts⟩, hK, hN, hA, hlk, hrt⟩ := C
  exact lv_iconst hx hb hdg hv (kk H locs la hP hD hS hl)
theorem z_bipush (C : ZC p s m args meth c own cc nL ret D cI A) {n : Int} (hdg : decode cc pc = .ok (.bipush n, 2)) (v : Int32) (hv : (Int8.ofInt n).toInt32 = v) (kk : ZZ p l e R s m args below meth c D A nL cells slots Qf bs (pc + 2) ls (.int v :: st)) : ZZ p l e R s m args below meth c D A nL cells slots Qf bs pc ls st := by
  intro H locs la hP hD hS hl
  obtain ⟨⟨hx, hb, hml, hown, hts⟩, hK, hN, hA, hlk, hrt⟩ := C
  exact lv_bipush hx hb hdg hv (kk H locs la hP hD hS hl)
theorem z_sipush (C : ZC p s m args meth c own cc nL ret D cI A) {n : Int} (hdg : decode cc pc = .ok (.sipush n, 3)) (v : Int32) (hv : (Int16.ofInt n).toInt32 = v) (kk : ZZ p l e R s m args below meth c D A nL cells slots Qf bs (pc + 3) ls (.int v :: st)) : ZZ p l e R s m args below meth c D A nL cells slots Qf bs pc ls st := by
  intro H locs la hP hD hS hl
  obtain ⟨⟨hx, hb, hml, hown, hts⟩, hK, hN, hA, hlk, hrt⟩ := C
  exact lv_sipush hx hb hdg hv (kk H locs la hP hD hS hl)
theorem z_iload_n (C : ZC p s m args meth c own cc nL ret D cI A) {k : Fin 4} (hdg : decode cc pc = .ok (.iload_n k, 1)) {x : Int32} (hl0 : ls[(k : Nat)]? = some (some (.int x))) (kk : ZZ p l e R s m args below meth c D A nL cells slots Qf bs (pc + 1) ls (.int x :: st)) : ZZ p l e R s m args below meth c D A nL cells slots Qf bs pc ls st := by
  intro H locs la hP hD hS hl
  obtain ⟨⟨hx, hb, hml, hown, hts⟩, hK, hN, hA, hlk, hrt⟩ := C
  exact lv_iload_n hx hb hdg rfl (hl.at hl0) (kk H locs la hP hD hS hl)
theorem z_iload (C : ZC p s m args meth c own cc nL ret D cI A) {i : Nat} (hdg : decode cc pc = .ok (.iload i, 2)) {x : Int32} (hl0 : ls[i]? = some (some (.int x))) (kk : ZZ p l e R s m args below meth c D A nL cells slots Qf bs (pc + 2) ls (.int x :: st)) : ZZ p l e R s m args below meth c D A nL cells slots Qf bs pc ls st := by
  intro H locs la hP hD hS hl
  obtain ⟨⟨hx, hb, hml, hown, hts⟩, hK, hN, hA, hlk, hrt⟩ := C
  exact lv_iload hx hb hdg (hl.at hl0) (kk H locs la hP hD hS hl)
theorem z_istore_n (C : ZC p s m args meth c own cc nL ret D cI A) {k : Fin 4} {x : Int32} (hdg : decode cc pc = .ok (.istore_n k, 1)) (ls1 : List (Option Value)) (hn : (k : Nat) < nL) (hls : ls.set (k : Nat) (some (.int x)) = ls1) (kk : ZZ p l e R s m args below meth c D A nL cells slots Qf bs (pc + 1) ls1 st) : ZZ p l e R s m args below meth c D A nL cells slots Qf bs pc ls (.int x :: st) := by
  intro H locs la hP hD hS hl
  obtain ⟨⟨hx, hb, hml, hown, hts⟩, hK, hN, hA, hlk, hrt⟩ := C
  subst hls
  exact lv_istore_n hx hb hdg rfl hl.1 hn rfl (fun la2 h2 => kk H locs la2 hP hD hS (hl.set h2 rfl))
theorem z_istore (C : ZC p s m args meth c own cc nL ret D cI A) {i : Nat} {x : Int32} (hdg : decode cc pc = .ok (.istore i, 2)) (ls1 : List (Option Value)) (hn : i < nL) (hls : ls.set i (some (.int x)) = ls1) (kk : ZZ p l e R s m args below meth c D A nL cells slots Qf bs (pc + 2) ls1 st) : ZZ p l e R s m args below meth c D A nL cells slots Qf bs pc ls (.int x :: st) := by
  intro H locs la hP hD hS hl
  obtain ⟨⟨hx, hb, hml, hown, hts⟩, hK, hN, hA, hlk, hrt⟩ := C
  subst hls
  exact lv_istore hx hb hdg hl.1 hn rfl (fun la2 h2 => kk H locs la2 hP hD hS (hl.set h2 rfl))
theorem z_aload_n (C : ZC p s m args meth c own cc nL ret D cI A) {k : Fin 4} (hdg : decode cc pc = .ok (.aload_n k, 1)) {x : Nat} (hl0 : ls[(k : Nat)]? = some (some (.ref x))) (kk : ZZ p l e R s m args below meth c D A nL cells slots Qf bs (pc + 1) ls (.ref x :: st)) : ZZ p l e R s m args below meth c D A nL cells slots Qf bs pc ls st := by
  intro H locs la hP hD hS hl
  obtain ⟨⟨hx, hb, hml, hown, hts⟩, hK, hN, hA, hlk, hrt⟩ := C
  exact lv_aload_n hx hb hdg rfl (hl.at hl0) (kk H locs la hP hD hS hl)
theorem z_aload (C : ZC p s m args meth c own cc nL ret D cI A) {i : Nat} (hdg : decode cc pc = .ok (.aload i, 2)) {x : Nat} (hl0 : ls[i]? = some (some (.ref x))) (kk : ZZ p l e R s m args below meth c D A nL cells slots Qf bs (pc + 2) ls (.ref x :: st)) : ZZ p l e R s m args below meth c D A nL cells slots Qf bs pc ls st := by
  intro H locs la hP hD hS hl
  obtain ⟨⟨hx, hb, hml, hown, hts⟩, hK, hN, hA, hlk, hrt⟩ := C
  exact lv_aload hx hb hdg (hl.at hl0) (kk H locs la hP hD hS hl)
theorem z_astore_n (C : ZC p s m args meth c own cc nL ret D cI A) {k : Fin 4} {x : Nat} (hdg : decode cc pc = .ok (.astore_n k, 1)) (ls1 : List (Option Value)) (hn : (k : Nat) < nL) (hls : ls.set (k : Nat) (some (.ref x)) = ls1) (kk : ZZ p l e R s m args below meth c D A nL cells slots Qf bs (pc + 1) ls1 st) : ZZ p l e R s m args below meth c D A nL cells slots Qf bs pc ls (.ref x :: st) := by
  intro H locs la hP hD hS hl
  obtain ⟨⟨hx, hb, hml, hown, hts⟩, hK, hN, hA, hlk, hrt⟩ := C
  subst hls
  exact lv_astore_n hx hb hdg rfl hl.1 hn rfl (fun la2 h2 => kk H locs la2 hP hD hS (hl.set h2 rfl))
theorem z_astore (C : ZC p s m args meth c own cc nL ret D cI A) {i : Nat} {x : Nat} (hdg : decode cc pc = .ok (.astore i, 2)) (ls1 : List (Option Value)) (hn : i < nL) (hls : ls.set i (some (.ref x)) = ls1) (kk : ZZ p l e R s m args below meth c D A nL cells slots Qf bs (pc + 2) ls1 st) : ZZ p l e R s m args below meth c D A nL cells slots Qf bs pc ls (.ref x :: st) := by
  intro H locs la hP hD hS hl
  obtain ⟨⟨hx, hb, hml, hown, hts⟩, hK, hN, hA, hlk, hrt⟩ := C
  subst hls
  exact lv_astore hx hb hdg hl.1 hn rfl (fun la2 h2 => kk H locs la2 hP hD hS (hl.set h2 rfl))
theorem z_iinc (C : ZC p s m args meth c own cc nL ret D cI A) {i : Nat} {n : Int} {x : Int32} (hdg : decode cc pc = .ok (.iinc i n, 3)) (hl0 : ls[i]? = some (some (.int x))) (v : Int32) (hv : x + Int32.ofInt n = v) (ls1 : List (Option Value)) (hn : i < nL) (hls : ls.set i (some (.int v)) = ls1) (kk : ZZ p l e R s m args below meth c D A nL cells slots Qf bs (pc + 3) ls1 st) : ZZ p l e R s m args below meth c D A nL cells slots Qf bs pc ls st := by
  intro H locs la hP hD hS hl
  obtain ⟨⟨hx, hb, hml, hown, hts⟩, hK, hN, hA, hlk, hrt⟩ := C
  subst hls
  obtain ⟨k, hk⟩ := List.getElem?_of_mem ((z_pairs_mem ls 0 (j := i) (w := .int x)).mpr ⟨Nat.zero_le _, by simpa using hl0⟩)
  exact lv_iinc hx hb hdg hl.1 hk hv hn rfl (fun la2 h2 => kk H locs la2 hP hD hS (hl.set h2 rfl))
theorem z_iadd (C : ZC p s m args meth c own cc nL ret D cI A) {x y : Int32} (hdg : decode cc pc = .ok (.iadd, 1)) (kk : ZZ p l e R s m args below meth c D A nL cells slots Qf bs (pc + 1) ls (.int (x + y) :: st)) : ZZ p l e R s m args below meth c D A nL cells slots Qf bs pc ls (.int y :: .int x :: st) := by
  intro H locs la hP hD hS hl
  obtain ⟨⟨hx, hb, hml, hown, hts⟩, hK, hN, hA, hlk, hrt⟩ := C
  exact lv_iadd hx hb hdg (kk H locs la hP hD hS hl)
theorem z_isub (C : ZC p s m args meth c own cc nL ret D cI A) {x y : Int32} (hdg : decode cc pc = .ok (.isub, 1)) (kk : ZZ p l e R s m args below meth c D A nL cells slots Qf bs (pc + 1) ls (.int (x - y) :: st)) : ZZ p l e R s m args below meth c D A nL cells slots Qf bs pc ls (.int y :: .int x :: st) := by
  intro H locs la hP hD hS hl
  obtain ⟨⟨hx, hb, hml, hown, hts⟩, hK, hN, hA, hlk, hrt⟩ := C
  exact lv_isub hx hb hdg (kk H locs la hP hD hS hl)
theorem z_imul (C : ZC p s m args meth c own cc nL ret D cI A) {x y : Int32} (hdg : decode cc pc = .ok (.imul, 1)) (kk : ZZ p l e R s m args below meth c D A nL cells slots Qf bs (pc + 1) ls (.int (x * y) :: st)) : ZZ p l e R s m args below meth c D A nL cells slots Qf bs pc ls (.int y :: .int x :: st) := by
  intro H locs la hP hD hS hl
  obtain ⟨⟨hx, hb, hml, hown, hts⟩, hK, hN, hA, hlk, hrt⟩ := C
  exact lv_imul hx hb hdg (kk H locs la hP hD hS hl)
theorem z_iand (C : ZC p s m args meth c own cc nL ret D cI A) {x y : Int32} (hdg : decode cc pc = .ok (.iand, 1)) (kk : ZZ p l e R s m args below meth c D A nL cells slots Qf bs (pc + 1) ls (.int (x &&& y) :: st)) : ZZ p l e R s m args below meth c D A nL cells slots Qf bs pc ls (.int y :: .int x :: st) := by
  intro H locs la hP hD hS hl
  obtain ⟨⟨hx, hb, hml, hown, hts⟩, hK, hN, hA, hlk, hrt⟩ := C
  exact lv_iand hx hb hdg (kk H locs la hP hD hS hl)
theorem z_ior (C : ZC p s m args meth c own cc nL ret D cI A) {x y : Int32} (hdg : decode cc pc = .ok (.ior, 1)) (kk : ZZ p l e R s m args below meth c D A nL cells slots Qf bs (pc + 1) ls (.int (x ||| y) :: st)) : ZZ p l e R s m args below meth c D A nL cells slots Qf bs pc ls (.int y :: .int x :: st) := by
  intro H locs la hP hD hS hl
  obtain ⟨⟨hx, hb, hml, hown, hts⟩, hK, hN, hA, hlk, hrt⟩ := C
  exact lv_ior hx hb hdg (kk H locs la hP hD hS hl)
theorem z_idiv (C : ZC p s m args meth c own cc nL ret D cI A) {x y : Int32} (hdg : decode cc pc = .ok (.idiv, 1)) (hne : ¬ y = 0) (kk : ZZ p l e R s m args below meth c D A nL cells slots Qf bs (pc + 1) ls (.int (x / y) :: st)) : ZZ p l e R s m args below meth c D A nL cells slots Qf bs pc ls (.int y :: .int x :: st) := by
  intro H locs la hP hD hS hl
  obtain ⟨⟨hx, hb, hml, hown, hts⟩, hK, hN, hA, hlk, hrt⟩ := C
  exact lv_idiv hx hb hdg hne (kk H locs la hP hD hS hl)
theorem z_irem (C : ZC p s m args meth c own cc nL ret D cI A) {x y : Int32} (hdg : decode cc pc = .ok (.irem, 1)) (hne : ¬ y = 0) (kk : ZZ p l e R s m args below meth c D A nL cells slots Qf bs (pc + 1) ls (.int ((x - x / y * y)) :: st)) : ZZ p l e R s m args below meth c D A nL cells slots Qf bs pc ls (.int y :: .int x :: st) := by
  intro H locs la hP hD hS hl
  obtain ⟨⟨hx, hb, hml, hown, hts⟩, hK, hN, hA, hlk, hrt⟩ := C
  exact lv_irem hx hb hdg hne (kk H locs la hP hD hS hl)
theorem z_ishl (C : ZC p s m args meth c own cc nL ret D cI A) {x y : Int32} (hdg : decode cc pc = .ok (.ishl, 1)) (kk : ZZ p l e R s m args below meth c D A nL cells slots Qf bs (pc + 1) ls (.int ((x <<< (y &&& 31))) :: st)) : ZZ p l e R s m args below meth c D A nL cells slots Qf bs pc ls (.int y :: .int x :: st) := by
  intro H locs la hP hD hS hl
  obtain ⟨⟨hx, hb, hml, hown, hts⟩, hK, hN, hA, hlk, hrt⟩ := C
  exact lv_ishl hx hb hdg (kk H locs la hP hD hS hl)
theorem z_ishr (C : ZC p s m args meth c own cc nL ret D cI A) {x y : Int32} (hdg : decode cc pc = .ok (.ishr, 1)) (kk : ZZ p l e R s m args below meth c D A nL cells slots Qf bs (pc + 1) ls (.int ((x >>> (y &&& 31))) :: st)) : ZZ p l e R s m args below meth c D A nL cells slots Qf bs pc ls (.int y :: .int x :: st) := by
  intro H locs la hP hD hS hl
  obtain ⟨⟨hx, hb, hml, hown, hts⟩, hK, hN, hA, hlk, hrt⟩ := C
  exact lv_ishr hx hb hdg (kk H locs la hP hD hS hl)
theorem z_dup (C : ZC p s m args meth c own cc nL ret D cI A) {va : Value} (hdg : decode cc pc = .ok (.dup, 1)) (hva : va.category = 1) (kk : ZZ p l e R s m args below meth c D A nL cells slots Qf bs (pc + 1) ls (va :: va :: st)) : ZZ p l e R s m args below meth c D A nL cells slots Qf bs pc ls (va :: st) := by
  intro H locs la hP hD hS hl
  obtain ⟨⟨hx, hb, hml, hown, hts⟩, hK, hN, hA, hlk, hrt⟩ := C
  exact lv_dup hx hb hdg hva (kk H locs la hP hD hS hl)
theorem z_dup2 (C : ZC p s m args meth c own cc nL ret D cI A) {va vb : Value} (hdg : decode cc pc = .ok (.dup2, 1)) (hva : va.category = 1) (hvb : vb.category = 1) (kk : ZZ p l e R s m args below meth c D A nL cells slots Qf bs (pc + 1) ls (va :: vb :: va :: vb :: st)) : ZZ p l e R s m args below meth c D A nL cells slots Qf bs pc ls (va :: vb :: st) := by
  intro H locs la hP hD hS hl
  obtain ⟨⟨hx, hb, hml, hown, hts⟩, hK, hN, hA, hlk, hrt⟩ := C
  exact lv_dup2_11 hx hb hdg hva hvb (kk H locs la hP hD hS hl)
theorem z_pop (C : ZC p s m args meth c own cc nL ret D cI A) {va : Value} (hdg : decode cc pc = .ok (.pop, 1)) (hva : va.category = 1) (kk : ZZ p l e R s m args below meth c D A nL cells slots Qf bs (pc + 1) ls st) : ZZ p l e R s m args below meth c D A nL cells slots Qf bs pc ls (va :: st) := by
  intro H locs la hP hD hS hl
  obtain ⟨⟨hx, hb, hml, hown, hts⟩, hK, hN, hA, hlk, hrt⟩ := C
  exact lv_pop hx hb hdg hva (kk H locs la hP hD hS hl)
theorem z_name (C : ZC p s m args meth c own cc nL ret D cI A) {x : Int32} (kk : ∀ y : Int32, y = x → ZZ p l e R s m args below meth c D A nL cells slots Qf bs pc ls (.int y :: st)) : ZZ p l e R s m args below meth c D A nL cells slots Qf bs pc ls (.int x :: st) := by
  intro H locs la hP hD hS hl
  obtain ⟨⟨hx, hb, hml, hown, hts⟩, hK, hN, hA, hlk, hrt⟩ := C
  exact kk x rfl H locs la hP hD hS hl
theorem z_icmp_eq (C : ZC p s m args meth c own cc nL ret D cI A) {x y : Int32} {off : Int} (hdg : decode cc pc = .ok (.if_icmp .eq off, 3)) (tgt : Nat) (ht : (pc : Int) + off = (tgt : Int)) (kt : x = y → ZZ p l e R s m args below meth c D A nL cells slots Qf bs tgt ls st) (kf : ¬ x = y → ZZ p l e R s m args below meth c D A nL cells slots Qf bs (pc + 3) ls st) : ZZ p l e R s m args below meth c D A nL cells slots Qf bs pc ls (.int y :: .int x :: st) := by
  intro H locs la hP hD hS hl
  obtain ⟨⟨hx, hb, hml, hown, hts⟩, hK, hN, hA, hlk, hrt⟩ := C
  exact lv_icmp_eq hx hb hdg ht (fun h => kt h H locs la hP hD hS hl) (fun h => kf h H locs la hP hD hS hl)
theorem z_if_eq (C : ZC p s m args meth c own cc nL ret D cI A) {x : Int32} {off : Int} (hdg : decode cc pc = .ok (.ifCond .eq off, 3)) (tgt : Nat) (ht : (pc : Int) + off = (tgt : Int)) (kt : x = 0 → ZZ p l e R s m args below meth c D A nL cells slots Qf bs tgt ls st) (kf : ¬ x = 0 → ZZ p l e R s m args below meth c D A nL cells slots Qf bs (pc + 3) ls st) : ZZ p l e R s m args below meth c D A nL cells slots Qf bs pc ls (.int x :: st) := by
  intro H locs la hP hD hS hl
  obtain ⟨⟨hx, hb, hml, hown, hts⟩, hK, hN, hA, hlk, hrt⟩ := C
  exact lv_if_eq hx hb hdg ht (fun h => kt h H locs la hP hD hS hl) (fun h => kf h H locs la hP hD hS hl)
theorem z_icmp_ne (C : ZC p s m args meth c own cc nL ret D cI A) {x y : Int32} {off : Int} (hdg : decode cc pc = .ok (.if_icmp .ne off, 3)) (tgt : Nat) (ht : (pc : Int) + off = (tgt : Int)) (kt : ¬ x = y → ZZ p l e R s m args below meth c D A nL cells slots Qf bs tgt ls st) (kf : x = y → ZZ p l e R s m args below meth c D A nL cells slots Qf bs (pc + 3) ls st) : ZZ p l e R s m args below meth c D A nL cells slots Qf bs pc ls (.int y :: .int x :: st) := by
  intro H locs la hP hD hS hl
  obtain ⟨⟨hx, hb, hml, hown, hts⟩, hK, hN, hA, hlk, hrt⟩ := C
  exact lv_icmp_ne hx hb hdg ht (fun h => kt h H locs la hP hD hS hl) (fun h => kf h H locs la hP hD hS hl)
theorem z_if_ne (C : ZC p s m args meth c own cc nL ret D cI A) {x : Int32} {off : Int} (hdg : decode cc pc = .ok (.ifCond .ne off, 3)) (tgt : Nat) (ht : (pc : Int) + off = (tgt : Int)) (kt : ¬ x = 0 → ZZ p l e R s m args below meth c D A nL cells slots Qf bs tgt ls st) (kf : x = 0 → ZZ p l e R s m args below meth c D A nL cells slots Qf bs (pc + 3) ls st) : ZZ p l e R s m args below meth c D A nL cells slots Qf bs pc ls (.int x :: st) := by
  intro H locs la hP hD hS hl
  obtain ⟨⟨hx, hb, hml, hown, hts⟩, hK, hN, hA, hlk, hrt⟩ := C
  exact lv_if_ne hx hb hdg ht (fun h => kt h H locs la hP hD hS hl) (fun h => kf h H locs la hP hD hS hl)
theorem z_icmp_lt (C : ZC p s m args meth c own cc nL ret D cI A) {x y : Int32} {off : Int} (hdg : decode cc pc = .ok (.if_icmp .lt off, 3)) (tgt : Nat) (ht : (pc : Int) + off = (tgt : Int)) (kt : x < y → ZZ p l e R s m args below meth c D A nL cells slots Qf bs tgt ls st) (kf : ¬ x < y → ZZ p l e R s m args below meth c D A nL cells slots Qf bs (pc + 3) ls st) : ZZ p l e R s m args below meth c D A nL cells slots Qf bs pc ls (.int y :: .int x :: st) := by
  intro H locs la hP hD hS hl
  obtain ⟨⟨hx, hb, hml, hown, hts⟩, hK, hN, hA, hlk, hrt⟩ := C
  exact lv_icmp_lt hx hb hdg ht (fun h => kt h H locs la hP hD hS hl) (fun h => kf h H locs la hP hD hS hl)
theorem z_if_lt (C : ZC p s m args meth c own cc nL ret D cI A) {x : Int32} {off : Int} (hdg : decode cc pc = .ok (.ifCond .lt off, 3)) (tgt : Nat) (ht : (pc : Int) + off = (tgt : Int)) (kt : x < 0 → ZZ p l e R s m args below meth c D A nL cells slots Qf bs tgt ls st) (kf : ¬ x < 0 → ZZ p l e R s m args below meth c D A nL cells slots Qf bs (pc + 3) ls st) : ZZ p l e R s m args below meth c D A nL cells slots Qf bs pc ls (.int x :: st) := by
  intro H locs la hP hD hS hl
  obtain ⟨⟨hx, hb, hml, hown, hts⟩, hK, hN, hA, hlk, hrt⟩ := C
  exact lv_if_lt hx hb hdg ht (fun h => kt h H locs la hP hD hS hl) (fun h => kf h H locs la hP hD hS hl)
theorem z_icmp_ge (C : ZC p s m args meth c own cc nL ret D cI A) {x y : Int32} {off : Int} (hdg : decode cc pc = .ok (.if_icmp .ge off, 3)) (tgt : Nat) (ht : (pc : Int) + off = (tgt : Int)) (kt : y ≤ x → ZZ p l e R s m args below meth c D A nL cells slots Qf bs tgt ls st) (kf : ¬ y ≤ x → ZZ p l e R s m args below meth c D A nL cells slots Qf bs (pc + 3) ls st) : ZZ p l e R s m args below meth c D A nL cells slots Qf bs pc ls (.int y :: .int x :: st) := by
  intro H locs la hP hD hS hl
  obtain ⟨⟨hx, hb, hml, hown, hts⟩, hK, hN, hA, hlk, hrt⟩ := C
  exact lv_icmp_ge hx hb hdg ht (fun h => kt h H locs la hP hD hS hl) (fun h => kf h H locs la hP hD hS hl)
theorem z_if_ge (C : ZC p s m args meth c own cc nL ret D cI A) {x : Int32} {off : Int} (hdg : decode cc pc = .ok (.ifCond .ge off, 3)) (tgt : Nat) (ht : (pc : Int) + off = (tgt : Int)) (kt : 0 ≤ x → ZZ p l e R s m args below meth c D A nL cells slots Qf bs tgt ls st) (kf : ¬ 0 ≤ x → ZZ p l e R s m args below meth c D A nL cells slots Qf bs (pc + 3) ls st) : ZZ p l e R s m args below meth c D A nL cells slots Qf bs pc ls (.int x :: st) := by
  intro H locs la hP hD hS hl
  obtain ⟨⟨hx, hb, hml, hown, hts⟩, hK, hN, hA, hlk, hrt⟩ := C
  exact lv_if_ge hx hb hdg ht (fun h => kt h H locs la hP hD hS hl) (fun h => kf h H locs la hP hD hS hl)
theorem z_icmp_gt (C : ZC p s m args meth c own cc nL ret D cI A) {x y : Int32} {off : Int} (hdg : decode cc pc = .ok (.if_icmp .gt off, 3)) (tgt : Nat) (ht : (pc : Int) + off = (tgt : Int)) (kt : y < x → ZZ p l e R s m args below meth c D A nL cells slots Qf bs tgt ls st) (kf : ¬ y < x → ZZ p l e R s m args below meth c D A nL cells slots Qf bs (pc + 3) ls st) : ZZ p l e R s m args below meth c D A nL cells slots Qf bs pc ls (.int y :: .int x :: st) := by
  intro H locs la hP hD hS hl
  obtain ⟨⟨hx, hb, hml, hown, hts⟩, hK, hN, hA, hlk, hrt⟩ := C
  exact lv_icmp_gt hx hb hdg ht (fun h => kt h H locs la hP hD hS hl) (fun h => kf h H locs la hP hD hS hl)
theorem z_if_gt (C : ZC p s m args meth c own cc nL ret D cI A) {x : Int32} {off : Int} (hdg : decode cc pc = .ok (.ifCond .gt off, 3)) (tgt : Nat) (ht : (pc : Int) + off = (tgt : Int)) (kt : 0 < x → ZZ p l e R s m args below meth c D A nL cells slots Qf bs tgt ls st) (kf : ¬ 0 < x → ZZ p l e R s m args below meth c D A nL cells slots Qf bs (pc + 3) ls st) : ZZ p l e R s m args below meth c D A nL cells slots Qf bs pc ls (.int x :: st) := by
  intro H locs la hP hD hS hl
  obtain ⟨⟨hx, hb, hml, hown, hts⟩, hK, hN, hA, hlk, hrt⟩ := C
  exact lv_if_gt hx hb hdg ht (fun h => kt h H locs la hP hD hS hl) (fun h => kf h H locs la hP hD hS hl)
theorem z_icmp_le (C : ZC p s m args meth c own cc nL ret D cI A) {x y : Int32} {off : Int} (hdg : decode cc pc = .ok (.if_icmp .le off, 3)) (tgt : Nat) (ht : (pc : Int) + off = (tgt : Int)) (kt : x ≤ y → ZZ p l e R s m args below meth c D A nL cells slots Qf bs tgt ls st) (kf : ¬ x ≤ y → ZZ p l e R s m args below meth c D A nL cells slots Qf bs (pc + 3) ls st) : ZZ p l e R s m args below meth c D A nL cells slots Qf bs pc ls (.int y :: .int x :: st) := by
  intro H locs la hP hD hS hl
  obtain ⟨⟨hx, hb, hml, hown, hts⟩, hK, hN, hA, hlk, hrt⟩ := C
  exact lv_icmp_le hx hb hdg ht (fun h => kt h H locs la hP hD hS hl) (fun h => kf h H locs la hP hD hS hl)
theorem z_if_le (C : ZC p s m args meth c own cc nL ret D cI A) {x : Int32} {off : Int} (hdg : decode cc pc = .ok (.ifCond .le off, 3)) (tgt : Nat) (ht : (pc : Int) + off = (tgt : Int)) (kt : x ≤ 0 → ZZ p l e R s m args below meth c D A nL cells slots Qf bs tgt ls st) (kf : ¬ x ≤ 0 → ZZ p l e R s m args below meth c D A nL cells slots Qf bs (pc + 3) ls st) : ZZ p l e R s m args below meth c D A nL cells slots Qf bs pc ls (.int x :: st) := by
  intro H locs la hP hD hS hl
  obtain ⟨⟨hx, hb, hml, hown, hts⟩, hK, hN, hA, hlk, hrt⟩ := C
  exact lv_if_le hx hb hdg ht (fun h => kt h H locs la hP hD hS hl) (fun h => kf h H locs la hP hD hS hl)
theorem z_goto (C : ZC p s m args meth c own cc nL ret D cI A) {off : Int} (hdg : decode cc pc = .ok (.goto off, 3)) (tgt : Nat) (ht : (pc : Int) + off = (tgt : Int)) (kk : ZZ p l e R s m args below meth c D A nL cells slots Qf bs tgt ls st) : ZZ p l e R s m args below meth c D A nL cells slots Qf bs pc ls st := by
  intro H locs la hP hD hS hl
  obtain ⟨⟨hx, hb, hml, hown, hts⟩, hK, hN, hA, hlk, hrt⟩ := C
  exact lv_goto hx hb hdg ht (kk H locs la hP hD hS hl)
theorem z_tableIn (C : ZC p s m args meth c own cc nL ret D cI A) {dflt lo hi : Int} {offs : Array Int} {len : Nat} {x : Int32} (hdg : decode cc pc = .ok (.tableswitch dflt lo hi offs, len)) (h1 : ¬ x.toInt < lo) (h2 : ¬ hi < x.toInt) (off : Int) (ho : offs[(x.toInt - lo).toNat]? = some off) (tgt : Nat) (ht : (pc : Int) + off = (tgt : Int)) (kk : ZZ p l e R s m args below meth c D A nL cells slots Qf bs tgt ls st) : ZZ p l e R s m args below meth c D A nL cells slots Qf bs pc ls (.int x :: st) := by
  intro H locs la hP hD hS hl
  obtain ⟨⟨hx, hb, hml, hown, hts⟩, hK, hN, hA, hlk, hrt⟩ := C
  exact lv_tableIn hx hb hdg h1 h2 ho ht (kk H locs la hP hD hS hl)
theorem z_tableOut (C : ZC p s m args meth c own cc nL ret D cI A) {dflt lo hi : Int} {offs : Array Int} {len : Nat} {x : Int32} (hdg : decode cc pc = .ok (.tableswitch dflt lo hi offs, len)) (h : x.toInt < lo ∨ hi < x.toInt) (tgt : Nat) (ht : (pc : Int) + dflt = (tgt : Int)) (kk : ZZ p l e R s m args below meth c D A nL cells slots Qf bs tgt ls st) : ZZ p l e R s m args below meth c D A nL cells slots Qf bs pc ls (.int x :: st) := by
  intro H locs la hP hD hS hl
  obtain ⟨⟨hx, hb, hml, hown, hts⟩, hK, hN, hA, hlk, hrt⟩ := C
  exact lv_tableOut hx hb hdg h ht (kk H locs la hP hD hS hl)
theorem z_lookup (C : ZC p s m args meth c own cc nL ret D cI A) {dflt : Int} {ps : Array (Int × Int)} {len : Nat} {x : Int32} (hdg : decode cc pc = .ok (.lookupswitch dflt ps, len)) (hp : (ps.toList.zip (ps.toList.drop 1)).all (fun (a, next) => a.1 < next.1) = true) (off : Int) (ho : Op.lookupswitch.offset ps.toList dflt x.toInt = off) (tgt : Nat) (ht : (pc : Int) + off = (tgt : Int)) (kk : ZZ p l e R s m args below meth c D A nL cells slots Qf bs tgt ls st) : ZZ p l e R s m args below meth c D A nL cells slots Qf bs pc ls (.int x :: st) := by
  intro H locs la hP hD hS hl
  obtain ⟨⟨hx, hb, hml, hown, hts⟩, hK, hN, hA, hlk, hrt⟩ := C
  exact lv_lookup hx hb hdg hp ho ht (kk H locs la hP hD hS hl)
theorem z_ls (C : ZC p s m args meth c own cc nL ret D cI A) (bk : List Bool) (ls1 : List (Option Value)) (hls : z_mask bk ls = ls1) (kk : ZZ p l e R s m args below meth c D A nL cells slots Qf bs pc ls1 st) : ZZ p l e R s m args below meth c D A nL cells slots Qf bs pc ls st := by
  intro H locs la hP hD hS hl
  obtain ⟨⟨hx, hb, hml, hown, hts⟩, hK, hN, hA, hlk, hrt⟩ := C
  subst hls
  exact kk H locs la hP hD hS (hl.sub (z_mask_sub bk ls))
theorem z_perm (C : ZC p s m args meth c own cc nL ret D cI A) (bs1 : List va_W) (hp : bs.Perm bs1) (kk : ZZ p l e R s m args below meth c D A nL cells slots Qf bs1 pc ls st) : ZZ p l e R s m args below meth c D A nL cells slots Qf bs pc ls st := by
  intro H locs la hP hD hS hl
  obtain ⟨⟨hx, hb, hml, hown, hts⟩, hK, hN, hA, hlk, hrt⟩ := C
  exact kk H locs la (z_Pp hp.flatten hP) (z_Dp hp.flatten hD) hS hl
theorem z_eq (C : ZC p s m args meth c own cc nL ret D cI A) (bs1 : List va_W) (hp : bs.flatten = bs1.flatten) (kk : ZZ p l e R s m args below meth c D A nL cells slots Qf bs1 pc ls st) : ZZ p l e R s m args below meth c D A nL cells slots Qf bs pc ls st := by
  intro H locs la hP hD hS hl
  obtain ⟨⟨hx, hb, hml, hown, hts⟩, hK, hN, hA, hlk, hrt⟩ := C
  exact kk H locs la (hp ▸ hP) (hp ▸ hD) hS hl
theorem z_get (C : ZC p s m args meth c own cc nL ret D cI A) {Cn : String} {T : u_T} {N ci index : Nat} (hin : ∀ w ∈ u_ws Cn T N, w ∈ wsL_law) (hc : vwCl[ci]? = some (Cn, T, N)) (k : Nat) (hk : k < N) (hw : Cond.fieldLink own index (T k).1 (T k).2.1 (T k).2.2.1 ∈ wsL_law) (hdg : decode cc pc = .ok (.getfield index, 3)) (bi qi : Nat) {w : va_W} (hbi : bs[bi]? = some w) {a : Nat} {fs : List Value} (hqi : w[qi]? = some (a, .inr (ci, fs))) {v : Value} (hv : fs[k]? = some v) (kk : ZZ p l e R s m args below meth c D A nL cells slots Qf bs (pc + 3) ls (v :: st)) : ZZ p l e R s m args below meth c D A nL cells slots Qf bs pc ls (.ref a :: st) := by
  intro H locs la hP hD hS hl
  obtain ⟨⟨hx, hb, hml, hown, hts⟩, hK, hN, hA, hlk, hrt⟩ := C
  obtain ⟨q0, h0, -⟩ := z_flat_set bs bi qi hbi hqi
  exact va_get hx hb hts hin hown hK hP q0 h0 hc k hk (hts _ hw) (fun _ h9 => h9) hv hdg (kk H locs la hP hD hS hl)
theorem z_getN (C : ZC p s m args meth c own cc nL ret D cI A) {Cn : String} {T : u_T} {N ci index : Nat} {host : String} (hin : ∀ w ∈ u_ws Cn T N, w ∈ wsL_law) (hc : vwCl[ci]? = some (Cn, T, N)) (k : Nat) (hk : k < N) (hw : Cond.fieldLinkNest own index (T k).1 (T k).2.1 (T k).2.2.1 host ∈ z_nest) (hdg : decode cc pc = .ok (.getfield index, 3)) (bi qi : Nat) {w : va_W} (hbi : bs[bi]? = some w) {a : Nat} {fs : List Value} (hqi : w[qi]? = some (a, .inr (ci, fs))) {v : Value} (hv : fs[k]? = some v) (kk : ZZ p l e R s m args below meth c D A nL cells slots Qf bs (pc + 3) ls (v :: st)) : ZZ p l e R s m args below meth c D A nL cells slots Qf bs pc ls (.ref a :: st) := by
  intro H locs la hP hD hS hl
  obtain ⟨⟨hx, hb, hml, hown, hts⟩, hK, hN, hA, hlk, hrt⟩ := C
  obtain ⟨q0, h0, -⟩ := z_flat_set bs bi qi hbi hqi
  exact va_getN hx hb hts hin hown hK hP q0 h0 hc k hk (va_Nw.use rfl (hN _ hw)) (fun _ h9 => h9) hv hdg (kk H locs la hP hD hS hl)
theorem z_put (C : ZC p s m args meth c own cc nL ret D cI A) {Cn : String} {T : u_T} {N ci index : Nat} (hin : ∀ w ∈ u_ws Cn T N, w ∈ wsL_law) (hc : vwCl[ci]? = some (Cn, T, N)) (ty0 : Nat → FieldType) (hty : ∀ k, k < N → parseFieldDescriptor (T k).2.2.1 = some (ty0 k)) (hnm : ∀ a, a < N → ∀ b, b < N → a ≠ b → (T a).2.1 ≠ (T b).2.1) (k : Nat) (hk : k < N) (hw : Cond.fieldLink own index (T k).1 (T k).2.1 (T k).2.2.1 ∈ wsL_law) (hfin : (T k).2.2.2 = false) {ty : FieldType} {v : Value} (hd : ty0 k = ty) (hn : narrow ty v = v) (hfit : fits ty v = true) (hdg : decode cc pc = .ok (.putfield index, 3)) (bi qi : Nat) {w : va_W} (hbi : bs[bi]? = some w) {a : Nat} {fs : List Value} (hqi : w[qi]? = some (a, .inr (ci, fs))) (hl0 : k < fs.length) (bs1 : List va_W) (hbs : bs.set bi (w.set qi (a, .inr (ci, fs.set k v))) = bs1) (kk : ZZ p l e R s m args below meth c D A nL cells slots Qf bs1 (pc + 3) ls st) : ZZ p l e R s m args below meth c D A nL cells slots Qf bs pc ls (v :: .ref a :: st) := by
  intro H locs la hP hD hS hl
  obtain ⟨⟨hx, hb, hml, hown, hts⟩, hK, hN, hA, hlk, hrt⟩ := C
  subst hbs
  obtain ⟨q0, h0, h1⟩ := z_flat_set bs bi qi hbi hqi
  refine va_put hx hb hts hin ty0 hty hnm hown hK hP hD hS q0 h0 hc k hk (hts _ hw) (fun _ h9 => h9) hfin (by rw [hty k hk, hd]) hn hfit hl0 hdg (fun H1 locs1 hP hD hS => ?_)
  rw [h1] at hP hD
  exact kk H1 locs1 la hP hD hS hl
theorem z_putF (C : ZC p s m args meth c own cc nL ret D cI A) {Cn : String} {T : u_T} {N ci index : Nat} (hin : ∀ w ∈ u_ws Cn T N, w ∈ wsL_law) (hc : vwCl[ci]? = some (Cn, T, N)) (ty0 : Nat → FieldType) (hty : ∀ k, k < N → parseFieldDescriptor (T k).2.2.1 = some (ty0 k)) (hnm : ∀ a, a < N → ∀ b, b < N → a ≠ b → (T a).2.1 ≠ (T b).2.1) (k : Nat) (hk : k < N) (hw : Cond.fieldLink own index (T k).1 (T k).2.1 (T k).2.2.1 ∈ wsL_law) (hfin : (T k).2.2.2 = true) (hin2 : meth.name = "<init>") (hdecl : (T k).1 = own) {ty : FieldType} {v : Value} (hd : ty0 k = ty) (hn : narrow ty v = v) (hfit : fits ty v = true) (hdg : decode cc pc = .ok (.putfield index, 3)) (bi qi : Nat) {w : va_W} (hbi : bs[bi]? = some w) {a : Nat} {fs : List Value} (hqi : w[qi]? = some (a, .inr (ci, fs))) (hl0 : k < fs.length) (bs1 : List va_W) (hbs : bs.set bi (w.set qi (a, .inr (ci, fs.set k v))) = bs1) (kk : ZZ p l e R s m args below meth c D A nL cells slots Qf bs1 (pc + 3) ls st) : ZZ p l e R s m args below meth c D A nL cells slots Qf bs pc ls (v :: .ref a :: st) := by
  intro H locs la hP hD hS hl
  obtain ⟨⟨hx, hb, hml, hown, hts⟩, hK, hN, hA, hlk, hrt⟩ := C
  subst hbs
  obtain ⟨q0, h0, h1⟩ := z_flat_set bs bi qi hbi hqi
  refine va_putF hx hb hts hin ty0 hty hnm hown hK hP hD hS q0 h0 hc k hk (hts _ hw) (fun _ h9 => h9) hfin hin2 hdecl (by rw [hty k hk, hd]) hn hfit hl0 hdg (fun H1 locs1 hP hD hS => ?_)
  rw [h1] at hP hD
  exact kk H1 locs1 la hP hD hS hl
theorem z_putN (C : ZC p s m args meth c own cc nL ret D cI A) {Cn : String} {T : u_T} {N ci index : Nat} {host : String} (hin : ∀ w ∈ u_ws Cn T N, w ∈ wsL_law) (hc : vwCl[ci]? = some (Cn, T, N)) (ty0 : Nat → FieldType) (hty : ∀ k, k < N → parseFieldDescriptor (T k).2.2.1 = some (ty0 k)) (hnm : ∀ a, a < N → ∀ b, b < N → a ≠ b → (T a).2.1 ≠ (T b).2.1) (k : Nat) (hk : k < N) (hw : Cond.fieldLinkNest own index (T k).1 (T k).2.1 (T k).2.2.1 host ∈ z_nest) (hfin : (T k).2.2.2 = false) {ty : FieldType} {v : Value} (hd : ty0 k = ty) (hn : narrow ty v = v) (hfit : fits ty v = true) (hdg : decode cc pc = .ok (.putfield index, 3)) (bi qi : Nat) {w : va_W} (hbi : bs[bi]? = some w) {a : Nat} {fs : List Value} (hqi : w[qi]? = some (a, .inr (ci, fs))) (hl0 : k < fs.length) (bs1 : List va_W) (hbs : bs.set bi (w.set qi (a, .inr (ci, fs.set k v))) = bs1) (kk : ZZ p l e R s m args below meth c D A nL cells slots Qf bs1 (pc + 3) ls st) : ZZ p l e R s m args below meth c D A nL cells slots Qf bs pc ls (v :: .ref a :: st) := by
  intro H locs la hP hD hS hl
  obtain ⟨⟨hx, hb, hml, hown, hts⟩, hK, hN, hA, hlk, hrt⟩ := C
  subst hbs
  obtain ⟨q0, h0, h1⟩ := z_flat_set bs bi qi hbi hqi
  refine va_putN hx hb hts hin ty0 hty hnm hown hK hP hD hS q0 h0 hc k hk (va_Nw.use rfl (hN _ hw)) (fun _ h9 => h9) hfin (by rw [hty k hk, hd]) hn hfit hl0 hdg (fun H1 locs1 hP hD hS => ?_)
  rw [h1] at hP hD
  exact kk H1 locs1 la hP hD hS hl
theorem z_alen (C : ZC p s m args meth c own cc nL ret D cI A) (hdg : decode cc pc = .ok (.arraylength, 1)) (bi qi : Nat) {w : va_W} (hbi : bs[bi]? = some w) {a : Nat} {x : vp_A} (hqi : w[qi]? = some (a, .inl (cI, x))) (v : Int32) (hv : nI x.1 = v) (kk : ZZ p l e R s m args below meth c D A nL cells slots Qf bs (pc + 1) ls (.int v :: st)) : ZZ p l e R s m args below meth c D A nL cells slots Qf bs pc ls (.ref a :: st) := by
  intro H locs la hP hD hS hl
  obtain ⟨⟨hx, hb, hml, hown, hts⟩, hK, hN, hA, hlk, hrt⟩ := C
  obtain ⟨q0, h0, -⟩ := z_flat_set bs bi qi hbi hqi
  exact va_alen hx hb hK hP q0 0 h0 rfl hv hdg (kk H locs la hP hD hS hl)
theorem z_iald (C : ZC p s m args meth c own cc nL ret D cI A) (hdg : decode cc pc = .ok (.iaload, 1)) (bi qi : Nat) {w : va_W} (hbi : bs[bi]? = some w) {a n : Nat} {f : Nat → Int32} (hqi : w[qi]? = some (a, .inl (cI, n, .inl f))) {i : Int32} (hi : vp_in i n) (kk : ZZ p l e R s m args below meth c D A nL cells slots Qf bs (pc + 1) ls (.int (f i.toNatClampNeg) :: st)) : ZZ p l e R s m args below meth c D A nL cells slots Qf bs pc ls (.int i :: .ref a :: st) := by
  intro H locs la hP hD hS hl
  obtain ⟨⟨hx, hb, hml, hown, hts⟩, hK, hN, hA, hlk, hrt⟩ := C
  obtain ⟨q0, h0, -⟩ := z_flat_set bs bi qi hbi hqi
  exact va_iald hx hb hK hP q0 0 h0 rfl hi hdg (kk H locs la hP hD hS hl)
theorem z_iast (C : ZC p s m args meth c own cc nL ret D cI A) (hdg : decode cc pc = .ok (.iastore, 1)) (bi qi : Nat) {w : va_W} (hbi : bs[bi]? = some w) {a n : Nat} {f : Nat → Int32} (hqi : w[qi]? = some (a, .inl (cI, n, .inl f))) {i x : Int32} (hi : vp_in i n) (bs1 : List va_W) (hbs : bs.set bi (w.set qi (a, .inl (cI, n, .inl (upd f i.toNatClampNeg x)))) = bs1) (kk : ZZ p l e R s m args below meth c D A nL cells slots Qf bs1 (pc + 1) ls st) : ZZ p l e R s m args below meth c D A nL cells slots Qf bs pc ls (.int x :: .int i :: .ref a :: st) := by
  intro H locs la hP hD hS hl
  obtain ⟨⟨hx, hb, hml, hown, hts⟩, hK, hN, hA, hlk, hrt⟩ := C
  subst hbs
  obtain ⟨q0, h0, h1⟩ := z_flat_set bs bi qi hbi hqi
  refine va_iast hx hb hK hP hD hS q0 0 h0 rfl hi hdg (fun H1 locs1 hP hD hS => ?_)
  rw [h1] at hP hD
  exact kk H1 locs1 la hP hD hS hl
end ZR
end
section
/-! calls, returns, new objects, loops over ZZ -/
section ZCALL
variable {p : Program} {l : Launch} {e : Env} {R : Room} {s : State} {m : MethodId} {args : Array Value} {below : List Frame} {meth : Method} {c : Code} {own : String} {cc : ByteArray} {nL : Nat} {ret : Option FieldType} {D : va_G} {cI : ClassId} {A : Nat → Prop} {cells slots : Nat} {Qf : State → Prop} {bs : List va_W} {pc : Nat} {ls : List (Option Value)} {st : List Value}
theorem z_after {S : Type} {wc wr : List va_W} {w1 : S → List va_W} {rv : S → Option Value} {Q : S → Prop} {a : Array Value} {rest : List Value} {mc ms : Nat} {H : Heap} {locs : List Loc} {la : Array Slot}
    (hA : ∀ q : Nat, s.heap.size ≤ q → A q) (hp : bs.Perm (wc ++ wr)) (hP : va_P D vwCl bs.flatten H) (hD : va_D A bs.flatten) (hS : va_S A s.heap H locs) (hl : zL la nL ls)
    (hr : va_P D vwCl wc.flatten H → va_D A wc.flatten → va_Run p l e R s m args below meth c H locs cells slots mc ms (F0 m pc la st) rest (ZQ D (va_A wc.flatten H.size) rv w1 Q a) (va_A wc.flatten H.size))
    (kk : ∀ u : S, Q u → ZZ p l e R s m args below meth c D A nL (cells + mc) (slots + ms) Qf (w1 u ++ wr) (pc + 3) ls ((rv u).toList ++ rest)) : W p l e R s m args below meth c H locs cells slots Qf (F0 m pc la st) := by
  have hp2 : bs.flatten.Perm (wc.flatten ++ wr.flatten) := by rw [← List.flatten_append]; exact hp.flatten
  have hP2 := z_Pp hp2 hP
  have hD2 := z_Dp hp2 hD
  have hlt : ∀ q ∈ wr.flatten, q.1 < H.size := fun q hq => (z_P.mp hP2 q (List.mem_append_right _ hq)).lt
  have hF : ∀ q, va_A wc.flatten H.size q → A q := by
    intro q hq
    rcases z_Aiff.mp hq with h | h
    · obtain ⟨x, hx, rfl⟩ := List.mem_map.mp h
      exact (z_D.mp hD2).2 x (List.mem_append_left _ hx)
    · exact hA q (Nat.le_trans hS.1 h)
  intro T hT X
  obtain ⟨v, st₀, t, T', L, h0, X', hL, e1, e2, ⟨⟨u, hv, hq, hP1, hD1⟩, hz, hk⟩, stp⟩ := hr (z_Pl hP2) (z_Dl hD2) T hT X
  have hv2 : v = rv u := by injection hv
  subst hv2
  rw [h0] at hz hk
  rw [← e1] at hz hP1
  have hk2 : ∀ q : Nat, q < H.size → ¬ va_A wc.flatten H.size q → T'.heap[q]? = H[q]? := fun q h1 h2 => by rw [e1]; exact hk q h1 h2
  obtain ⟨hP3, hD3⟩ := z_join hP2 hD2 hlt hk2 hF hP1 hD1
  rw [← List.flatten_append] at hP3 hD3
  obtain ⟨t2, a1, b1⟩ := kk u hq T'.heap (locs ++ L) la hP3 hD3
    ⟨Nat.le_trans hS.1 hz, fun q h1 h2 => by rw [hk2 q (Nat.lt_of_lt_of_le h1 hS.1) (fun z => h2 (hF q z))]; exact hS.2.1 q h1 h2, fun q hq => by
      rcases List.mem_append.mp hq with h | h
      · exact hS.2.2 q h
      · exact hF _ (hL q h)⟩ hl T' rfl X'
  exact ⟨t2, stp t2 a1, b1⟩
theorem z_blind {D : va_G} {cI : ClassId} {av : List Value} {w0 : va_W} {sz : Nat} : FrameBlind (va_Pc av (fun U => U.heap.size = sz ∧ va_P D vwCl w0 U.heap ∧ va_K D vwCl (z_tys cI) U ∧ z_nestOK U ∧ va_D (fun _ => True) w0)) := by
  intro a U g mk q
  obtain ⟨q0, q1, qP, qK, qN, qD⟩ := q
  exact ⟨q0, q1, qP, va_K.moved (u := U) (U := U.calling g mk a) (Vm.Alike.refl U.vm) qK, z_nestOK.same (u := U) (U := U.calling g mk a) rfl qN, qD⟩
def zY (y : MethodName) (cc : ByteArray) (nL : Nat) (ret : Option FieldType) : Prop := Cond.code y cc nL ret ∈ wsL_law ∧ Cond.initialized y.cls ∈ wsL_law ∧ y.cls ≠ "java/lang/invoke/MethodHandle" ∧ y.cls ≠ "java/lang/invoke/VarHandle"
def zYV (y : MethodName) (cc : ByteArray) (nL : Nat) (ret : Option FieldType) : Prop := zY y cc nL ret ∧ Cond.instanceMethod y ∈ wsL_law ∧ Cond.selects y.cls y y ∈ wsL_law
def zYS (y : MethodName) (cc : ByteArray) (nL : Nat) (ret : Option FieldType) : Prop := zY y cc nL ret ∧ Cond.static y ∈ wsL_law
def zYI (y : MethodName) (cc : ByteArray) (nL : Nat) : Prop := zY y cc nL none ∧ Cond.instanceMethod y ∈ wsL_law ∧ y.name = "<init>"
theorem z_goodIn {y : MethodName} {cc : ByteArray} {nL : Nat} {ret : Option FieldType} (h : Cond.code y cc nL ret ∈ wsL_law) : GoodIn wsL_law (.code y cc nL ret :: wsL_law) := by
  intro w hw
  rcases List.mem_cons.mp hw with h1 | h1
  · subst h1; exact ⟨h, z_good h⟩
  · exact ⟨h1, z_good h1⟩
theorem z_callB {y : MethodName} {yc : ByteArray} {yL : Nat} {yr : Option FieldType} {rm : Room} {idx n : Nat} (hts : ∀ w ∈ wsL_law, w.before args s = true) (hy : zY y yc yL yr) (hlk : Cond.methodLink own idx y ∈ wsL_law) (hn : (parseMethodDescriptor y.desc).map (fun d => d.parameters.length) = some n) (hR : rm.frames + 1 ≤ R.frames ∧ 8 + (yL + 11) + rm.locals ≤ R.locals) :
    CallB R s args own idx y yc yL yr (.code y yc yL yr :: wsL_law) rm rm.cells rm.slots n :=
  callB_of n hts (z_goodIn hy.1) rfl rfl rfl (hts _ hy.2.1) (hts _ hlk) ⟨hy.2.2.1, hy.2.2.2, hn⟩ hR
theorem z_pre {D : va_G} {cI : ClassId} {w0 : List va_W} {H : Heap} {av : List Value} (hK : va_K D vwCl (z_tys cI) s) (hN : z_nestOK s) (hP : va_P D vwCl w0.flatten H) (hD : va_D A w0.flatten) (U : State) (hU : U.heap = H) (hW : s.WarmedH U.vm) :
    va_Pc av (fun U => U.heap.size = H.size ∧ va_P D vwCl w0.flatten U.heap ∧ va_K D vwCl (z_tys cI) U ∧ z_nestOK U ∧ va_D (fun _ => True) w0.flatten) av.toArray U :=
  ⟨rfl, by rw [hU], by rw [hU]; exact hP, va_K.moved hW.alike hK, z_nestOK.warm hW hN, hD.weaken (fun _ _ _ _ => trivial)⟩

theorem z_callV (C : ZC p s m args meth c own cc nL ret D cI A) {S : Type} {y : MethodName} {yc : ByteArray} {yL : Nat} {yr : Option FieldType} {rm : Room} {wc wr : List va_W} {rv : S → Option Value} {w1 : S → List va_W} {Q : S → Prop} {As rest : List Value} {idx : Nat} {b ci N : Nat} {T : u_T} {fs : List Value} (hci : vwCl[ci]? = some (y.cls, T, N)) (hrc : wc.flatten[0]? = some (b, .inr (ci, fs))) (hM : ZM l D cI y yc yL yr rm (.ref b :: As) wc rv w1 Q) (hy : zYV y yc yL yr) (hlk : Cond.methodLink own idx y ∈ wsL_law) (hdg : decode cc pc = .ok (.invokevirtual idx, 3)) (hst : st = As.reverse ++ .ref b :: rest) (hn : (parseMethodDescriptor y.desc).map (fun d => d.parameters.length) = some As.length) (hR : rm.frames + 1 ≤ R.frames ∧ 8 + (yL + 11) + rm.locals ≤ R.locals) (hroom : cells + rm.cells ≤ R.cells ∧ slots + rm.slots ≤ R.slots) (hrest : (rest.map fun v => v.category).sum ≤ 8) (hp : bs.Perm (wc ++ wr)) (kk : ∀ u : S, Q u → ZZ p l e R s m args below meth c D A nL (cells + rm.cells) (slots + rm.slots) Qf (w1 u ++ wr) (pc + 3) ls ((rv u).toList ++ rest)) : ZZ p l e R s m args below meth c D A nL cells slots Qf bs pc ls st := by
  intro H locs la hP hD hS hl
  obtain ⟨⟨hx, hb, hml, hown, hts⟩, hK, hN, hA, hlk0, hrt⟩ := C
  subst hst
  refine z_after (a := (Value.ref b :: As).toArray) (mc := rm.cells) (ms := rm.slots) (rest := rest) (w1 := w1) (rv := rv) (Q := Q) hA hp hP hD hS hl (fun hPc hDc => ?_) kk
  exact va_runV ⟨hx, hb, hml, hown, hts⟩ (hM H.size) ⟨z_callB hts hy.1 hlk hn hR, hts _ hy.2.1, hts _ hy.2.2⟩ ⟨z_blind, va_recv hK hPc hci hrc, fun U hU hW => z_pre hK hN hPc hDc U hU hW⟩ rfl rfl hl.1.1 rfl (lv_room hrest) hdg hroom
theorem z_callS (C : ZC p s m args meth c own cc nL ret D cI A) {S : Type} {y : MethodName} {yc : ByteArray} {yL : Nat} {yr : Option FieldType} {rm : Room} {wc wr : List va_W} {rv : S → Option Value} {w1 : S → List va_W} {Q : S → Prop} {As rest : List Value} {idx : Nat} (hM : ZM l D cI y yc yL yr rm As wc rv w1 Q) (hy : zYS y yc yL yr) (hlk : Cond.methodLink own idx y ∈ wsL_law) (hdg : decode cc pc = .ok (.invokestatic idx, 3)) (hst : st = As.reverse ++ rest) (hn : (parseMethodDescriptor y.desc).map (fun d => d.parameters.length) = some As.length) (hR : rm.frames + 1 ≤ R.frames ∧ 8 + (yL + 11) + rm.locals ≤ R.locals) (hroom : cells + rm.cells ≤ R.cells ∧ slots + rm.slots ≤ R.slots) (hrest : (rest.map fun v => v.category).sum ≤ 8) (hp : bs.Perm (wc ++ wr)) (kk : ∀ u : S, Q u → ZZ p l e R s m args below meth c D A nL (cells + rm.cells) (slots + rm.slots) Qf (w1 u ++ wr) (pc + 3) ls ((rv u).toList ++ rest)) : ZZ p l e R s m args below meth c D A nL cells slots Qf bs pc ls st := by
  intro H locs la hP hD hS hl
  obtain ⟨⟨hx, hb, hml, hown, hts⟩, hK, hN, hA, hlk0, hrt⟩ := C
  subst hst
  refine z_after (a := As.toArray) (mc := rm.cells) (ms := rm.slots) (rest := rest) (w1 := w1) (rv := rv) (Q := Q) hA hp hP hD hS hl (fun hPc hDc => ?_) kk
  exact va_runS ⟨hx, hb, hml, hown, hts⟩ (hM H.size) ⟨z_callB hts hy.1 hlk hn hR, hts _ hy.2⟩ ⟨z_blind, fun U hU hW => z_pre hK hN hPc hDc U hU hW⟩ rfl rfl hl.1.1 rfl (lv_room hrest) hdg hroom
theorem z_callSN (C : ZC p s m args meth c own cc nL ret D cI A) {S : Type} {y : MethodName} {yc : ByteArray} {yL : Nat} {yr : Option FieldType} {rm : Room} {wc wr : List va_W} {rv : S → Option Value} {w1 : S → List va_W} {Q : S → Prop} {As rest : List Value} {idx : Nat} {host : String} (hM : ZM l D cI y yc yL yr rm As wc rv w1 Q) (hy : zYS y yc yL yr) (hlk : Cond.methodLinkNest own idx y host ∈ z_nest) (hdg : decode cc pc = .ok (.invokestatic idx, 3)) (hst : st = As.reverse ++ rest) (hn : (parseMethodDescriptor y.desc).map (fun d => d.parameters.length) = some As.length) (hR : rm.frames + 1 ≤ R.frames ∧ 8 + (yL + 11) + rm.locals ≤ R.locals) (hroom : cells + rm.cells ≤ R.cells ∧ slots + rm.slots ≤ R.slots) (hrest : (rest.map fun v => v.category).sum ≤ 8) (hp : bs.Perm (wc ++ wr)) (kk : ∀ u : S, Q u → ZZ p l e R s m args below meth c D A nL (cells + rm.cells) (slots + rm.slots) Qf (w1 u ++ wr) (pc + 3) ls ((rv u).toList ++ rest)) : ZZ p l e R s m args below meth c D A nL cells slots Qf bs pc ls st := by
  intro H locs la hP hD hS hl
  obtain ⟨⟨hx, hb, hml, hown, hts⟩, hK, hN, hA, hlk0, hrt⟩ := C
  subst hst
  refine z_after (a := As.toArray) (mc := rm.cells) (ms := rm.slots) (rest := rest) (w1 := w1) (rv := rv) (Q := Q) hA hp hP hD hS hl (fun hPc hDc => ?_) kk
  exact va_runSN ⟨hx, hb, hml, hown, hts⟩ (hM H.size) ⟨va_cnB As.length hts (z_goodIn hy.1.1) rfl rfl rfl (hN _ hlk) (hts _ hy.1.2.1) ⟨hy.1.2.2.1, hy.1.2.2.2, hn⟩ hR, hts _ hy.2, trivial⟩ ⟨z_blind, fun U hU hW => z_pre hK hN hPc hDc U hU hW⟩ rfl rfl hl.1.1 rfl (lv_room hrest) hdg hroom
theorem z_callI (C : ZC p s m args meth c own cc nL ret D cI A) {S : Type} {y : MethodName} {yc : ByteArray} {yL : Nat} {yr : Option FieldType} {rm : Room} {wc wr : List va_W} {rv : S → Option Value} {w1 : S → List va_W} {Q : S → Prop} {As rest : List Value} {idx : Nat} {b : Nat} (hM : ZM l D cI y yc yL none rm (.ref b :: As) wc rv w1 Q) (hy : zYI y yc yL) (hlk : Cond.methodLink own idx y ∈ wsL_law) (hdg : decode cc pc = .ok (.invokespecial idx, 3)) (hst : st = As.reverse ++ .ref b :: rest) (hn : (parseMethodDescriptor y.desc).map (fun d => d.parameters.length) = some As.length) (hR : rm.frames + 1 ≤ R.frames ∧ 8 + (yL + 11) + rm.locals ≤ R.locals) (hroom : cells + rm.cells ≤ R.cells ∧ slots + rm.slots ≤ R.slots) (hrest : (rest.map fun v => v.category).sum ≤ 8) (hp : bs.Perm (wc ++ wr)) (kk : ∀ u : S, Q u → ZZ p l e R s m args below meth c D A nL (cells + rm.cells) (slots + rm.slots) Qf (w1 u ++ wr) (pc + 3) ls ((rv u).toList ++ rest)) : ZZ p l e R s m args below meth c D A nL cells slots Qf bs pc ls st := by
  intro H locs la hP hD hS hl
  obtain ⟨⟨hx, hb, hml, hown, hts⟩, hK, hN, hA, hlk0, hrt⟩ := C
  subst hst
  refine z_after (a := (Value.ref b :: As).toArray) (mc := rm.cells) (ms := rm.slots) (rest := rest) (w1 := w1) (rv := rv) (Q := Q) hA hp hP hD hS hl (fun hPc hDc => ?_) kk
  exact va_runI ⟨hx, hb, hml, hown, hts⟩ (hM H.size) ⟨z_callB hts hy.1 hlk hn hR, hy.2.2, hts _ hy.2.1⟩ ⟨z_blind, fun U hU hW => z_pre hK hN hPc hDc U hU hW⟩ rfl rfl hl.1.1 rfl (lv_room hrest) hdg hroom
theorem z_mmin (C : ZC p s m args meth c own cc nL ret D cI A) {idx : Nat} (hlk : Cond.methodLink own idx Lib.Math.min.name ∈ wsL_law) (hlk2 : Cond.static Lib.Math.min.name ∈ wsL_law) (hlk3 : Cond.initialized "java/lang/Math" ∈ wsL_law) (hlk4 : Cond.code Lib.Math.min.name Lib.Math.min.code 2 (some .int) ∈ wsL_law) (hfr : 1 ≤ R.frames) (hlo : (st.map fun v => v.category).sum + 13 ≤ R.locals) (hroom : cells ≤ R.cells ∧ slots ≤ R.slots) {x y : Int32} (hdg : decode cc pc = .ok (.invokestatic idx, 3)) (kk : ZZ p l e R s m args below meth c D A nL cells slots Qf bs (pc + 3) ls (.int (if y < x then y else x) :: st)) : ZZ p l e R s m args below meth c D A nL cells slots Qf bs pc ls (.int y :: .int x :: st) := by
  intro H locs la hP hD hS hl
  obtain ⟨⟨hx, hb, hml, hown, hts⟩, hK, hN, hA, hlk0, hrt⟩ := C
  exact va_mmin hx hb (hml.trans hl.1.1.symm) hown (hts _ hlk) (hts _ hlk2) (hts _ hlk3) (hts _ hlk4) hfr hlo hroom.1 hroom.2 hdg (kk H locs la hP hD hS hl)
theorem z_mmax (C : ZC p s m args meth c own cc nL ret D cI A) {idx : Nat} (hlk : Cond.methodLink own idx Lib.Math.max.name ∈ wsL_law) (hlk2 : Cond.static Lib.Math.max.name ∈ wsL_law) (hlk3 : Cond.initialized "java/lang/Math" ∈ wsL_law) (hlk4 : Cond.code Lib.Math.max.name Lib.Math.max.code 2 (some .int) ∈ wsL_law) (hfr : 1 ≤ R.frames) (hlo : (st.map fun v => v.category).sum + 13 ≤ R.locals) (hroom : cells ≤ R.cells ∧ slots ≤ R.slots) {x y : Int32} (hdg : decode cc pc = .ok (.invokestatic idx, 3)) (kk : ZZ p l e R s m args below meth c D A nL cells slots Qf bs (pc + 3) ls (.int (if x < y then y else x) :: st)) : ZZ p l e R s m args below meth c D A nL cells slots Qf bs pc ls (.int y :: .int x :: st) := by
  intro H locs la hP hD hS hl
  obtain ⟨⟨hx, hb, hml, hown, hts⟩, hK, hN, hA, hlk0, hrt⟩ := C
  exact va_mmax hx hb (hml.trans hl.1.1.symm) hown (hts _ hlk) (hts _ hlk2) (hts _ hlk3) (hts _ hlk4) hfr hlo hroom.1 hroom.2 hdg (kk H locs la hP hD hS hl)
theorem z_objInit (C : ZC p s m args meth c own cc nL ret D cI A) {idx b : Nat} {yc : ByteArray} (hlk : Cond.methodLink own idx objectInit ∈ wsL_law) (hlk2 : Cond.instanceMethod objectInit ∈ wsL_law) (hlk3 : Cond.code objectInit ⟨#[0xb1]⟩ 1 none ∈ wsL_law) (hdg : decode cc pc = .ok (.invokespecial idx, 3)) (hfr : 1 ≤ R.frames) (hlo : 12 ≤ R.locals) (kk : ZZ p l e R s m args below meth c D A nL cells slots Qf bs (pc + 3) ls []) : ZZ p l e R s m args below meth c D A nL cells slots Qf bs pc ls [.ref b] := by
  intro H locs la hP hD hS hl
  obtain ⟨⟨hx, hb, hml, hown, hts⟩, hK, hN, hA, hlk0, hrt⟩ := C
  refine W.objInit hx hb hown (hts _ hlk) (hts _ hlk2) (hts _ hlk3) rfl (by rw [hml]; exact hl.1.1) rfl hdg hfr hlo ?_
  exact W.eq (g2 := F0 m (pc + 3) la []) rfl (kk H locs la hP hD hS hl)
theorem z_new (C : ZC p s m args meth c own cc nL ret D cI A) {Cn : String} {T : u_T} {N ci index : Nat} (hin : ∀ w ∈ u_ws Cn T N, w ∈ wsL_law) (hc : vwCl[ci]? = some (Cn, T, N)) (ty : Nat → FieldType) (hty : ∀ k, k < N → parseFieldDescriptor (T k).2.2.1 = some (ty k)) (hlk : Cond.classLink own index Cn ∈ wsL_law) (hlk2 : Cond.instantiable Cn N ∈ wsL_law) (hlk3 : Cond.initialized Cn ∈ wsL_law) (fs : List Value) (hfs : ∀ j, j < N → defaultValue (ty j) = vp_V fs j) (hroom : cells + 1 ≤ R.cells ∧ slots + N ≤ R.slots) (hdg : decode cc pc = .ok (.new index, 3)) (kk : ∀ q : Nat, ZZ p l e R s m args below meth c D A nL (cells + 1) (slots + N) Qf (bs ++ [[(q, .inr (ci, fs))]]) (pc + 3) ls (.ref q :: st)) : ZZ p l e R s m args below meth c D A nL cells slots Qf bs pc ls st := by
  intro H locs la hP hD hS hl
  obtain ⟨⟨hx, hb, hml, hown, hts⟩, hK, hN, hA, hlk0, hrt⟩ := C
  refine va_new hx hb hts hin ty hty hown (hts _ hlk) (hts _ hlk2) (hts _ hlk3) hK hP hD hS hA hc hfs hroom.1 hroom.2 hdg (fun q H1 hP1 hD1 hS1 => ?_)
  refine kk q H1 locs la ?_ ?_ hS1 hl
  · rw [List.flatten_append]; simpa using hP1
  · rw [List.flatten_append]; simpa using hD1
theorem z_newa (C : ZC p s m args meth c own cc nL ret D cI A) (hlk : Cond.arrayClass .int ∈ wsL_law) {n : Int32} (N : Nat) (hn : ¬ n < 0) (hNn : n.toNatClampNeg = N) (hbytes : N * 4 ≤ 536870912) (hroom : cells + 1 ≤ R.cells ∧ slots + N ≤ R.slots) (hdg : decode cc pc = .ok (.newarray .int, 2)) (kk : ∀ q : Nat, ZZ p l e R s m args below meth c D A nL (cells + 1) (slots + N) Qf (bs ++ [[(q, .inl (cI, N, .inl (fun _ => 0)))]]) (pc + 2) ls (.ref q :: st)) : ZZ p l e R s m args below meth c D A nL cells slots Qf bs pc ls (.int n :: st) := by
  intro H locs la hP hD hS hl
  obtain ⟨⟨hx, hb, hml, hown, hts⟩, hK, hN, hA, hlk0, hrt⟩ := C
  refine va_newa (atype := .int) (ty := .int) (a0 := (N, .inl (fun _ => 0))) hx hb (hts _ hlk) rfl hK hP hD hS hA (fun _ => rfl) hn hNn hbytes hroom.1 hroom.2 hdg (fun q cA H1 hK1 hP1 hD1 hS1 => ?_)
  have h1 := (hK.2 0 (cI, .int) rfl).2
  have h2 := (hK1.2 1 (cA, .int) rfl).2
  have h3 : cA = cI := by
    have e1 : s.vm.findClass ("[" ++ FieldType.int.toString) = some cI := h1
    have e2 : s.vm.findClass ("[" ++ FieldType.int.toString) = some cA := h2
    rw [e1] at e2
    exact (Option.some.inj e2).symm
  subst h3
  refine kk q H1 locs la ?_ ?_ hS1 hl
  · rw [List.flatten_append]; simpa using hP1
  · rw [List.flatten_append]; simpa using hD1
theorem z_iret (C : ZC p s m args meth c own cc nL ret D cI A) {S : Type} {rv : S → Option Value} {w1 : S → List va_W} {Q : S → Prop} {v : Int32} (hr0 : ret = some .int) (u : S) (hrv : rv u = some (.int v)) (hQ : Q u) (hbs : bs.flatten = (w1 u).flatten) (hdg : decode cc pc = .ok (.ireturn, 1)) : ZZ p l e R s m args below meth c D A nL cells slots (MQ below (ZQ D A rv w1 Q) args s cells slots A) bs pc ls [.int v] := by
  intro H locs la hP hD hS hl
  obtain ⟨⟨hx, hb, hml, hown, hts⟩, hK, hN, hA, hlk0, hrt⟩ := C
  exact W.iret hx hb (hrt.trans hr0) (fun t ht hW => ⟨⟨u, hrv ▸ rfl, hQ, by rw [ht]; exact hbs ▸ hP, hbs ▸ hD⟩, hS.F ht⟩) hS.2.2 hdg hlk0
theorem z_zret (C : ZC p s m args meth c own cc nL ret D cI A) {S : Type} {rv : S → Option Value} {w1 : S → List va_W} {Q : S → Prop} {v : Int32} (hr0 : ret = some .boolean) (hn : narrow .boolean (.int v) = .int v) (u : S) (hrv : rv u = some (.int v)) (hQ : Q u) (hbs : bs.flatten = (w1 u).flatten) (hdg : decode cc pc = .ok (.ireturn, 1)) : ZZ p l e R s m args below meth c D A nL cells slots (MQ below (ZQ D A rv w1 Q) args s cells slots A) bs pc ls [.int v] := by
  intro H locs la hP hD hS hl
  obtain ⟨⟨hx, hb, hml, hown, hts⟩, hK, hN, hA, hlk0, hrt⟩ := C
  exact W.zret hx hb (hrt.trans hr0) hn (fun t ht hW => ⟨⟨u, hrv ▸ rfl, hQ, by rw [ht]; exact hbs ▸ hP, hbs ▸ hD⟩, hS.F ht⟩) hS.2.2 hdg hlk0
theorem z_aret (C : ZC p s m args meth c own cc nL ret D cI A) {S : Type} {rv : S → Option Value} {w1 : S → List va_W} {Q : S → Prop} {v : Nat} {rt : String} (hr0 : ret = some (.object rt)) (u : S) (hrv : rv u = some (.ref v)) (hQ : Q u) (hbs : bs.flatten = (w1 u).flatten) (hdg : decode cc pc = .ok (.areturn, 1)) : ZZ p l e R s m args below meth c D A nL cells slots (MQ below (ZQ D A rv w1 Q) args s cells slots A) bs pc ls [.ref v] := by
  intro H locs la hP hD hS hl
  obtain ⟨⟨hx, hb, hml, hown, hts⟩, hK, hN, hA, hlk0, hrt⟩ := C
  exact W.aret hx hb (hrt.trans hr0) (Or.inl ⟨_, rfl⟩) (Or.inr ⟨_, rfl⟩) (fun t ht hW => ⟨⟨u, hrv ▸ rfl, hQ, by rw [ht]; exact hbs ▸ hP, hbs ▸ hD⟩, hS.F ht⟩) hS.2.2 hdg hlk0
theorem z_vret (C : ZC p s m args meth c own cc nL ret D cI A) {S : Type} {rv : S → Option Value} {w1 : S → List va_W} {Q : S → Prop} (hr0 : ret = none) (u : S) (hrv : rv u = none) (hQ : Q u) (hbs : bs.flatten = (w1 u).flatten) (hdg : decode cc pc = .ok (.return_, 1)) : ZZ p l e R s m args below meth c D A nL cells slots (MQ below (ZQ D A rv w1 Q) args s cells slots A) bs pc ls [] := by
  intro H locs la hP hD hS hl
  obtain ⟨⟨hx, hb, hml, hown, hts⟩, hK, hN, hA, hlk0, hrt⟩ := C
  exact W.vret hx hb (hrt.trans hr0) (fun t ht hW => ⟨⟨u, hrv ▸ rfl, hQ, by rw [ht]; exact hbs ▸ hP, hbs ▸ hD⟩, hS.F ht⟩) hS.2.2 hdg hlk0
end ZCALL
def zIter1 {A1 : Type} (B : (A1 → Prop) → A1 → Prop) : Nat → A1 → Prop
  | 0, _ => False
  | n + 1, x1 => B (zIter1 B n) x1
def zLoop1 {A1 : Type} (B : (A1 → Prop) → A1 → Prop) (x1 : A1) : Prop := ∃ n : Nat, zIter1 B n x1
theorem zLoop1_w {A1 : Type} {B : (A1 → Prop) → A1 → Prop} (P : A1 → Prop) (h : ∀ K : A1 → Prop, (∀ (x1 : A1), K x1 → P x1) → ∀ (x1 : A1), B K x1 → P x1) : ∀ (x1 : A1), zLoop1 B x1 → P x1 := by
  have key : ∀ (n : Nat) (x1 : A1), zIter1 B n x1 → P x1 := by
    intro n
    induction n with
    | zero => intro x1 h0; exact absurd h0 (by simp [zIter1])
    | succ n ih => intro x1 h0; exact h _ ih x1 h0
  intro x1 ⟨n, hn⟩
  exact key n x1 hn
theorem zLoop1_i {A1 : Type} {B : (A1 → Prop) → A1 → Prop} (I : A1 → Prop) (μ : A1 → Nat) (h : ∀ (K : A1 → Prop) (x1 : A1), I x1 → (∀ (y1 : A1), I y1 → μ y1 < μ x1 → K y1) → B K x1) : ∀ (x1 : A1), I x1 → zLoop1 B x1 := by
  have key : ∀ (n : Nat) (x1 : A1), I x1 → μ x1 < n → zIter1 B n x1 := by
    intro n
    induction n with
    | zero => intro x1 _ h1; exact absurd h1 (Nat.not_lt_zero _)
    | succ n ih => intro x1 h0 h1; exact h _ x1 h0 (fun y1 h2 h3 => ih y1 h2 (by omega))
  intro x1 h0
  exact ⟨μ x1 + 1, key _ x1 h0 (Nat.lt_succ_self _)⟩
def zIter2 {A1 A2 : Type} (B : (A1 → A2 → Prop) → A1 → A2 → Prop) : Nat → A1 → A2 → Prop
  | 0, _, _ => False
  | n + 1, x1, x2 => B (zIter2 B n) x1 x2
def zLoop2 {A1 A2 : Type} (B : (A1 → A2 → Prop) → A1 → A2 → Prop) (x1 : A1) (x2 : A2) : Prop := ∃ n : Nat, zIter2 B n x1 x2
theorem zLoop2_w {A1 A2 : Type} {B : (A1 → A2 → Prop) → A1 → A2 → Prop} (P : A1 → A2 → Prop) (h : ∀ K : A1 → A2 → Prop, (∀ (x1 : A1) (x2 : A2), K x1 x2 → P x1 x2) → ∀ (x1 : A1) (x2 : A2), B K x1 x2 → P x1 x2) : ∀ (x1 : A1) (x2 : A2), zLoop2 B x1 x2 → P x1 x2 := by
  have key : ∀ (n : Nat) (x1 : A1) (x2 : A2), zIter2 B n x1 x2 → P x1 x2 := by
    intro n
    induction n with
    | zero => intro x1 x2 h0; exact absurd h0 (by simp [zIter2])
    | succ n ih => intro x1 x2 h0; exact h _ ih x1 x2 h0
  intro x1 x2 ⟨n, hn⟩
  exact key n x1 x2 hn
theorem zLoop2_i {A1 A2 : Type} {B : (A1 → A2 → Prop) → A1 → A2 → Prop} (I : A1 → A2 → Prop) (μ : A1 → A2 → Nat) (h : ∀ (K : A1 → A2 → Prop) (x1 : A1) (x2 : A2), I x1 x2 → (∀ (y1 : A1) (y2 : A2), I y1 y2 → μ y1 y2 < μ x1 x2 → K y1 y2) → B K x1 x2) : ∀ (x1 : A1) (x2 : A2), I x1 x2 → zLoop2 B x1 x2 := by
  have key : ∀ (n : Nat) (x1 : A1) (x2 : A2), I x1 x2 → μ x1 x2 < n → zIter2 B n x1 x2 := by
    intro n
    induction n with
    | zero => intro x1 x2 _ h1; exact absurd h1 (Nat.not_lt_zero _)
    | succ n ih => intro x1 x2 h0 h1; exact h _ x1 x2 h0 (fun y1 y2 h2 h3 => ih y1 y2 h2 (by omega))
  intro x1 x2 h0
  exact ⟨μ x1 x2 + 1, key _ x1 x2 h0 (Nat.lt_succ_self _)⟩
def zIter3 {A1 A2 A3 : Type} (B : (A1 → A2 → A3 → Prop) → A1 → A2 → A3 → Prop) : Nat → A1 → A2 → A3 → Prop
  | 0, _, _, _ => False
  | n + 1, x1, x2, x3 => B (zIter3 B n) x1 x2 x3
def zLoop3 {A1 A2 A3 : Type} (B : (A1 → A2 → A3 → Prop) → A1 → A2 → A3 → Prop) (x1 : A1) (x2 : A2) (x3 : A3) : Prop := ∃ n : Nat, zIter3 B n x1 x2 x3
theorem zLoop3_w {A1 A2 A3 : Type} {B : (A1 → A2 → A3 → Prop) → A1 → A2 → A3 → Prop} (P : A1 → A2 → A3 → Prop) (h : ∀ K : A1 → A2 → A3 → Prop, (∀ (x1 : A1) (x2 : A2) (x3 : A3), K x1 x2 x3 → P x1 x2 x3) → ∀ (x1 : A1) (x2 : A2) (x3 : A3), B K x1 x2 x3 → P x1 x2 x3) : ∀ (x1 : A1) (x2 : A2) (x3 : A3), zLoop3 B x1 x2 x3 → P x1 x2 x3 := by
  have key : ∀ (n : Nat) (x1 : A1) (x2 : A2) (x3 : A3), zIter3 B n x1 x2 x3 → P x1 x2 x3 := by
    intro n
    induction n with
    | zero => intro x1 x2 x3 h0; exact absurd h0 (by simp [zIter3])
    | succ n ih => intro x1 x2 x3 h0; exact h _ ih x1 x2 x3 h0
  intro x1 x2 x3 ⟨n, hn⟩
  exact key n x1 x2 x3 hn
theorem zLoop3_i {A1 A2 A3 : Type} {B : (A1 → A2 → A3 → Prop) → A1 → A2 → A3 → Prop} (I : A1 → A2 → A3 → Prop) (μ : A1 → A2 → A3 → Nat) (h : ∀ (K : A1 → A2 → A3 → Prop) (x1 : A1) (x2 : A2) (x3 : A3), I x1 x2 x3 → (∀ (y1 : A1) (y2 : A2) (y3 : A3), I y1 y2 y3 → μ y1 y2 y3 < μ x1 x2 x3 → K y1 y2 y3) → B K x1 x2 x3) : ∀ (x1 : A1) (x2 : A2) (x3 : A3), I x1 x2 x3 → zLoop3 B x1 x2 x3 := by
  have key : ∀ (n : Nat) (x1 : A1) (x2 : A2) (x3 : A3), I x1 x2 x3 → μ x1 x2 x3 < n → zIter3 B n x1 x2 x3 := by
    intro n
    induction n with
    | zero => intro x1 x2 x3 _ h1; exact absurd h1 (Nat.not_lt_zero _)
    | succ n ih => intro x1 x2 x3 h0 h1; exact h _ x1 x2 x3 h0 (fun y1 y2 y3 h2 h3 => ih y1 y2 y3 h2 (by omega))
  intro x1 x2 x3 h0
  exact ⟨μ x1 x2 x3 + 1, key _ x1 x2 x3 h0 (Nat.lt_succ_self _)⟩
def zIter4 {A1 A2 A3 A4 : Type} (B : (A1 → A2 → A3 → A4 → Prop) → A1 → A2 → A3 → A4 → Prop) : Nat → A1 → A2 → A3 → A4 → Prop
  | 0, _, _, _, _ => False
  | n + 1, x1, x2, x3, x4 => B (zIter4 B n) x1 x2 x3 x4
def zLoop4 {A1 A2 A3 A4 : Type} (B : (A1 → A2 → A3 → A4 → Prop) → A1 → A2 → A3 → A4 → Prop) (x1 : A1) (x2 : A2) (x3 : A3) (x4 : A4) : Prop := ∃ n : Nat, zIter4 B n x1 x2 x3 x4
theorem zLoop4_w {A1 A2 A3 A4 : Type} {B : (A1 → A2 → A3 → A4 → Prop) → A1 → A2 → A3 → A4 → Prop} (P : A1 → A2 → A3 → A4 → Prop) (h : ∀ K : A1 → A2 → A3 → A4 → Prop, (∀ (x1 : A1) (x2 : A2) (x3 : A3) (x4 : A4), K x1 x2 x3 x4 → P x1 x2 x3 x4) → ∀ (x1 : A1) (x2 : A2) (x3 : A3) (x4 : A4), B K x1 x2 x3 x4 → P x1 x2 x3 x4) : ∀ (x1 : A1) (x2 : A2) (x3 : A3) (x4 : A4), zLoop4 B x1 x2 x3 x4 → P x1 x2 x3 x4 := by
  have key : ∀ (n : Nat) (x1 : A1) (x2 : A2) (x3 : A3) (x4 : A4), zIter4 B n x1 x2 x3 x4 → P x1 x2 x3 x4 := by
    intro n
    induction n with
    | zero => intro x1 x2 x3 x4 h0; exact absurd h0 (by simp [zIter4])
    | succ n ih => intro x1 x2 x3 x4 h0; exact h _ ih x1 x2 x3 x4 h0
  intro x1 x2 x3 x4 ⟨n, hn⟩
  exact key n x1 x2 x3 x4 hn
theorem zLoop4_i {A1 A2 A3 A4 : Type} {B : (A1 → A2 → A3 → A4 → Prop) → A1 → A2 → A3 → A4 → Prop} (I : A1 → A2 → A3 → A4 → Prop) (μ : A1 → A2 → A3 → A4 → Nat) (h : ∀ (K : A1 → A2 → A3 → A4 → Prop) (x1 : A1) (x2 : A2) (x3 : A3) (x4 : A4), I x1 x2 x3 x4 → (∀ (y1 : A1) (y2 : A2) (y3 : A3) (y4 : A4), I y1 y2 y3 y4 → μ y1 y2 y3 y4 < μ x1 x2 x3 x4 → K y1 y2 y3 y4) → B K x1 x2 x3 x4) : ∀ (x1 : A1) (x2 : A2) (x3 : A3) (x4 : A4), I x1 x2 x3 x4 → zLoop4 B x1 x2 x3 x4 := by
  have key : ∀ (n : Nat) (x1 : A1) (x2 : A2) (x3 : A3) (x4 : A4), I x1 x2 x3 x4 → μ x1 x2 x3 x4 < n → zIter4 B n x1 x2 x3 x4 := by
    intro n
    induction n with
    | zero => intro x1 x2 x3 x4 _ h1; exact absurd h1 (Nat.not_lt_zero _)
    | succ n ih => intro x1 x2 x3 x4 h0 h1; exact h _ x1 x2 x3 x4 h0 (fun y1 y2 y3 y4 h2 h3 => ih y1 y2 y3 y4 h2 (by omega))
  intro x1 x2 x3 x4 h0
  exact ⟨μ x1 x2 x3 x4 + 1, key _ x1 x2 x3 x4 h0 (Nat.lt_succ_self _)⟩
def zIter5 {A1 A2 A3 A4 A5 : Type} (B : (A1 → A2 → A3 → A4 → A5 → Prop) → A1 → A2 → A3 → A4 → A5 → Prop) : Nat → A1 → A2 → A3 → A4 → A5 → Prop
  | 0, _, _, _, _, _ => False
  | n + 1, x1, x2, x3, x4, x5 => B (zIter5 B n) x1 x2 x3 x4 x5
def zLoop5 {A1 A2 A3 A4 A5 : Type} (B : (A1 → A2 → A3 → A4 → A5 → Prop) → A1 → A2 → A3 → A4 → A5 → Prop) (x1 : A1) (x2 : A2) (x3 : A3) (x4 : A4) (x5 : A5) : Prop := ∃ n : Nat, zIter5 B n x1 x2 x3 x4 x5
theorem zLoop5_w {A1 A2 A3 A4 A5 : Type} {B : (A1 → A2 → A3 → A4 → A5 → Prop) → A1 → A2 → A3 → A4 → A5 → Prop} (P : A1 → A2 → A3 → A4 → A5 → Prop) (h : ∀ K : A1 → A2 → A3 → A4 → A5 → Prop, (∀ (x1 : A1) (x2 : A2) (x3 : A3) (x4 : A4) (x5 : A5), K x1 x2 x3 x4 x5 → P x1 x2 x3 x4 x5) → ∀ (x1 : A1) (x2 : A2) (x3 : A3) (x4 : A4) (x5 : A5), B K x1 x2 x3 x4 x5 → P x1 x2 x3 x4 x5) : ∀ (x1 : A1) (x2 : A2) (x3 : A3) (x4 : A4) (x5 : A5), zLoop5 B x1 x2 x3 x4 x5 → P x1 x2 x3 x4 x5 := by
  have key : ∀ (n : Nat) (x1 : A1) (x2 : A2) (x3 : A3) (x4 : A4) (x5 : A5), zIter5 B n x1 x2 x3 x4 x5 → P x1 x2 x3 x4 x5 := by
    intro n
    induction n with
    | zero => intro x1 x2 x3 x4 x5 h0; exact absurd h0 (by simp [zIter5])
    | succ n ih => intro x1 x2 x3 x4 x5 h0; exact h _ ih x1 x2 x3 x4 x5 h0
  intro x1 x2 x3 x4 x5 ⟨n, hn⟩
  exact key n x1 x2 x3 x4 x5 hn
theorem zLoop5_i {A1 A2 A3 A4 A5 : Type} {B : (A1 → A2 → A3 → A4 → A5 → Prop) → A1 → A2 → A3 → A4 → A5 → Prop} (I : A1 → A2 → A3 → A4 → A5 → Prop) (μ : A1 → A2 → A3 → A4 → A5 → Nat) (h : ∀ (K : A1 → A2 → A3 → A4 → A5 → Prop) (x1 : A1) (x2 : A2) (x3 : A3) (x4 : A4) (x5 : A5), I x1 x2 x3 x4 x5 → (∀ (y1 : A1) (y2 : A2) (y3 : A3) (y4 : A4) (y5 : A5), I y1 y2 y3 y4 y5 → μ y1 y2 y3 y4 y5 < μ x1 x2 x3 x4 x5 → K y1 y2 y3 y4 y5) → B K x1 x2 x3 x4 x5) : ∀ (x1 : A1) (x2 : A2) (x3 : A3) (x4 : A4) (x5 : A5), I x1 x2 x3 x4 x5 → zLoop5 B x1 x2 x3 x4 x5 := by
  have key : ∀ (n : Nat) (x1 : A1) (x2 : A2) (x3 : A3) (x4 : A4) (x5 : A5), I x1 x2 x3 x4 x5 → μ x1 x2 x3 x4 x5 < n → zIter5 B n x1 x2 x3 x4 x5 := by
    intro n
    induction n with
    | zero => intro x1 x2 x3 x4 x5 _ h1; exact absurd h1 (Nat.not_lt_zero _)
    | succ n ih => intro x1 x2 x3 x4 x5 h0 h1; exact h _ x1 x2 x3 x4 x5 h0 (fun y1 y2 y3 y4 y5 h2 h3 => ih y1 y2 y3 y4 y5 h2 (by omega))
  intro x1 x2 x3 x4 x5 h0
  exact ⟨μ x1 x2 x3 x4 x5 + 1, key _ x1 x2 x3 x4 x5 h0 (Nat.lt_succ_self _)⟩
def zIter6 {A1 A2 A3 A4 A5 A6 : Type} (B : (A1 → A2 → A3 → A4 → A5 → A6 → Prop) → A1 → A2 → A3 → A4 → A5 → A6 → Prop) : Nat → A1 → A2 → A3 → A4 → A5 → A6 → Prop
  | 0, _, _, _, _, _, _ => False
  | n + 1, x1, x2, x3, x4, x5, x6 => B (zIter6 B n) x1 x2 x3 x4 x5 x6
def zLoop6 {A1 A2 A3 A4 A5 A6 : Type} (B : (A1 → A2 → A3 → A4 → A5 → A6 → Prop) → A1 → A2 → A3 → A4 → A5 → A6 → Prop) (x1 : A1) (x2 : A2) (x3 : A3) (x4 : A4) (x5 : A5) (x6 : A6) : Prop := ∃ n : Nat, zIter6 B n x1 x2 x3 x4 x5 x6
theorem zLoop6_w {A1 A2 A3 A4 A5 A6 : Type} {B : (A1 → A2 → A3 → A4 → A5 → A6 → Prop) → A1 → A2 → A3 → A4 → A5 → A6 → Prop} (P : A1 → A2 → A3 → A4 → A5 → A6 → Prop) (h : ∀ K : A1 → A2 → A3 → A4 → A5 → A6 → Prop, (∀ (x1 : A1) (x2 : A2) (x3 : A3) (x4 : A4) (x5 : A5) (x6 : A6), K x1 x2 x3 x4 x5 x6 → P x1 x2 x3 x4 x5 x6) → ∀ (x1 : A1) (x2 : A2) (x3 : A3) (x4 : A4) (x5 : A5) (x6 : A6), B K x1 x2 x3 x4 x5 x6 → P x1 x2 x3 x4 x5 x6) : ∀ (x1 : A1) (x2 : A2) (x3 : A3) (x4 : A4) (x5 : A5) (x6 : A6), zLoop6 B x1 x2 x3 x4 x5 x6 → P x1 x2 x3 x4 x5 x6 := by
  have key : ∀ (n : Nat) (x1 : A1) (x2 : A2) (x3 : A3) (x4 : A4) (x5 : A5) (x6 : A6), zIter6 B n x1 x2 x3 x4 x5 x6 → P x1 x2 x3 x4 x5 x6 := by
    intro n
    induction n with
    | zero => intro x1 x2 x3 x4 x5 x6 h0; exact absurd h0 (by simp [zIter6])
    | succ n ih => intro x1 x2 x3 x4 x5 x6 h0; exact h _ ih x1 x2 x3 x4 x5 x6 h0
  intro x1 x2 x3 x4 x5 x6 ⟨n, hn⟩
  exact key n x1 x2 x3 x4 x5 x6 hn
theorem zLoop6_i {A1 A2 A3 A4 A5 A6 : Type} {B : (A1 → A2 → A3 → A4 → A5 → A6 → Prop) → A1 → A2 → A3 → A4 → A5 → A6 → Prop} (I : A1 → A2 → A3 → A4 → A5 → A6 → Prop) (μ : A1 → A2 → A3 → A4 → A5 → A6 → Nat) (h : ∀ (K : A1 → A2 → A3 → A4 → A5 → A6 → Prop) (x1 : A1) (x2 : A2) (x3 : A3) (x4 : A4) (x5 : A5) (x6 : A6), I x1 x2 x3 x4 x5 x6 → (∀ (y1 : A1) (y2 : A2) (y3 : A3) (y4 : A4) (y5 : A5) (y6 : A6), I y1 y2 y3 y4 y5 y6 → μ y1 y2 y3 y4 y5 y6 < μ x1 x2 x3 x4 x5 x6 → K y1 y2 y3 y4 y5 y6) → B K x1 x2 x3 x4 x5 x6) : ∀ (x1 : A1) (x2 : A2) (x3 : A3) (x4 : A4) (x5 : A5) (x6 : A6), I x1 x2 x3 x4 x5 x6 → zLoop6 B x1 x2 x3 x4 x5 x6 := by
  have key : ∀ (n : Nat) (x1 : A1) (x2 : A2) (x3 : A3) (x4 : A4) (x5 : A5) (x6 : A6), I x1 x2 x3 x4 x5 x6 → μ x1 x2 x3 x4 x5 x6 < n → zIter6 B n x1 x2 x3 x4 x5 x6 := by
    intro n
    induction n with
    | zero => intro x1 x2 x3 x4 x5 x6 _ h1; exact absurd h1 (Nat.not_lt_zero _)
    | succ n ih => intro x1 x2 x3 x4 x5 x6 h0 h1; exact h _ x1 x2 x3 x4 x5 x6 h0 (fun y1 y2 y3 y4 y5 y6 h2 h3 => ih y1 y2 y3 y4 y5 y6 h2 (by omega))
  intro x1 x2 x3 x4 x5 x6 h0
  exact ⟨μ x1 x2 x3 x4 x5 x6 + 1, key _ x1 x2 x3 x4 x5 x6 h0 (Nat.lt_succ_self _)⟩
end
section
/-! the values that objects hold (products with names), and the blocks of cells that hold them -/
abbrev zN : Type := (Nat) × (Nat → Int32) × (Int32)
def nCap (v : zN) : Nat := v.1
def nRow (v : zN) : Nat → Int32 := v.2.1
def nSize (v : zN) : Int32 := v.2.2
def nSetCap (v : zN) (x : Nat) : zN := (x, v.2.1, v.2.2)
def nSetRow (v : zN) (x : Nat → Int32) : zN := (v.1, x, v.2.2)
def nSetSize (v : zN) (x : Int32) : zN := (v.1, v.2.1, x)
abbrev zE : Type := (Int32) × (Int32) × (Int32) × (Int32) × (Int32) × (zN) × (zN) × (zN)
def eNum (v : zE) : Int32 := v.1
def eUw (v : zE) : Int32 := v.2.1
def eHeard (v : zE) : Int32 := v.2.2.1
def eSpot (v : zE) : Int32 := v.2.2.2.1
def eWr (v : zE) : Int32 := v.2.2.2.2.1
def eCopy (v : zE) : zN := v.2.2.2.2.2.1
def eWait (v : zE) : zN := v.2.2.2.2.2.2.1
def eBacks (v : zE) : zN := v.2.2.2.2.2.2.2
def eSetNum (v : zE) (x : Int32) : zE := (x, v.2.1, v.2.2.1, v.2.2.2.1, v.2.2.2.2.1, v.2.2.2.2.2.1, v.2.2.2.2.2.2.1, v.2.2.2.2.2.2.2)
def eSetUw (v : zE) (x : Int32) : zE := (v.1, x, v.2.2.1, v.2.2.2.1, v.2.2.2.2.1, v.2.2.2.2.2.1, v.2.2.2.2.2.2.1, v.2.2.2.2.2.2.2)
def eSetHeard (v : zE) (x : Int32) : zE := (v.1, v.2.1, x, v.2.2.2.1, v.2.2.2.2.1, v.2.2.2.2.2.1, v.2.2.2.2.2.2.1, v.2.2.2.2.2.2.2)
def eSetSpot (v : zE) (x : Int32) : zE := (v.1, v.2.1, v.2.2.1, x, v.2.2.2.2.1, v.2.2.2.2.2.1, v.2.2.2.2.2.2.1, v.2.2.2.2.2.2.2)
def eSetWr (v : zE) (x : Int32) : zE := (v.1, v.2.1, v.2.2.1, v.2.2.2.1, x, v.2.2.2.2.2.1, v.2.2.2.2.2.2.1, v.2.2.2.2.2.2.2)
def eSetCopy (v : zE) (x : zN) : zE := (v.1, v.2.1, v.2.2.1, v.2.2.2.1, v.2.2.2.2.1, x, v.2.2.2.2.2.2.1, v.2.2.2.2.2.2.2)
def eSetWait (v : zE) (x : zN) : zE := (v.1, v.2.1, v.2.2.1, v.2.2.2.1, v.2.2.2.2.1, v.2.2.2.2.2.1, x, v.2.2.2.2.2.2.2)
def eSetBacks (v : zE) (x : zN) : zE := (v.1, v.2.1, v.2.2.1, v.2.2.2.1, v.2.2.2.2.1, v.2.2.2.2.2.1, v.2.2.2.2.2.2.1, x)
abbrev zT : Type := (Nat → zE) × (zN) × (zN) × (zN)
def tEds (v : zT) : Nat → zE := v.1
def tLog (v : zT) : zN := v.2.1
def tText (v : zT) : zN := v.2.2.1
def tWrs (v : zT) : zN := v.2.2.2
def tSetEds (v : zT) (x : Nat → zE) : zT := (x, v.2.1, v.2.2.1, v.2.2.2)
def tSetLog (v : zT) (x : zN) : zT := (v.1, x, v.2.2.1, v.2.2.2)
def tSetText (v : zT) (x : zN) : zT := (v.1, v.2.1, x, v.2.2.2)
def tSetWrs (v : zT) (x : zN) : zT := (v.1, v.2.1, v.2.2.1, x)
abbrev zC : Type := (Int32) × (Int32) × (Int32) × (Int32) × (zN) × (zN)
def cPos (v : zC) : Int32 := v.1
def cRsn (v : zC) : Int32 := v.2.1
def cCause (v : zC) : Int32 := v.2.2.1
def cDone (v : zC) : Int32 := v.2.2.2.1
def cSigns (v : zC) : zN := v.2.2.2.2.1
def cNums (v : zC) : zN := v.2.2.2.2.2
def cSetPos (v : zC) (x : Int32) : zC := (x, v.2.1, v.2.2.1, v.2.2.2.1, v.2.2.2.2.1, v.2.2.2.2.2)
def cSetRsn (v : zC) (x : Int32) : zC := (v.1, x, v.2.2.1, v.2.2.2.1, v.2.2.2.2.1, v.2.2.2.2.2)
def cSetCause (v : zC) (x : Int32) : zC := (v.1, v.2.1, x, v.2.2.2.1, v.2.2.2.2.1, v.2.2.2.2.2)
def cSetDone (v : zC) (x : Int32) : zC := (v.1, v.2.1, v.2.2.1, x, v.2.2.2.2.1, v.2.2.2.2.2)
def cSetSigns (v : zC) (x : zN) : zC := (v.1, v.2.1, v.2.2.1, v.2.2.2.1, x, v.2.2.2.2.2)
def cSetNums (v : zC) (x : zN) : zC := (v.1, v.2.1, v.2.2.1, v.2.2.2.1, v.2.2.2.2.1, x)
abbrev zX : Type := (zT) × (zT) × (zT) × (zT) × (Nat → zT) × (Nat → Nat → Nat) × (Int32) × (zC)
def xNow (v : zX) : zT := v.1
def xTrial (v : zX) : zT := v.2.1
def xUp (v : zX) : zT := v.2.2.1
def xDown (v : zX) : zT := v.2.2.2.1
def xHv (v : zX) : Nat → zT := v.2.2.2.2.1
def xGh (v : zX) : Nat → Nat → Nat := v.2.2.2.2.2.1
def xHsz (v : zX) : Int32 := v.2.2.2.2.2.2.1
def xCm (v : zX) : zC := v.2.2.2.2.2.2.2
def xSetNow (v : zX) (x : zT) : zX := (x, v.2.1, v.2.2.1, v.2.2.2.1, v.2.2.2.2.1, v.2.2.2.2.2.1, v.2.2.2.2.2.2.1, v.2.2.2.2.2.2.2)
def xSetTrial (v : zX) (x : zT) : zX := (v.1, x, v.2.2.1, v.2.2.2.1, v.2.2.2.2.1, v.2.2.2.2.2.1, v.2.2.2.2.2.2.1, v.2.2.2.2.2.2.2)
def xSetUp (v : zX) (x : zT) : zX := (v.1, v.2.1, x, v.2.2.2.1, v.2.2.2.2.1, v.2.2.2.2.2.1, v.2.2.2.2.2.2.1, v.2.2.2.2.2.2.2)
def xSetDown (v : zX) (x : zT) : zX := (v.1, v.2.1, v.2.2.1, x, v.2.2.2.2.1, v.2.2.2.2.2.1, v.2.2.2.2.2.2.1, v.2.2.2.2.2.2.2)
def xSetHv (v : zX) (x : Nat → zT) : zX := (v.1, v.2.1, v.2.2.1, v.2.2.2.1, x, v.2.2.2.2.2.1, v.2.2.2.2.2.2.1, v.2.2.2.2.2.2.2)
def xSetGh (v : zX) (x : Nat → Nat → Nat) : zX := (v.1, v.2.1, v.2.2.1, v.2.2.2.1, v.2.2.2.2.1, x, v.2.2.2.2.2.2.1, v.2.2.2.2.2.2.2)
def xSetHsz (v : zX) (x : Int32) : zX := (v.1, v.2.1, v.2.2.1, v.2.2.2.1, v.2.2.2.2.1, v.2.2.2.2.2.1, x, v.2.2.2.2.2.2.2)
def xSetCm (v : zX) (x : zC) : zX := (v.1, v.2.1, v.2.2.1, v.2.2.2.1, v.2.2.2.2.1, v.2.2.2.2.2.1, v.2.2.2.2.2.2.1, x)
abbrev zM : Type := (Nat → Int32) × (Nat → Int32) × (Nat → Int32) × (Nat → Int32) × (Nat → Int32) × (Nat → Int32) × (Nat → Int32) × (Nat → Int32) × (Int32) × (Int32) × (Int32) × (Int32) × (Int32) × (Int32) × (Int32) × (Int32) × (Int32)
def mS (v : zM) : Nat → Int32 := v.1
def mAside (v : zM) : Nat → Int32 := v.2.1
def mBefore (v : zM) : Nat → Int32 := v.2.2.1
def mText (v : zM) : Nat → Int32 := v.2.2.2.1
def mLetters (v : zM) : Nat → Int32 := v.2.2.2.2.1
def mBys (v : zM) : Nat → Int32 := v.2.2.2.2.2.1
def mFirst (v : zM) : Nat → Int32 := v.2.2.2.2.2.2.1
def mCommand (v : zM) : Nat → Int32 := v.2.2.2.2.2.2.2.1
def mKnown (v : zM) : Int32 := v.2.2.2.2.2.2.2.2.1
def mLength (v : zM) : Int32 := v.2.2.2.2.2.2.2.2.2.1
def mLogLong (v : zM) : Int32 := v.2.2.2.2.2.2.2.2.2.2.1
def mAreSame (v : zM) : Int32 := v.2.2.2.2.2.2.2.2.2.2.2.1
def mAt (v : zM) : Int32 := v.2.2.2.2.2.2.2.2.2.2.2.2.1
def mIsWrong (v : zM) : Int32 := v.2.2.2.2.2.2.2.2.2.2.2.2.2.1
def mPosition (v : zM) : Int32 := v.2.2.2.2.2.2.2.2.2.2.2.2.2.2.1
def mReason (v : zM) : Int32 := v.2.2.2.2.2.2.2.2.2.2.2.2.2.2.2.1
def mCause (v : zM) : Int32 := v.2.2.2.2.2.2.2.2.2.2.2.2.2.2.2.2
def mSetS (v : zM) (x : Nat → Int32) : zM := (x, v.2.1, v.2.2.1, v.2.2.2.1, v.2.2.2.2.1, v.2.2.2.2.2.1, v.2.2.2.2.2.2.1, v.2.2.2.2.2.2.2.1, v.2.2.2.2.2.2.2.2.1, v.2.2.2.2.2.2.2.2.2.1, v.2.2.2.2.2.2.2.2.2.2.1, v.2.2.2.2.2.2.2.2.2.2.2.1, v.2.2.2.2.2.2.2.2.2.2.2.2.1, v.2.2.2.2.2.2.2.2.2.2.2.2.2.1, v.2.2.2.2.2.2.2.2.2.2.2.2.2.2.1, v.2.2.2.2.2.2.2.2.2.2.2.2.2.2.2.1, v.2.2.2.2.2.2.2.2.2.2.2.2.2.2.2.2)
def mSetAside (v : zM) (x : Nat → Int32) : zM := (v.1, x, v.2.2.1, v.2.2.2.1, v.2.2.2.2.1, v.2.2.2.2.2.1, v.2.2.2.2.2.2.1, v.2.2.2.2.2.2.2.1, v.2.2.2.2.2.2.2.2.1, v.2.2.2.2.2.2.2.2.2.1, v.2.2.2.2.2.2.2.2.2.2.1, v.2.2.2.2.2.2.2.2.2.2.2.1, v.2.2.2.2.2.2.2.2.2.2.2.2.1, v.2.2.2.2.2.2.2.2.2.2.2.2.2.1, v.2.2.2.2.2.2.2.2.2.2.2.2.2.2.1, v.2.2.2.2.2.2.2.2.2.2.2.2.2.2.2.1, v.2.2.2.2.2.2.2.2.2.2.2.2.2.2.2.2)
def mSetBefore (v : zM) (x : Nat → Int32) : zM := (v.1, v.2.1, x, v.2.2.2.1, v.2.2.2.2.1, v.2.2.2.2.2.1, v.2.2.2.2.2.2.1, v.2.2.2.2.2.2.2.1, v.2.2.2.2.2.2.2.2.1, v.2.2.2.2.2.2.2.2.2.1, v.2.2.2.2.2.2.2.2.2.2.1, v.2.2.2.2.2.2.2.2.2.2.2.1, v.2.2.2.2.2.2.2.2.2.2.2.2.1, v.2.2.2.2.2.2.2.2.2.2.2.2.2.1, v.2.2.2.2.2.2.2.2.2.2.2.2.2.2.1, v.2.2.2.2.2.2.2.2.2.2.2.2.2.2.2.1, v.2.2.2.2.2.2.2.2.2.2.2.2.2.2.2.2)
def mSetText (v : zM) (x : Nat → Int32) : zM := (v.1, v.2.1, v.2.2.1, x, v.2.2.2.2.1, v.2.2.2.2.2.1, v.2.2.2.2.2.2.1, v.2.2.2.2.2.2.2.1, v.2.2.2.2.2.2.2.2.1, v.2.2.2.2.2.2.2.2.2.1, v.2.2.2.2.2.2.2.2.2.2.1, v.2.2.2.2.2.2.2.2.2.2.2.1, v.2.2.2.2.2.2.2.2.2.2.2.2.1, v.2.2.2.2.2.2.2.2.2.2.2.2.2.1, v.2.2.2.2.2.2.2.2.2.2.2.2.2.2.1, v.2.2.2.2.2.2.2.2.2.2.2.2.2.2.2.1, v.2.2.2.2.2.2.2.2.2.2.2.2.2.2.2.2)
def mSetLetters (v : zM) (x : Nat → Int32) : zM := (v.1, v.2.1, v.2.2.1, v.2.2.2.1, x, v.2.2.2.2.2.1, v.2.2.2.2.2.2.1, v.2.2.2.2.2.2.2.1, v.2.2.2.2.2.2.2.2.1, v.2.2.2.2.2.2.2.2.2.1, v.2.2.2.2.2.2.2.2.2.2.1, v.2.2.2.2.2.2.2.2.2.2.2.1, v.2.2.2.2.2.2.2.2.2.2.2.2.1, v.2.2.2.2.2.2.2.2.2.2.2.2.2.1, v.2.2.2.2.2.2.2.2.2.2.2.2.2.2.1, v.2.2.2.2.2.2.2.2.2.2.2.2.2.2.2.1, v.2.2.2.2.2.2.2.2.2.2.2.2.2.2.2.2)
def mSetBys (v : zM) (x : Nat → Int32) : zM := (v.1, v.2.1, v.2.2.1, v.2.2.2.1, v.2.2.2.2.1, x, v.2.2.2.2.2.2.1, v.2.2.2.2.2.2.2.1, v.2.2.2.2.2.2.2.2.1, v.2.2.2.2.2.2.2.2.2.1, v.2.2.2.2.2.2.2.2.2.2.1, v.2.2.2.2.2.2.2.2.2.2.2.1, v.2.2.2.2.2.2.2.2.2.2.2.2.1, v.2.2.2.2.2.2.2.2.2.2.2.2.2.1, v.2.2.2.2.2.2.2.2.2.2.2.2.2.2.1, v.2.2.2.2.2.2.2.2.2.2.2.2.2.2.2.1, v.2.2.2.2.2.2.2.2.2.2.2.2.2.2.2.2)
def mSetFirst (v : zM) (x : Nat → Int32) : zM := (v.1, v.2.1, v.2.2.1, v.2.2.2.1, v.2.2.2.2.1, v.2.2.2.2.2.1, x, v.2.2.2.2.2.2.2.1, v.2.2.2.2.2.2.2.2.1, v.2.2.2.2.2.2.2.2.2.1, v.2.2.2.2.2.2.2.2.2.2.1, v.2.2.2.2.2.2.2.2.2.2.2.1, v.2.2.2.2.2.2.2.2.2.2.2.2.1, v.2.2.2.2.2.2.2.2.2.2.2.2.2.1, v.2.2.2.2.2.2.2.2.2.2.2.2.2.2.1, v.2.2.2.2.2.2.2.2.2.2.2.2.2.2.2.1, v.2.2.2.2.2.2.2.2.2.2.2.2.2.2.2.2)
def mSetCommand (v : zM) (x : Nat → Int32) : zM := (v.1, v.2.1, v.2.2.1, v.2.2.2.1, v.2.2.2.2.1, v.2.2.2.2.2.1, v.2.2.2.2.2.2.1, x, v.2.2.2.2.2.2.2.2.1, v.2.2.2.2.2.2.2.2.2.1, v.2.2.2.2.2.2.2.2.2.2.1, v.2.2.2.2.2.2.2.2.2.2.2.1, v.2.2.2.2.2.2.2.2.2.2.2.2.1, v.2.2.2.2.2.2.2.2.2.2.2.2.2.1, v.2.2.2.2.2.2.2.2.2.2.2.2.2.2.1, v.2.2.2.2.2.2.2.2.2.2.2.2.2.2.2.1, v.2.2.2.2.2.2.2.2.2.2.2.2.2.2.2.2)
def mSetKnown (v : zM) (x : Int32) : zM := (v.1, v.2.1, v.2.2.1, v.2.2.2.1, v.2.2.2.2.1, v.2.2.2.2.2.1, v.2.2.2.2.2.2.1, v.2.2.2.2.2.2.2.1, x, v.2.2.2.2.2.2.2.2.2.1, v.2.2.2.2.2.2.2.2.2.2.1, v.2.2.2.2.2.2.2.2.2.2.2.1, v.2.2.2.2.2.2.2.2.2.2.2.2.1, v.2.2.2.2.2.2.2.2.2.2.2.2.2.1, v.2.2.2.2.2.2.2.2.2.2.2.2.2.2.1, v.2.2.2.2.2.2.2.2.2.2.2.2.2.2.2.1, v.2.2.2.2.2.2.2.2.2.2.2.2.2.2.2.2)
def mSetLength (v : zM) (x : Int32) : zM := (v.1, v.2.1, v.2.2.1, v.2.2.2.1, v.2.2.2.2.1, v.2.2.2.2.2.1, v.2.2.2.2.2.2.1, v.2.2.2.2.2.2.2.1, v.2.2.2.2.2.2.2.2.1, x, v.2.2.2.2.2.2.2.2.2.2.1, v.2.2.2.2.2.2.2.2.2.2.2.1, v.2.2.2.2.2.2.2.2.2.2.2.2.1, v.2.2.2.2.2.2.2.2.2.2.2.2.2.1, v.2.2.2.2.2.2.2.2.2.2.2.2.2.2.1, v.2.2.2.2.2.2.2.2.2.2.2.2.2.2.2.1, v.2.2.2.2.2.2.2.2.2.2.2.2.2.2.2.2)
def mSetLogLong (v : zM) (x : Int32) : zM := (v.1, v.2.1, v.2.2.1, v.2.2.2.1, v.2.2.2.2.1, v.2.2.2.2.2.1, v.2.2.2.2.2.2.1, v.2.2.2.2.2.2.2.1, v.2.2.2.2.2.2.2.2.1, v.2.2.2.2.2.2.2.2.2.1, x, v.2.2.2.2.2.2.2.2.2.2.2.1, v.2.2.2.2.2.2.2.2.2.2.2.2.1, v.2.2.2.2.2.2.2.2.2.2.2.2.2.1, v.2.2.2.2.2.2.2.2.2.2.2.2.2.2.1, v.2.2.2.2.2.2.2.2.2.2.2.2.2.2.2.1, v.2.2.2.2.2.2.2.2.2.2.2.2.2.2.2.2)
def mSetAreSame (v : zM) (x : Int32) : zM := (v.1, v.2.1, v.2.2.1, v.2.2.2.1, v.2.2.2.2.1, v.2.2.2.2.2.1, v.2.2.2.2.2.2.1, v.2.2.2.2.2.2.2.1, v.2.2.2.2.2.2.2.2.1, v.2.2.2.2.2.2.2.2.2.1, v.2.2.2.2.2.2.2.2.2.2.1, x, v.2.2.2.2.2.2.2.2.2.2.2.2.1, v.2.2.2.2.2.2.2.2.2.2.2.2.2.1, v.2.2.2.2.2.2.2.2.2.2.2.2.2.2.1, v.2.2.2.2.2.2.2.2.2.2.2.2.2.2.2.1, v.2.2.2.2.2.2.2.2.2.2.2.2.2.2.2.2)
def mSetAt (v : zM) (x : Int32) : zM := (v.1, v.2.1, v.2.2.1, v.2.2.2.1, v.2.2.2.2.1, v.2.2.2.2.2.1, v.2.2.2.2.2.2.1, v.2.2.2.2.2.2.2.1, v.2.2.2.2.2.2.2.2.1, v.2.2.2.2.2.2.2.2.2.1, v.2.2.2.2.2.2.2.2.2.2.1, v.2.2.2.2.2.2.2.2.2.2.2.1, x, v.2.2.2.2.2.2.2.2.2.2.2.2.2.1, v.2.2.2.2.2.2.2.2.2.2.2.2.2.2.1, v.2.2.2.2.2.2.2.2.2.2.2.2.2.2.2.1, v.2.2.2.2.2.2.2.2.2.2.2.2.2.2.2.2)
def mSetIsWrong (v : zM) (x : Int32) : zM := (v.1, v.2.1, v.2.2.1, v.2.2.2.1, v.2.2.2.2.1, v.2.2.2.2.2.1, v.2.2.2.2.2.2.1, v.2.2.2.2.2.2.2.1, v.2.2.2.2.2.2.2.2.1, v.2.2.2.2.2.2.2.2.2.1, v.2.2.2.2.2.2.2.2.2.2.1, v.2.2.2.2.2.2.2.2.2.2.2.1, v.2.2.2.2.2.2.2.2.2.2.2.2.1, x, v.2.2.2.2.2.2.2.2.2.2.2.2.2.2.1, v.2.2.2.2.2.2.2.2.2.2.2.2.2.2.2.1, v.2.2.2.2.2.2.2.2.2.2.2.2.2.2.2.2)
def mSetPosition (v : zM) (x : Int32) : zM := (v.1, v.2.1, v.2.2.1, v.2.2.2.1, v.2.2.2.2.1, v.2.2.2.2.2.1, v.2.2.2.2.2.2.1, v.2.2.2.2.2.2.2.1, v.2.2.2.2.2.2.2.2.1, v.2.2.2.2.2.2.2.2.2.1, v.2.2.2.2.2.2.2.2.2.2.1, v.2.2.2.2.2.2.2.2.2.2.2.1, v.2.2.2.2.2.2.2.2.2.2.2.2.1, v.2.2.2.2.2.2.2.2.2.2.2.2.2.1, x, v.2.2.2.2.2.2.2.2.2.2.2.2.2.2.2.1, v.2.2.2.2.2.2.2.2.2.2.2.2.2.2.2.2)
def mSetReason (v : zM) (x : Int32) : zM := (v.1, v.2.1, v.2.2.1, v.2.2.2.1, v.2.2.2.2.1, v.2.2.2.2.2.1, v.2.2.2.2.2.2.1, v.2.2.2.2.2.2.2.1, v.2.2.2.2.2.2.2.2.1, v.2.2.2.2.2.2.2.2.2.1, v.2.2.2.2.2.2.2.2.2.2.1, v.2.2.2.2.2.2.2.2.2.2.2.1, v.2.2.2.2.2.2.2.2.2.2.2.2.1, v.2.2.2.2.2.2.2.2.2.2.2.2.2.1, v.2.2.2.2.2.2.2.2.2.2.2.2.2.2.1, x, v.2.2.2.2.2.2.2.2.2.2.2.2.2.2.2.2)
def mSetCause (v : zM) (x : Int32) : zM := (v.1, v.2.1, v.2.2.1, v.2.2.2.1, v.2.2.2.2.1, v.2.2.2.2.2.1, v.2.2.2.2.2.2.1, v.2.2.2.2.2.2.2.1, v.2.2.2.2.2.2.2.2.1, v.2.2.2.2.2.2.2.2.2.1, v.2.2.2.2.2.2.2.2.2.2.1, v.2.2.2.2.2.2.2.2.2.2.2.1, v.2.2.2.2.2.2.2.2.2.2.2.2.1, v.2.2.2.2.2.2.2.2.2.2.2.2.2.1, v.2.2.2.2.2.2.2.2.2.2.2.2.2.2.1, v.2.2.2.2.2.2.2.2.2.2.2.2.2.2.2.1, x)
def tEd (t : zT) (k : Nat) : zE := tEds t k
def tSetEd (t : zT) (k : Nat) (e : zE) : zT := tSetEds t (va_up (tEds t) k e)
def zsh (g : Nat → Nat) (n : Nat) : Nat → Nat := fun i => g (n + i)
def gE (g : Nat → Nat) (k : Nat) : Nat → Nat := fun i => g (1 + 7 * k + i)
/-- the editor that a number means -/
def ixE (number : Int32) : Nat := if number = 0 then 0 else if number = 1 then 1 else 2
def wN (cI : ClassId) (a c : Nat) (n : zN) : va_W := [(a, .inr (3, [.ref c, .int (nSize n)])), (c, .inl (cI, nCap n, .inl (nRow n)))]
def wEo (g : Nat → Nat) (e : zE) : va_W := [(g 0, .inr (1, [.int (eNum e), .ref (g 1), .ref (g 3), .ref (g 5), .int (eUw e), .int (eHeard e), .int (eSpot e), .int (eWr e)]))]
def wE (cI : ClassId) (g : Nat → Nat) (e : zE) : va_W := [wEo g e, wN cI (g 1) (g 2) (eCopy e), wN cI (g 3) (g 4) (eWait e), wN cI (g 5) (g 6) (eBacks e)].flatten
def wSo (g : Nat → Nat) : va_W := [(g 0, .inr (4, [.ref (g 1), .ref (g 8), .ref (g 15), .ref (g 22), .ref (g 24), .ref (g 26)]))]
def wS (cI : ClassId) (g : Nat → Nat) (t : zT) : va_W := [wSo g, wE cI (gE g 0) (tEd t 0), wE cI (gE g 1) (tEd t 1), wE cI (gE g 2) (tEd t 2), wN cI (g 22) (g 23) (tLog t), wN cI (g 24) (g 25) (tText t), wN cI (g 26) (g 27) (tWrs t)].flatten
/-- the two editors beside the editor k -/
def wR (cI : ClassId) (g : Nat → Nat) (t : zT) (k : Nat) : va_W := if k = 0 then wE cI (gE g 1) (tEd t 1) ++ wE cI (gE g 2) (tEd t 2) else if k = 1 then wE cI (gE g 0) (tEd t 0) ++ wE cI (gE g 2) (tEd t 2) else wE cI (gE g 0) (tEd t 0) ++ wE cI (gE g 1) (tEd t 1)
/-- a state, the editor k (with the value e) ahead of the other ones -/
def wF (cI : ClassId) (g : Nat → Nat) (t : zT) (k : Nat) (e : zE) : va_W := [wSo g, wE cI (gE g k) e, wN cI (g 22) (g 23) (tLog t), wN cI (g 24) (g 25) (tText t), wN cI (g 26) (g 27) (tWrs t), wR cI g t k].flatten
def wCo (g : Nat → Nat) (v : zC) : va_W := [(g 0, .inr (0, [.ref (g 1), .ref (g 3), .int (cPos v), .int (cRsn v), .int (cCause v), .int (cDone v)]))]
def wC (cI : ClassId) (g : Nat → Nat) (v : zC) : va_W := [wCo g v, wN cI (g 1) (g 2) (cSigns v), wN cI (g 3) (g 4) (cNums v)].flatten
def wHo (h a0 a1 a2 a3 a4 : Nat) (sz : Int32) : va_W := [(h, .inr (2, [.ref a0, .ref a1, .ref a2, .ref a3, .ref a4, .int sz]))]
def wXo (g : Nat → Nat) : va_W := [(g 0, .inr (5, [.ref (g 1), .ref (g 29), .ref (g 57), .ref (g 85), .ref (g 113), .ref (g 114)]))]
def wX (cI : ClassId) (g : Nat → Nat) (x : zX) : va_W := [wXo g, wS cI (zsh g 1) (xNow x), wS cI (zsh g 29) (xTrial x), wS cI (zsh g 57) (xUp x), wS cI (zsh g 85) (xDown x), wHo (g 113) (xGh x 0 0) (xGh x 1 0) (xGh x 2 0) (xGh x 3 0) (xGh x 4 0) (xHsz x), wS cI (xGh x 0) (xHv x 0), wS cI (xGh x 1) (xHv x 1), wS cI (xGh x 2) (xHv x 2), wS cI (xGh x 3) (xHv x 3), wS cI (xGh x 4) (xHv x 4), wC cI (zsh g 114) (xCm x)].flatten
def wM (cI : ClassId) (g : Nat → Nat) (v : zM) : va_W := [(g 0, .inr (6, [.ref (g 1), .ref (g 2), .ref (g 3), .int (mKnown v), .ref (g 4), .int (mLength v), .ref (g 5), .ref (g 6), .int (mLogLong v), .int (mAreSame v), .ref (g 7), .int (mAt v), .int (mIsWrong v), .ref (g 8), .int (mPosition v), .int (mReason v), .int (mCause v)])),
  (g 1, .inl (cI, 445, .inl (mS v))), (g 2, .inl (cI, 445, .inl (mAside v))), (g 3, .inl (cI, 1780, .inl (mBefore v))), (g 4, .inl (cI, 60, .inl (mText v))), (g 5, .inl (cI, 96, .inl (mLetters v))), (g 6, .inl (cI, 96, .inl (mBys v))), (g 7, .inl (cI, 96, .inl (mFirst v))), (g 8, .inl (cI, 4, .inl (mCommand v)))]
theorem wF_perm {cI : ClassId} {g : Nat → Nat} {t : zT} {k : Nat} {e : zE} (hk : k < 3) : (wF cI g t k e).Perm (wS cI g (tSetEd t k e)) := by
  have h : k = 0 ∨ k = 1 ∨ k = 2 := by omega
  rcases h with rfl | rfl | rfl
  · exact List.Perm.flatten (l₁ := [wSo g, wE cI (gE g 0) e, wN cI (g 22) (g 23) (tLog t), wN cI (g 24) (g 25) (tText t), wN cI (g 26) (g 27) (tWrs t), wE cI (gE g 1) (tEd t 1), wE cI (gE g 2) (tEd t 2), []]) (l₂ := [wSo g, wE cI (gE g 0) e, wE cI (gE g 1) (tEd t 1), wE cI (gE g 2) (tEd t 2), wN cI (g 22) (g 23) (tLog t), wN cI (g 24) (g 25) (tText t), wN cI (g 26) (g 27) (tWrs t), []]) (z_pm [0, 1, 5, 6, 2, 3, 4, 7] 8 rfl (by decide) rfl)
  · exact List.Perm.flatten (l₁ := [wSo g, wE cI (gE g 1) e, wN cI (g 22) (g 23) (tLog t), wN cI (g 24) (g 25) (tText t), wN cI (g 26) (g 27) (tWrs t), wE cI (gE g 0) (tEd t 0), wE cI (gE g 2) (tEd t 2), []]) (l₂ := [wSo g, wE cI (gE g 0) (tEd t 0), wE cI (gE g 1) e, wE cI (gE g 2) (tEd t 2), wN cI (g 22) (g 23) (tLog t), wN cI (g 24) (g 25) (tText t), wN cI (g 26) (g 27) (tWrs t), []]) (z_pm [0, 5, 1, 6, 2, 3, 4, 7] 8 rfl (by decide) rfl)
  · exact List.Perm.flatten (l₁ := [wSo g, wE cI (gE g 2) e, wN cI (g 22) (g 23) (tLog t), wN cI (g 24) (g 25) (tText t), wN cI (g 26) (g 27) (tWrs t), wE cI (gE g 0) (tEd t 0), wE cI (gE g 1) (tEd t 1), []]) (l₂ := [wSo g, wE cI (gE g 0) (tEd t 0), wE cI (gE g 1) (tEd t 1), wE cI (gE g 2) e, wN cI (g 22) (g 23) (tLog t), wN cI (g 24) (g 25) (tText t), wN cI (g 26) (g 27) (tWrs t), []]) (z_pm [0, 5, 6, 1, 2, 3, 4, 7] 8 rfl (by decide) rfl)
theorem tSetEd_same (t : zT) (k : Nat) : tSetEd t k (tEd t k) = t := by
  have h : va_up (tEds t) k (tEd t k) = tEds t := by
    funext j
    by_cases e : j = k
    · subst e; simp [va_up, tEd]
    · simp [va_up, e]
  rw [tSetEd, h]; rfl
theorem wF_focus {cI : ClassId} {g : Nat → Nat} {t : zT} {k : Nat} (hk : k < 3) : (wS cI g t).Perm (wF cI g t k (tEd t k)) := by
  have h := wF_perm (cI := cI) (g := g) (t := t) (e := tEd t k) hk
  rw [tSetEd_same] at h
  exact h.symm
theorem ixE_lt (n : Int32) : ixE n < 3 := by
  unfold ixE
  split
  · omega
  · split <;> omega
theorem z_repl {α : Type} {bs : List (List α)} {w : List α} {bi : Nat} (ws : List (List α)) (hbi : bs[bi]? = some w) (hp : w.Perm ws.flatten) : bs.flatten.Perm (bs.take bi ++ (ws ++ bs.drop (bi + 1))).flatten := by
  have hl : bi < bs.length := (List.getElem?_eq_some_iff.mp hbi).1
  have e : bs = bs.take bi ++ (w :: bs.drop (bi + 1)) := by
    have h2 : bs[bi] = w := (List.getElem?_eq_some_iff.mp hbi).2
    rw [← h2, List.getElem_cons_drop, List.take_append_drop]
  rw [List.flatten_append, List.flatten_append]
  conv => lhs; rw [e, List.flatten_append, List.flatten_cons]
  exact List.Perm.append_left _ (hp.append_right _)
section ZV
variable {p : Program} {l : Launch} {e : Env} {R : Room} {s : State} {m : MethodId} {args : Array Value} {below : List Frame} {meth : Method} {c : Code} {D : va_G} {A : Nat → Prop} {nL cells slots : Nat} {Qf : State → Prop} {bs : List va_W} {pc : Nat} {ls : List (Option Value)} {st : List Value}
theorem z_permF (bs1 : List va_W) (hp : bs.flatten.Perm bs1.flatten) (kk : ZZ p l e R s m args below meth c D A nL cells slots Qf bs1 pc ls st) : ZZ p l e R s m args below meth c D A nL cells slots Qf bs pc ls st := fun H locs la hP hD hS hl => kk H locs la (z_Pp hp hP) (z_Dp hp hD) hS hl
/-- the block bi is opened into blocks -/
theorem z_open (bi : Nat) {w : va_W} (ws : List va_W) (bs1 : List va_W) (hbi : bs[bi]? = some w) (hw : w = ws.flatten) (hbs : bs.take bi ++ (ws ++ bs.drop (bi + 1)) = bs1) (kk : ZZ p l e R s m args below meth c D A nL cells slots Qf bs1 pc ls st) : ZZ p l e R s m args below meth c D A nL cells slots Qf bs pc ls st := by
  subst hbs
  exact z_permF _ (z_repl ws hbi (by rw [hw])) kk
theorem z_openP (bi : Nat) {w : va_W} (ws : List va_W) (bs1 : List va_W) (hbi : bs[bi]? = some w) (hw : w.Perm ws.flatten) (hbs : bs.take bi ++ (ws ++ bs.drop (bi + 1)) = bs1) (kk : ZZ p l e R s m args below meth c D A nL cells slots Qf bs1 pc ls st) : ZZ p l e R s m args below meth c D A nL cells slots Qf bs pc ls st := by
  subst hbs
  exact z_permF _ (z_repl ws hbi hw) kk
/-- the blocks of bs1's block bi are put together -/
theorem z_shut (bi : Nat) {w : va_W} (ws : List va_W) (bs1 : List va_W) (hbi : bs1[bi]? = some w) (hw : w = ws.flatten) (hbs : bs1.take bi ++ (ws ++ bs1.drop (bi + 1)) = bs) (kk : ZZ p l e R s m args below meth c D A nL cells slots Qf bs1 pc ls st) : ZZ p l e R s m args below meth c D A nL cells slots Qf bs pc ls st := by
  subst hbs
  exact z_permF _ (z_repl ws hbi (by rw [hw])).symm kk
theorem z_shutP (bi : Nat) {w : va_W} (ws : List va_W) (bs1 : List va_W) (hbi : bs1[bi]? = some w) (hw : w.Perm ws.flatten) (hbs : bs1.take bi ++ (ws ++ bs1.drop (bi + 1)) = bs) (kk : ZZ p l e R s m args below meth c D A nL cells slots Qf bs1 pc ls st) : ZZ p l e R s m args below meth c D A nL cells slots Qf bs pc ls st := by
  subst hbs
  exact z_permF _ (z_repl ws hbi hw).symm kk
end ZV
end
section
/-! the words by name -/
theorem wr_1 {w : Cond} (h : w ∈ wsL_law_r1) : w ∈ wsL_law := (List.mem_append_left _ (List.mem_append_left _ (List.mem_append_left _ (List.mem_append_left _ (List.mem_append_left _ (List.mem_append_left _ (List.mem_append_left _ (List.mem_append_left _ (List.mem_append_left _ h)))))))))
theorem mw_1_0 : (Cond.classLink RL 7 RX6) ∈ wsL_law := wr_1 (List.mem_of_getElem? (l := wsL_law_r1) (i := 0) rfl)
theorem mw_1_1 : (Cond.instantiable RX6 6) ∈ wsL_law := wr_1 (List.mem_of_getElem? (l := wsL_law_r1) (i := 1) rfl)
theorem mw_1_2 : (Cond.initialized RX6) ∈ wsL_law := wr_1 (List.mem_of_getElem? (l := wsL_law_r1) (i := 2) rfl)
theorem mw_1_3 : (Cond.classLink RL 10 RX7) ∈ wsL_law := wr_1 (List.mem_of_getElem? (l := wsL_law_r1) (i := 3) rfl)
theorem mw_1_4 : (Cond.instantiable RX7 17) ∈ wsL_law := wr_1 (List.mem_of_getElem? (l := wsL_law_r1) (i := 4) rfl)
theorem mw_1_5 : (Cond.initialized RX7) ∈ wsL_law := wr_1 (List.mem_of_getElem? (l := wsL_law_r1) (i := 5) rfl)
theorem mw_1_6 : (Cond.methodLink RL 9 yX6_init) ∈ wsL_law := wr_1 (List.mem_of_getElem? (l := wsL_law_r1) (i := 6) rfl)
theorem mw_1_7 : (Cond.instanceMethod yX6_init) ∈ wsL_law := wr_1 (List.mem_of_getElem? (l := wsL_law_r1) (i := 7) rfl)
theorem mw_1_8 : (Cond.code yX6_init cX6_init 1 none) ∈ wsL_law := wr_1 (List.mem_of_getElem? (l := wsL_law_r1) (i := 8) rfl)
theorem mw_1_9 : (Cond.methodLink RX6 3 objectInit) ∈ wsL_law := wr_1 (List.mem_of_getElem? (l := wsL_law_r1) (i := 9) rfl)
theorem mw_1_10 : (Cond.instanceMethod objectInit) ∈ wsL_law := wr_1 (List.mem_of_getElem? (l := wsL_law_r1) (i := 10) rfl)
theorem mw_1_11 : (Cond.code objectInit ⟨#[0xb1]⟩ 1 none) ∈ wsL_law := wr_1 (List.mem_of_getElem? (l := wsL_law_r1) (i := 11) rfl)
theorem mw_1_12 : (Cond.classLink RX6 9 RX5) ∈ wsL_law := wr_1 (List.mem_of_getElem? (l := wsL_law_r1) (i := 12) rfl)
theorem mw_1_13 : (Cond.instantiable RX5 6) ∈ wsL_law := wr_1 (List.mem_of_getElem? (l := wsL_law_r1) (i := 13) rfl)
theorem mw_1_14 : (Cond.initialized RX5) ∈ wsL_law := wr_1 (List.mem_of_getElem? (l := wsL_law_r1) (i := 14) rfl)
theorem mw_1_15 : (Cond.fieldLink RX6 12 "ReshapedTexts" "now" "LReshapedTexts$State;") ∈ wsL_law := wr_1 (List.mem_of_getElem? (l := wsL_law_r1) (i := 15) rfl)
theorem mw_1_16 : (Cond.fieldLink RX6 16 "ReshapedTexts" "trial" "LReshapedTexts$State;") ∈ wsL_law := wr_1 (List.mem_of_getElem? (l := wsL_law_r1) (i := 16) rfl)
theorem mw_1_17 : (Cond.fieldLink RX6 19 "ReshapedTexts" "upwards" "LReshapedTexts$State;") ∈ wsL_law := wr_1 (List.mem_of_getElem? (l := wsL_law_r1) (i := 17) rfl)
theorem mw_1_18 : (Cond.fieldLink RX6 22 "ReshapedTexts" "downwards" "LReshapedTexts$State;") ∈ wsL_law := wr_1 (List.mem_of_getElem? (l := wsL_law_r1) (i := 18) rfl)
theorem mw_1_19 : (Cond.classLink RX6 25 RX3) ∈ wsL_law := wr_1 (List.mem_of_getElem? (l := wsL_law_r1) (i := 19) rfl)
theorem mw_1_20 : (Cond.instantiable RX3 6) ∈ wsL_law := wr_1 (List.mem_of_getElem? (l := wsL_law_r1) (i := 20) rfl)
theorem mw_1_21 : (Cond.initialized RX3) ∈ wsL_law := wr_1 (List.mem_of_getElem? (l := wsL_law_r1) (i := 21) rfl)
theorem mw_1_22 : (Cond.fieldLink RX6 28 "ReshapedTexts" "past" "LReshapedTexts$History;") ∈ wsL_law := wr_1 (List.mem_of_getElem? (l := wsL_law_r1) (i := 22) rfl)
theorem mw_1_23 : (Cond.classLink RX6 32 RX1) ∈ wsL_law := wr_1 (List.mem_of_getElem? (l := wsL_law_r1) (i := 23) rfl)
theorem wr_2 {w : Cond} (h : w ∈ wsL_law_r2) : w ∈ wsL_law := (List.mem_append_left _ (List.mem_append_left _ (List.mem_append_left _ (List.mem_append_left _ (List.mem_append_left _ (List.mem_append_left _ (List.mem_append_left _ (List.mem_append_left _ (List.mem_append_right _ (List.mem_append_left _ h))))))))))
theorem mw_2_0 : (Cond.instantiable RX1 6) ∈ wsL_law := wr_2 (List.mem_of_getElem? (l := wsL_law_r2) (i := 0) rfl)
theorem mw_2_1 : (Cond.initialized RX1) ∈ wsL_law := wr_2 (List.mem_of_getElem? (l := wsL_law_r2) (i := 1) rfl)
theorem mw_2_2 : (Cond.fieldLink RX6 35 "ReshapedTexts" "commands" "LReshapedTexts$Commands;") ∈ wsL_law := wr_2 (List.mem_of_getElem? (l := wsL_law_r2) (i := 2) rfl)
theorem mw_2_3 : (Cond.methodLink RX6 11 yX5_init) ∈ wsL_law := wr_2 (List.mem_of_getElem? (l := wsL_law_r2) (i := 3) rfl)
theorem mw_2_4 : (Cond.instanceMethod yX5_init) ∈ wsL_law := wr_2 (List.mem_of_getElem? (l := wsL_law_r2) (i := 4) rfl)
theorem mw_2_5 : (Cond.code yX5_init cX5_init 1 none) ∈ wsL_law := wr_2 (List.mem_of_getElem? (l := wsL_law_r2) (i := 5) rfl)
theorem mw_2_6 : (Cond.methodLink RX5 3 objectInit) ∈ wsL_law := wr_2 (List.mem_of_getElem? (l := wsL_law_r2) (i := 6) rfl)
theorem mw_2_7 : (Cond.classLink RX5 9 RX2) ∈ wsL_law := wr_2 (List.mem_of_getElem? (l := wsL_law_r2) (i := 7) rfl)
theorem mw_2_8 : (Cond.instantiable RX2 8) ∈ wsL_law := wr_2 (List.mem_of_getElem? (l := wsL_law_r2) (i := 8) rfl)
theorem mw_2_9 : (Cond.initialized RX2) ∈ wsL_law := wr_2 (List.mem_of_getElem? (l := wsL_law_r2) (i := 9) rfl)
theorem mw_2_10 : (Cond.fieldLink RX5 14 "ReshapedTexts$State" "first" "LReshapedTexts$Editor;") ∈ wsL_law := wr_2 (List.mem_of_getElem? (l := wsL_law_r2) (i := 10) rfl)
theorem mw_2_11 : (Cond.fieldLink RX5 20 "ReshapedTexts$State" "second" "LReshapedTexts$Editor;") ∈ wsL_law := wr_2 (List.mem_of_getElem? (l := wsL_law_r2) (i := 11) rfl)
theorem mw_2_12 : (Cond.fieldLink RX5 23 "ReshapedTexts$State" "third" "LReshapedTexts$Editor;") ∈ wsL_law := wr_2 (List.mem_of_getElem? (l := wsL_law_r2) (i := 12) rfl)
theorem mw_2_13 : (Cond.classLink RX5 26 RX4) ∈ wsL_law := wr_2 (List.mem_of_getElem? (l := wsL_law_r2) (i := 13) rfl)
theorem mw_2_14 : (Cond.instantiable RX4 2) ∈ wsL_law := wr_2 (List.mem_of_getElem? (l := wsL_law_r2) (i := 14) rfl)
theorem mw_2_15 : (Cond.initialized RX4) ∈ wsL_law := wr_2 (List.mem_of_getElem? (l := wsL_law_r2) (i := 15) rfl)
theorem mw_2_16 : (Cond.fieldLink RX5 29 "ReshapedTexts$State" "log" "LReshapedTexts$Numbers;") ∈ wsL_law := wr_2 (List.mem_of_getElem? (l := wsL_law_r2) (i := 16) rfl)
theorem mw_2_17 : (Cond.fieldLink RX5 33 "ReshapedTexts$State" "text" "LReshapedTexts$Numbers;") ∈ wsL_law := wr_2 (List.mem_of_getElem? (l := wsL_law_r2) (i := 17) rfl)
theorem mw_2_18 : (Cond.fieldLink RX5 36 "ReshapedTexts$State" "writers" "LReshapedTexts$Numbers;") ∈ wsL_law := wr_2 (List.mem_of_getElem? (l := wsL_law_r2) (i := 18) rfl)
theorem mw_2_19 : (Cond.methodLink RX5 11 yX2_init) ∈ wsL_law := wr_2 (List.mem_of_getElem? (l := wsL_law_r2) (i := 19) rfl)
theorem mw_2_20 : (Cond.instanceMethod yX2_init) ∈ wsL_law := wr_2 (List.mem_of_getElem? (l := wsL_law_r2) (i := 20) rfl)
theorem mw_2_21 : (Cond.code yX2_init cX2_init 2 none) ∈ wsL_law := wr_2 (List.mem_of_getElem? (l := wsL_law_r2) (i := 21) rfl)
theorem mw_2_22 : (Cond.methodLink RX2 3 objectInit) ∈ wsL_law := wr_2 (List.mem_of_getElem? (l := wsL_law_r2) (i := 22) rfl)
theorem mw_2_23 : (Cond.fieldLink RX2 9 "ReshapedTexts$Editor" "number" "I") ∈ wsL_law := wr_2 (List.mem_of_getElem? (l := wsL_law_r2) (i := 23) rfl)
theorem wr_3 {w : Cond} (h : w ∈ wsL_law_r3) : w ∈ wsL_law := (List.mem_append_left _ (List.mem_append_left _ (List.mem_append_left _ (List.mem_append_left _ (List.mem_append_left _ (List.mem_append_left _ (List.mem_append_left _ (List.mem_append_left _ (List.mem_append_right _ (List.mem_append_right _ (List.mem_append_left _ h)))))))))))
theorem mw_3_0 : (Cond.classLink RX2 15 RX4) ∈ wsL_law := wr_3 (List.mem_of_getElem? (l := wsL_law_r3) (i := 0) rfl)
theorem mw_3_1 : (Cond.fieldLink RX2 20 "ReshapedTexts$Editor" "copy" "LReshapedTexts$Numbers;") ∈ wsL_law := wr_3 (List.mem_of_getElem? (l := wsL_law_r3) (i := 1) rfl)
theorem mw_3_2 : (Cond.fieldLink RX2 24 "ReshapedTexts$Editor" "waiting" "LReshapedTexts$Numbers;") ∈ wsL_law := wr_3 (List.mem_of_getElem? (l := wsL_law_r3) (i := 2) rfl)
theorem mw_3_3 : (Cond.fieldLink RX2 27 "ReshapedTexts$Editor" "backs" "LReshapedTexts$Numbers;") ∈ wsL_law := wr_3 (List.mem_of_getElem? (l := wsL_law_r3) (i := 3) rfl)
theorem mw_3_4 : (Cond.methodLink RX2 17 yX4_init) ∈ wsL_law := wr_3 (List.mem_of_getElem? (l := wsL_law_r3) (i := 4) rfl)
theorem mw_3_5 : (Cond.instanceMethod yX4_init) ∈ wsL_law := wr_3 (List.mem_of_getElem? (l := wsL_law_r3) (i := 5) rfl)
theorem mw_3_6 : (Cond.code yX4_init cX4_init 2 none) ∈ wsL_law := wr_3 (List.mem_of_getElem? (l := wsL_law_r3) (i := 6) rfl)
theorem mw_3_7 : (Cond.methodLink RX4 1 objectInit) ∈ wsL_law := wr_3 (List.mem_of_getElem? (l := wsL_law_r3) (i := 7) rfl)
theorem mw_3_8 : (Cond.methodLink RX4 7 Lib.Math.max.name) ∈ wsL_law := wr_3 (List.mem_of_getElem? (l := wsL_law_r3) (i := 8) rfl)
theorem mw_3_9 : (Cond.static Lib.Math.max.name) ∈ wsL_law := wr_3 (List.mem_of_getElem? (l := wsL_law_r3) (i := 9) rfl)
theorem mw_3_10 : (Cond.initialized "java/lang/Math") ∈ wsL_law := wr_3 (List.mem_of_getElem? (l := wsL_law_r3) (i := 10) rfl)
theorem mw_3_11 : (Cond.code Lib.Math.max.name Lib.Math.max.code 2 (some .int)) ∈ wsL_law := wr_3 (List.mem_of_getElem? (l := wsL_law_r3) (i := 11) rfl)
theorem mw_3_12 : (Cond.arrayClass .int) ∈ wsL_law := wr_3 (List.mem_of_getElem? (l := wsL_law_r3) (i := 12) rfl)
theorem mw_3_13 : (Cond.fieldLink RX4 13 "ReshapedTexts$Numbers" "cells" "[I") ∈ wsL_law := wr_3 (List.mem_of_getElem? (l := wsL_law_r3) (i := 13) rfl)
theorem mw_3_14 : (Cond.fieldLink RX4 19 "ReshapedTexts$Numbers" "size" "I") ∈ wsL_law := wr_3 (List.mem_of_getElem? (l := wsL_law_r3) (i := 14) rfl)
theorem mw_3_15 : (Cond.methodLink RX5 28 yX4_init) ∈ wsL_law := wr_3 (List.mem_of_getElem? (l := wsL_law_r3) (i := 15) rfl)
theorem mw_3_16 : (Cond.methodLink RX6 27 yX3_init) ∈ wsL_law := wr_3 (List.mem_of_getElem? (l := wsL_law_r3) (i := 16) rfl)
theorem mw_3_17 : (Cond.instanceMethod yX3_init) ∈ wsL_law := wr_3 (List.mem_of_getElem? (l := wsL_law_r3) (i := 17) rfl)
theorem mw_3_18 : (Cond.code yX3_init cX3_init 1 none) ∈ wsL_law := wr_3 (List.mem_of_getElem? (l := wsL_law_r3) (i := 18) rfl)
theorem mw_3_19 : (Cond.methodLink RX3 3 objectInit) ∈ wsL_law := wr_3 (List.mem_of_getElem? (l := wsL_law_r3) (i := 19) rfl)
theorem mw_3_20 : (Cond.classLink RX3 9 RX5) ∈ wsL_law := wr_3 (List.mem_of_getElem? (l := wsL_law_r3) (i := 20) rfl)
theorem mw_3_21 : (Cond.fieldLink RX3 12 "ReshapedTexts$History" "newest" "LReshapedTexts$State;") ∈ wsL_law := wr_3 (List.mem_of_getElem? (l := wsL_law_r3) (i := 21) rfl)
theorem mw_3_22 : (Cond.fieldLink RX3 18 "ReshapedTexts$History" "second" "LReshapedTexts$State;") ∈ wsL_law := wr_3 (List.mem_of_getElem? (l := wsL_law_r3) (i := 22) rfl)
theorem mw_3_23 : (Cond.fieldLink RX3 21 "ReshapedTexts$History" "third" "LReshapedTexts$State;") ∈ wsL_law := wr_3 (List.mem_of_getElem? (l := wsL_law_r3) (i := 23) rfl)
theorem wr_4 {w : Cond} (h : w ∈ wsL_law_r4) : w ∈ wsL_law := (List.mem_append_left _ (List.mem_append_left _ (List.mem_append_left _ (List.mem_append_left _ (List.mem_append_left _ (List.mem_append_left _ (List.mem_append_left _ (List.mem_append_left _ (List.mem_append_right _ (List.mem_append_right _ (List.mem_append_right _ (List.mem_append_left _ h))))))))))))
theorem mw_4_0 : (Cond.fieldLink RX3 24 "ReshapedTexts$History" "oldest" "LReshapedTexts$State;") ∈ wsL_law := wr_4 (List.mem_of_getElem? (l := wsL_law_r4) (i := 0) rfl)
theorem mw_4_1 : (Cond.fieldLink RX3 27 "ReshapedTexts$History" "spare" "LReshapedTexts$State;") ∈ wsL_law := wr_4 (List.mem_of_getElem? (l := wsL_law_r4) (i := 1) rfl)
theorem mw_4_2 : (Cond.methodLink RX3 11 yX5_init) ∈ wsL_law := wr_4 (List.mem_of_getElem? (l := wsL_law_r4) (i := 2) rfl)
theorem mw_4_3 : (Cond.methodLink RX6 34 yX1_init) ∈ wsL_law := wr_4 (List.mem_of_getElem? (l := wsL_law_r4) (i := 3) rfl)
theorem mw_4_4 : (Cond.instanceMethod yX1_init) ∈ wsL_law := wr_4 (List.mem_of_getElem? (l := wsL_law_r4) (i := 4) rfl)
theorem mw_4_5 : (Cond.code yX1_init cX1_init 1 none) ∈ wsL_law := wr_4 (List.mem_of_getElem? (l := wsL_law_r4) (i := 5) rfl)
theorem mw_4_6 : (Cond.methodLink RX1 3 objectInit) ∈ wsL_law := wr_4 (List.mem_of_getElem? (l := wsL_law_r4) (i := 6) rfl)
theorem mw_4_7 : (Cond.classLink RX1 9 RX4) ∈ wsL_law := wr_4 (List.mem_of_getElem? (l := wsL_law_r4) (i := 7) rfl)
theorem mw_4_8 : (Cond.fieldLink RX1 14 "ReshapedTexts$Commands" "signs" "LReshapedTexts$Numbers;") ∈ wsL_law := wr_4 (List.mem_of_getElem? (l := wsL_law_r4) (i := 8) rfl)
theorem mw_4_9 : (Cond.fieldLink RX1 20 "ReshapedTexts$Commands" "numbers" "LReshapedTexts$Numbers;") ∈ wsL_law := wr_4 (List.mem_of_getElem? (l := wsL_law_r4) (i := 9) rfl)
theorem mw_4_10 : (Cond.methodLink RX1 11 yX4_init) ∈ wsL_law := wr_4 (List.mem_of_getElem? (l := wsL_law_r4) (i := 10) rfl)
theorem mw_4_11 : (Cond.methodLink RL 12 yX7_init) ∈ wsL_law := wr_4 (List.mem_of_getElem? (l := wsL_law_r4) (i := 11) rfl)
theorem mw_4_12 : (Cond.instanceMethod yX7_init) ∈ wsL_law := wr_4 (List.mem_of_getElem? (l := wsL_law_r4) (i := 12) rfl)
theorem mw_4_13 : (Cond.code yX7_init cX7_init 1 none) ∈ wsL_law := wr_4 (List.mem_of_getElem? (l := wsL_law_r4) (i := 13) rfl)
theorem mw_4_14 : (Cond.methodLink RX7 1 objectInit) ∈ wsL_law := wr_4 (List.mem_of_getElem? (l := wsL_law_r4) (i := 14) rfl)
theorem mw_4_15 : (Cond.fieldLink RX7 7 "ReshapedTextsModel" "s" "[I") ∈ wsL_law := wr_4 (List.mem_of_getElem? (l := wsL_law_r4) (i := 15) rfl)
theorem mw_4_16 : (Cond.fieldLink RX7 13 "ReshapedTextsModel" "aside" "[I") ∈ wsL_law := wr_4 (List.mem_of_getElem? (l := wsL_law_r4) (i := 16) rfl)
theorem mw_4_17 : (Cond.fieldLink RX7 16 "ReshapedTextsModel" "before" "[I") ∈ wsL_law := wr_4 (List.mem_of_getElem? (l := wsL_law_r4) (i := 17) rfl)
theorem mw_4_18 : (Cond.fieldLink RX7 19 "ReshapedTextsModel" "text" "[I") ∈ wsL_law := wr_4 (List.mem_of_getElem? (l := wsL_law_r4) (i := 18) rfl)
theorem mw_4_19 : (Cond.fieldLink RX7 22 "ReshapedTextsModel" "letters" "[I") ∈ wsL_law := wr_4 (List.mem_of_getElem? (l := wsL_law_r4) (i := 19) rfl)
theorem mw_4_20 : (Cond.fieldLink RX7 25 "ReshapedTextsModel" "bys" "[I") ∈ wsL_law := wr_4 (List.mem_of_getElem? (l := wsL_law_r4) (i := 20) rfl)
theorem mw_4_21 : (Cond.fieldLink RX7 28 "ReshapedTextsModel" "first" "[I") ∈ wsL_law := wr_4 (List.mem_of_getElem? (l := wsL_law_r4) (i := 21) rfl)
theorem mw_4_22 : (Cond.fieldLink RX7 31 "ReshapedTextsModel" "command" "[I") ∈ wsL_law := wr_4 (List.mem_of_getElem? (l := wsL_law_r4) (i := 22) rfl)
theorem mw_4_23 : (Cond.methodLink RL 13 yX6_insert) ∈ wsL_law := wr_4 (List.mem_of_getElem? (l := wsL_law_r4) (i := 23) rfl)
theorem wr_5 {w : Cond} (h : w ∈ wsL_law_r5) : w ∈ wsL_law := (List.mem_append_left _ (List.mem_append_left _ (List.mem_append_left _ (List.mem_append_left _ (List.mem_append_left _ (List.mem_append_left _ (List.mem_append_left _ (List.mem_append_left _ (List.mem_append_right _ (List.mem_append_right _ (List.mem_append_right _ (List.mem_append_right _ (List.mem_append_left _ h)))))))))))))
theorem mw_5_0 : (Cond.instanceMethod yX6_insert) ∈ wsL_law := wr_5 (List.mem_of_getElem? (l := wsL_law_r5) (i := 0) rfl)
theorem mw_5_1 : (Cond.selects RX6 yX6_insert yX6_insert) ∈ wsL_law := wr_5 (List.mem_of_getElem? (l := wsL_law_r5) (i := 1) rfl)
theorem mw_5_2 : (Cond.code yX6_insert cX6_insert 4 (some .int)) ∈ wsL_law := wr_5 (List.mem_of_getElem? (l := wsL_law_r5) (i := 2) rfl)
theorem mw_5_3 : (Cond.methodLink RX6 39 yX6_recorded) ∈ wsL_law := wr_5 (List.mem_of_getElem? (l := wsL_law_r5) (i := 3) rfl)
theorem mw_5_4 : (Cond.instanceMethod yX6_recorded) ∈ wsL_law := wr_5 (List.mem_of_getElem? (l := wsL_law_r5) (i := 4) rfl)
theorem mw_5_5 : (Cond.selects RX6 yX6_recorded yX6_recorded) ∈ wsL_law := wr_5 (List.mem_of_getElem? (l := wsL_law_r5) (i := 5) rfl)
theorem mw_5_6 : (Cond.code yX6_recorded cX6_recorded 6 (some .int)) ∈ wsL_law := wr_5 (List.mem_of_getElem? (l := wsL_law_r5) (i := 6) rfl)
theorem mw_5_7 : (Cond.methodLink RX6 53 yX3_prepare) ∈ wsL_law := wr_5 (List.mem_of_getElem? (l := wsL_law_r5) (i := 7) rfl)
theorem mw_5_8 : (Cond.instanceMethod yX3_prepare) ∈ wsL_law := wr_5 (List.mem_of_getElem? (l := wsL_law_r5) (i := 8) rfl)
theorem mw_5_9 : (Cond.selects RX3 yX3_prepare yX3_prepare) ∈ wsL_law := wr_5 (List.mem_of_getElem? (l := wsL_law_r5) (i := 9) rfl)
theorem mw_5_10 : (Cond.code yX3_prepare cX3_prepare 2 none) ∈ wsL_law := wr_5 (List.mem_of_getElem? (l := wsL_law_r5) (i := 10) rfl)
theorem mw_5_11 : (Cond.methodLink RX3 30 yX5_copyState) ∈ wsL_law := wr_5 (List.mem_of_getElem? (l := wsL_law_r5) (i := 11) rfl)
theorem mw_5_12 : (Cond.instanceMethod yX5_copyState) ∈ wsL_law := wr_5 (List.mem_of_getElem? (l := wsL_law_r5) (i := 12) rfl)
theorem mw_5_13 : (Cond.selects RX5 yX5_copyState yX5_copyState) ∈ wsL_law := wr_5 (List.mem_of_getElem? (l := wsL_law_r5) (i := 13) rfl)
theorem mw_5_14 : (Cond.code yX5_copyState cX5_copyState 2 none) ∈ wsL_law := wr_5 (List.mem_of_getElem? (l := wsL_law_r5) (i := 14) rfl)
theorem mw_5_15 : (Cond.methodLink RX5 103 yX2_copyEditor) ∈ wsL_law := wr_5 (List.mem_of_getElem? (l := wsL_law_r5) (i := 15) rfl)
theorem mw_5_16 : (Cond.instanceMethod yX2_copyEditor) ∈ wsL_law := wr_5 (List.mem_of_getElem? (l := wsL_law_r5) (i := 16) rfl)
theorem mw_5_17 : (Cond.selects RX2 yX2_copyEditor yX2_copyEditor) ∈ wsL_law := wr_5 (List.mem_of_getElem? (l := wsL_law_r5) (i := 17) rfl)
theorem mw_5_18 : (Cond.code yX2_copyEditor cX2_copyEditor 2 none) ∈ wsL_law := wr_5 (List.mem_of_getElem? (l := wsL_law_r5) (i := 18) rfl)
theorem mw_5_19 : (Cond.fieldLink RX2 59 "ReshapedTexts$Editor" "underWay" "Z") ∈ wsL_law := wr_5 (List.mem_of_getElem? (l := wsL_law_r5) (i := 19) rfl)
theorem mw_5_20 : (Cond.fieldLink RX2 63 "ReshapedTexts$Editor" "heard" "I") ∈ wsL_law := wr_5 (List.mem_of_getElem? (l := wsL_law_r5) (i := 20) rfl)
theorem mw_5_21 : (Cond.fieldLink RX2 56 "ReshapedTexts$Editor" "spot" "I") ∈ wsL_law := wr_5 (List.mem_of_getElem? (l := wsL_law_r5) (i := 21) rfl)
theorem mw_5_22 : (Cond.fieldLink RX2 87 "ReshapedTexts$Editor" "written" "I") ∈ wsL_law := wr_5 (List.mem_of_getElem? (l := wsL_law_r5) (i := 22) rfl)
theorem mw_5_23 : (Cond.methodLink RX2 90 yX4_copyNumbers) ∈ wsL_law := wr_5 (List.mem_of_getElem? (l := wsL_law_r5) (i := 23) rfl)
theorem wr_6 {w : Cond} (h : w ∈ wsL_law_r6) : w ∈ wsL_law := (List.mem_append_left _ (List.mem_append_left _ (List.mem_append_left _ (List.mem_append_left _ (List.mem_append_left _ (List.mem_append_left _ (List.mem_append_left _ (List.mem_append_left _ (List.mem_append_right _ (List.mem_append_right _ (List.mem_append_right _ (List.mem_append_right _ (List.mem_append_right _ (List.mem_append_left _ h))))))))))))))
theorem mw_6_0 : (Cond.instanceMethod yX4_copyNumbers) ∈ wsL_law := wr_6 (List.mem_of_getElem? (l := wsL_law_r6) (i := 0) rfl)
theorem mw_6_1 : (Cond.selects RX4 yX4_copyNumbers yX4_copyNumbers) ∈ wsL_law := wr_6 (List.mem_of_getElem? (l := wsL_law_r6) (i := 1) rfl)
theorem mw_6_2 : (Cond.code yX4_copyNumbers cX4_copyNumbers 4 none) ∈ wsL_law := wr_6 (List.mem_of_getElem? (l := wsL_law_r6) (i := 2) rfl)
theorem mw_6_3 : (Cond.methodLink RX4 27 Lib.Math.min.name) ∈ wsL_law := wr_6 (List.mem_of_getElem? (l := wsL_law_r6) (i := 3) rfl)
theorem mw_6_4 : (Cond.static Lib.Math.min.name) ∈ wsL_law := wr_6 (List.mem_of_getElem? (l := wsL_law_r6) (i := 4) rfl)
theorem mw_6_5 : (Cond.code Lib.Math.min.name Lib.Math.min.code 2 (some .int)) ∈ wsL_law := wr_6 (List.mem_of_getElem? (l := wsL_law_r6) (i := 5) rfl)
theorem mw_6_6 : (Cond.methodLink RX5 107 yX4_copyNumbers) ∈ wsL_law := wr_6 (List.mem_of_getElem? (l := wsL_law_r6) (i := 6) rfl)
theorem mw_6_7 : (Cond.methodLink RX6 177 yX5_answer) ∈ wsL_law := wr_6 (List.mem_of_getElem? (l := wsL_law_r6) (i := 7) rfl)
theorem mw_6_8 : (Cond.instanceMethod yX5_answer) ∈ wsL_law := wr_6 (List.mem_of_getElem? (l := wsL_law_r6) (i := 8) rfl)
theorem mw_6_9 : (Cond.selects RX5 yX5_answer yX5_answer) ∈ wsL_law := wr_6 (List.mem_of_getElem? (l := wsL_law_r6) (i := 9) rfl)
theorem mw_6_10 : (Cond.code yX5_answer cX5_answer 6 (some .int)) ∈ wsL_law := wr_6 (List.mem_of_getElem? (l := wsL_law_r6) (i := 10) rfl)
theorem mw_6_11 : (Cond.static yX6_isNoEditor) ∈ wsL_law := wr_6 (List.mem_of_getElem? (l := wsL_law_r6) (i := 11) rfl)
theorem mw_6_12 : (Cond.code yX6_isNoEditor cX6_isNoEditor 1 (some .boolean)) ∈ wsL_law := wr_6 (List.mem_of_getElem? (l := wsL_law_r6) (i := 12) rfl)
theorem mw_6_13 : (Cond.methodLink RX5 43 yX5_editor) ∈ wsL_law := wr_6 (List.mem_of_getElem? (l := wsL_law_r6) (i := 13) rfl)
theorem mw_6_14 : (Cond.instanceMethod yX5_editor) ∈ wsL_law := wr_6 (List.mem_of_getElem? (l := wsL_law_r6) (i := 14) rfl)
theorem mw_6_15 : (Cond.selects RX5 yX5_editor yX5_editor) ∈ wsL_law := wr_6 (List.mem_of_getElem? (l := wsL_law_r6) (i := 15) rfl)
theorem mw_6_16 : (Cond.code yX5_editor cX5_editor 2 (some (.object "ReshapedTexts$Editor"))) ∈ wsL_law := wr_6 (List.mem_of_getElem? (l := wsL_law_r6) (i := 16) rfl)
theorem mw_6_17 : (Cond.methodLink RX5 47 yX2_putIn) ∈ wsL_law := wr_6 (List.mem_of_getElem? (l := wsL_law_r6) (i := 17) rfl)
theorem mw_6_18 : (Cond.instanceMethod yX2_putIn) ∈ wsL_law := wr_6 (List.mem_of_getElem? (l := wsL_law_r6) (i := 18) rfl)
theorem mw_6_19 : (Cond.selects RX2 yX2_putIn yX2_putIn) ∈ wsL_law := wr_6 (List.mem_of_getElem? (l := wsL_law_r6) (i := 19) rfl)
theorem mw_6_20 : (Cond.code yX2_putIn cX2_putIn 3 (some .int)) ∈ wsL_law := wr_6 (List.mem_of_getElem? (l := wsL_law_r6) (i := 20) rfl)
theorem mw_6_21 : (Cond.methodLink RX2 30 yX4_size) ∈ wsL_law := wr_6 (List.mem_of_getElem? (l := wsL_law_r6) (i := 21) rfl)
theorem mw_6_22 : (Cond.instanceMethod yX4_size) ∈ wsL_law := wr_6 (List.mem_of_getElem? (l := wsL_law_r6) (i := 22) rfl)
theorem mw_6_23 : (Cond.selects RX4 yX4_size yX4_size) ∈ wsL_law := wr_6 (List.mem_of_getElem? (l := wsL_law_r6) (i := 23) rfl)
theorem wr_7 {w : Cond} (h : w ∈ wsL_law_r7) : w ∈ wsL_law := (List.mem_append_left _ (List.mem_append_left _ (List.mem_append_left _ (List.mem_append_left _ (List.mem_append_left _ (List.mem_append_left _ (List.mem_append_left _ (List.mem_append_left _ (List.mem_append_right _ (List.mem_append_right _ (List.mem_append_right _ (List.mem_append_right _ (List.mem_append_right _ (List.mem_append_right _ (List.mem_append_left _ h)))))))))))))))
theorem mw_7_0 : (Cond.code yX4_size cX4_size 1 (some .int)) ∈ wsL_law := wr_7 (List.mem_of_getElem? (l := wsL_law_r7) (i := 0) rfl)
theorem mw_7_1 : (Cond.methodLink RX2 34 yX0_of) ∈ wsL_law := wr_7 (List.mem_of_getElem? (l := wsL_law_r7) (i := 1) rfl)
theorem mw_7_2 : (Cond.static yX0_of) ∈ wsL_law := wr_7 (List.mem_of_getElem? (l := wsL_law_r7) (i := 2) rfl)
theorem mw_7_3 : (Cond.initialized RX0) ∈ wsL_law := wr_7 (List.mem_of_getElem? (l := wsL_law_r7) (i := 3) rfl)
theorem mw_7_4 : (Cond.code yX0_of cX0_of 4 (some .int)) ∈ wsL_law := wr_7 (List.mem_of_getElem? (l := wsL_law_r7) (i := 4) rfl)
theorem mw_7_5 : (Cond.methodLink RX2 40 yX2_write) ∈ wsL_law := wr_7 (List.mem_of_getElem? (l := wsL_law_r7) (i := 5) rfl)
theorem mw_7_6 : (Cond.instanceMethod yX2_write) ∈ wsL_law := wr_7 (List.mem_of_getElem? (l := wsL_law_r7) (i := 6) rfl)
theorem mw_7_7 : (Cond.selects RX2 yX2_write yX2_write) ∈ wsL_law := wr_7 (List.mem_of_getElem? (l := wsL_law_r7) (i := 7) rfl)
theorem mw_7_8 : (Cond.code yX2_write cX2_write 2 none) ∈ wsL_law := wr_7 (List.mem_of_getElem? (l := wsL_law_r7) (i := 8) rfl)
theorem mw_7_9 : (Cond.methodLink RX2 77 yX2_apply) ∈ wsL_law := wr_7 (List.mem_of_getElem? (l := wsL_law_r7) (i := 9) rfl)
theorem mw_7_10 : (Cond.instanceMethod yX2_apply) ∈ wsL_law := wr_7 (List.mem_of_getElem? (l := wsL_law_r7) (i := 10) rfl)
theorem mw_7_11 : (Cond.selects RX2 yX2_apply yX2_apply) ∈ wsL_law := wr_7 (List.mem_of_getElem? (l := wsL_law_r7) (i := 11) rfl)
theorem mw_7_12 : (Cond.code yX2_apply cX2_apply 5 none) ∈ wsL_law := wr_7 (List.mem_of_getElem? (l := wsL_law_r7) (i := 12) rfl)
theorem mw_7_13 : (Cond.methodLink RX2 97 yX0_place) ∈ wsL_law := wr_7 (List.mem_of_getElem? (l := wsL_law_r7) (i := 13) rfl)
theorem mw_7_14 : (Cond.static yX0_place) ∈ wsL_law := wr_7 (List.mem_of_getElem? (l := wsL_law_r7) (i := 14) rfl)
theorem mw_7_15 : (Cond.code yX0_place cX0_place 1 (some .int)) ∈ wsL_law := wr_7 (List.mem_of_getElem? (l := wsL_law_r7) (i := 15) rfl)
theorem mw_7_16 : (Cond.methodLink RX2 50 yX0_kind) ∈ wsL_law := wr_7 (List.mem_of_getElem? (l := wsL_law_r7) (i := 16) rfl)
theorem mw_7_17 : (Cond.static yX0_kind) ∈ wsL_law := wr_7 (List.mem_of_getElem? (l := wsL_law_r7) (i := 17) rfl)
theorem mw_7_18 : (Cond.code yX0_kind cX0_kind 1 (some .int)) ∈ wsL_law := wr_7 (List.mem_of_getElem? (l := wsL_law_r7) (i := 18) rfl)
theorem mw_7_19 : (Cond.methodLink RX2 100 yX0_sign) ∈ wsL_law := wr_7 (List.mem_of_getElem? (l := wsL_law_r7) (i := 19) rfl)
theorem mw_7_20 : (Cond.static yX0_sign) ∈ wsL_law := wr_7 (List.mem_of_getElem? (l := wsL_law_r7) (i := 20) rfl)
theorem mw_7_21 : (Cond.code yX0_sign cX0_sign 1 (some .int)) ∈ wsL_law := wr_7 (List.mem_of_getElem? (l := wsL_law_r7) (i := 21) rfl)
theorem mw_7_22 : (Cond.methodLink RX2 103 yX4_addAt) ∈ wsL_law := wr_7 (List.mem_of_getElem? (l := wsL_law_r7) (i := 22) rfl)
theorem mw_7_23 : (Cond.instanceMethod yX4_addAt) ∈ wsL_law := wr_7 (List.mem_of_getElem? (l := wsL_law_r7) (i := 23) rfl)
theorem wr_8 {w : Cond} (h : w ∈ wsL_law_r8) : w ∈ wsL_law := (List.mem_append_left _ (List.mem_append_left _ (List.mem_append_left _ (List.mem_append_left _ (List.mem_append_left _ (List.mem_append_left _ (List.mem_append_left _ (List.mem_append_left _ (List.mem_append_right _ (List.mem_append_right _ (List.mem_append_right _ (List.mem_append_right _ (List.mem_append_right _ (List.mem_append_right _ (List.mem_append_right _ (List.mem_append_left _ h))))))))))))))))
theorem mw_8_0 : (Cond.selects RX4 yX4_addAt yX4_addAt) ∈ wsL_law := wr_8 (List.mem_of_getElem? (l := wsL_law_r8) (i := 0) rfl)
theorem mw_8_1 : (Cond.code yX4_addAt cX4_addAt 4 none) ∈ wsL_law := wr_8 (List.mem_of_getElem? (l := wsL_law_r8) (i := 1) rfl)
theorem mw_8_2 : (Cond.methodLink RX2 53 yX4_removeAt) ∈ wsL_law := wr_8 (List.mem_of_getElem? (l := wsL_law_r8) (i := 2) rfl)
theorem mw_8_3 : (Cond.instanceMethod yX4_removeAt) ∈ wsL_law := wr_8 (List.mem_of_getElem? (l := wsL_law_r8) (i := 3) rfl)
theorem mw_8_4 : (Cond.selects RX4 yX4_removeAt yX4_removeAt) ∈ wsL_law := wr_8 (List.mem_of_getElem? (l := wsL_law_r8) (i := 4) rfl)
theorem mw_8_5 : (Cond.code yX4_removeAt cX4_removeAt 3 none) ∈ wsL_law := wr_8 (List.mem_of_getElem? (l := wsL_law_r8) (i := 5) rfl)
theorem mw_8_6 : (Cond.methodLink RX2 46 yX4_at) ∈ wsL_law := wr_8 (List.mem_of_getElem? (l := wsL_law_r8) (i := 6) rfl)
theorem mw_8_7 : (Cond.instanceMethod yX4_at) ∈ wsL_law := wr_8 (List.mem_of_getElem? (l := wsL_law_r8) (i := 7) rfl)
theorem mw_8_8 : (Cond.selects RX4 yX4_at yX4_at) ∈ wsL_law := wr_8 (List.mem_of_getElem? (l := wsL_law_r8) (i := 8) rfl)
theorem mw_8_9 : (Cond.code yX4_at cX4_at 2 (some .int)) ∈ wsL_law := wr_8 (List.mem_of_getElem? (l := wsL_law_r8) (i := 9) rfl)
theorem mw_8_10 : (Cond.methodLink RX2 66 yX0_reshaped) ∈ wsL_law := wr_8 (List.mem_of_getElem? (l := wsL_law_r8) (i := 10) rfl)
theorem mw_8_11 : (Cond.static yX0_reshaped) ∈ wsL_law := wr_8 (List.mem_of_getElem? (l := wsL_law_r8) (i := 11) rfl)
theorem mw_8_12 : (Cond.code yX0_reshaped cX0_reshaped 9 (some .int)) ∈ wsL_law := wr_8 (List.mem_of_getElem? (l := wsL_law_r8) (i := 12) rfl)
theorem mw_8_13 : (Cond.methodLink RX2 107 yX4_put) ∈ wsL_law := wr_8 (List.mem_of_getElem? (l := wsL_law_r8) (i := 13) rfl)
theorem mw_8_14 : (Cond.instanceMethod yX4_put) ∈ wsL_law := wr_8 (List.mem_of_getElem? (l := wsL_law_r8) (i := 14) rfl)
theorem mw_8_15 : (Cond.selects RX4 yX4_put yX4_put) ∈ wsL_law := wr_8 (List.mem_of_getElem? (l := wsL_law_r8) (i := 15) rfl)
theorem mw_8_16 : (Cond.code yX4_put cX4_put 3 none) ∈ wsL_law := wr_8 (List.mem_of_getElem? (l := wsL_law_r8) (i := 16) rfl)
theorem mw_8_17 : (Cond.methodLink RX2 94 yX4_add) ∈ wsL_law := wr_8 (List.mem_of_getElem? (l := wsL_law_r8) (i := 17) rfl)
theorem mw_8_18 : (Cond.instanceMethod yX4_add) ∈ wsL_law := wr_8 (List.mem_of_getElem? (l := wsL_law_r8) (i := 18) rfl)
theorem mw_8_19 : (Cond.selects RX4 yX4_add yX4_add) ∈ wsL_law := wr_8 (List.mem_of_getElem? (l := wsL_law_r8) (i := 19) rfl)
theorem mw_8_20 : (Cond.code yX4_add cX4_add 2 none) ∈ wsL_law := wr_8 (List.mem_of_getElem? (l := wsL_law_r8) (i := 20) rfl)
theorem mw_8_21 : (Cond.methodLink RX4 23 yX4_addAt) ∈ wsL_law := wr_8 (List.mem_of_getElem? (l := wsL_law_r8) (i := 21) rfl)
theorem mw_8_22 : (Cond.methodLink RX2 43 yX2_keepBack) ∈ wsL_law := wr_8 (List.mem_of_getElem? (l := wsL_law_r8) (i := 22) rfl)
theorem mw_8_23 : (Cond.instanceMethod yX2_keepBack) ∈ wsL_law := wr_8 (List.mem_of_getElem? (l := wsL_law_r8) (i := 23) rfl)
theorem wr_9 {w : Cond} (h : w ∈ wsL_law_r9) : w ∈ wsL_law := (List.mem_append_left _ (List.mem_append_left _ (List.mem_append_left _ (List.mem_append_left _ (List.mem_append_left _ (List.mem_append_left _ (List.mem_append_left _ (List.mem_append_left _ (List.mem_append_right _ (List.mem_append_right _ (List.mem_append_right _ (List.mem_append_right _ (List.mem_append_right _ (List.mem_append_right _ (List.mem_append_right _ (List.mem_append_right _ (List.mem_append_left _ h)))))))))))))))))
theorem mw_9_0 : (Cond.selects RX2 yX2_keepBack yX2_keepBack) ∈ wsL_law := wr_9 (List.mem_of_getElem? (l := wsL_law_r9) (i := 0) rfl)
theorem mw_9_1 : (Cond.code yX2_keepBack cX2_keepBack 2 none) ∈ wsL_law := wr_9 (List.mem_of_getElem? (l := wsL_law_r9) (i := 1) rfl)
theorem mw_9_2 : (Cond.methodLink RX5 51 yX2_takeOut) ∈ wsL_law := wr_9 (List.mem_of_getElem? (l := wsL_law_r9) (i := 2) rfl)
theorem mw_9_3 : (Cond.instanceMethod yX2_takeOut) ∈ wsL_law := wr_9 (List.mem_of_getElem? (l := wsL_law_r9) (i := 3) rfl)
theorem mw_9_4 : (Cond.selects RX2 yX2_takeOut yX2_takeOut) ∈ wsL_law := wr_9 (List.mem_of_getElem? (l := wsL_law_r9) (i := 4) rfl)
theorem mw_9_5 : (Cond.code yX2_takeOut cX2_takeOut 3 (some .int)) ∈ wsL_law := wr_9 (List.mem_of_getElem? (l := wsL_law_r9) (i := 5) rfl)
theorem mw_9_6 : (Cond.methodLink RX5 55 yX2_goBack) ∈ wsL_law := wr_9 (List.mem_of_getElem? (l := wsL_law_r9) (i := 6) rfl)
theorem mw_9_7 : (Cond.instanceMethod yX2_goBack) ∈ wsL_law := wr_9 (List.mem_of_getElem? (l := wsL_law_r9) (i := 7) rfl)
theorem mw_9_8 : (Cond.selects RX2 yX2_goBack yX2_goBack) ∈ wsL_law := wr_9 (List.mem_of_getElem? (l := wsL_law_r9) (i := 8) rfl)
theorem mw_9_9 : (Cond.code yX2_goBack cX2_goBack 4 (some .int)) ∈ wsL_law := wr_9 (List.mem_of_getElem? (l := wsL_law_r9) (i := 9) rfl)
theorem mw_9_10 : (Cond.methodLink RX5 59 yX2_setSpot) ∈ wsL_law := wr_9 (List.mem_of_getElem? (l := wsL_law_r9) (i := 10) rfl)
theorem mw_9_11 : (Cond.instanceMethod yX2_setSpot) ∈ wsL_law := wr_9 (List.mem_of_getElem? (l := wsL_law_r9) (i := 11) rfl)
theorem mw_9_12 : (Cond.selects RX2 yX2_setSpot yX2_setSpot) ∈ wsL_law := wr_9 (List.mem_of_getElem? (l := wsL_law_r9) (i := 12) rfl)
theorem mw_9_13 : (Cond.code yX2_setSpot cX2_setSpot 3 (some .int)) ∈ wsL_law := wr_9 (List.mem_of_getElem? (l := wsL_law_r9) (i := 13) rfl)
theorem mw_9_14 : (Cond.methodLink RX5 62 yX5_pass) ∈ wsL_law := wr_9 (List.mem_of_getElem? (l := wsL_law_r9) (i := 14) rfl)
theorem mw_9_15 : (Cond.instanceMethod yX5_pass) ∈ wsL_law := wr_9 (List.mem_of_getElem? (l := wsL_law_r9) (i := 15) rfl)
theorem mw_9_16 : (Cond.selects RX5 yX5_pass yX5_pass) ∈ wsL_law := wr_9 (List.mem_of_getElem? (l := wsL_law_r9) (i := 16) rfl)
theorem mw_9_17 : (Cond.code yX5_pass cX5_pass 2 (some .int)) ∈ wsL_law := wr_9 (List.mem_of_getElem? (l := wsL_law_r9) (i := 17) rfl)
theorem mw_9_18 : (Cond.methodLink RX5 115 yX2_canSend) ∈ wsL_law := wr_9 (List.mem_of_getElem? (l := wsL_law_r9) (i := 18) rfl)
theorem mw_9_19 : (Cond.instanceMethod yX2_canSend) ∈ wsL_law := wr_9 (List.mem_of_getElem? (l := wsL_law_r9) (i := 19) rfl)
theorem mw_9_20 : (Cond.selects RX2 yX2_canSend yX2_canSend) ∈ wsL_law := wr_9 (List.mem_of_getElem? (l := wsL_law_r9) (i := 20) rfl)
theorem mw_9_21 : (Cond.code yX2_canSend cX2_canSend 1 (some .boolean)) ∈ wsL_law := wr_9 (List.mem_of_getElem? (l := wsL_law_r9) (i := 21) rfl)
theorem mw_9_22 : (Cond.methodLink RX5 73 yX4_size) ∈ wsL_law := wr_9 (List.mem_of_getElem? (l := wsL_law_r9) (i := 22) rfl)
theorem mw_9_23 : (Cond.methodLink RX5 119 yX5_append) ∈ wsL_law := wr_9 (List.mem_of_getElem? (l := wsL_law_r9) (i := 23) rfl)
theorem wr_10 {w : Cond} (h : w ∈ wsL_law_r10) : w ∈ wsL_law := (List.mem_append_left _ (List.mem_append_left _ (List.mem_append_left _ (List.mem_append_left _ (List.mem_append_left _ (List.mem_append_left _ (List.mem_append_left _ (List.mem_append_left _ (List.mem_append_right _ (List.mem_append_right _ (List.mem_append_right _ (List.mem_append_right _ (List.mem_append_right _ (List.mem_append_right _ (List.mem_append_right _ (List.mem_append_right _ (List.mem_append_right _ (List.mem_append_left _ h))))))))))))))))))
theorem mw_10_0 : (Cond.instanceMethod yX5_append) ∈ wsL_law := wr_10 (List.mem_of_getElem? (l := wsL_law_r10) (i := 0) rfl)
theorem mw_10_1 : (Cond.selects RX5 yX5_append yX5_append) ∈ wsL_law := wr_10 (List.mem_of_getElem? (l := wsL_law_r10) (i := 1) rfl)
theorem mw_10_2 : (Cond.code yX5_append cX5_append 5 none) ∈ wsL_law := wr_10 (List.mem_of_getElem? (l := wsL_law_r10) (i := 2) rfl)
theorem mw_10_3 : (Cond.methodLink RX5 122 yX2_outgoing) ∈ wsL_law := wr_10 (List.mem_of_getElem? (l := wsL_law_r10) (i := 3) rfl)
theorem mw_10_4 : (Cond.instanceMethod yX2_outgoing) ∈ wsL_law := wr_10 (List.mem_of_getElem? (l := wsL_law_r10) (i := 4) rfl)
theorem mw_10_5 : (Cond.selects RX2 yX2_outgoing yX2_outgoing) ∈ wsL_law := wr_10 (List.mem_of_getElem? (l := wsL_law_r10) (i := 5) rfl)
theorem mw_10_6 : (Cond.code yX2_outgoing cX2_outgoing 4 (some .int)) ∈ wsL_law := wr_10 (List.mem_of_getElem? (l := wsL_law_r10) (i := 6) rfl)
theorem mw_10_7 : (Cond.methodLink RX5 125 yX0_place) ∈ wsL_law := wr_10 (List.mem_of_getElem? (l := wsL_law_r10) (i := 7) rfl)
theorem mw_10_8 : (Cond.methodLink RX5 79 yX0_kind) ∈ wsL_law := wr_10 (List.mem_of_getElem? (l := wsL_law_r10) (i := 8) rfl)
theorem mw_10_9 : (Cond.methodLink RX5 128 yX0_sign) ∈ wsL_law := wr_10 (List.mem_of_getElem? (l := wsL_law_r10) (i := 9) rfl)
theorem mw_10_10 : (Cond.methodLink RX5 131 yX4_addAt) ∈ wsL_law := wr_10 (List.mem_of_getElem? (l := wsL_law_r10) (i := 10) rfl)
theorem mw_10_11 : (Cond.methodLink RX5 135 yX0_writer) ∈ wsL_law := wr_10 (List.mem_of_getElem? (l := wsL_law_r10) (i := 11) rfl)
theorem mw_10_12 : (Cond.static yX0_writer) ∈ wsL_law := wr_10 (List.mem_of_getElem? (l := wsL_law_r10) (i := 12) rfl)
theorem mw_10_13 : (Cond.code yX0_writer cX0_writer 1 (some .int)) ∈ wsL_law := wr_10 (List.mem_of_getElem? (l := wsL_law_r10) (i := 13) rfl)
theorem mw_10_14 : (Cond.methodLink RX5 138 yX4_removeAt) ∈ wsL_law := wr_10 (List.mem_of_getElem? (l := wsL_law_r10) (i := 14) rfl)
theorem mw_10_15 : (Cond.methodLink RX5 141 yX4_add) ∈ wsL_law := wr_10 (List.mem_of_getElem? (l := wsL_law_r10) (i := 15) rfl)
theorem mw_10_16 : (Cond.methodLink RX5 66 yX2_hearNext) ∈ wsL_law := wr_10 (List.mem_of_getElem? (l := wsL_law_r10) (i := 16) rfl)
theorem mw_10_17 : (Cond.instanceMethod yX2_hearNext) ∈ wsL_law := wr_10 (List.mem_of_getElem? (l := wsL_law_r10) (i := 17) rfl)
theorem mw_10_18 : (Cond.selects RX2 yX2_hearNext yX2_hearNext) ∈ wsL_law := wr_10 (List.mem_of_getElem? (l := wsL_law_r10) (i := 18) rfl)
theorem mw_10_19 : (Cond.code yX2_hearNext cX2_hearNext 4 (some .int)) ∈ wsL_law := wr_10 (List.mem_of_getElem? (l := wsL_law_r10) (i := 19) rfl)
theorem mw_10_20 : (Cond.methodLink RX2 70 yX0_writer) ∈ wsL_law := wr_10 (List.mem_of_getElem? (l := wsL_law_r10) (i := 20) rfl)
theorem mw_10_21 : (Cond.methodLink RX2 73 yX0_passThrough) ∈ wsL_law := wr_10 (List.mem_of_getElem? (l := wsL_law_r10) (i := 21) rfl)
theorem mw_10_22 : (Cond.static yX0_passThrough) ∈ wsL_law := wr_10 (List.mem_of_getElem? (l := wsL_law_r10) (i := 22) rfl)
theorem mw_10_23 : (Cond.code yX0_passThrough cX0_passThrough 5 (some .int)) ∈ wsL_law := wr_10 (List.mem_of_getElem? (l := wsL_law_r10) (i := 23) rfl)
theorem wr_11 {w : Cond} (h : w ∈ wsL_law_r11) : w ∈ wsL_law := (List.mem_append_left _ (List.mem_append_left _ (List.mem_append_left _ (List.mem_append_left _ (List.mem_append_left _ (List.mem_append_left _ (List.mem_append_left _ (List.mem_append_left _ (List.mem_append_right _ (List.mem_append_right _ (List.mem_append_right _ (List.mem_append_right _ (List.mem_append_right _ (List.mem_append_right _ (List.mem_append_right _ (List.mem_append_right _ (List.mem_append_right _ (List.mem_append_right _ (List.mem_append_left _ h)))))))))))))))))))
theorem mw_11_0 : (Cond.methodLink RX0 24 yX4_size) ∈ wsL_law := wr_11 (List.mem_of_getElem? (l := wsL_law_r11) (i := 0) rfl)
theorem mw_11_1 : (Cond.methodLink RX0 30 yX4_at) ∈ wsL_law := wr_11 (List.mem_of_getElem? (l := wsL_law_r11) (i := 1) rfl)
theorem mw_11_2 : (Cond.methodLink RX0 33 yX0_reshaped) ∈ wsL_law := wr_11 (List.mem_of_getElem? (l := wsL_law_r11) (i := 2) rfl)
theorem mw_11_3 : (Cond.methodLink RX0 37 yX4_put) ∈ wsL_law := wr_11 (List.mem_of_getElem? (l := wsL_law_r11) (i := 3) rfl)
theorem mw_11_4 : (Cond.methodLink RX5 70 yX2_hearRest) ∈ wsL_law := wr_11 (List.mem_of_getElem? (l := wsL_law_r11) (i := 4) rfl)
theorem mw_11_5 : (Cond.instanceMethod yX2_hearRest) ∈ wsL_law := wr_11 (List.mem_of_getElem? (l := wsL_law_r11) (i := 5) rfl)
theorem mw_11_6 : (Cond.selects RX2 yX2_hearRest yX2_hearRest) ∈ wsL_law := wr_11 (List.mem_of_getElem? (l := wsL_law_r11) (i := 6) rfl)
theorem mw_11_7 : (Cond.code yX2_hearRest cX2_hearRest 4 (some .int)) ∈ wsL_law := wr_11 (List.mem_of_getElem? (l := wsL_law_r11) (i := 7) rfl)
theorem mw_11_8 : (Cond.methodLink RX2 80 yX2_hearNext) ∈ wsL_law := wr_11 (List.mem_of_getElem? (l := wsL_law_r11) (i := 8) rfl)
theorem mw_11_9 : (Cond.methodLink RX6 57 yX3_keep) ∈ wsL_law := wr_11 (List.mem_of_getElem? (l := wsL_law_r11) (i := 9) rfl)
theorem mw_11_10 : (Cond.instanceMethod yX3_keep) ∈ wsL_law := wr_11 (List.mem_of_getElem? (l := wsL_law_r11) (i := 10) rfl)
theorem mw_11_11 : (Cond.selects RX3 yX3_keep yX3_keep) ∈ wsL_law := wr_11 (List.mem_of_getElem? (l := wsL_law_r11) (i := 11) rfl)
theorem mw_11_12 : (Cond.code yX3_keep cX3_keep 2 none) ∈ wsL_law := wr_11 (List.mem_of_getElem? (l := wsL_law_r11) (i := 12) rfl)
theorem mw_11_13 : (Cond.fieldLink RX3 34 "ReshapedTexts$History" "size" "I") ∈ wsL_law := wr_11 (List.mem_of_getElem? (l := wsL_law_r11) (i := 13) rfl)
theorem mw_11_14 : (Cond.methodLink RX3 38 Lib.Math.min.name) ∈ wsL_law := wr_11 (List.mem_of_getElem? (l := wsL_law_r11) (i := 14) rfl)
theorem mw_11_15 : (Cond.methodLink RL 17 yX7_insert) ∈ wsL_law := wr_11 (List.mem_of_getElem? (l := wsL_law_r11) (i := 15) rfl)
theorem mw_11_16 : (Cond.instanceMethod yX7_insert) ∈ wsL_law := wr_11 (List.mem_of_getElem? (l := wsL_law_r11) (i := 16) rfl)
theorem mw_11_17 : (Cond.selects RX7 yX7_insert yX7_insert) ∈ wsL_law := wr_11 (List.mem_of_getElem? (l := wsL_law_r11) (i := 17) rfl)
theorem mw_11_18 : (Cond.code yX7_insert cX7_insert 5 (some .int)) ∈ wsL_law := wr_11 (List.mem_of_getElem? (l := wsL_law_r11) (i := 18) rfl)
theorem mw_11_19 : (Cond.methodLink RX7 89 yX7_insertFault) ∈ wsL_law := wr_11 (List.mem_of_getElem? (l := wsL_law_r11) (i := 19) rfl)
theorem mw_11_20 : (Cond.instanceMethod yX7_insertFault) ∈ wsL_law := wr_11 (List.mem_of_getElem? (l := wsL_law_r11) (i := 20) rfl)
theorem mw_11_21 : (Cond.selects RX7 yX7_insertFault yX7_insertFault) ∈ wsL_law := wr_11 (List.mem_of_getElem? (l := wsL_law_r11) (i := 21) rfl)
theorem mw_11_22 : (Cond.code yX7_insertFault cX7_insertFault 4 (some .int)) ∈ wsL_law := wr_11 (List.mem_of_getElem? (l := wsL_law_r11) (i := 22) rfl)
theorem mw_11_23 : (Cond.methodLink RX7 70 yX7_isEditor) ∈ wsL_law := wr_11 (List.mem_of_getElem? (l := wsL_law_r11) (i := 23) rfl)
theorem wr_12 {w : Cond} (h : w ∈ wsL_law_r12) : w ∈ wsL_law := (List.mem_append_left _ (List.mem_append_left _ (List.mem_append_left _ (List.mem_append_left _ (List.mem_append_left _ (List.mem_append_left _ (List.mem_append_left _ (List.mem_append_left _ (List.mem_append_right _ (List.mem_append_right _ (List.mem_append_right _ (List.mem_append_right _ (List.mem_append_right _ (List.mem_append_right _ (List.mem_append_right _ (List.mem_append_right _ (List.mem_append_right _ (List.mem_append_right _ (List.mem_append_right _ (List.mem_append_left _ h))))))))))))))))))))
theorem mw_12_0 : (Cond.static yX7_isEditor) ∈ wsL_law := wr_12 (List.mem_of_getElem? (l := wsL_law_r12) (i := 0) rfl)
theorem mw_12_1 : (Cond.code yX7_isEditor cX7_isEditor 1 (some .boolean)) ∈ wsL_law := wr_12 (List.mem_of_getElem? (l := wsL_law_r12) (i := 1) rfl)
theorem mw_12_2 : (Cond.methodLink RX7 34 yX7_in) ∈ wsL_law := wr_12 (List.mem_of_getElem? (l := wsL_law_r12) (i := 2) rfl)
theorem mw_12_3 : (Cond.static yX7_in) ∈ wsL_law := wr_12 (List.mem_of_getElem? (l := wsL_law_r12) (i := 3) rfl)
theorem mw_12_4 : (Cond.code yX7_in cX7_in 3 (some .boolean)) ∈ wsL_law := wr_12 (List.mem_of_getElem? (l := wsL_law_r12) (i := 4) rfl)
theorem mw_12_5 : (Cond.methodLink RX7 59 yX7_of) ∈ wsL_law := wr_12 (List.mem_of_getElem? (l := wsL_law_r12) (i := 5) rfl)
theorem mw_12_6 : (Cond.static yX7_of) ∈ wsL_law := wr_12 (List.mem_of_getElem? (l := wsL_law_r12) (i := 6) rfl)
theorem mw_12_7 : (Cond.code yX7_of cX7_of 2 (some .int)) ∈ wsL_law := wr_12 (List.mem_of_getElem? (l := wsL_law_r12) (i := 7) rfl)
theorem mw_12_8 : (Cond.methodLink RX7 93 yX7_know) ∈ wsL_law := wr_12 (List.mem_of_getElem? (l := wsL_law_r12) (i := 8) rfl)
theorem mw_12_9 : (Cond.instanceMethod yX7_know) ∈ wsL_law := wr_12 (List.mem_of_getElem? (l := wsL_law_r12) (i := 9) rfl)
theorem mw_12_10 : (Cond.selects RX7 yX7_know yX7_know) ∈ wsL_law := wr_12 (List.mem_of_getElem? (l := wsL_law_r12) (i := 10) rfl)
theorem mw_12_11 : (Cond.code yX7_know cX7_know 2 none) ∈ wsL_law := wr_12 (List.mem_of_getElem? (l := wsL_law_r12) (i := 11) rfl)
theorem mw_12_12 : (Cond.fieldLink RX7 38 "ReshapedTextsModel" "known" "I") ∈ wsL_law := wr_12 (List.mem_of_getElem? (l := wsL_law_r12) (i := 12) rfl)
theorem mw_12_13 : (Cond.methodLink RX7 96 yX7_inserts) ∈ wsL_law := wr_12 (List.mem_of_getElem? (l := wsL_law_r12) (i := 13) rfl)
theorem mw_12_14 : (Cond.instanceMethod yX7_inserts) ∈ wsL_law := wr_12 (List.mem_of_getElem? (l := wsL_law_r12) (i := 14) rfl)
theorem mw_12_15 : (Cond.selects RX7 yX7_inserts yX7_inserts) ∈ wsL_law := wr_12 (List.mem_of_getElem? (l := wsL_law_r12) (i := 15) rfl)
theorem mw_12_16 : (Cond.code yX7_inserts cX7_inserts 4 (some .int)) ∈ wsL_law := wr_12 (List.mem_of_getElem? (l := wsL_law_r12) (i := 16) rfl)
theorem mw_12_17 : (Cond.methodLink RX7 55 yX7_made) ∈ wsL_law := wr_12 (List.mem_of_getElem? (l := wsL_law_r12) (i := 17) rfl)
theorem mw_12_18 : (Cond.static yX7_made) ∈ wsL_law := wr_12 (List.mem_of_getElem? (l := wsL_law_r12) (i := 18) rfl)
theorem mw_12_19 : (Cond.code yX7_made cX7_made 4 (some .int)) ∈ wsL_law := wr_12 (List.mem_of_getElem? (l := wsL_law_r12) (i := 19) rfl)
theorem mw_12_20 : (Cond.methodLink RX7 74 yX7_writes) ∈ wsL_law := wr_12 (List.mem_of_getElem? (l := wsL_law_r12) (i := 20) rfl)
theorem mw_12_21 : (Cond.instanceMethod yX7_writes) ∈ wsL_law := wr_12 (List.mem_of_getElem? (l := wsL_law_r12) (i := 21) rfl)
theorem mw_12_22 : (Cond.selects RX7 yX7_writes yX7_writes) ∈ wsL_law := wr_12 (List.mem_of_getElem? (l := wsL_law_r12) (i := 22) rfl)
theorem mw_12_23 : (Cond.code yX7_writes cX7_writes 3 none) ∈ wsL_law := wr_12 (List.mem_of_getElem? (l := wsL_law_r12) (i := 23) rfl)
theorem wr_13 {w : Cond} (h : w ∈ wsL_law_r13) : w ∈ wsL_law := (List.mem_append_left _ (List.mem_append_left _ (List.mem_append_left _ (List.mem_append_left _ (List.mem_append_left _ (List.mem_append_left _ (List.mem_append_left _ (List.mem_append_left _ (List.mem_append_right _ (List.mem_append_right _ (List.mem_append_right _ (List.mem_append_right _ (List.mem_append_right _ (List.mem_append_right _ (List.mem_append_right _ (List.mem_append_right _ (List.mem_append_right _ (List.mem_append_right _ (List.mem_append_right _ (List.mem_append_right _ (List.mem_append_left _ h)))))))))))))))))))))
theorem mw_13_0 : (Cond.methodLink RX7 66 yX7_perform) ∈ wsL_law := wr_13 (List.mem_of_getElem? (l := wsL_law_r13) (i := 0) rfl)
theorem mw_13_1 : (Cond.instanceMethod yX7_perform) ∈ wsL_law := wr_13 (List.mem_of_getElem? (l := wsL_law_r13) (i := 1) rfl)
theorem mw_13_2 : (Cond.selects RX7 yX7_perform yX7_perform) ∈ wsL_law := wr_13 (List.mem_of_getElem? (l := wsL_law_r13) (i := 2) rfl)
theorem mw_13_3 : (Cond.code yX7_perform cX7_perform 6 none) ∈ wsL_law := wr_13 (List.mem_of_getElem? (l := wsL_law_r13) (i := 3) rfl)
theorem mw_13_4 : (Cond.methodLink RX7 42 yX7_placeOf) ∈ wsL_law := wr_13 (List.mem_of_getElem? (l := wsL_law_r13) (i := 4) rfl)
theorem mw_13_5 : (Cond.static yX7_placeOf) ∈ wsL_law := wr_13 (List.mem_of_getElem? (l := wsL_law_r13) (i := 5) rfl)
theorem mw_13_6 : (Cond.code yX7_placeOf cX7_placeOf 1 (some .int)) ∈ wsL_law := wr_13 (List.mem_of_getElem? (l := wsL_law_r13) (i := 6) rfl)
theorem mw_13_7 : (Cond.methodLink RX7 46 yX7_kindOf) ∈ wsL_law := wr_13 (List.mem_of_getElem? (l := wsL_law_r13) (i := 7) rfl)
theorem mw_13_8 : (Cond.static yX7_kindOf) ∈ wsL_law := wr_13 (List.mem_of_getElem? (l := wsL_law_r13) (i := 8) rfl)
theorem mw_13_9 : (Cond.code yX7_kindOf cX7_kindOf 1 (some .int)) ∈ wsL_law := wr_13 (List.mem_of_getElem? (l := wsL_law_r13) (i := 9) rfl)
theorem mw_13_10 : (Cond.methodLink RX7 52 yX7_letterOf) ∈ wsL_law := wr_13 (List.mem_of_getElem? (l := wsL_law_r13) (i := 10) rfl)
theorem mw_13_11 : (Cond.static yX7_letterOf) ∈ wsL_law := wr_13 (List.mem_of_getElem? (l := wsL_law_r13) (i := 11) rfl)
theorem mw_13_12 : (Cond.code yX7_letterOf cX7_letterOf 1 (some .int)) ∈ wsL_law := wr_13 (List.mem_of_getElem? (l := wsL_law_r13) (i := 12) rfl)
theorem mw_13_13 : (Cond.methodLink RX7 63 yX7_reshaped) ∈ wsL_law := wr_13 (List.mem_of_getElem? (l := wsL_law_r13) (i := 13) rfl)
theorem mw_13_14 : (Cond.static yX7_reshaped) ∈ wsL_law := wr_13 (List.mem_of_getElem? (l := wsL_law_r13) (i := 14) rfl)
theorem mw_13_15 : (Cond.code yX7_reshaped cX7_reshaped 6 (some .int)) ∈ wsL_law := wr_13 (List.mem_of_getElem? (l := wsL_law_r13) (i := 15) rfl)
theorem mw_13_16 : (Cond.methodLink RX7 49 yX7_editorBy) ∈ wsL_law := wr_13 (List.mem_of_getElem? (l := wsL_law_r13) (i := 16) rfl)
theorem mw_13_17 : (Cond.static yX7_editorBy) ∈ wsL_law := wr_13 (List.mem_of_getElem? (l := wsL_law_r13) (i := 17) rfl)
theorem mw_13_18 : (Cond.code yX7_editorBy cX7_editorBy 1 (some .int)) ∈ wsL_law := wr_13 (List.mem_of_getElem? (l := wsL_law_r13) (i := 18) rfl)
theorem mw_13_19 : (Cond.methodLink RX7 77 yX7_keep) ∈ wsL_law := wr_13 (List.mem_of_getElem? (l := wsL_law_r13) (i := 19) rfl)
theorem mw_13_20 : (Cond.instanceMethod yX7_keep) ∈ wsL_law := wr_13 (List.mem_of_getElem? (l := wsL_law_r13) (i := 20) rfl)
theorem mw_13_21 : (Cond.selects RX7 yX7_keep yX7_keep) ∈ wsL_law := wr_13 (List.mem_of_getElem? (l := wsL_law_r13) (i := 21) rfl)
theorem mw_13_22 : (Cond.code yX7_keep cX7_keep 4 none) ∈ wsL_law := wr_13 (List.mem_of_getElem? (l := wsL_law_r13) (i := 22) rfl)
theorem mw_13_23 : (Cond.methodLink RL 18 yX6_delete) ∈ wsL_law := wr_13 (List.mem_of_getElem? (l := wsL_law_r13) (i := 23) rfl)
theorem wr_14 {w : Cond} (h : w ∈ wsL_law_r14) : w ∈ wsL_law := (List.mem_append_left _ (List.mem_append_left _ (List.mem_append_left _ (List.mem_append_left _ (List.mem_append_left _ (List.mem_append_left _ (List.mem_append_left _ (List.mem_append_left _ (List.mem_append_right _ (List.mem_append_right _ (List.mem_append_right _ (List.mem_append_right _ (List.mem_append_right _ (List.mem_append_right _ (List.mem_append_right _ (List.mem_append_right _ (List.mem_append_right _ (List.mem_append_right _ (List.mem_append_right _ (List.mem_append_right _ (List.mem_append_right _ (List.mem_append_left _ h))))))))))))))))))))))
theorem mw_14_0 : (Cond.instanceMethod yX6_delete) ∈ wsL_law := wr_14 (List.mem_of_getElem? (l := wsL_law_r14) (i := 0) rfl)
theorem mw_14_1 : (Cond.selects RX6 yX6_delete yX6_delete) ∈ wsL_law := wr_14 (List.mem_of_getElem? (l := wsL_law_r14) (i := 1) rfl)
theorem mw_14_2 : (Cond.code yX6_delete cX6_delete 3 (some .int)) ∈ wsL_law := wr_14 (List.mem_of_getElem? (l := wsL_law_r14) (i := 2) rfl)
theorem mw_14_3 : (Cond.methodLink RL 22 yX7_delete) ∈ wsL_law := wr_14 (List.mem_of_getElem? (l := wsL_law_r14) (i := 3) rfl)
theorem mw_14_4 : (Cond.instanceMethod yX7_delete) ∈ wsL_law := wr_14 (List.mem_of_getElem? (l := wsL_law_r14) (i := 4) rfl)
theorem mw_14_5 : (Cond.selects RX7 yX7_delete yX7_delete) ∈ wsL_law := wr_14 (List.mem_of_getElem? (l := wsL_law_r14) (i := 5) rfl)
theorem mw_14_6 : (Cond.code yX7_delete cX7_delete 4 (some .int)) ∈ wsL_law := wr_14 (List.mem_of_getElem? (l := wsL_law_r14) (i := 6) rfl)
theorem mw_14_7 : (Cond.methodLink RX7 99 yX7_deleteFault) ∈ wsL_law := wr_14 (List.mem_of_getElem? (l := wsL_law_r14) (i := 7) rfl)
theorem mw_14_8 : (Cond.instanceMethod yX7_deleteFault) ∈ wsL_law := wr_14 (List.mem_of_getElem? (l := wsL_law_r14) (i := 8) rfl)
theorem mw_14_9 : (Cond.selects RX7 yX7_deleteFault yX7_deleteFault) ∈ wsL_law := wr_14 (List.mem_of_getElem? (l := wsL_law_r14) (i := 9) rfl)
theorem mw_14_10 : (Cond.code yX7_deleteFault cX7_deleteFault 3 (some .int)) ∈ wsL_law := wr_14 (List.mem_of_getElem? (l := wsL_law_r14) (i := 10) rfl)
theorem mw_14_11 : (Cond.methodLink RX7 102 yX7_deletes) ∈ wsL_law := wr_14 (List.mem_of_getElem? (l := wsL_law_r14) (i := 11) rfl)
theorem mw_14_12 : (Cond.instanceMethod yX7_deletes) ∈ wsL_law := wr_14 (List.mem_of_getElem? (l := wsL_law_r14) (i := 12) rfl)
theorem mw_14_13 : (Cond.selects RX7 yX7_deletes yX7_deletes) ∈ wsL_law := wr_14 (List.mem_of_getElem? (l := wsL_law_r14) (i := 13) rfl)
theorem mw_14_14 : (Cond.code yX7_deletes cX7_deletes 4 (some .int)) ∈ wsL_law := wr_14 (List.mem_of_getElem? (l := wsL_law_r14) (i := 14) rfl)
theorem mw_14_15 : (Cond.methodLink RL 23 yX6_takeBack) ∈ wsL_law := wr_14 (List.mem_of_getElem? (l := wsL_law_r14) (i := 15) rfl)
theorem mw_14_16 : (Cond.instanceMethod yX6_takeBack) ∈ wsL_law := wr_14 (List.mem_of_getElem? (l := wsL_law_r14) (i := 16) rfl)
theorem mw_14_17 : (Cond.selects RX6 yX6_takeBack yX6_takeBack) ∈ wsL_law := wr_14 (List.mem_of_getElem? (l := wsL_law_r14) (i := 17) rfl)
theorem mw_14_18 : (Cond.code yX6_takeBack cX6_takeBack 2 (some .int)) ∈ wsL_law := wr_14 (List.mem_of_getElem? (l := wsL_law_r14) (i := 18) rfl)
theorem mw_14_19 : (Cond.methodLink RL 27 yX7_takeBack) ∈ wsL_law := wr_14 (List.mem_of_getElem? (l := wsL_law_r14) (i := 19) rfl)
theorem mw_14_20 : (Cond.instanceMethod yX7_takeBack) ∈ wsL_law := wr_14 (List.mem_of_getElem? (l := wsL_law_r14) (i := 20) rfl)
theorem mw_14_21 : (Cond.selects RX7 yX7_takeBack yX7_takeBack) ∈ wsL_law := wr_14 (List.mem_of_getElem? (l := wsL_law_r14) (i := 21) rfl)
theorem mw_14_22 : (Cond.code yX7_takeBack cX7_takeBack 3 (some .int)) ∈ wsL_law := wr_14 (List.mem_of_getElem? (l := wsL_law_r14) (i := 22) rfl)
theorem mw_14_23 : (Cond.methodLink RX7 105 yX7_backFault) ∈ wsL_law := wr_14 (List.mem_of_getElem? (l := wsL_law_r14) (i := 23) rfl)
theorem wr_15 {w : Cond} (h : w ∈ wsL_law_r15) : w ∈ wsL_law := (List.mem_append_left _ (List.mem_append_left _ (List.mem_append_left _ (List.mem_append_left _ (List.mem_append_left _ (List.mem_append_left _ (List.mem_append_left _ (List.mem_append_left _ (List.mem_append_right _ (List.mem_append_right _ (List.mem_append_right _ (List.mem_append_right _ (List.mem_append_right _ (List.mem_append_right _ (List.mem_append_right _ (List.mem_append_right _ (List.mem_append_right _ (List.mem_append_right _ (List.mem_append_right _ (List.mem_append_right _ (List.mem_append_right _ (List.mem_append_right _ (List.mem_append_left _ h)))))))))))))))))))))))
theorem mw_15_0 : (Cond.instanceMethod yX7_backFault) ∈ wsL_law := wr_15 (List.mem_of_getElem? (l := wsL_law_r15) (i := 0) rfl)
theorem mw_15_1 : (Cond.selects RX7 yX7_backFault yX7_backFault) ∈ wsL_law := wr_15 (List.mem_of_getElem? (l := wsL_law_r15) (i := 1) rfl)
theorem mw_15_2 : (Cond.code yX7_backFault cX7_backFault 4 (some .int)) ∈ wsL_law := wr_15 (List.mem_of_getElem? (l := wsL_law_r15) (i := 2) rfl)
theorem mw_15_3 : (Cond.methodLink RX7 108 yX7_backs) ∈ wsL_law := wr_15 (List.mem_of_getElem? (l := wsL_law_r15) (i := 3) rfl)
theorem mw_15_4 : (Cond.instanceMethod yX7_backs) ∈ wsL_law := wr_15 (List.mem_of_getElem? (l := wsL_law_r15) (i := 4) rfl)
theorem mw_15_5 : (Cond.selects RX7 yX7_backs yX7_backs) ∈ wsL_law := wr_15 (List.mem_of_getElem? (l := wsL_law_r15) (i := 5) rfl)
theorem mw_15_6 : (Cond.code yX7_backs cX7_backs 3 (some .int)) ∈ wsL_law := wr_15 (List.mem_of_getElem? (l := wsL_law_r15) (i := 6) rfl)
theorem mw_15_7 : (Cond.methodLink RL 28 yX6_mark) ∈ wsL_law := wr_15 (List.mem_of_getElem? (l := wsL_law_r15) (i := 7) rfl)
theorem mw_15_8 : (Cond.instanceMethod yX6_mark) ∈ wsL_law := wr_15 (List.mem_of_getElem? (l := wsL_law_r15) (i := 8) rfl)
theorem mw_15_9 : (Cond.selects RX6 yX6_mark yX6_mark) ∈ wsL_law := wr_15 (List.mem_of_getElem? (l := wsL_law_r15) (i := 9) rfl)
theorem mw_15_10 : (Cond.code yX6_mark cX6_mark 3 (some .int)) ∈ wsL_law := wr_15 (List.mem_of_getElem? (l := wsL_law_r15) (i := 10) rfl)
theorem mw_15_11 : (Cond.methodLink RL 31 yX7_mark) ∈ wsL_law := wr_15 (List.mem_of_getElem? (l := wsL_law_r15) (i := 11) rfl)
theorem mw_15_12 : (Cond.instanceMethod yX7_mark) ∈ wsL_law := wr_15 (List.mem_of_getElem? (l := wsL_law_r15) (i := 12) rfl)
theorem mw_15_13 : (Cond.selects RX7 yX7_mark yX7_mark) ∈ wsL_law := wr_15 (List.mem_of_getElem? (l := wsL_law_r15) (i := 13) rfl)
theorem mw_15_14 : (Cond.code yX7_mark cX7_mark 4 (some .int)) ∈ wsL_law := wr_15 (List.mem_of_getElem? (l := wsL_law_r15) (i := 14) rfl)
theorem mw_15_15 : (Cond.methodLink RL 32 yX6_send) ∈ wsL_law := wr_15 (List.mem_of_getElem? (l := wsL_law_r15) (i := 15) rfl)
theorem mw_15_16 : (Cond.instanceMethod yX6_send) ∈ wsL_law := wr_15 (List.mem_of_getElem? (l := wsL_law_r15) (i := 16) rfl)
theorem mw_15_17 : (Cond.selects RX6 yX6_send yX6_send) ∈ wsL_law := wr_15 (List.mem_of_getElem? (l := wsL_law_r15) (i := 17) rfl)
theorem mw_15_18 : (Cond.code yX6_send cX6_send 2 (some .int)) ∈ wsL_law := wr_15 (List.mem_of_getElem? (l := wsL_law_r15) (i := 18) rfl)
theorem mw_15_19 : (Cond.methodLink RL 35 yX7_send) ∈ wsL_law := wr_15 (List.mem_of_getElem? (l := wsL_law_r15) (i := 19) rfl)
theorem mw_15_20 : (Cond.instanceMethod yX7_send) ∈ wsL_law := wr_15 (List.mem_of_getElem? (l := wsL_law_r15) (i := 20) rfl)
theorem mw_15_21 : (Cond.selects RX7 yX7_send yX7_send) ∈ wsL_law := wr_15 (List.mem_of_getElem? (l := wsL_law_r15) (i := 21) rfl)
theorem mw_15_22 : (Cond.code yX7_send cX7_send 3 (some .int)) ∈ wsL_law := wr_15 (List.mem_of_getElem? (l := wsL_law_r15) (i := 22) rfl)
theorem mw_15_23 : (Cond.methodLink RX7 111 yX7_sendFault) ∈ wsL_law := wr_15 (List.mem_of_getElem? (l := wsL_law_r15) (i := 23) rfl)
theorem wr_16 {w : Cond} (h : w ∈ wsL_law_r16) : w ∈ wsL_law := (List.mem_append_left _ (List.mem_append_left _ (List.mem_append_left _ (List.mem_append_left _ (List.mem_append_left _ (List.mem_append_left _ (List.mem_append_left _ (List.mem_append_left _ (List.mem_append_right _ (List.mem_append_right _ (List.mem_append_right _ (List.mem_append_right _ (List.mem_append_right _ (List.mem_append_right _ (List.mem_append_right _ (List.mem_append_right _ (List.mem_append_right _ (List.mem_append_right _ (List.mem_append_right _ (List.mem_append_right _ (List.mem_append_right _ (List.mem_append_right _ (List.mem_append_right _ (List.mem_append_left _ h))))))))))))))))))))))))
theorem mw_16_0 : (Cond.instanceMethod yX7_sendFault) ∈ wsL_law := wr_16 (List.mem_of_getElem? (l := wsL_law_r16) (i := 0) rfl)
theorem mw_16_1 : (Cond.selects RX7 yX7_sendFault yX7_sendFault) ∈ wsL_law := wr_16 (List.mem_of_getElem? (l := wsL_law_r16) (i := 1) rfl)
theorem mw_16_2 : (Cond.code yX7_sendFault cX7_sendFault 2 (some .int)) ∈ wsL_law := wr_16 (List.mem_of_getElem? (l := wsL_law_r16) (i := 2) rfl)
theorem mw_16_3 : (Cond.methodLink RX7 80 yX7_canSend) ∈ wsL_law := wr_16 (List.mem_of_getElem? (l := wsL_law_r16) (i := 3) rfl)
theorem mw_16_4 : (Cond.instanceMethod yX7_canSend) ∈ wsL_law := wr_16 (List.mem_of_getElem? (l := wsL_law_r16) (i := 4) rfl)
theorem mw_16_5 : (Cond.selects RX7 yX7_canSend yX7_canSend) ∈ wsL_law := wr_16 (List.mem_of_getElem? (l := wsL_law_r16) (i := 5) rfl)
theorem mw_16_6 : (Cond.code yX7_canSend cX7_canSend 2 (some .boolean)) ∈ wsL_law := wr_16 (List.mem_of_getElem? (l := wsL_law_r16) (i := 6) rfl)
theorem mw_16_7 : (Cond.methodLink RX7 114 yX7_sends) ∈ wsL_law := wr_16 (List.mem_of_getElem? (l := wsL_law_r16) (i := 7) rfl)
theorem mw_16_8 : (Cond.instanceMethod yX7_sends) ∈ wsL_law := wr_16 (List.mem_of_getElem? (l := wsL_law_r16) (i := 8) rfl)
theorem mw_16_9 : (Cond.selects RX7 yX7_sends yX7_sends) ∈ wsL_law := wr_16 (List.mem_of_getElem? (l := wsL_law_r16) (i := 9) rfl)
theorem mw_16_10 : (Cond.code yX7_sends cX7_sends 2 (some .int)) ∈ wsL_law := wr_16 (List.mem_of_getElem? (l := wsL_law_r16) (i := 10) rfl)
theorem mw_16_11 : (Cond.methodLink RX7 83 yX7_behind) ∈ wsL_law := wr_16 (List.mem_of_getElem? (l := wsL_law_r16) (i := 11) rfl)
theorem mw_16_12 : (Cond.instanceMethod yX7_behind) ∈ wsL_law := wr_16 (List.mem_of_getElem? (l := wsL_law_r16) (i := 12) rfl)
theorem mw_16_13 : (Cond.selects RX7 yX7_behind yX7_behind) ∈ wsL_law := wr_16 (List.mem_of_getElem? (l := wsL_law_r16) (i := 13) rfl)
theorem mw_16_14 : (Cond.code yX7_behind cX7_behind 5 (some .int)) ∈ wsL_law := wr_16 (List.mem_of_getElem? (l := wsL_law_r16) (i := 14) rfl)
theorem mw_16_15 : (Cond.methodLink RL 36 yX6_hear) ∈ wsL_law := wr_16 (List.mem_of_getElem? (l := wsL_law_r16) (i := 15) rfl)
theorem mw_16_16 : (Cond.instanceMethod yX6_hear) ∈ wsL_law := wr_16 (List.mem_of_getElem? (l := wsL_law_r16) (i := 16) rfl)
theorem mw_16_17 : (Cond.selects RX6 yX6_hear yX6_hear) ∈ wsL_law := wr_16 (List.mem_of_getElem? (l := wsL_law_r16) (i := 17) rfl)
theorem mw_16_18 : (Cond.code yX6_hear cX6_hear 2 (some .int)) ∈ wsL_law := wr_16 (List.mem_of_getElem? (l := wsL_law_r16) (i := 18) rfl)
theorem mw_16_19 : (Cond.methodLink RL 39 yX7_hear) ∈ wsL_law := wr_16 (List.mem_of_getElem? (l := wsL_law_r16) (i := 19) rfl)
theorem mw_16_20 : (Cond.instanceMethod yX7_hear) ∈ wsL_law := wr_16 (List.mem_of_getElem? (l := wsL_law_r16) (i := 20) rfl)
theorem mw_16_21 : (Cond.selects RX7 yX7_hear yX7_hear) ∈ wsL_law := wr_16 (List.mem_of_getElem? (l := wsL_law_r16) (i := 21) rfl)
theorem mw_16_22 : (Cond.code yX7_hear cX7_hear 3 (some .int)) ∈ wsL_law := wr_16 (List.mem_of_getElem? (l := wsL_law_r16) (i := 22) rfl)
theorem mw_16_23 : (Cond.methodLink RX7 117 yX7_hearFault) ∈ wsL_law := wr_16 (List.mem_of_getElem? (l := wsL_law_r16) (i := 23) rfl)
theorem wr_17 {w : Cond} (h : w ∈ wsL_law_r17) : w ∈ wsL_law := (List.mem_append_left _ (List.mem_append_left _ (List.mem_append_left _ (List.mem_append_left _ (List.mem_append_left _ (List.mem_append_left _ (List.mem_append_left _ (List.mem_append_left _ (List.mem_append_right _ (List.mem_append_right _ (List.mem_append_right _ (List.mem_append_right _ (List.mem_append_right _ (List.mem_append_right _ (List.mem_append_right _ (List.mem_append_right _ (List.mem_append_right _ (List.mem_append_right _ (List.mem_append_right _ (List.mem_append_right _ (List.mem_append_right _ (List.mem_append_right _ (List.mem_append_right _ (List.mem_append_right _ (List.mem_append_left _ h)))))))))))))))))))))))))
theorem mw_17_0 : (Cond.instanceMethod yX7_hearFault) ∈ wsL_law := wr_17 (List.mem_of_getElem? (l := wsL_law_r17) (i := 0) rfl)
theorem mw_17_1 : (Cond.selects RX7 yX7_hearFault yX7_hearFault) ∈ wsL_law := wr_17 (List.mem_of_getElem? (l := wsL_law_r17) (i := 1) rfl)
theorem mw_17_2 : (Cond.code yX7_hearFault cX7_hearFault 2 (some .int)) ∈ wsL_law := wr_17 (List.mem_of_getElem? (l := wsL_law_r17) (i := 2) rfl)
theorem mw_17_3 : (Cond.methodLink RX7 86 yX7_hears) ∈ wsL_law := wr_17 (List.mem_of_getElem? (l := wsL_law_r17) (i := 3) rfl)
theorem mw_17_4 : (Cond.instanceMethod yX7_hears) ∈ wsL_law := wr_17 (List.mem_of_getElem? (l := wsL_law_r17) (i := 4) rfl)
theorem mw_17_5 : (Cond.selects RX7 yX7_hears yX7_hears) ∈ wsL_law := wr_17 (List.mem_of_getElem? (l := wsL_law_r17) (i := 5) rfl)
theorem mw_17_6 : (Cond.code yX7_hears cX7_hears 5 (some .int)) ∈ wsL_law := wr_17 (List.mem_of_getElem? (l := wsL_law_r17) (i := 6) rfl)
theorem mw_17_7 : (Cond.methodLink RL 40 yX6_hearAll) ∈ wsL_law := wr_17 (List.mem_of_getElem? (l := wsL_law_r17) (i := 7) rfl)
theorem mw_17_8 : (Cond.instanceMethod yX6_hearAll) ∈ wsL_law := wr_17 (List.mem_of_getElem? (l := wsL_law_r17) (i := 8) rfl)
theorem mw_17_9 : (Cond.selects RX6 yX6_hearAll yX6_hearAll) ∈ wsL_law := wr_17 (List.mem_of_getElem? (l := wsL_law_r17) (i := 9) rfl)
theorem mw_17_10 : (Cond.code yX6_hearAll cX6_hearAll 2 (some .int)) ∈ wsL_law := wr_17 (List.mem_of_getElem? (l := wsL_law_r17) (i := 10) rfl)
theorem mw_17_11 : (Cond.methodLink RL 43 yX7_hearAll) ∈ wsL_law := wr_17 (List.mem_of_getElem? (l := wsL_law_r17) (i := 11) rfl)
theorem mw_17_12 : (Cond.instanceMethod yX7_hearAll) ∈ wsL_law := wr_17 (List.mem_of_getElem? (l := wsL_law_r17) (i := 12) rfl)
theorem mw_17_13 : (Cond.selects RX7 yX7_hearAll yX7_hearAll) ∈ wsL_law := wr_17 (List.mem_of_getElem? (l := wsL_law_r17) (i := 13) rfl)
theorem mw_17_14 : (Cond.code yX7_hearAll cX7_hearAll 3 (some .int)) ∈ wsL_law := wr_17 (List.mem_of_getElem? (l := wsL_law_r17) (i := 14) rfl)
theorem mw_17_15 : (Cond.methodLink RX7 120 yX7_hearsAll) ∈ wsL_law := wr_17 (List.mem_of_getElem? (l := wsL_law_r17) (i := 15) rfl)
theorem mw_17_16 : (Cond.instanceMethod yX7_hearsAll) ∈ wsL_law := wr_17 (List.mem_of_getElem? (l := wsL_law_r17) (i := 16) rfl)
theorem mw_17_17 : (Cond.selects RX7 yX7_hearsAll yX7_hearsAll) ∈ wsL_law := wr_17 (List.mem_of_getElem? (l := wsL_law_r17) (i := 17) rfl)
theorem mw_17_18 : (Cond.code yX7_hearsAll cX7_hearsAll 4 (some .int)) ∈ wsL_law := wr_17 (List.mem_of_getElem? (l := wsL_law_r17) (i := 18) rfl)
theorem mw_17_19 : (Cond.methodLink RL 44 yX6_clear) ∈ wsL_law := wr_17 (List.mem_of_getElem? (l := wsL_law_r17) (i := 19) rfl)
theorem mw_17_20 : (Cond.instanceMethod yX6_clear) ∈ wsL_law := wr_17 (List.mem_of_getElem? (l := wsL_law_r17) (i := 20) rfl)
theorem mw_17_21 : (Cond.selects RX6 yX6_clear yX6_clear) ∈ wsL_law := wr_17 (List.mem_of_getElem? (l := wsL_law_r17) (i := 21) rfl)
theorem mw_17_22 : (Cond.code yX6_clear cX6_clear 2 (some .int)) ∈ wsL_law := wr_17 (List.mem_of_getElem? (l := wsL_law_r17) (i := 22) rfl)
theorem mw_17_23 : (Cond.methodLink RX6 47 yX4_size) ∈ wsL_law := wr_17 (List.mem_of_getElem? (l := wsL_law_r17) (i := 23) rfl)
theorem wr_18 {w : Cond} (h : w ∈ wsL_law_r18) : w ∈ wsL_law := (List.mem_append_left _ (List.mem_append_left _ (List.mem_append_left _ (List.mem_append_left _ (List.mem_append_left _ (List.mem_append_left _ (List.mem_append_left _ (List.mem_append_left _ (List.mem_append_right _ (List.mem_append_right _ (List.mem_append_right _ (List.mem_append_right _ (List.mem_append_right _ (List.mem_append_right _ (List.mem_append_right _ (List.mem_append_right _ (List.mem_append_right _ (List.mem_append_right _ (List.mem_append_right _ (List.mem_append_right _ (List.mem_append_right _ (List.mem_append_right _ (List.mem_append_right _ (List.mem_append_right _ (List.mem_append_right _ (List.mem_append_left _ h))))))))))))))))))))))))))
theorem mw_18_0 : (Cond.methodLink RX6 60 yX5_begin) ∈ wsL_law := wr_18 (List.mem_of_getElem? (l := wsL_law_r18) (i := 0) rfl)
theorem mw_18_1 : (Cond.instanceMethod yX5_begin) ∈ wsL_law := wr_18 (List.mem_of_getElem? (l := wsL_law_r18) (i := 1) rfl)
theorem mw_18_2 : (Cond.selects RX5 yX5_begin yX5_begin) ∈ wsL_law := wr_18 (List.mem_of_getElem? (l := wsL_law_r18) (i := 2) rfl)
theorem mw_18_3 : (Cond.code yX5_begin cX5_begin 1 none) ∈ wsL_law := wr_18 (List.mem_of_getElem? (l := wsL_law_r18) (i := 3) rfl)
theorem mw_18_4 : (Cond.methodLink RX5 97 yX2_forget) ∈ wsL_law := wr_18 (List.mem_of_getElem? (l := wsL_law_r18) (i := 4) rfl)
theorem mw_18_5 : (Cond.instanceMethod yX2_forget) ∈ wsL_law := wr_18 (List.mem_of_getElem? (l := wsL_law_r18) (i := 5) rfl)
theorem mw_18_6 : (Cond.selects RX2 yX2_forget yX2_forget) ∈ wsL_law := wr_18 (List.mem_of_getElem? (l := wsL_law_r18) (i := 6) rfl)
theorem mw_18_7 : (Cond.code yX2_forget cX2_forget 1 none) ∈ wsL_law := wr_18 (List.mem_of_getElem? (l := wsL_law_r18) (i := 7) rfl)
theorem mw_18_8 : (Cond.methodLink RX2 84 yX4_empty) ∈ wsL_law := wr_18 (List.mem_of_getElem? (l := wsL_law_r18) (i := 8) rfl)
theorem mw_18_9 : (Cond.instanceMethod yX4_empty) ∈ wsL_law := wr_18 (List.mem_of_getElem? (l := wsL_law_r18) (i := 9) rfl)
theorem mw_18_10 : (Cond.selects RX4 yX4_empty yX4_empty) ∈ wsL_law := wr_18 (List.mem_of_getElem? (l := wsL_law_r18) (i := 10) rfl)
theorem mw_18_11 : (Cond.code yX4_empty cX4_empty 1 none) ∈ wsL_law := wr_18 (List.mem_of_getElem? (l := wsL_law_r18) (i := 11) rfl)
theorem mw_18_12 : (Cond.methodLink RX5 100 yX4_empty) ∈ wsL_law := wr_18 (List.mem_of_getElem? (l := wsL_law_r18) (i := 12) rfl)
theorem mw_18_13 : (Cond.methodLink RL 48 yX7_clear) ∈ wsL_law := wr_18 (List.mem_of_getElem? (l := wsL_law_r18) (i := 13) rfl)
theorem mw_18_14 : (Cond.instanceMethod yX7_clear) ∈ wsL_law := wr_18 (List.mem_of_getElem? (l := wsL_law_r18) (i := 14) rfl)
theorem mw_18_15 : (Cond.selects RX7 yX7_clear yX7_clear) ∈ wsL_law := wr_18 (List.mem_of_getElem? (l := wsL_law_r18) (i := 15) rfl)
theorem mw_18_16 : (Cond.code yX7_clear cX7_clear 3 (some .int)) ∈ wsL_law := wr_18 (List.mem_of_getElem? (l := wsL_law_r18) (i := 16) rfl)
theorem mw_18_17 : (Cond.methodLink RL 49 yX6_letter) ∈ wsL_law := wr_18 (List.mem_of_getElem? (l := wsL_law_r18) (i := 17) rfl)
theorem mw_18_18 : (Cond.instanceMethod yX6_letter) ∈ wsL_law := wr_18 (List.mem_of_getElem? (l := wsL_law_r18) (i := 18) rfl)
theorem mw_18_19 : (Cond.selects RX6 yX6_letter yX6_letter) ∈ wsL_law := wr_18 (List.mem_of_getElem? (l := wsL_law_r18) (i := 19) rfl)
theorem mw_18_20 : (Cond.code yX6_letter cX6_letter 4 (some .int)) ∈ wsL_law := wr_18 (List.mem_of_getElem? (l := wsL_law_r18) (i := 20) rfl)
theorem mw_18_21 : (Cond.methodLink RX6 63 yX6_isNoEditor) ∈ wsL_law := wr_18 (List.mem_of_getElem? (l := wsL_law_r18) (i := 21) rfl)
theorem mw_18_22 : (Cond.methodLink RX6 70 yX5_editor) ∈ wsL_law := wr_18 (List.mem_of_getElem? (l := wsL_law_r18) (i := 22) rfl)
theorem mw_18_23 : (Cond.methodLink RX6 79 yX4_at) ∈ wsL_law := wr_18 (List.mem_of_getElem? (l := wsL_law_r18) (i := 23) rfl)
theorem wr_19 {w : Cond} (h : w ∈ wsL_law_r19) : w ∈ wsL_law := (List.mem_append_left _ (List.mem_append_left _ (List.mem_append_left _ (List.mem_append_left _ (List.mem_append_left _ (List.mem_append_left _ (List.mem_append_left _ (List.mem_append_left _ (List.mem_append_right _ (List.mem_append_right _ (List.mem_append_right _ (List.mem_append_right _ (List.mem_append_right _ (List.mem_append_right _ (List.mem_append_right _ (List.mem_append_right _ (List.mem_append_right _ (List.mem_append_right _ (List.mem_append_right _ (List.mem_append_right _ (List.mem_append_right _ (List.mem_append_right _ (List.mem_append_right _ (List.mem_append_right _ (List.mem_append_right _ (List.mem_append_right _ (List.mem_append_left _ h)))))))))))))))))))))))))))
theorem mw_19_0 : (Cond.methodLink RL 52 yX7_letter) ∈ wsL_law := wr_19 (List.mem_of_getElem? (l := wsL_law_r19) (i := 0) rfl)
theorem mw_19_1 : (Cond.instanceMethod yX7_letter) ∈ wsL_law := wr_19 (List.mem_of_getElem? (l := wsL_law_r19) (i := 1) rfl)
theorem mw_19_2 : (Cond.selects RX7 yX7_letter yX7_letter) ∈ wsL_law := wr_19 (List.mem_of_getElem? (l := wsL_law_r19) (i := 2) rfl)
theorem mw_19_3 : (Cond.code yX7_letter cX7_letter 3 (some .int)) ∈ wsL_law := wr_19 (List.mem_of_getElem? (l := wsL_law_r19) (i := 3) rfl)
theorem mw_19_4 : (Cond.fieldLink RX7 123 "ReshapedTextsModel" "logLong" "I") ∈ wsL_law := wr_19 (List.mem_of_getElem? (l := wsL_law_r19) (i := 4) rfl)
theorem mw_19_5 : (Cond.methodLink RX7 126 yX7_lay) ∈ wsL_law := wr_19 (List.mem_of_getElem? (l := wsL_law_r19) (i := 5) rfl)
theorem mw_19_6 : (Cond.instanceMethod yX7_lay) ∈ wsL_law := wr_19 (List.mem_of_getElem? (l := wsL_law_r19) (i := 6) rfl)
theorem mw_19_7 : (Cond.selects RX7 yX7_lay yX7_lay) ∈ wsL_law := wr_19 (List.mem_of_getElem? (l := wsL_law_r19) (i := 7) rfl)
theorem mw_19_8 : (Cond.code yX7_lay cX7_lay 5 none) ∈ wsL_law := wr_19 (List.mem_of_getElem? (l := wsL_law_r19) (i := 8) rfl)
theorem mw_19_9 : (Cond.methodLink RL 53 yX6_editorOf) ∈ wsL_law := wr_19 (List.mem_of_getElem? (l := wsL_law_r19) (i := 9) rfl)
theorem mw_19_10 : (Cond.instanceMethod yX6_editorOf) ∈ wsL_law := wr_19 (List.mem_of_getElem? (l := wsL_law_r19) (i := 10) rfl)
theorem mw_19_11 : (Cond.selects RX6 yX6_editorOf yX6_editorOf) ∈ wsL_law := wr_19 (List.mem_of_getElem? (l := wsL_law_r19) (i := 11) rfl)
theorem mw_19_12 : (Cond.code yX6_editorOf cX6_editorOf 4 (some .int)) ∈ wsL_law := wr_19 (List.mem_of_getElem? (l := wsL_law_r19) (i := 12) rfl)
theorem mw_19_13 : (Cond.methodLink RX6 100 yX4_isSameAs) ∈ wsL_law := wr_19 (List.mem_of_getElem? (l := wsL_law_r19) (i := 13) rfl)
theorem mw_19_14 : (Cond.instanceMethod yX4_isSameAs) ∈ wsL_law := wr_19 (List.mem_of_getElem? (l := wsL_law_r19) (i := 14) rfl)
theorem mw_19_15 : (Cond.selects RX4 yX4_isSameAs yX4_isSameAs) ∈ wsL_law := wr_19 (List.mem_of_getElem? (l := wsL_law_r19) (i := 15) rfl)
theorem mw_19_16 : (Cond.code yX4_isSameAs cX4_isSameAs 3 (some .boolean)) ∈ wsL_law := wr_19 (List.mem_of_getElem? (l := wsL_law_r19) (i := 16) rfl)
theorem mw_19_17 : (Cond.methodLink RX4 30 yX4_at) ∈ wsL_law := wr_19 (List.mem_of_getElem? (l := wsL_law_r19) (i := 17) rfl)
theorem mw_19_18 : (Cond.methodLink RL 56 yX7_editorOf) ∈ wsL_law := wr_19 (List.mem_of_getElem? (l := wsL_law_r19) (i := 18) rfl)
theorem mw_19_19 : (Cond.instanceMethod yX7_editorOf) ∈ wsL_law := wr_19 (List.mem_of_getElem? (l := wsL_law_r19) (i := 19) rfl)
theorem mw_19_20 : (Cond.selects RX7 yX7_editorOf yX7_editorOf) ∈ wsL_law := wr_19 (List.mem_of_getElem? (l := wsL_law_r19) (i := 20) rfl)
theorem mw_19_21 : (Cond.code yX7_editorOf cX7_editorOf 3 (some .int)) ∈ wsL_law := wr_19 (List.mem_of_getElem? (l := wsL_law_r19) (i := 21) rfl)
theorem mw_19_22 : (Cond.methodLink RX7 129 yX7_isSame) ∈ wsL_law := wr_19 (List.mem_of_getElem? (l := wsL_law_r19) (i := 22) rfl)
theorem mw_19_23 : (Cond.instanceMethod yX7_isSame) ∈ wsL_law := wr_19 (List.mem_of_getElem? (l := wsL_law_r19) (i := 23) rfl)
theorem wr_20 {w : Cond} (h : w ∈ wsL_law_r20) : w ∈ wsL_law := (List.mem_append_left _ (List.mem_append_left _ (List.mem_append_left _ (List.mem_append_left _ (List.mem_append_left _ (List.mem_append_left _ (List.mem_append_left _ (List.mem_append_left _ (List.mem_append_right _ (List.mem_append_right _ (List.mem_append_right _ (List.mem_append_right _ (List.mem_append_right _ (List.mem_append_right _ (List.mem_append_right _ (List.mem_append_right _ (List.mem_append_right _ (List.mem_append_right _ (List.mem_append_right _ (List.mem_append_right _ (List.mem_append_right _ (List.mem_append_right _ (List.mem_append_right _ (List.mem_append_right _ (List.mem_append_right _ (List.mem_append_right _ (List.mem_append_right _ (List.mem_append_left _ h))))))))))))))))))))))))))))
theorem mw_20_0 : (Cond.selects RX7 yX7_isSame yX7_isSame) ∈ wsL_law := wr_20 (List.mem_of_getElem? (l := wsL_law_r20) (i := 0) rfl)
theorem mw_20_1 : (Cond.code yX7_isSame cX7_isSame 4 (some .boolean)) ∈ wsL_law := wr_20 (List.mem_of_getElem? (l := wsL_law_r20) (i := 1) rfl)
theorem mw_20_2 : (Cond.methodLink RL 57 yX6_waitingOf) ∈ wsL_law := wr_20 (List.mem_of_getElem? (l := wsL_law_r20) (i := 2) rfl)
theorem mw_20_3 : (Cond.instanceMethod yX6_waitingOf) ∈ wsL_law := wr_20 (List.mem_of_getElem? (l := wsL_law_r20) (i := 3) rfl)
theorem mw_20_4 : (Cond.selects RX6 yX6_waitingOf yX6_waitingOf) ∈ wsL_law := wr_20 (List.mem_of_getElem? (l := wsL_law_r20) (i := 4) rfl)
theorem mw_20_5 : (Cond.code yX6_waitingOf cX6_waitingOf 4 (some .int)) ∈ wsL_law := wr_20 (List.mem_of_getElem? (l := wsL_law_r20) (i := 5) rfl)
theorem mw_20_6 : (Cond.methodLink RX6 107 yX6_partOf) ∈ wsL_law := wr_20 (List.mem_of_getElem? (l := wsL_law_r20) (i := 6) rfl)
theorem mw_20_7 : (Cond.static yX6_partOf) ∈ wsL_law := wr_20 (List.mem_of_getElem? (l := wsL_law_r20) (i := 7) rfl)
theorem mw_20_8 : (Cond.code yX6_partOf cX6_partOf 3 (some .int)) ∈ wsL_law := wr_20 (List.mem_of_getElem? (l := wsL_law_r20) (i := 8) rfl)
theorem mw_20_9 : (Cond.methodLink RX6 143 yX0_part) ∈ wsL_law := wr_20 (List.mem_of_getElem? (l := wsL_law_r20) (i := 9) rfl)
theorem mw_20_10 : (Cond.static yX0_part) ∈ wsL_law := wr_20 (List.mem_of_getElem? (l := wsL_law_r20) (i := 10) rfl)
theorem mw_20_11 : (Cond.code yX0_part cX0_part 3 (some .int)) ∈ wsL_law := wr_20 (List.mem_of_getElem? (l := wsL_law_r20) (i := 11) rfl)
theorem mw_20_12 : (Cond.methodLink RX0 11 yX0_kind) ∈ wsL_law := wr_20 (List.mem_of_getElem? (l := wsL_law_r20) (i := 12) rfl)
theorem mw_20_13 : (Cond.methodLink RX0 15 yX0_place) ∈ wsL_law := wr_20 (List.mem_of_getElem? (l := wsL_law_r20) (i := 13) rfl)
theorem mw_20_14 : (Cond.methodLink RX0 18 yX0_sign) ∈ wsL_law := wr_20 (List.mem_of_getElem? (l := wsL_law_r20) (i := 14) rfl)
theorem mw_20_15 : (Cond.methodLink RX0 21 yX0_writer) ∈ wsL_law := wr_20 (List.mem_of_getElem? (l := wsL_law_r20) (i := 15) rfl)
theorem mw_20_16 : (Cond.methodLink RL 60 yX7_waitingOf) ∈ wsL_law := wr_20 (List.mem_of_getElem? (l := wsL_law_r20) (i := 16) rfl)
theorem mw_20_17 : (Cond.instanceMethod yX7_waitingOf) ∈ wsL_law := wr_20 (List.mem_of_getElem? (l := wsL_law_r20) (i := 17) rfl)
theorem mw_20_18 : (Cond.selects RX7 yX7_waitingOf yX7_waitingOf) ∈ wsL_law := wr_20 (List.mem_of_getElem? (l := wsL_law_r20) (i := 18) rfl)
theorem mw_20_19 : (Cond.code yX7_waitingOf cX7_waitingOf 4 (some .int)) ∈ wsL_law := wr_20 (List.mem_of_getElem? (l := wsL_law_r20) (i := 19) rfl)
theorem mw_20_20 : (Cond.methodLink RX7 132 yX7_told) ∈ wsL_law := wr_20 (List.mem_of_getElem? (l := wsL_law_r20) (i := 20) rfl)
theorem mw_20_21 : (Cond.static yX7_told) ∈ wsL_law := wr_20 (List.mem_of_getElem? (l := wsL_law_r20) (i := 21) rfl)
theorem mw_20_22 : (Cond.code yX7_told cX7_told 3 (some .int)) ∈ wsL_law := wr_20 (List.mem_of_getElem? (l := wsL_law_r20) (i := 22) rfl)
theorem mw_20_23 : (Cond.methodLink RL 61 yX6_logOf) ∈ wsL_law := wr_20 (List.mem_of_getElem? (l := wsL_law_r20) (i := 23) rfl)
theorem wr_21 {w : Cond} (h : w ∈ wsL_law_r21) : w ∈ wsL_law := (List.mem_append_left _ (List.mem_append_left _ (List.mem_append_left _ (List.mem_append_left _ (List.mem_append_left _ (List.mem_append_left _ (List.mem_append_left _ (List.mem_append_left _ (List.mem_append_right _ (List.mem_append_right _ (List.mem_append_right _ (List.mem_append_right _ (List.mem_append_right _ (List.mem_append_right _ (List.mem_append_right _ (List.mem_append_right _ (List.mem_append_right _ (List.mem_append_right _ (List.mem_append_right _ (List.mem_append_right _ (List.mem_append_right _ (List.mem_append_right _ (List.mem_append_right _ (List.mem_append_right _ (List.mem_append_right _ (List.mem_append_right _ (List.mem_append_right _ (List.mem_append_right _ (List.mem_append_left _ h)))))))))))))))))))))))))))))
theorem mw_21_0 : (Cond.instanceMethod yX6_logOf) ∈ wsL_law := wr_21 (List.mem_of_getElem? (l := wsL_law_r21) (i := 0) rfl)
theorem mw_21_1 : (Cond.selects RX6 yX6_logOf yX6_logOf) ∈ wsL_law := wr_21 (List.mem_of_getElem? (l := wsL_law_r21) (i := 1) rfl)
theorem mw_21_2 : (Cond.code yX6_logOf cX6_logOf 3 (some .int)) ∈ wsL_law := wr_21 (List.mem_of_getElem? (l := wsL_law_r21) (i := 2) rfl)
theorem mw_21_3 : (Cond.methodLink RL 64 yX7_logOf) ∈ wsL_law := wr_21 (List.mem_of_getElem? (l := wsL_law_r21) (i := 3) rfl)
theorem mw_21_4 : (Cond.instanceMethod yX7_logOf) ∈ wsL_law := wr_21 (List.mem_of_getElem? (l := wsL_law_r21) (i := 4) rfl)
theorem mw_21_5 : (Cond.selects RX7 yX7_logOf yX7_logOf) ∈ wsL_law := wr_21 (List.mem_of_getElem? (l := wsL_law_r21) (i := 5) rfl)
theorem mw_21_6 : (Cond.code yX7_logOf cX7_logOf 3 (some .int)) ∈ wsL_law := wr_21 (List.mem_of_getElem? (l := wsL_law_r21) (i := 6) rfl)
theorem mw_21_7 : (Cond.methodLink RL 65 yX6_by) ∈ wsL_law := wr_21 (List.mem_of_getElem? (l := wsL_law_r21) (i := 7) rfl)
theorem mw_21_8 : (Cond.instanceMethod yX6_by) ∈ wsL_law := wr_21 (List.mem_of_getElem? (l := wsL_law_r21) (i := 8) rfl)
theorem mw_21_9 : (Cond.selects RX6 yX6_by yX6_by) ∈ wsL_law := wr_21 (List.mem_of_getElem? (l := wsL_law_r21) (i := 9) rfl)
theorem mw_21_10 : (Cond.code yX6_by cX6_by 2 (some .int)) ∈ wsL_law := wr_21 (List.mem_of_getElem? (l := wsL_law_r21) (i := 10) rfl)
theorem mw_21_11 : (Cond.methodLink RL 68 yX7_by) ∈ wsL_law := wr_21 (List.mem_of_getElem? (l := wsL_law_r21) (i := 11) rfl)
theorem mw_21_12 : (Cond.instanceMethod yX7_by) ∈ wsL_law := wr_21 (List.mem_of_getElem? (l := wsL_law_r21) (i := 12) rfl)
theorem mw_21_13 : (Cond.selects RX7 yX7_by yX7_by) ∈ wsL_law := wr_21 (List.mem_of_getElem? (l := wsL_law_r21) (i := 13) rfl)
theorem mw_21_14 : (Cond.code yX7_by cX7_by 2 (some .int)) ∈ wsL_law := wr_21 (List.mem_of_getElem? (l := wsL_law_r21) (i := 14) rfl)
theorem mw_21_15 : (Cond.methodLink RL 69 yX6_count) ∈ wsL_law := wr_21 (List.mem_of_getElem? (l := wsL_law_r21) (i := 15) rfl)
theorem mw_21_16 : (Cond.instanceMethod yX6_count) ∈ wsL_law := wr_21 (List.mem_of_getElem? (l := wsL_law_r21) (i := 16) rfl)
theorem mw_21_17 : (Cond.selects RX6 yX6_count yX6_count) ∈ wsL_law := wr_21 (List.mem_of_getElem? (l := wsL_law_r21) (i := 17) rfl)
theorem mw_21_18 : (Cond.code yX6_count cX6_count 2 (some .int)) ∈ wsL_law := wr_21 (List.mem_of_getElem? (l := wsL_law_r21) (i := 18) rfl)
theorem mw_21_19 : (Cond.methodLink RX6 114 yX5_nothingsInLog) ∈ wsL_law := wr_21 (List.mem_of_getElem? (l := wsL_law_r21) (i := 19) rfl)
theorem mw_21_20 : (Cond.instanceMethod yX5_nothingsInLog) ∈ wsL_law := wr_21 (List.mem_of_getElem? (l := wsL_law_r21) (i := 20) rfl)
theorem mw_21_21 : (Cond.selects RX5 yX5_nothingsInLog yX5_nothingsInLog) ∈ wsL_law := wr_21 (List.mem_of_getElem? (l := wsL_law_r21) (i := 21) rfl)
theorem mw_21_22 : (Cond.code yX5_nothingsInLog cX5_nothingsInLog 3 (some .int)) ∈ wsL_law := wr_21 (List.mem_of_getElem? (l := wsL_law_r21) (i := 22) rfl)
theorem mw_21_23 : (Cond.methodLink RX5 76 yX4_at) ∈ wsL_law := wr_21 (List.mem_of_getElem? (l := wsL_law_r21) (i := 23) rfl)
theorem wr_22 {w : Cond} (h : w ∈ wsL_law_r22) : w ∈ wsL_law := (List.mem_append_left _ (List.mem_append_left _ (List.mem_append_left _ (List.mem_append_left _ (List.mem_append_left _ (List.mem_append_left _ (List.mem_append_left _ (List.mem_append_left _ (List.mem_append_right _ (List.mem_append_right _ (List.mem_append_right _ (List.mem_append_right _ (List.mem_append_right _ (List.mem_append_right _ (List.mem_append_right _ (List.mem_append_right _ (List.mem_append_right _ (List.mem_append_right _ (List.mem_append_right _ (List.mem_append_right _ (List.mem_append_right _ (List.mem_append_right _ (List.mem_append_right _ (List.mem_append_right _ (List.mem_append_right _ (List.mem_append_right _ (List.mem_append_right _ (List.mem_append_right _ (List.mem_append_right _ (List.mem_append_left _ h))))))))))))))))))))))))))))))
theorem mw_22_0 : (Cond.methodLink RX6 117 yX5_waitingOfAll) ∈ wsL_law := wr_22 (List.mem_of_getElem? (l := wsL_law_r22) (i := 0) rfl)
theorem mw_22_1 : (Cond.instanceMethod yX5_waitingOfAll) ∈ wsL_law := wr_22 (List.mem_of_getElem? (l := wsL_law_r22) (i := 1) rfl)
theorem mw_22_2 : (Cond.selects RX5 yX5_waitingOfAll yX5_waitingOfAll) ∈ wsL_law := wr_22 (List.mem_of_getElem? (l := wsL_law_r22) (i := 2) rfl)
theorem mw_22_3 : (Cond.code yX5_waitingOfAll cX5_waitingOfAll 1 (some .int)) ∈ wsL_law := wr_22 (List.mem_of_getElem? (l := wsL_law_r22) (i := 3) rfl)
theorem mw_22_4 : (Cond.methodLink RX6 120 yX5_settledEditors) ∈ wsL_law := wr_22 (List.mem_of_getElem? (l := wsL_law_r22) (i := 4) rfl)
theorem mw_22_5 : (Cond.instanceMethod yX5_settledEditors) ∈ wsL_law := wr_22 (List.mem_of_getElem? (l := wsL_law_r22) (i := 5) rfl)
theorem mw_22_6 : (Cond.selects RX5 yX5_settledEditors yX5_settledEditors) ∈ wsL_law := wr_22 (List.mem_of_getElem? (l := wsL_law_r22) (i := 6) rfl)
theorem mw_22_7 : (Cond.code yX5_settledEditors cX5_settledEditors 3 (some .int)) ∈ wsL_law := wr_22 (List.mem_of_getElem? (l := wsL_law_r22) (i := 7) rfl)
theorem mw_22_8 : (Cond.methodLink RX5 87 yX2_isSettled) ∈ wsL_law := wr_22 (List.mem_of_getElem? (l := wsL_law_r22) (i := 8) rfl)
theorem mw_22_9 : (Cond.instanceMethod yX2_isSettled) ∈ wsL_law := wr_22 (List.mem_of_getElem? (l := wsL_law_r22) (i := 9) rfl)
theorem mw_22_10 : (Cond.selects RX2 yX2_isSettled yX2_isSettled) ∈ wsL_law := wr_22 (List.mem_of_getElem? (l := wsL_law_r22) (i := 10) rfl)
theorem mw_22_11 : (Cond.code yX2_isSettled cX2_isSettled 2 (some .boolean)) ∈ wsL_law := wr_22 (List.mem_of_getElem? (l := wsL_law_r22) (i := 11) rfl)
theorem mw_22_12 : (Cond.methodLink RL 72 yX7_count) ∈ wsL_law := wr_22 (List.mem_of_getElem? (l := wsL_law_r22) (i := 12) rfl)
theorem mw_22_13 : (Cond.instanceMethod yX7_count) ∈ wsL_law := wr_22 (List.mem_of_getElem? (l := wsL_law_r22) (i := 13) rfl)
theorem mw_22_14 : (Cond.selects RX7 yX7_count yX7_count) ∈ wsL_law := wr_22 (List.mem_of_getElem? (l := wsL_law_r22) (i := 14) rfl)
theorem mw_22_15 : (Cond.code yX7_count cX7_count 2 (some .int)) ∈ wsL_law := wr_22 (List.mem_of_getElem? (l := wsL_law_r22) (i := 15) rfl)
theorem mw_22_16 : (Cond.fieldLink RX7 138 "ReshapedTextsModel" "length" "I") ∈ wsL_law := wr_22 (List.mem_of_getElem? (l := wsL_law_r22) (i := 16) rfl)
theorem mw_22_17 : (Cond.methodLink RX7 135 yX7_sum) ∈ wsL_law := wr_22 (List.mem_of_getElem? (l := wsL_law_r22) (i := 17) rfl)
theorem mw_22_18 : (Cond.instanceMethod yX7_sum) ∈ wsL_law := wr_22 (List.mem_of_getElem? (l := wsL_law_r22) (i := 18) rfl)
theorem mw_22_19 : (Cond.selects RX7 yX7_sum yX7_sum) ∈ wsL_law := wr_22 (List.mem_of_getElem? (l := wsL_law_r22) (i := 19) rfl)
theorem mw_22_20 : (Cond.code yX7_sum cX7_sum 5 (some .int)) ∈ wsL_law := wr_22 (List.mem_of_getElem? (l := wsL_law_r22) (i := 20) rfl)
theorem mw_22_21 : (Cond.methodLink RL 73 yX6_inTheEnd) ∈ wsL_law := wr_22 (List.mem_of_getElem? (l := wsL_law_r22) (i := 21) rfl)
theorem mw_22_22 : (Cond.instanceMethod yX6_inTheEnd) ∈ wsL_law := wr_22 (List.mem_of_getElem? (l := wsL_law_r22) (i := 22) rfl)
theorem mw_22_23 : (Cond.selects RX6 yX6_inTheEnd yX6_inTheEnd) ∈ wsL_law := wr_22 (List.mem_of_getElem? (l := wsL_law_r22) (i := 23) rfl)
theorem wr_23 {w : Cond} (h : w ∈ wsL_law_r23) : w ∈ wsL_law := (List.mem_append_left _ (List.mem_append_left _ (List.mem_append_left _ (List.mem_append_left _ (List.mem_append_left _ (List.mem_append_left _ (List.mem_append_left _ (List.mem_append_left _ (List.mem_append_right _ (List.mem_append_right _ (List.mem_append_right _ (List.mem_append_right _ (List.mem_append_right _ (List.mem_append_right _ (List.mem_append_right _ (List.mem_append_right _ (List.mem_append_right _ (List.mem_append_right _ (List.mem_append_right _ (List.mem_append_right _ (List.mem_append_right _ (List.mem_append_right _ (List.mem_append_right _ (List.mem_append_right _ (List.mem_append_right _ (List.mem_append_right _ (List.mem_append_right _ (List.mem_append_right _ (List.mem_append_right _ (List.mem_append_right _ (List.mem_append_left _ h)))))))))))))))))))))))))))))))
theorem mw_23_0 : (Cond.code yX6_inTheEnd cX6_inTheEnd 3 (some .int)) ∈ wsL_law := wr_23 (List.mem_of_getElem? (l := wsL_law_r23) (i := 0) rfl)
theorem mw_23_1 : (Cond.methodLink RX6 128 yX5_copyEndOf) ∈ wsL_law := wr_23 (List.mem_of_getElem? (l := wsL_law_r23) (i := 1) rfl)
theorem mw_23_2 : (Cond.instanceMethod yX5_copyEndOf) ∈ wsL_law := wr_23 (List.mem_of_getElem? (l := wsL_law_r23) (i := 2) rfl)
theorem mw_23_3 : (Cond.selects RX5 yX5_copyEndOf yX5_copyEndOf) ∈ wsL_law := wr_23 (List.mem_of_getElem? (l := wsL_law_r23) (i := 3) rfl)
theorem mw_23_4 : (Cond.code yX5_copyEndOf cX5_copyEndOf 6 none) ∈ wsL_law := wr_23 (List.mem_of_getElem? (l := wsL_law_r23) (i := 4) rfl)
theorem mw_23_5 : (Cond.methodLink RX5 111 yX5_copyState) ∈ wsL_law := wr_23 (List.mem_of_getElem? (l := wsL_law_r23) (i := 5) rfl)
theorem mw_23_6 : (Cond.methodLink RL 76 yX7_inTheEnd) ∈ wsL_law := wr_23 (List.mem_of_getElem? (l := wsL_law_r23) (i := 6) rfl)
theorem mw_23_7 : (Cond.instanceMethod yX7_inTheEnd) ∈ wsL_law := wr_23 (List.mem_of_getElem? (l := wsL_law_r23) (i := 7) rfl)
theorem mw_23_8 : (Cond.selects RX7 yX7_inTheEnd yX7_inTheEnd) ∈ wsL_law := wr_23 (List.mem_of_getElem? (l := wsL_law_r23) (i := 8) rfl)
theorem mw_23_9 : (Cond.code yX7_inTheEnd cX7_inTheEnd 3 (some .int)) ∈ wsL_law := wr_23 (List.mem_of_getElem? (l := wsL_law_r23) (i := 9) rfl)
theorem mw_23_10 : (Cond.methodLink RX7 151 yX7_end) ∈ wsL_law := wr_23 (List.mem_of_getElem? (l := wsL_law_r23) (i := 10) rfl)
theorem mw_23_11 : (Cond.instanceMethod yX7_end) ∈ wsL_law := wr_23 (List.mem_of_getElem? (l := wsL_law_r23) (i := 11) rfl)
theorem mw_23_12 : (Cond.selects RX7 yX7_end yX7_end) ∈ wsL_law := wr_23 (List.mem_of_getElem? (l := wsL_law_r23) (i := 12) rfl)
theorem mw_23_13 : (Cond.code yX7_end cX7_end 5 none) ∈ wsL_law := wr_23 (List.mem_of_getElem? (l := wsL_law_r23) (i := 13) rfl)
theorem mw_23_14 : (Cond.fieldLink RX7 144 "ReshapedTextsModel" "areSame" "Z") ∈ wsL_law := wr_23 (List.mem_of_getElem? (l := wsL_law_r23) (i := 14) rfl)
theorem mw_23_15 : (Cond.methodLink RX7 141 yX7_putAside) ∈ wsL_law := wr_23 (List.mem_of_getElem? (l := wsL_law_r23) (i := 15) rfl)
theorem mw_23_16 : (Cond.instanceMethod yX7_putAside) ∈ wsL_law := wr_23 (List.mem_of_getElem? (l := wsL_law_r23) (i := 16) rfl)
theorem mw_23_17 : (Cond.selects RX7 yX7_putAside yX7_putAside) ∈ wsL_law := wr_23 (List.mem_of_getElem? (l := wsL_law_r23) (i := 17) rfl)
theorem mw_23_18 : (Cond.code yX7_putAside cX7_putAside 2 none) ∈ wsL_law := wr_23 (List.mem_of_getElem? (l := wsL_law_r23) (i := 18) rfl)
theorem mw_23_19 : (Cond.methodLink RX7 148 yX7_putBack) ∈ wsL_law := wr_23 (List.mem_of_getElem? (l := wsL_law_r23) (i := 19) rfl)
theorem mw_23_20 : (Cond.instanceMethod yX7_putBack) ∈ wsL_law := wr_23 (List.mem_of_getElem? (l := wsL_law_r23) (i := 20) rfl)
theorem mw_23_21 : (Cond.selects RX7 yX7_putBack yX7_putBack) ∈ wsL_law := wr_23 (List.mem_of_getElem? (l := wsL_law_r23) (i := 21) rfl)
theorem mw_23_22 : (Cond.code yX7_putBack cX7_putBack 2 none) ∈ wsL_law := wr_23 (List.mem_of_getElem? (l := wsL_law_r23) (i := 22) rfl)
theorem mw_23_23 : (Cond.methodLink RL 77 yX6_both) ∈ wsL_law := wr_23 (List.mem_of_getElem? (l := wsL_law_r23) (i := 23) rfl)
theorem wr_24 {w : Cond} (h : w ∈ wsL_law_r24) : w ∈ wsL_law := (List.mem_append_left _ (List.mem_append_left _ (List.mem_append_left _ (List.mem_append_left _ (List.mem_append_left _ (List.mem_append_left _ (List.mem_append_left _ (List.mem_append_left _ (List.mem_append_right _ (List.mem_append_right _ (List.mem_append_right _ (List.mem_append_right _ (List.mem_append_right _ (List.mem_append_right _ (List.mem_append_right _ (List.mem_append_right _ (List.mem_append_right _ (List.mem_append_right _ (List.mem_append_right _ (List.mem_append_right _ (List.mem_append_right _ (List.mem_append_right _ (List.mem_append_right _ (List.mem_append_right _ (List.mem_append_right _ (List.mem_append_right _ (List.mem_append_right _ (List.mem_append_right _ (List.mem_append_right _ (List.mem_append_right _ (List.mem_append_right _ (List.mem_append_left _ h))))))))))))))))))))))))))))))))
theorem mw_24_0 : (Cond.instanceMethod yX6_both) ∈ wsL_law := wr_24 (List.mem_of_getElem? (l := wsL_law_r24) (i := 0) rfl)
theorem mw_24_1 : (Cond.selects RX6 yX6_both yX6_both) ∈ wsL_law := wr_24 (List.mem_of_getElem? (l := wsL_law_r24) (i := 1) rfl)
theorem mw_24_2 : (Cond.code yX6_both cX6_both 2 (some .int)) ∈ wsL_law := wr_24 (List.mem_of_getElem? (l := wsL_law_r24) (i := 2) rfl)
theorem mw_24_3 : (Cond.methodLink RX6 132 yX5_isOneText) ∈ wsL_law := wr_24 (List.mem_of_getElem? (l := wsL_law_r24) (i := 3) rfl)
theorem mw_24_4 : (Cond.instanceMethod yX5_isOneText) ∈ wsL_law := wr_24 (List.mem_of_getElem? (l := wsL_law_r24) (i := 4) rfl)
theorem mw_24_5 : (Cond.selects RX5 yX5_isOneText yX5_isOneText) ∈ wsL_law := wr_24 (List.mem_of_getElem? (l := wsL_law_r24) (i := 5) rfl)
theorem mw_24_6 : (Cond.code yX5_isOneText cX5_isOneText 1 (some .boolean)) ∈ wsL_law := wr_24 (List.mem_of_getElem? (l := wsL_law_r24) (i := 6) rfl)
theorem mw_24_7 : (Cond.methodLink RX5 94 yX4_isSameAs) ∈ wsL_law := wr_24 (List.mem_of_getElem? (l := wsL_law_r24) (i := 7) rfl)
theorem mw_24_8 : (Cond.methodLink RL 80 yX7_both) ∈ wsL_law := wr_24 (List.mem_of_getElem? (l := wsL_law_r24) (i := 8) rfl)
theorem mw_24_9 : (Cond.instanceMethod yX7_both) ∈ wsL_law := wr_24 (List.mem_of_getElem? (l := wsL_law_r24) (i := 9) rfl)
theorem mw_24_10 : (Cond.selects RX7 yX7_both yX7_both) ∈ wsL_law := wr_24 (List.mem_of_getElem? (l := wsL_law_r24) (i := 10) rfl)
theorem mw_24_11 : (Cond.code yX7_both cX7_both 6 (some .int)) ∈ wsL_law := wr_24 (List.mem_of_getElem? (l := wsL_law_r24) (i := 11) rfl)
theorem mw_24_12 : (Cond.methodLink RL 81 yX6_wouldSend) ∈ wsL_law := wr_24 (List.mem_of_getElem? (l := wsL_law_r24) (i := 12) rfl)
theorem mw_24_13 : (Cond.instanceMethod yX6_wouldSend) ∈ wsL_law := wr_24 (List.mem_of_getElem? (l := wsL_law_r24) (i := 13) rfl)
theorem mw_24_14 : (Cond.selects RX6 yX6_wouldSend yX6_wouldSend) ∈ wsL_law := wr_24 (List.mem_of_getElem? (l := wsL_law_r24) (i := 14) rfl)
theorem mw_24_15 : (Cond.code yX6_wouldSend cX6_wouldSend 4 (some .int)) ∈ wsL_law := wr_24 (List.mem_of_getElem? (l := wsL_law_r24) (i := 15) rfl)
theorem mw_24_16 : (Cond.methodLink RX6 136 yX2_canSend) ∈ wsL_law := wr_24 (List.mem_of_getElem? (l := wsL_law_r24) (i := 16) rfl)
theorem mw_24_17 : (Cond.methodLink RX6 139 yX2_outgoing) ∈ wsL_law := wr_24 (List.mem_of_getElem? (l := wsL_law_r24) (i := 17) rfl)
theorem mw_24_18 : (Cond.methodLink RL 84 yX7_wouldSend) ∈ wsL_law := wr_24 (List.mem_of_getElem? (l := wsL_law_r24) (i := 18) rfl)
theorem mw_24_19 : (Cond.instanceMethod yX7_wouldSend) ∈ wsL_law := wr_24 (List.mem_of_getElem? (l := wsL_law_r24) (i := 19) rfl)
theorem mw_24_20 : (Cond.selects RX7 yX7_wouldSend yX7_wouldSend) ∈ wsL_law := wr_24 (List.mem_of_getElem? (l := wsL_law_r24) (i := 20) rfl)
theorem mw_24_21 : (Cond.code yX7_wouldSend cX7_wouldSend 3 (some .int)) ∈ wsL_law := wr_24 (List.mem_of_getElem? (l := wsL_law_r24) (i := 21) rfl)
theorem mw_24_22 : (Cond.methodLink RL 85 yX6_undo) ∈ wsL_law := wr_24 (List.mem_of_getElem? (l := wsL_law_r24) (i := 22) rfl)
theorem mw_24_23 : (Cond.instanceMethod yX6_undo) ∈ wsL_law := wr_24 (List.mem_of_getElem? (l := wsL_law_r24) (i := 23) rfl)
theorem wr_25 {w : Cond} (h : w ∈ wsL_law_r25) : w ∈ wsL_law := (List.mem_append_left _ (List.mem_append_left _ (List.mem_append_left _ (List.mem_append_left _ (List.mem_append_left _ (List.mem_append_left _ (List.mem_append_left _ (List.mem_append_left _ (List.mem_append_right _ (List.mem_append_right _ (List.mem_append_right _ (List.mem_append_right _ (List.mem_append_right _ (List.mem_append_right _ (List.mem_append_right _ (List.mem_append_right _ (List.mem_append_right _ (List.mem_append_right _ (List.mem_append_right _ (List.mem_append_right _ (List.mem_append_right _ (List.mem_append_right _ (List.mem_append_right _ (List.mem_append_right _ (List.mem_append_right _ (List.mem_append_right _ (List.mem_append_right _ (List.mem_append_right _ (List.mem_append_right _ (List.mem_append_right _ (List.mem_append_right _ (List.mem_append_right _ (List.mem_append_left _ h)))))))))))))))))))))))))))))))))
theorem mw_25_0 : (Cond.selects RX6 yX6_undo yX6_undo) ∈ wsL_law := wr_25 (List.mem_of_getElem? (l := wsL_law_r25) (i := 0) rfl)
theorem mw_25_1 : (Cond.code yX6_undo cX6_undo 1 (some .int)) ∈ wsL_law := wr_25 (List.mem_of_getElem? (l := wsL_law_r25) (i := 1) rfl)
theorem mw_25_2 : (Cond.methodLink RX6 149 yX3_restore) ∈ wsL_law := wr_25 (List.mem_of_getElem? (l := wsL_law_r25) (i := 2) rfl)
theorem mw_25_3 : (Cond.instanceMethod yX3_restore) ∈ wsL_law := wr_25 (List.mem_of_getElem? (l := wsL_law_r25) (i := 3) rfl)
theorem mw_25_4 : (Cond.selects RX3 yX3_restore yX3_restore) ∈ wsL_law := wr_25 (List.mem_of_getElem? (l := wsL_law_r25) (i := 4) rfl)
theorem mw_25_5 : (Cond.code yX3_restore cX3_restore 3 none) ∈ wsL_law := wr_25 (List.mem_of_getElem? (l := wsL_law_r25) (i := 5) rfl)
theorem mw_25_6 : (Cond.methodLink RX3 44 Lib.Math.max.name) ∈ wsL_law := wr_25 (List.mem_of_getElem? (l := wsL_law_r25) (i := 6) rfl)
theorem mw_25_7 : (Cond.methodLink RL 88 yX7_undo) ∈ wsL_law := wr_25 (List.mem_of_getElem? (l := wsL_law_r25) (i := 7) rfl)
theorem mw_25_8 : (Cond.instanceMethod yX7_undo) ∈ wsL_law := wr_25 (List.mem_of_getElem? (l := wsL_law_r25) (i := 8) rfl)
theorem mw_25_9 : (Cond.selects RX7 yX7_undo yX7_undo) ∈ wsL_law := wr_25 (List.mem_of_getElem? (l := wsL_law_r25) (i := 9) rfl)
theorem mw_25_10 : (Cond.code yX7_undo cX7_undo 2 (some .int)) ∈ wsL_law := wr_25 (List.mem_of_getElem? (l := wsL_law_r25) (i := 10) rfl)
theorem mw_25_11 : (Cond.methodLink RL 89 yX6_type) ∈ wsL_law := wr_25 (List.mem_of_getElem? (l := wsL_law_r25) (i := 11) rfl)
theorem mw_25_12 : (Cond.instanceMethod yX6_type) ∈ wsL_law := wr_25 (List.mem_of_getElem? (l := wsL_law_r25) (i := 12) rfl)
theorem mw_25_13 : (Cond.selects RX6 yX6_type yX6_type) ∈ wsL_law := wr_25 (List.mem_of_getElem? (l := wsL_law_r25) (i := 13) rfl)
theorem mw_25_14 : (Cond.code yX6_type cX6_type 2 (some .int)) ∈ wsL_law := wr_25 (List.mem_of_getElem? (l := wsL_law_r25) (i := 14) rfl)
theorem mw_25_15 : (Cond.methodLink RX6 152 yX4_add) ∈ wsL_law := wr_25 (List.mem_of_getElem? (l := wsL_law_r25) (i := 15) rfl)
theorem mw_25_16 : (Cond.methodLink RL 92 yX7_type) ∈ wsL_law := wr_25 (List.mem_of_getElem? (l := wsL_law_r25) (i := 16) rfl)
theorem mw_25_17 : (Cond.instanceMethod yX7_type) ∈ wsL_law := wr_25 (List.mem_of_getElem? (l := wsL_law_r25) (i := 17) rfl)
theorem mw_25_18 : (Cond.selects RX7 yX7_type yX7_type) ∈ wsL_law := wr_25 (List.mem_of_getElem? (l := wsL_law_r25) (i := 18) rfl)
theorem mw_25_19 : (Cond.code yX7_type cX7_type 2 (some .int)) ∈ wsL_law := wr_25 (List.mem_of_getElem? (l := wsL_law_r25) (i := 19) rfl)
theorem mw_25_20 : (Cond.methodLink RL 93 yX6_clearText) ∈ wsL_law := wr_25 (List.mem_of_getElem? (l := wsL_law_r25) (i := 20) rfl)
theorem mw_25_21 : (Cond.instanceMethod yX6_clearText) ∈ wsL_law := wr_25 (List.mem_of_getElem? (l := wsL_law_r25) (i := 21) rfl)
theorem mw_25_22 : (Cond.selects RX6 yX6_clearText yX6_clearText) ∈ wsL_law := wr_25 (List.mem_of_getElem? (l := wsL_law_r25) (i := 22) rfl)
theorem mw_25_23 : (Cond.code yX6_clearText cX6_clearText 2 (some .int)) ∈ wsL_law := wr_25 (List.mem_of_getElem? (l := wsL_law_r25) (i := 23) rfl)
theorem wr_26 {w : Cond} (h : w ∈ wsL_law_r26) : w ∈ wsL_law := (List.mem_append_left _ (List.mem_append_left _ (List.mem_append_left _ (List.mem_append_left _ (List.mem_append_left _ (List.mem_append_left _ (List.mem_append_left _ (List.mem_append_left _ (List.mem_append_right _ (List.mem_append_right _ (List.mem_append_right _ (List.mem_append_right _ (List.mem_append_right _ (List.mem_append_right _ (List.mem_append_right _ (List.mem_append_right _ (List.mem_append_right _ (List.mem_append_right _ (List.mem_append_right _ (List.mem_append_right _ (List.mem_append_right _ (List.mem_append_right _ (List.mem_append_right _ (List.mem_append_right _ (List.mem_append_right _ (List.mem_append_right _ (List.mem_append_right _ (List.mem_append_right _ (List.mem_append_right _ (List.mem_append_right _ (List.mem_append_right _ (List.mem_append_right _ (List.mem_append_right _ (List.mem_append_left _ h))))))))))))))))))))))))))))))))))
theorem mw_26_0 : (Cond.methodLink RX6 156 yX4_empty) ∈ wsL_law := wr_26 (List.mem_of_getElem? (l := wsL_law_r26) (i := 0) rfl)
theorem mw_26_1 : (Cond.methodLink RL 96 yX7_clearText) ∈ wsL_law := wr_26 (List.mem_of_getElem? (l := wsL_law_r26) (i := 1) rfl)
theorem mw_26_2 : (Cond.instanceMethod yX7_clearText) ∈ wsL_law := wr_26 (List.mem_of_getElem? (l := wsL_law_r26) (i := 2) rfl)
theorem mw_26_3 : (Cond.selects RX7 yX7_clearText yX7_clearText) ∈ wsL_law := wr_26 (List.mem_of_getElem? (l := wsL_law_r26) (i := 3) rfl)
theorem mw_26_4 : (Cond.code yX7_clearText cX7_clearText 2 (some .int)) ∈ wsL_law := wr_26 (List.mem_of_getElem? (l := wsL_law_r26) (i := 4) rfl)
theorem mw_26_5 : (Cond.methodLink RL 97 yX6_fault) ∈ wsL_law := wr_26 (List.mem_of_getElem? (l := wsL_law_r26) (i := 5) rfl)
theorem mw_26_6 : (Cond.instanceMethod yX6_fault) ∈ wsL_law := wr_26 (List.mem_of_getElem? (l := wsL_law_r26) (i := 6) rfl)
theorem mw_26_7 : (Cond.selects RX6 yX6_fault yX6_fault) ∈ wsL_law := wr_26 (List.mem_of_getElem? (l := wsL_law_r26) (i := 7) rfl)
theorem mw_26_8 : (Cond.code yX6_fault cX6_fault 2 (some .int)) ∈ wsL_law := wr_26 (List.mem_of_getElem? (l := wsL_law_r26) (i := 8) rfl)
theorem mw_26_9 : (Cond.methodLink RX6 159 yX5_copyState) ∈ wsL_law := wr_26 (List.mem_of_getElem? (l := wsL_law_r26) (i := 9) rfl)
theorem mw_26_10 : (Cond.methodLink RX6 162 yX1_runOn) ∈ wsL_law := wr_26 (List.mem_of_getElem? (l := wsL_law_r26) (i := 10) rfl)
theorem mw_26_11 : (Cond.instanceMethod yX1_runOn) ∈ wsL_law := wr_26 (List.mem_of_getElem? (l := wsL_law_r26) (i := 11) rfl)
theorem mw_26_12 : (Cond.selects RX1 yX1_runOn yX1_runOn) ∈ wsL_law := wr_26 (List.mem_of_getElem? (l := wsL_law_r26) (i := 12) rfl)
theorem mw_26_13 : (Cond.code yX1_runOn cX1_runOn 5 none) ∈ wsL_law := wr_26 (List.mem_of_getElem? (l := wsL_law_r26) (i := 13) rfl)
theorem mw_26_14 : (Cond.fieldLink RX1 23 "ReshapedTexts$Commands" "position" "I") ∈ wsL_law := wr_26 (List.mem_of_getElem? (l := wsL_law_r26) (i := 14) rfl)
theorem mw_26_15 : (Cond.fieldLink RX1 27 "ReshapedTexts$Commands" "reason" "I") ∈ wsL_law := wr_26 (List.mem_of_getElem? (l := wsL_law_r26) (i := 15) rfl)
theorem mw_26_16 : (Cond.fieldLink RX1 30 "ReshapedTexts$Commands" "cause" "I") ∈ wsL_law := wr_26 (List.mem_of_getElem? (l := wsL_law_r26) (i := 16) rfl)
theorem mw_26_17 : (Cond.fieldLink RX1 33 "ReshapedTexts$Commands" "done" "I") ∈ wsL_law := wr_26 (List.mem_of_getElem? (l := wsL_law_r26) (i := 17) rfl)
theorem mw_26_18 : (Cond.methodLink RX1 36 yX4_size) ∈ wsL_law := wr_26 (List.mem_of_getElem? (l := wsL_law_r26) (i := 18) rfl)
theorem mw_26_19 : (Cond.methodLink RX1 40 yX1_read) ∈ wsL_law := wr_26 (List.mem_of_getElem? (l := wsL_law_r26) (i := 19) rfl)
theorem mw_26_20 : (Cond.instanceMethod yX1_read) ∈ wsL_law := wr_26 (List.mem_of_getElem? (l := wsL_law_r26) (i := 20) rfl)
theorem mw_26_21 : (Cond.selects RX1 yX1_read yX1_read) ∈ wsL_law := wr_26 (List.mem_of_getElem? (l := wsL_law_r26) (i := 21) rfl)
theorem mw_26_22 : (Cond.code yX1_read cX1_read 7 (some .int)) ∈ wsL_law := wr_26 (List.mem_of_getElem? (l := wsL_law_r26) (i := 22) rfl)
theorem mw_26_23 : (Cond.methodLink RX1 44 yX4_at) ∈ wsL_law := wr_26 (List.mem_of_getElem? (l := wsL_law_r26) (i := 23) rfl)
theorem wr_27 {w : Cond} (h : w ∈ wsL_law_r27) : w ∈ wsL_law := (List.mem_append_left _ (List.mem_append_left _ (List.mem_append_left _ (List.mem_append_left _ (List.mem_append_left _ (List.mem_append_left _ (List.mem_append_left _ (List.mem_append_left _ (List.mem_append_right _ (List.mem_append_right _ (List.mem_append_right _ (List.mem_append_right _ (List.mem_append_right _ (List.mem_append_right _ (List.mem_append_right _ (List.mem_append_right _ (List.mem_append_right _ (List.mem_append_right _ (List.mem_append_right _ (List.mem_append_right _ (List.mem_append_right _ (List.mem_append_right _ (List.mem_append_right _ (List.mem_append_right _ (List.mem_append_right _ (List.mem_append_right _ (List.mem_append_right _ (List.mem_append_right _ (List.mem_append_right _ (List.mem_append_right _ (List.mem_append_right _ (List.mem_append_right _ (List.mem_append_right _ (List.mem_append_right _ (List.mem_append_left _ h)))))))))))))))))))))))))))))))))))
theorem mw_27_0 : (Cond.methodLink RX1 53 yX1_numbersOf) ∈ wsL_law := wr_27 (List.mem_of_getElem? (l := wsL_law_r27) (i := 0) rfl)
theorem mw_27_1 : (Cond.static yX1_numbersOf) ∈ wsL_law := wr_27 (List.mem_of_getElem? (l := wsL_law_r27) (i := 1) rfl)
theorem mw_27_2 : (Cond.code yX1_numbersOf cX1_numbersOf 1 (some .int)) ∈ wsL_law := wr_27 (List.mem_of_getElem? (l := wsL_law_r27) (i := 2) rfl)
theorem mw_27_3 : (Cond.methodLink RX1 56 yX4_empty) ∈ wsL_law := wr_27 (List.mem_of_getElem? (l := wsL_law_r27) (i := 3) rfl)
theorem mw_27_4 : (Cond.methodLink RX1 59 yX1_digitsAt) ∈ wsL_law := wr_27 (List.mem_of_getElem? (l := wsL_law_r27) (i := 4) rfl)
theorem mw_27_5 : (Cond.instanceMethod yX1_digitsAt) ∈ wsL_law := wr_27 (List.mem_of_getElem? (l := wsL_law_r27) (i := 5) rfl)
theorem mw_27_6 : (Cond.selects RX1 yX1_digitsAt yX1_digitsAt) ∈ wsL_law := wr_27 (List.mem_of_getElem? (l := wsL_law_r27) (i := 6) rfl)
theorem mw_27_7 : (Cond.code yX1_digitsAt cX1_digitsAt 2 (some .int)) ∈ wsL_law := wr_27 (List.mem_of_getElem? (l := wsL_law_r27) (i := 7) rfl)
theorem mw_27_8 : (Cond.methodLink RX1 69 yX1_isDigit) ∈ wsL_law := wr_27 (List.mem_of_getElem? (l := wsL_law_r27) (i := 8) rfl)
theorem mw_27_9 : (Cond.static yX1_isDigit) ∈ wsL_law := wr_27 (List.mem_of_getElem? (l := wsL_law_r27) (i := 9) rfl)
theorem mw_27_10 : (Cond.code yX1_isDigit cX1_isDigit 1 (some .boolean)) ∈ wsL_law := wr_27 (List.mem_of_getElem? (l := wsL_law_r27) (i := 10) rfl)
theorem mw_27_11 : (Cond.methodLink RX1 62 yX1_numberAt) ∈ wsL_law := wr_27 (List.mem_of_getElem? (l := wsL_law_r27) (i := 11) rfl)
theorem mw_27_12 : (Cond.instanceMethod yX1_numberAt) ∈ wsL_law := wr_27 (List.mem_of_getElem? (l := wsL_law_r27) (i := 12) rfl)
theorem mw_27_13 : (Cond.selects RX1 yX1_numberAt yX1_numberAt) ∈ wsL_law := wr_27 (List.mem_of_getElem? (l := wsL_law_r27) (i := 13) rfl)
theorem mw_27_14 : (Cond.code yX1_numberAt cX1_numberAt 4 (some .int)) ∈ wsL_law := wr_27 (List.mem_of_getElem? (l := wsL_law_r27) (i := 14) rfl)
theorem mw_27_15 : (Cond.methodLink RX1 66 yX4_add) ∈ wsL_law := wr_27 (List.mem_of_getElem? (l := wsL_law_r27) (i := 15) rfl)
theorem mw_27_16 : (Cond.methodLink RX1 47 yX5_answer) ∈ wsL_law := wr_27 (List.mem_of_getElem? (l := wsL_law_r27) (i := 16) rfl)
theorem mw_27_17 : (Cond.methodLink RL 100 yX7_fault) ∈ wsL_law := wr_27 (List.mem_of_getElem? (l := wsL_law_r27) (i := 17) rfl)
theorem mw_27_18 : (Cond.instanceMethod yX7_fault) ∈ wsL_law := wr_27 (List.mem_of_getElem? (l := wsL_law_r27) (i := 18) rfl)
theorem mw_27_19 : (Cond.selects RX7 yX7_fault yX7_fault) ∈ wsL_law := wr_27 (List.mem_of_getElem? (l := wsL_law_r27) (i := 19) rfl)
theorem mw_27_20 : (Cond.code yX7_fault cX7_fault 2 (some .int)) ∈ wsL_law := wr_27 (List.mem_of_getElem? (l := wsL_law_r27) (i := 20) rfl)
theorem mw_27_21 : (Cond.fieldLink RX7 168 "ReshapedTextsModel" "reason" "I") ∈ wsL_law := wr_27 (List.mem_of_getElem? (l := wsL_law_r27) (i := 21) rfl)
theorem mw_27_22 : (Cond.fieldLink RX7 171 "ReshapedTextsModel" "position" "I") ∈ wsL_law := wr_27 (List.mem_of_getElem? (l := wsL_law_r27) (i := 22) rfl)
theorem mw_27_23 : (Cond.fieldLink RX7 180 "ReshapedTextsModel" "cause" "I") ∈ wsL_law := wr_27 (List.mem_of_getElem? (l := wsL_law_r27) (i := 23) rfl)
theorem wr_28 {w : Cond} (h : w ∈ wsL_law_r28) : w ∈ wsL_law := (List.mem_append_left _ (List.mem_append_left _ (List.mem_append_left _ (List.mem_append_left _ (List.mem_append_left _ (List.mem_append_left _ (List.mem_append_left _ (List.mem_append_left _ (List.mem_append_right _ (List.mem_append_right _ (List.mem_append_right _ (List.mem_append_right _ (List.mem_append_right _ (List.mem_append_right _ (List.mem_append_right _ (List.mem_append_right _ (List.mem_append_right _ (List.mem_append_right _ (List.mem_append_right _ (List.mem_append_right _ (List.mem_append_right _ (List.mem_append_right _ (List.mem_append_right _ (List.mem_append_right _ (List.mem_append_right _ (List.mem_append_right _ (List.mem_append_right _ (List.mem_append_right _ (List.mem_append_right _ (List.mem_append_right _ (List.mem_append_right _ (List.mem_append_right _ (List.mem_append_right _ (List.mem_append_right _ (List.mem_append_right _ (List.mem_append_left _ h))))))))))))))))))))))))))))))))))))
theorem mw_28_0 : (Cond.methodLink RX7 186 yX7_look) ∈ wsL_law := wr_28 (List.mem_of_getElem? (l := wsL_law_r28) (i := 0) rfl)
theorem mw_28_1 : (Cond.instanceMethod yX7_look) ∈ wsL_law := wr_28 (List.mem_of_getElem? (l := wsL_law_r28) (i := 1) rfl)
theorem mw_28_2 : (Cond.selects RX7 yX7_look yX7_look) ∈ wsL_law := wr_28 (List.mem_of_getElem? (l := wsL_law_r28) (i := 2) rfl)
theorem mw_28_3 : (Cond.code yX7_look cX7_look 2 none) ∈ wsL_law := wr_28 (List.mem_of_getElem? (l := wsL_law_r28) (i := 3) rfl)
theorem mw_28_4 : (Cond.methodLink RX7 183 yX7_go) ∈ wsL_law := wr_28 (List.mem_of_getElem? (l := wsL_law_r28) (i := 4) rfl)
theorem mw_28_5 : (Cond.instanceMethod yX7_go) ∈ wsL_law := wr_28 (List.mem_of_getElem? (l := wsL_law_r28) (i := 5) rfl)
theorem mw_28_6 : (Cond.selects RX7 yX7_go yX7_go) ∈ wsL_law := wr_28 (List.mem_of_getElem? (l := wsL_law_r28) (i := 6) rfl)
theorem mw_28_7 : (Cond.code yX7_go cX7_go 2 (some .int)) ∈ wsL_law := wr_28 (List.mem_of_getElem? (l := wsL_law_r28) (i := 7) rfl)
theorem mw_28_8 : (Cond.fieldLink RX7 155 "ReshapedTextsModel" "at" "I") ∈ wsL_law := wr_28 (List.mem_of_getElem? (l := wsL_law_r28) (i := 8) rfl)
theorem mw_28_9 : (Cond.fieldLink RX7 158 "ReshapedTextsModel" "isWrong" "Z") ∈ wsL_law := wr_28 (List.mem_of_getElem? (l := wsL_law_r28) (i := 9) rfl)
theorem mw_28_10 : (Cond.methodLink RX7 174 yX7_read) ∈ wsL_law := wr_28 (List.mem_of_getElem? (l := wsL_law_r28) (i := 10) rfl)
theorem mw_28_11 : (Cond.instanceMethod yX7_read) ∈ wsL_law := wr_28 (List.mem_of_getElem? (l := wsL_law_r28) (i := 11) rfl)
theorem mw_28_12 : (Cond.selects RX7 yX7_read yX7_read) ∈ wsL_law := wr_28 (List.mem_of_getElem? (l := wsL_law_r28) (i := 12) rfl)
theorem mw_28_13 : (Cond.code yX7_read cX7_read 5 none) ∈ wsL_law := wr_28 (List.mem_of_getElem? (l := wsL_law_r28) (i := 13) rfl)
theorem mw_28_14 : (Cond.methodLink RX7 161 yX7_sign) ∈ wsL_law := wr_28 (List.mem_of_getElem? (l := wsL_law_r28) (i := 14) rfl)
theorem mw_28_15 : (Cond.instanceMethod yX7_sign) ∈ wsL_law := wr_28 (List.mem_of_getElem? (l := wsL_law_r28) (i := 15) rfl)
theorem mw_28_16 : (Cond.selects RX7 yX7_sign yX7_sign) ∈ wsL_law := wr_28 (List.mem_of_getElem? (l := wsL_law_r28) (i := 16) rfl)
theorem mw_28_17 : (Cond.code yX7_sign cX7_sign 4 (some .int)) ∈ wsL_law := wr_28 (List.mem_of_getElem? (l := wsL_law_r28) (i := 17) rfl)
theorem mw_28_18 : (Cond.methodLink RX7 164 yX7_number) ∈ wsL_law := wr_28 (List.mem_of_getElem? (l := wsL_law_r28) (i := 18) rfl)
theorem mw_28_19 : (Cond.instanceMethod yX7_number) ∈ wsL_law := wr_28 (List.mem_of_getElem? (l := wsL_law_r28) (i := 19) rfl)
theorem mw_28_20 : (Cond.selects RX7 yX7_number yX7_number) ∈ wsL_law := wr_28 (List.mem_of_getElem? (l := wsL_law_r28) (i := 20) rfl)
theorem mw_28_21 : (Cond.code yX7_number cX7_number 3 (some .int)) ∈ wsL_law := wr_28 (List.mem_of_getElem? (l := wsL_law_r28) (i := 21) rfl)
theorem mw_28_22 : (Cond.methodLink RX7 177 yX7_does) ∈ wsL_law := wr_28 (List.mem_of_getElem? (l := wsL_law_r28) (i := 22) rfl)
theorem mw_28_23 : (Cond.instanceMethod yX7_does) ∈ wsL_law := wr_28 (List.mem_of_getElem? (l := wsL_law_r28) (i := 23) rfl)
theorem wr_29 {w : Cond} (h : w ∈ wsL_law_r29) : w ∈ wsL_law := (List.mem_append_left _ (List.mem_append_left _ (List.mem_append_left _ (List.mem_append_left _ (List.mem_append_left _ (List.mem_append_left _ (List.mem_append_left _ (List.mem_append_left _ (List.mem_append_right _ (List.mem_append_right _ (List.mem_append_right _ (List.mem_append_right _ (List.mem_append_right _ (List.mem_append_right _ (List.mem_append_right _ (List.mem_append_right _ (List.mem_append_right _ (List.mem_append_right _ (List.mem_append_right _ (List.mem_append_right _ (List.mem_append_right _ (List.mem_append_right _ (List.mem_append_right _ (List.mem_append_right _ (List.mem_append_right _ (List.mem_append_right _ (List.mem_append_right _ (List.mem_append_right _ (List.mem_append_right _ (List.mem_append_right _ (List.mem_append_right _ (List.mem_append_right _ (List.mem_append_right _ (List.mem_append_right _ (List.mem_append_right _ (List.mem_append_right _ h))))))))))))))))))))))))))))))))))))
theorem mw_29_0 : (Cond.selects RX7 yX7_does yX7_does) ∈ wsL_law := wr_29 (List.mem_of_getElem? (l := wsL_law_r29) (i := 0) rfl)
theorem mw_29_1 : (Cond.code yX7_does cX7_does 6 (some .int)) ∈ wsL_law := wr_29 (List.mem_of_getElem? (l := wsL_law_r29) (i := 1) rfl)
theorem mw_29_2 : (Cond.methodLink RL 101 yX6_play) ∈ wsL_law := wr_29 (List.mem_of_getElem? (l := wsL_law_r29) (i := 2) rfl)
theorem mw_29_3 : (Cond.instanceMethod yX6_play) ∈ wsL_law := wr_29 (List.mem_of_getElem? (l := wsL_law_r29) (i := 3) rfl)
theorem mw_29_4 : (Cond.selects RX6 yX6_play yX6_play) ∈ wsL_law := wr_29 (List.mem_of_getElem? (l := wsL_law_r29) (i := 4) rfl)
theorem mw_29_5 : (Cond.code yX6_play cX6_play 1 (some .int)) ∈ wsL_law := wr_29 (List.mem_of_getElem? (l := wsL_law_r29) (i := 5) rfl)
theorem mw_29_6 : (Cond.methodLink RL 104 yX7_play) ∈ wsL_law := wr_29 (List.mem_of_getElem? (l := wsL_law_r29) (i := 6) rfl)
theorem mw_29_7 : (Cond.instanceMethod yX7_play) ∈ wsL_law := wr_29 (List.mem_of_getElem? (l := wsL_law_r29) (i := 7) rfl)
theorem mw_29_8 : (Cond.selects RX7 yX7_play yX7_play) ∈ wsL_law := wr_29 (List.mem_of_getElem? (l := wsL_law_r29) (i := 8) rfl)
theorem mw_29_9 : (Cond.code yX7_play cX7_play 1 (some .int)) ∈ wsL_law := wr_29 (List.mem_of_getElem? (l := wsL_law_r29) (i := 9) rfl)
theorem y_X6_init : zYI yX6_init cX6_init 1 := ⟨⟨mw_1_8, mw_1_2, by decide +kernel, by decide +kernel⟩, mw_1_7, rfl⟩
theorem n_X6_init : (parseMethodDescriptor yX6_init.desc).map (fun d => d.parameters.length) = some 0 := by decide +kernel
theorem y_X5_init : zYI yX5_init cX5_init 1 := ⟨⟨mw_2_5, mw_1_14, by decide +kernel, by decide +kernel⟩, mw_2_4, rfl⟩
theorem n_X5_init : (parseMethodDescriptor yX5_init.desc).map (fun d => d.parameters.length) = some 0 := by decide +kernel
theorem y_X2_init : zYI yX2_init cX2_init 2 := ⟨⟨mw_2_21, mw_2_9, by decide +kernel, by decide +kernel⟩, mw_2_20, rfl⟩
theorem n_X2_init : (parseMethodDescriptor yX2_init.desc).map (fun d => d.parameters.length) = some 1 := by decide +kernel
theorem y_X4_init : zYI yX4_init cX4_init 2 := ⟨⟨mw_3_6, mw_2_15, by decide +kernel, by decide +kernel⟩, mw_3_5, rfl⟩
theorem n_X4_init : (parseMethodDescriptor yX4_init.desc).map (fun d => d.parameters.length) = some 1 := by decide +kernel
theorem y_X3_init : zYI yX3_init cX3_init 1 := ⟨⟨mw_3_18, mw_1_21, by decide +kernel, by decide +kernel⟩, mw_3_17, rfl⟩
theorem n_X3_init : (parseMethodDescriptor yX3_init.desc).map (fun d => d.parameters.length) = some 0 := by decide +kernel
theorem y_X1_init : zYI yX1_init cX1_init 1 := ⟨⟨mw_4_5, mw_2_1, by decide +kernel, by decide +kernel⟩, mw_4_4, rfl⟩
theorem n_X1_init : (parseMethodDescriptor yX1_init.desc).map (fun d => d.parameters.length) = some 0 := by decide +kernel
theorem y_X7_init : zYI yX7_init cX7_init 1 := ⟨⟨mw_4_13, mw_1_5, by decide +kernel, by decide +kernel⟩, mw_4_12, rfl⟩
theorem n_X7_init : (parseMethodDescriptor yX7_init.desc).map (fun d => d.parameters.length) = some 0 := by decide +kernel
theorem y_X6_insert : zYV yX6_insert cX6_insert 4 (some .int) := ⟨⟨mw_5_2, mw_1_2, by decide +kernel, by decide +kernel⟩, mw_5_0, mw_5_1⟩
theorem n_X6_insert : (parseMethodDescriptor yX6_insert.desc).map (fun d => d.parameters.length) = some 3 := by decide +kernel
theorem y_X6_recorded : zYV yX6_recorded cX6_recorded 6 (some .int) := ⟨⟨mw_5_6, mw_1_2, by decide +kernel, by decide +kernel⟩, mw_5_4, mw_5_5⟩
theorem n_X6_recorded : (parseMethodDescriptor yX6_recorded.desc).map (fun d => d.parameters.length) = some 4 := by decide +kernel
theorem y_X3_prepare : zYV yX3_prepare cX3_prepare 2 none := ⟨⟨mw_5_10, mw_1_21, by decide +kernel, by decide +kernel⟩, mw_5_8, mw_5_9⟩
theorem n_X3_prepare : (parseMethodDescriptor yX3_prepare.desc).map (fun d => d.parameters.length) = some 1 := by decide +kernel
theorem y_X5_copyState : zYV yX5_copyState cX5_copyState 2 none := ⟨⟨mw_5_14, mw_1_14, by decide +kernel, by decide +kernel⟩, mw_5_12, mw_5_13⟩
theorem n_X5_copyState : (parseMethodDescriptor yX5_copyState.desc).map (fun d => d.parameters.length) = some 1 := by decide +kernel
theorem y_X2_copyEditor : zYV yX2_copyEditor cX2_copyEditor 2 none := ⟨⟨mw_5_18, mw_2_9, by decide +kernel, by decide +kernel⟩, mw_5_16, mw_5_17⟩
theorem n_X2_copyEditor : (parseMethodDescriptor yX2_copyEditor.desc).map (fun d => d.parameters.length) = some 1 := by decide +kernel
theorem y_X4_copyNumbers : zYV yX4_copyNumbers cX4_copyNumbers 4 none := ⟨⟨mw_6_2, mw_2_15, by decide +kernel, by decide +kernel⟩, mw_6_0, mw_6_1⟩
theorem n_X4_copyNumbers : (parseMethodDescriptor yX4_copyNumbers.desc).map (fun d => d.parameters.length) = some 1 := by decide +kernel
theorem y_X5_answer : zYV yX5_answer cX5_answer 6 (some .int) := ⟨⟨mw_6_10, mw_1_14, by decide +kernel, by decide +kernel⟩, mw_6_8, mw_6_9⟩
theorem n_X5_answer : (parseMethodDescriptor yX5_answer.desc).map (fun d => d.parameters.length) = some 4 := by decide +kernel
theorem y_X6_isNoEditor : zYS yX6_isNoEditor cX6_isNoEditor 1 (some .boolean) := ⟨⟨mw_6_12, mw_1_2, by decide +kernel, by decide +kernel⟩, mw_6_11⟩
theorem n_X6_isNoEditor : (parseMethodDescriptor yX6_isNoEditor.desc).map (fun d => d.parameters.length) = some 1 := by decide +kernel
theorem y_X5_editor : zYV yX5_editor cX5_editor 2 (some (.object "ReshapedTexts$Editor")) := ⟨⟨mw_6_16, mw_1_14, by decide +kernel, by decide +kernel⟩, mw_6_14, mw_6_15⟩
theorem n_X5_editor : (parseMethodDescriptor yX5_editor.desc).map (fun d => d.parameters.length) = some 1 := by decide +kernel
theorem y_X2_putIn : zYV yX2_putIn cX2_putIn 3 (some .int) := ⟨⟨mw_6_20, mw_2_9, by decide +kernel, by decide +kernel⟩, mw_6_18, mw_6_19⟩
theorem n_X2_putIn : (parseMethodDescriptor yX2_putIn.desc).map (fun d => d.parameters.length) = some 2 := by decide +kernel
theorem y_X4_size : zYV yX4_size cX4_size 1 (some .int) := ⟨⟨mw_7_0, mw_2_15, by decide +kernel, by decide +kernel⟩, mw_6_22, mw_6_23⟩
theorem n_X4_size : (parseMethodDescriptor yX4_size.desc).map (fun d => d.parameters.length) = some 0 := by decide +kernel
theorem y_X0_of : zYS yX0_of cX0_of 4 (some .int) := ⟨⟨mw_7_4, mw_7_3, by decide +kernel, by decide +kernel⟩, mw_7_2⟩
theorem n_X0_of : (parseMethodDescriptor yX0_of.desc).map (fun d => d.parameters.length) = some 4 := by decide +kernel
theorem y_X2_write : zYV yX2_write cX2_write 2 none := ⟨⟨mw_7_8, mw_2_9, by decide +kernel, by decide +kernel⟩, mw_7_6, mw_7_7⟩
theorem n_X2_write : (parseMethodDescriptor yX2_write.desc).map (fun d => d.parameters.length) = some 1 := by decide +kernel
theorem y_X2_apply : zYV yX2_apply cX2_apply 5 none := ⟨⟨mw_7_12, mw_2_9, by decide +kernel, by decide +kernel⟩, mw_7_10, mw_7_11⟩
theorem n_X2_apply : (parseMethodDescriptor yX2_apply.desc).map (fun d => d.parameters.length) = some 1 := by decide +kernel
theorem y_X0_place : zYS yX0_place cX0_place 1 (some .int) := ⟨⟨mw_7_15, mw_7_3, by decide +kernel, by decide +kernel⟩, mw_7_14⟩
theorem n_X0_place : (parseMethodDescriptor yX0_place.desc).map (fun d => d.parameters.length) = some 1 := by decide +kernel
theorem y_X0_kind : zYS yX0_kind cX0_kind 1 (some .int) := ⟨⟨mw_7_18, mw_7_3, by decide +kernel, by decide +kernel⟩, mw_7_17⟩
theorem n_X0_kind : (parseMethodDescriptor yX0_kind.desc).map (fun d => d.parameters.length) = some 1 := by decide +kernel
theorem y_X0_sign : zYS yX0_sign cX0_sign 1 (some .int) := ⟨⟨mw_7_21, mw_7_3, by decide +kernel, by decide +kernel⟩, mw_7_20⟩
theorem n_X0_sign : (parseMethodDescriptor yX0_sign.desc).map (fun d => d.parameters.length) = some 1 := by decide +kernel
theorem y_X4_addAt : zYV yX4_addAt cX4_addAt 4 none := ⟨⟨mw_8_1, mw_2_15, by decide +kernel, by decide +kernel⟩, mw_7_23, mw_8_0⟩
theorem n_X4_addAt : (parseMethodDescriptor yX4_addAt.desc).map (fun d => d.parameters.length) = some 2 := by decide +kernel
theorem y_X4_removeAt : zYV yX4_removeAt cX4_removeAt 3 none := ⟨⟨mw_8_5, mw_2_15, by decide +kernel, by decide +kernel⟩, mw_8_3, mw_8_4⟩
theorem n_X4_removeAt : (parseMethodDescriptor yX4_removeAt.desc).map (fun d => d.parameters.length) = some 1 := by decide +kernel
theorem y_X4_at : zYV yX4_at cX4_at 2 (some .int) := ⟨⟨mw_8_9, mw_2_15, by decide +kernel, by decide +kernel⟩, mw_8_7, mw_8_8⟩
theorem n_X4_at : (parseMethodDescriptor yX4_at.desc).map (fun d => d.parameters.length) = some 1 := by decide +kernel
theorem y_X0_reshaped : zYS yX0_reshaped cX0_reshaped 9 (some .int) := ⟨⟨mw_8_12, mw_7_3, by decide +kernel, by decide +kernel⟩, mw_8_11⟩
theorem n_X0_reshaped : (parseMethodDescriptor yX0_reshaped.desc).map (fun d => d.parameters.length) = some 2 := by decide +kernel
theorem y_X4_put : zYV yX4_put cX4_put 3 none := ⟨⟨mw_8_16, mw_2_15, by decide +kernel, by decide +kernel⟩, mw_8_14, mw_8_15⟩
theorem n_X4_put : (parseMethodDescriptor yX4_put.desc).map (fun d => d.parameters.length) = some 2 := by decide +kernel
theorem y_X4_add : zYV yX4_add cX4_add 2 none := ⟨⟨mw_8_20, mw_2_15, by decide +kernel, by decide +kernel⟩, mw_8_18, mw_8_19⟩
theorem n_X4_add : (parseMethodDescriptor yX4_add.desc).map (fun d => d.parameters.length) = some 1 := by decide +kernel
theorem y_X2_keepBack : zYV yX2_keepBack cX2_keepBack 2 none := ⟨⟨mw_9_1, mw_2_9, by decide +kernel, by decide +kernel⟩, mw_8_23, mw_9_0⟩
theorem n_X2_keepBack : (parseMethodDescriptor yX2_keepBack.desc).map (fun d => d.parameters.length) = some 1 := by decide +kernel
theorem y_X2_takeOut : zYV yX2_takeOut cX2_takeOut 3 (some .int) := ⟨⟨mw_9_5, mw_2_9, by decide +kernel, by decide +kernel⟩, mw_9_3, mw_9_4⟩
theorem n_X2_takeOut : (parseMethodDescriptor yX2_takeOut.desc).map (fun d => d.parameters.length) = some 1 := by decide +kernel
theorem y_X2_goBack : zYV yX2_goBack cX2_goBack 4 (some .int) := ⟨⟨mw_9_9, mw_2_9, by decide +kernel, by decide +kernel⟩, mw_9_7, mw_9_8⟩
theorem n_X2_goBack : (parseMethodDescriptor yX2_goBack.desc).map (fun d => d.parameters.length) = some 0 := by decide +kernel
theorem y_X2_setSpot : zYV yX2_setSpot cX2_setSpot 3 (some .int) := ⟨⟨mw_9_13, mw_2_9, by decide +kernel, by decide +kernel⟩, mw_9_11, mw_9_12⟩
theorem n_X2_setSpot : (parseMethodDescriptor yX2_setSpot.desc).map (fun d => d.parameters.length) = some 1 := by decide +kernel
theorem y_X5_pass : zYV yX5_pass cX5_pass 2 (some .int) := ⟨⟨mw_9_17, mw_1_14, by decide +kernel, by decide +kernel⟩, mw_9_15, mw_9_16⟩
theorem n_X5_pass : (parseMethodDescriptor yX5_pass.desc).map (fun d => d.parameters.length) = some 1 := by decide +kernel
theorem y_X2_canSend : zYV yX2_canSend cX2_canSend 1 (some .boolean) := ⟨⟨mw_9_21, mw_2_9, by decide +kernel, by decide +kernel⟩, mw_9_19, mw_9_20⟩
theorem n_X2_canSend : (parseMethodDescriptor yX2_canSend.desc).map (fun d => d.parameters.length) = some 0 := by decide +kernel
theorem y_X5_append : zYV yX5_append cX5_append 5 none := ⟨⟨mw_10_2, mw_1_14, by decide +kernel, by decide +kernel⟩, mw_10_0, mw_10_1⟩
theorem n_X5_append : (parseMethodDescriptor yX5_append.desc).map (fun d => d.parameters.length) = some 1 := by decide +kernel
theorem y_X2_outgoing : zYV yX2_outgoing cX2_outgoing 4 (some .int) := ⟨⟨mw_10_6, mw_2_9, by decide +kernel, by decide +kernel⟩, mw_10_4, mw_10_5⟩
theorem n_X2_outgoing : (parseMethodDescriptor yX2_outgoing.desc).map (fun d => d.parameters.length) = some 1 := by decide +kernel
theorem y_X0_writer : zYS yX0_writer cX0_writer 1 (some .int) := ⟨⟨mw_10_13, mw_7_3, by decide +kernel, by decide +kernel⟩, mw_10_12⟩
theorem n_X0_writer : (parseMethodDescriptor yX0_writer.desc).map (fun d => d.parameters.length) = some 1 := by decide +kernel
theorem y_X2_hearNext : zYV yX2_hearNext cX2_hearNext 4 (some .int) := ⟨⟨mw_10_19, mw_2_9, by decide +kernel, by decide +kernel⟩, mw_10_17, mw_10_18⟩
theorem n_X2_hearNext : (parseMethodDescriptor yX2_hearNext.desc).map (fun d => d.parameters.length) = some 1 := by decide +kernel
theorem y_X0_passThrough : zYS yX0_passThrough cX0_passThrough 5 (some .int) := ⟨⟨mw_10_23, mw_7_3, by decide +kernel, by decide +kernel⟩, mw_10_22⟩
theorem n_X0_passThrough : (parseMethodDescriptor yX0_passThrough.desc).map (fun d => d.parameters.length) = some 2 := by decide +kernel
theorem y_X2_hearRest : zYV yX2_hearRest cX2_hearRest 4 (some .int) := ⟨⟨mw_11_7, mw_2_9, by decide +kernel, by decide +kernel⟩, mw_11_5, mw_11_6⟩
theorem n_X2_hearRest : (parseMethodDescriptor yX2_hearRest.desc).map (fun d => d.parameters.length) = some 1 := by decide +kernel
theorem y_X3_keep : zYV yX3_keep cX3_keep 2 none := ⟨⟨mw_11_12, mw_1_21, by decide +kernel, by decide +kernel⟩, mw_11_10, mw_11_11⟩
theorem n_X3_keep : (parseMethodDescriptor yX3_keep.desc).map (fun d => d.parameters.length) = some 0 := by decide +kernel
theorem y_X7_insert : zYV yX7_insert cX7_insert 5 (some .int) := ⟨⟨mw_11_18, mw_1_5, by decide +kernel, by decide +kernel⟩, mw_11_16, mw_11_17⟩
theorem n_X7_insert : (parseMethodDescriptor yX7_insert.desc).map (fun d => d.parameters.length) = some 3 := by decide +kernel
theorem y_X7_insertFault : zYV yX7_insertFault cX7_insertFault 4 (some .int) := ⟨⟨mw_11_22, mw_1_5, by decide +kernel, by decide +kernel⟩, mw_11_20, mw_11_21⟩
theorem n_X7_insertFault : (parseMethodDescriptor yX7_insertFault.desc).map (fun d => d.parameters.length) = some 3 := by decide +kernel
theorem y_X7_isEditor : zYS yX7_isEditor cX7_isEditor 1 (some .boolean) := ⟨⟨mw_12_1, mw_1_5, by decide +kernel, by decide +kernel⟩, mw_12_0⟩
theorem n_X7_isEditor : (parseMethodDescriptor yX7_isEditor.desc).map (fun d => d.parameters.length) = some 1 := by decide +kernel
theorem y_X7_in : zYS yX7_in cX7_in 3 (some .boolean) := ⟨⟨mw_12_4, mw_1_5, by decide +kernel, by decide +kernel⟩, mw_12_3⟩
theorem n_X7_in : (parseMethodDescriptor yX7_in.desc).map (fun d => d.parameters.length) = some 3 := by decide +kernel
theorem y_X7_of : zYS yX7_of cX7_of 2 (some .int) := ⟨⟨mw_12_7, mw_1_5, by decide +kernel, by decide +kernel⟩, mw_12_6⟩
theorem n_X7_of : (parseMethodDescriptor yX7_of.desc).map (fun d => d.parameters.length) = some 2 := by decide +kernel
theorem y_X7_know : zYV yX7_know cX7_know 2 none := ⟨⟨mw_12_11, mw_1_5, by decide +kernel, by decide +kernel⟩, mw_12_9, mw_12_10⟩
theorem n_X7_know : (parseMethodDescriptor yX7_know.desc).map (fun d => d.parameters.length) = some 0 := by decide +kernel
theorem y_X7_inserts : zYV yX7_inserts cX7_inserts 4 (some .int) := ⟨⟨mw_12_16, mw_1_5, by decide +kernel, by decide +kernel⟩, mw_12_14, mw_12_15⟩
theorem n_X7_inserts : (parseMethodDescriptor yX7_inserts.desc).map (fun d => d.parameters.length) = some 3 := by decide +kernel
theorem y_X7_made : zYS yX7_made cX7_made 4 (some .int) := ⟨⟨mw_12_19, mw_1_5, by decide +kernel, by decide +kernel⟩, mw_12_18⟩
theorem n_X7_made : (parseMethodDescriptor yX7_made.desc).map (fun d => d.parameters.length) = some 4 := by decide +kernel
theorem y_X7_writes : zYV yX7_writes cX7_writes 3 none := ⟨⟨mw_12_23, mw_1_5, by decide +kernel, by decide +kernel⟩, mw_12_21, mw_12_22⟩
theorem n_X7_writes : (parseMethodDescriptor yX7_writes.desc).map (fun d => d.parameters.length) = some 2 := by decide +kernel
theorem y_X7_perform : zYV yX7_perform cX7_perform 6 none := ⟨⟨mw_13_3, mw_1_5, by decide +kernel, by decide +kernel⟩, mw_13_1, mw_13_2⟩
theorem n_X7_perform : (parseMethodDescriptor yX7_perform.desc).map (fun d => d.parameters.length) = some 2 := by decide +kernel
theorem y_X7_placeOf : zYS yX7_placeOf cX7_placeOf 1 (some .int) := ⟨⟨mw_13_6, mw_1_5, by decide +kernel, by decide +kernel⟩, mw_13_5⟩
theorem n_X7_placeOf : (parseMethodDescriptor yX7_placeOf.desc).map (fun d => d.parameters.length) = some 1 := by decide +kernel
theorem y_X7_kindOf : zYS yX7_kindOf cX7_kindOf 1 (some .int) := ⟨⟨mw_13_9, mw_1_5, by decide +kernel, by decide +kernel⟩, mw_13_8⟩
theorem n_X7_kindOf : (parseMethodDescriptor yX7_kindOf.desc).map (fun d => d.parameters.length) = some 1 := by decide +kernel
theorem y_X7_letterOf : zYS yX7_letterOf cX7_letterOf 1 (some .int) := ⟨⟨mw_13_12, mw_1_5, by decide +kernel, by decide +kernel⟩, mw_13_11⟩
theorem n_X7_letterOf : (parseMethodDescriptor yX7_letterOf.desc).map (fun d => d.parameters.length) = some 1 := by decide +kernel
theorem y_X7_reshaped : zYS yX7_reshaped cX7_reshaped 6 (some .int) := ⟨⟨mw_13_15, mw_1_5, by decide +kernel, by decide +kernel⟩, mw_13_14⟩
theorem n_X7_reshaped : (parseMethodDescriptor yX7_reshaped.desc).map (fun d => d.parameters.length) = some 2 := by decide +kernel
theorem y_X7_editorBy : zYS yX7_editorBy cX7_editorBy 1 (some .int) := ⟨⟨mw_13_18, mw_1_5, by decide +kernel, by decide +kernel⟩, mw_13_17⟩
theorem n_X7_editorBy : (parseMethodDescriptor yX7_editorBy.desc).map (fun d => d.parameters.length) = some 1 := by decide +kernel
theorem y_X7_keep : zYV yX7_keep cX7_keep 4 none := ⟨⟨mw_13_22, mw_1_5, by decide +kernel, by decide +kernel⟩, mw_13_20, mw_13_21⟩
theorem n_X7_keep : (parseMethodDescriptor yX7_keep.desc).map (fun d => d.parameters.length) = some 2 := by decide +kernel
theorem y_X6_delete : zYV yX6_delete cX6_delete 3 (some .int) := ⟨⟨mw_14_2, mw_1_2, by decide +kernel, by decide +kernel⟩, mw_14_0, mw_14_1⟩
theorem n_X6_delete : (parseMethodDescriptor yX6_delete.desc).map (fun d => d.parameters.length) = some 2 := by decide +kernel
theorem y_X7_delete : zYV yX7_delete cX7_delete 4 (some .int) := ⟨⟨mw_14_6, mw_1_5, by decide +kernel, by decide +kernel⟩, mw_14_4, mw_14_5⟩
theorem n_X7_delete : (parseMethodDescriptor yX7_delete.desc).map (fun d => d.parameters.length) = some 2 := by decide +kernel
theorem y_X7_deleteFault : zYV yX7_deleteFault cX7_deleteFault 3 (some .int) := ⟨⟨mw_14_10, mw_1_5, by decide +kernel, by decide +kernel⟩, mw_14_8, mw_14_9⟩
theorem n_X7_deleteFault : (parseMethodDescriptor yX7_deleteFault.desc).map (fun d => d.parameters.length) = some 2 := by decide +kernel
theorem y_X7_deletes : zYV yX7_deletes cX7_deletes 4 (some .int) := ⟨⟨mw_14_14, mw_1_5, by decide +kernel, by decide +kernel⟩, mw_14_12, mw_14_13⟩
theorem n_X7_deletes : (parseMethodDescriptor yX7_deletes.desc).map (fun d => d.parameters.length) = some 2 := by decide +kernel
theorem y_X6_takeBack : zYV yX6_takeBack cX6_takeBack 2 (some .int) := ⟨⟨mw_14_18, mw_1_2, by decide +kernel, by decide +kernel⟩, mw_14_16, mw_14_17⟩
theorem n_X6_takeBack : (parseMethodDescriptor yX6_takeBack.desc).map (fun d => d.parameters.length) = some 1 := by decide +kernel
theorem y_X7_takeBack : zYV yX7_takeBack cX7_takeBack 3 (some .int) := ⟨⟨mw_14_22, mw_1_5, by decide +kernel, by decide +kernel⟩, mw_14_20, mw_14_21⟩
theorem n_X7_takeBack : (parseMethodDescriptor yX7_takeBack.desc).map (fun d => d.parameters.length) = some 1 := by decide +kernel
theorem y_X7_backFault : zYV yX7_backFault cX7_backFault 4 (some .int) := ⟨⟨mw_15_2, mw_1_5, by decide +kernel, by decide +kernel⟩, mw_15_0, mw_15_1⟩
theorem n_X7_backFault : (parseMethodDescriptor yX7_backFault.desc).map (fun d => d.parameters.length) = some 1 := by decide +kernel
theorem y_X7_backs : zYV yX7_backs cX7_backs 3 (some .int) := ⟨⟨mw_15_6, mw_1_5, by decide +kernel, by decide +kernel⟩, mw_15_4, mw_15_5⟩
theorem n_X7_backs : (parseMethodDescriptor yX7_backs.desc).map (fun d => d.parameters.length) = some 1 := by decide +kernel
theorem y_X6_mark : zYV yX6_mark cX6_mark 3 (some .int) := ⟨⟨mw_15_10, mw_1_2, by decide +kernel, by decide +kernel⟩, mw_15_8, mw_15_9⟩
theorem n_X6_mark : (parseMethodDescriptor yX6_mark.desc).map (fun d => d.parameters.length) = some 2 := by decide +kernel
theorem y_X7_mark : zYV yX7_mark cX7_mark 4 (some .int) := ⟨⟨mw_15_14, mw_1_5, by decide +kernel, by decide +kernel⟩, mw_15_12, mw_15_13⟩
theorem n_X7_mark : (parseMethodDescriptor yX7_mark.desc).map (fun d => d.parameters.length) = some 2 := by decide +kernel
theorem y_X6_send : zYV yX6_send cX6_send 2 (some .int) := ⟨⟨mw_15_18, mw_1_2, by decide +kernel, by decide +kernel⟩, mw_15_16, mw_15_17⟩
theorem n_X6_send : (parseMethodDescriptor yX6_send.desc).map (fun d => d.parameters.length) = some 1 := by decide +kernel
theorem y_X7_send : zYV yX7_send cX7_send 3 (some .int) := ⟨⟨mw_15_22, mw_1_5, by decide +kernel, by decide +kernel⟩, mw_15_20, mw_15_21⟩
theorem n_X7_send : (parseMethodDescriptor yX7_send.desc).map (fun d => d.parameters.length) = some 1 := by decide +kernel
theorem y_X7_sendFault : zYV yX7_sendFault cX7_sendFault 2 (some .int) := ⟨⟨mw_16_2, mw_1_5, by decide +kernel, by decide +kernel⟩, mw_16_0, mw_16_1⟩
theorem n_X7_sendFault : (parseMethodDescriptor yX7_sendFault.desc).map (fun d => d.parameters.length) = some 1 := by decide +kernel
theorem y_X7_canSend : zYV yX7_canSend cX7_canSend 2 (some .boolean) := ⟨⟨mw_16_6, mw_1_5, by decide +kernel, by decide +kernel⟩, mw_16_4, mw_16_5⟩
theorem n_X7_canSend : (parseMethodDescriptor yX7_canSend.desc).map (fun d => d.parameters.length) = some 1 := by decide +kernel
theorem y_X7_sends : zYV yX7_sends cX7_sends 2 (some .int) := ⟨⟨mw_16_10, mw_1_5, by decide +kernel, by decide +kernel⟩, mw_16_8, mw_16_9⟩
theorem n_X7_sends : (parseMethodDescriptor yX7_sends.desc).map (fun d => d.parameters.length) = some 1 := by decide +kernel
theorem y_X7_behind : zYV yX7_behind cX7_behind 5 (some .int) := ⟨⟨mw_16_14, mw_1_5, by decide +kernel, by decide +kernel⟩, mw_16_12, mw_16_13⟩
theorem n_X7_behind : (parseMethodDescriptor yX7_behind.desc).map (fun d => d.parameters.length) = some 2 := by decide +kernel
theorem y_X6_hear : zYV yX6_hear cX6_hear 2 (some .int) := ⟨⟨mw_16_18, mw_1_2, by decide +kernel, by decide +kernel⟩, mw_16_16, mw_16_17⟩
theorem n_X6_hear : (parseMethodDescriptor yX6_hear.desc).map (fun d => d.parameters.length) = some 1 := by decide +kernel
theorem y_X7_hear : zYV yX7_hear cX7_hear 3 (some .int) := ⟨⟨mw_16_22, mw_1_5, by decide +kernel, by decide +kernel⟩, mw_16_20, mw_16_21⟩
theorem n_X7_hear : (parseMethodDescriptor yX7_hear.desc).map (fun d => d.parameters.length) = some 1 := by decide +kernel
theorem y_X7_hearFault : zYV yX7_hearFault cX7_hearFault 2 (some .int) := ⟨⟨mw_17_2, mw_1_5, by decide +kernel, by decide +kernel⟩, mw_17_0, mw_17_1⟩
theorem n_X7_hearFault : (parseMethodDescriptor yX7_hearFault.desc).map (fun d => d.parameters.length) = some 1 := by decide +kernel
theorem y_X7_hears : zYV yX7_hears cX7_hears 5 (some .int) := ⟨⟨mw_17_6, mw_1_5, by decide +kernel, by decide +kernel⟩, mw_17_4, mw_17_5⟩
theorem n_X7_hears : (parseMethodDescriptor yX7_hears.desc).map (fun d => d.parameters.length) = some 1 := by decide +kernel
theorem y_X6_hearAll : zYV yX6_hearAll cX6_hearAll 2 (some .int) := ⟨⟨mw_17_10, mw_1_2, by decide +kernel, by decide +kernel⟩, mw_17_8, mw_17_9⟩
theorem n_X6_hearAll : (parseMethodDescriptor yX6_hearAll.desc).map (fun d => d.parameters.length) = some 1 := by decide +kernel
theorem y_X7_hearAll : zYV yX7_hearAll cX7_hearAll 3 (some .int) := ⟨⟨mw_17_14, mw_1_5, by decide +kernel, by decide +kernel⟩, mw_17_12, mw_17_13⟩
theorem n_X7_hearAll : (parseMethodDescriptor yX7_hearAll.desc).map (fun d => d.parameters.length) = some 1 := by decide +kernel
theorem y_X7_hearsAll : zYV yX7_hearsAll cX7_hearsAll 4 (some .int) := ⟨⟨mw_17_18, mw_1_5, by decide +kernel, by decide +kernel⟩, mw_17_16, mw_17_17⟩
theorem n_X7_hearsAll : (parseMethodDescriptor yX7_hearsAll.desc).map (fun d => d.parameters.length) = some 1 := by decide +kernel
theorem y_X6_clear : zYV yX6_clear cX6_clear 2 (some .int) := ⟨⟨mw_17_22, mw_1_2, by decide +kernel, by decide +kernel⟩, mw_17_20, mw_17_21⟩
theorem n_X6_clear : (parseMethodDescriptor yX6_clear.desc).map (fun d => d.parameters.length) = some 0 := by decide +kernel
theorem y_X5_begin : zYV yX5_begin cX5_begin 1 none := ⟨⟨mw_18_3, mw_1_14, by decide +kernel, by decide +kernel⟩, mw_18_1, mw_18_2⟩
theorem n_X5_begin : (parseMethodDescriptor yX5_begin.desc).map (fun d => d.parameters.length) = some 0 := by decide +kernel
theorem y_X2_forget : zYV yX2_forget cX2_forget 1 none := ⟨⟨mw_18_7, mw_2_9, by decide +kernel, by decide +kernel⟩, mw_18_5, mw_18_6⟩
theorem n_X2_forget : (parseMethodDescriptor yX2_forget.desc).map (fun d => d.parameters.length) = some 0 := by decide +kernel
theorem y_X4_empty : zYV yX4_empty cX4_empty 1 none := ⟨⟨mw_18_11, mw_2_15, by decide +kernel, by decide +kernel⟩, mw_18_9, mw_18_10⟩
theorem n_X4_empty : (parseMethodDescriptor yX4_empty.desc).map (fun d => d.parameters.length) = some 0 := by decide +kernel
theorem y_X7_clear : zYV yX7_clear cX7_clear 3 (some .int) := ⟨⟨mw_18_16, mw_1_5, by decide +kernel, by decide +kernel⟩, mw_18_14, mw_18_15⟩
theorem n_X7_clear : (parseMethodDescriptor yX7_clear.desc).map (fun d => d.parameters.length) = some 0 := by decide +kernel
theorem y_X6_letter : zYV yX6_letter cX6_letter 4 (some .int) := ⟨⟨mw_18_20, mw_1_2, by decide +kernel, by decide +kernel⟩, mw_18_18, mw_18_19⟩
theorem n_X6_letter : (parseMethodDescriptor yX6_letter.desc).map (fun d => d.parameters.length) = some 2 := by decide +kernel
theorem y_X7_letter : zYV yX7_letter cX7_letter 3 (some .int) := ⟨⟨mw_19_3, mw_1_5, by decide +kernel, by decide +kernel⟩, mw_19_1, mw_19_2⟩
theorem n_X7_letter : (parseMethodDescriptor yX7_letter.desc).map (fun d => d.parameters.length) = some 2 := by decide +kernel
theorem y_X7_lay : zYV yX7_lay cX7_lay 5 none := ⟨⟨mw_19_8, mw_1_5, by decide +kernel, by decide +kernel⟩, mw_19_6, mw_19_7⟩
theorem n_X7_lay : (parseMethodDescriptor yX7_lay.desc).map (fun d => d.parameters.length) = some 0 := by decide +kernel
theorem y_X6_editorOf : zYV yX6_editorOf cX6_editorOf 4 (some .int) := ⟨⟨mw_19_12, mw_1_2, by decide +kernel, by decide +kernel⟩, mw_19_10, mw_19_11⟩
theorem n_X6_editorOf : (parseMethodDescriptor yX6_editorOf.desc).map (fun d => d.parameters.length) = some 2 := by decide +kernel
theorem y_X4_isSameAs : zYV yX4_isSameAs cX4_isSameAs 3 (some .boolean) := ⟨⟨mw_19_16, mw_2_15, by decide +kernel, by decide +kernel⟩, mw_19_14, mw_19_15⟩
theorem n_X4_isSameAs : (parseMethodDescriptor yX4_isSameAs.desc).map (fun d => d.parameters.length) = some 1 := by decide +kernel
theorem y_X7_editorOf : zYV yX7_editorOf cX7_editorOf 3 (some .int) := ⟨⟨mw_19_21, mw_1_5, by decide +kernel, by decide +kernel⟩, mw_19_19, mw_19_20⟩
theorem n_X7_editorOf : (parseMethodDescriptor yX7_editorOf.desc).map (fun d => d.parameters.length) = some 2 := by decide +kernel
theorem y_X7_isSame : zYV yX7_isSame cX7_isSame 4 (some .boolean) := ⟨⟨mw_20_1, mw_1_5, by decide +kernel, by decide +kernel⟩, mw_19_23, mw_20_0⟩
theorem n_X7_isSame : (parseMethodDescriptor yX7_isSame.desc).map (fun d => d.parameters.length) = some 1 := by decide +kernel
theorem y_X6_waitingOf : zYV yX6_waitingOf cX6_waitingOf 4 (some .int) := ⟨⟨mw_20_5, mw_1_2, by decide +kernel, by decide +kernel⟩, mw_20_3, mw_20_4⟩
theorem n_X6_waitingOf : (parseMethodDescriptor yX6_waitingOf.desc).map (fun d => d.parameters.length) = some 3 := by decide +kernel
theorem y_X6_partOf : zYS yX6_partOf cX6_partOf 3 (some .int) := ⟨⟨mw_20_8, mw_1_2, by decide +kernel, by decide +kernel⟩, mw_20_7⟩
theorem n_X6_partOf : (parseMethodDescriptor yX6_partOf.desc).map (fun d => d.parameters.length) = some 3 := by decide +kernel
theorem y_X0_part : zYS yX0_part cX0_part 3 (some .int) := ⟨⟨mw_20_11, mw_7_3, by decide +kernel, by decide +kernel⟩, mw_20_10⟩
theorem n_X0_part : (parseMethodDescriptor yX0_part.desc).map (fun d => d.parameters.length) = some 2 := by decide +kernel
theorem y_X7_waitingOf : zYV yX7_waitingOf cX7_waitingOf 4 (some .int) := ⟨⟨mw_20_19, mw_1_5, by decide +kernel, by decide +kernel⟩, mw_20_17, mw_20_18⟩
theorem n_X7_waitingOf : (parseMethodDescriptor yX7_waitingOf.desc).map (fun d => d.parameters.length) = some 3 := by decide +kernel
theorem y_X7_told : zYS yX7_told cX7_told 3 (some .int) := ⟨⟨mw_20_22, mw_1_5, by decide +kernel, by decide +kernel⟩, mw_20_21⟩
theorem n_X7_told : (parseMethodDescriptor yX7_told.desc).map (fun d => d.parameters.length) = some 2 := by decide +kernel
theorem y_X6_logOf : zYV yX6_logOf cX6_logOf 3 (some .int) := ⟨⟨mw_21_2, mw_1_2, by decide +kernel, by decide +kernel⟩, mw_21_0, mw_21_1⟩
theorem n_X6_logOf : (parseMethodDescriptor yX6_logOf.desc).map (fun d => d.parameters.length) = some 2 := by decide +kernel
theorem y_X7_logOf : zYV yX7_logOf cX7_logOf 3 (some .int) := ⟨⟨mw_21_6, mw_1_5, by decide +kernel, by decide +kernel⟩, mw_21_4, mw_21_5⟩
theorem n_X7_logOf : (parseMethodDescriptor yX7_logOf.desc).map (fun d => d.parameters.length) = some 2 := by decide +kernel
theorem y_X6_by : zYV yX6_by cX6_by 2 (some .int) := ⟨⟨mw_21_10, mw_1_2, by decide +kernel, by decide +kernel⟩, mw_21_8, mw_21_9⟩
theorem n_X6_by : (parseMethodDescriptor yX6_by.desc).map (fun d => d.parameters.length) = some 1 := by decide +kernel
theorem y_X7_by : zYV yX7_by cX7_by 2 (some .int) := ⟨⟨mw_21_14, mw_1_5, by decide +kernel, by decide +kernel⟩, mw_21_12, mw_21_13⟩
theorem n_X7_by : (parseMethodDescriptor yX7_by.desc).map (fun d => d.parameters.length) = some 1 := by decide +kernel
theorem y_X6_count : zYV yX6_count cX6_count 2 (some .int) := ⟨⟨mw_21_18, mw_1_2, by decide +kernel, by decide +kernel⟩, mw_21_16, mw_21_17⟩
theorem n_X6_count : (parseMethodDescriptor yX6_count.desc).map (fun d => d.parameters.length) = some 1 := by decide +kernel
theorem y_X5_nothingsInLog : zYV yX5_nothingsInLog cX5_nothingsInLog 3 (some .int) := ⟨⟨mw_21_22, mw_1_14, by decide +kernel, by decide +kernel⟩, mw_21_20, mw_21_21⟩
theorem n_X5_nothingsInLog : (parseMethodDescriptor yX5_nothingsInLog.desc).map (fun d => d.parameters.length) = some 0 := by decide +kernel
theorem y_X5_waitingOfAll : zYV yX5_waitingOfAll cX5_waitingOfAll 1 (some .int) := ⟨⟨mw_22_3, mw_1_14, by decide +kernel, by decide +kernel⟩, mw_22_1, mw_22_2⟩
theorem n_X5_waitingOfAll : (parseMethodDescriptor yX5_waitingOfAll.desc).map (fun d => d.parameters.length) = some 0 := by decide +kernel
theorem y_X5_settledEditors : zYV yX5_settledEditors cX5_settledEditors 3 (some .int) := ⟨⟨mw_22_7, mw_1_14, by decide +kernel, by decide +kernel⟩, mw_22_5, mw_22_6⟩
theorem n_X5_settledEditors : (parseMethodDescriptor yX5_settledEditors.desc).map (fun d => d.parameters.length) = some 0 := by decide +kernel
theorem y_X2_isSettled : zYV yX2_isSettled cX2_isSettled 2 (some .boolean) := ⟨⟨mw_22_11, mw_2_9, by decide +kernel, by decide +kernel⟩, mw_22_9, mw_22_10⟩
theorem n_X2_isSettled : (parseMethodDescriptor yX2_isSettled.desc).map (fun d => d.parameters.length) = some 1 := by decide +kernel
theorem y_X7_count : zYV yX7_count cX7_count 2 (some .int) := ⟨⟨mw_22_15, mw_1_5, by decide +kernel, by decide +kernel⟩, mw_22_13, mw_22_14⟩
theorem n_X7_count : (parseMethodDescriptor yX7_count.desc).map (fun d => d.parameters.length) = some 1 := by decide +kernel
theorem y_X7_sum : zYV yX7_sum cX7_sum 5 (some .int) := ⟨⟨mw_22_20, mw_1_5, by decide +kernel, by decide +kernel⟩, mw_22_18, mw_22_19⟩
theorem n_X7_sum : (parseMethodDescriptor yX7_sum.desc).map (fun d => d.parameters.length) = some 1 := by decide +kernel
theorem y_X6_inTheEnd : zYV yX6_inTheEnd cX6_inTheEnd 3 (some .int) := ⟨⟨mw_23_0, mw_1_2, by decide +kernel, by decide +kernel⟩, mw_22_22, mw_22_23⟩
theorem n_X6_inTheEnd : (parseMethodDescriptor yX6_inTheEnd.desc).map (fun d => d.parameters.length) = some 2 := by decide +kernel
theorem y_X5_copyEndOf : zYV yX5_copyEndOf cX5_copyEndOf 6 none := ⟨⟨mw_23_4, mw_1_14, by decide +kernel, by decide +kernel⟩, mw_23_2, mw_23_3⟩
theorem n_X5_copyEndOf : (parseMethodDescriptor yX5_copyEndOf.desc).map (fun d => d.parameters.length) = some 2 := by decide +kernel
theorem y_X7_inTheEnd : zYV yX7_inTheEnd cX7_inTheEnd 3 (some .int) := ⟨⟨mw_23_9, mw_1_5, by decide +kernel, by decide +kernel⟩, mw_23_7, mw_23_8⟩
theorem n_X7_inTheEnd : (parseMethodDescriptor yX7_inTheEnd.desc).map (fun d => d.parameters.length) = some 2 := by decide +kernel
theorem y_X7_end : zYV yX7_end cX7_end 5 none := ⟨⟨mw_23_13, mw_1_5, by decide +kernel, by decide +kernel⟩, mw_23_11, mw_23_12⟩
theorem n_X7_end : (parseMethodDescriptor yX7_end.desc).map (fun d => d.parameters.length) = some 1 := by decide +kernel
theorem y_X7_putAside : zYV yX7_putAside cX7_putAside 2 none := ⟨⟨mw_23_18, mw_1_5, by decide +kernel, by decide +kernel⟩, mw_23_16, mw_23_17⟩
theorem n_X7_putAside : (parseMethodDescriptor yX7_putAside.desc).map (fun d => d.parameters.length) = some 0 := by decide +kernel
theorem y_X7_putBack : zYV yX7_putBack cX7_putBack 2 none := ⟨⟨mw_23_22, mw_1_5, by decide +kernel, by decide +kernel⟩, mw_23_20, mw_23_21⟩
theorem n_X7_putBack : (parseMethodDescriptor yX7_putBack.desc).map (fun d => d.parameters.length) = some 0 := by decide +kernel
theorem y_X6_both : zYV yX6_both cX6_both 2 (some .int) := ⟨⟨mw_24_2, mw_1_2, by decide +kernel, by decide +kernel⟩, mw_24_0, mw_24_1⟩
theorem n_X6_both : (parseMethodDescriptor yX6_both.desc).map (fun d => d.parameters.length) = some 1 := by decide +kernel
theorem y_X5_isOneText : zYV yX5_isOneText cX5_isOneText 1 (some .boolean) := ⟨⟨mw_24_6, mw_1_14, by decide +kernel, by decide +kernel⟩, mw_24_4, mw_24_5⟩
theorem n_X5_isOneText : (parseMethodDescriptor yX5_isOneText.desc).map (fun d => d.parameters.length) = some 0 := by decide +kernel
theorem y_X7_both : zYV yX7_both cX7_both 6 (some .int) := ⟨⟨mw_24_11, mw_1_5, by decide +kernel, by decide +kernel⟩, mw_24_9, mw_24_10⟩
theorem n_X7_both : (parseMethodDescriptor yX7_both.desc).map (fun d => d.parameters.length) = some 1 := by decide +kernel
theorem y_X6_wouldSend : zYV yX6_wouldSend cX6_wouldSend 4 (some .int) := ⟨⟨mw_24_15, mw_1_2, by decide +kernel, by decide +kernel⟩, mw_24_13, mw_24_14⟩
theorem n_X6_wouldSend : (parseMethodDescriptor yX6_wouldSend.desc).map (fun d => d.parameters.length) = some 2 := by decide +kernel
theorem y_X7_wouldSend : zYV yX7_wouldSend cX7_wouldSend 3 (some .int) := ⟨⟨mw_24_21, mw_1_5, by decide +kernel, by decide +kernel⟩, mw_24_19, mw_24_20⟩
theorem n_X7_wouldSend : (parseMethodDescriptor yX7_wouldSend.desc).map (fun d => d.parameters.length) = some 2 := by decide +kernel
theorem y_X6_undo : zYV yX6_undo cX6_undo 1 (some .int) := ⟨⟨mw_25_1, mw_1_2, by decide +kernel, by decide +kernel⟩, mw_24_23, mw_25_0⟩
theorem n_X6_undo : (parseMethodDescriptor yX6_undo.desc).map (fun d => d.parameters.length) = some 0 := by decide +kernel
theorem y_X3_restore : zYV yX3_restore cX3_restore 3 none := ⟨⟨mw_25_5, mw_1_21, by decide +kernel, by decide +kernel⟩, mw_25_3, mw_25_4⟩
theorem n_X3_restore : (parseMethodDescriptor yX3_restore.desc).map (fun d => d.parameters.length) = some 1 := by decide +kernel
theorem y_X7_undo : zYV yX7_undo cX7_undo 2 (some .int) := ⟨⟨mw_25_10, mw_1_5, by decide +kernel, by decide +kernel⟩, mw_25_8, mw_25_9⟩
theorem n_X7_undo : (parseMethodDescriptor yX7_undo.desc).map (fun d => d.parameters.length) = some 0 := by decide +kernel
theorem y_X6_type : zYV yX6_type cX6_type 2 (some .int) := ⟨⟨mw_25_14, mw_1_2, by decide +kernel, by decide +kernel⟩, mw_25_12, mw_25_13⟩
theorem n_X6_type : (parseMethodDescriptor yX6_type.desc).map (fun d => d.parameters.length) = some 1 := by decide +kernel
theorem y_X7_type : zYV yX7_type cX7_type 2 (some .int) := ⟨⟨mw_25_19, mw_1_5, by decide +kernel, by decide +kernel⟩, mw_25_17, mw_25_18⟩
theorem n_X7_type : (parseMethodDescriptor yX7_type.desc).map (fun d => d.parameters.length) = some 1 := by decide +kernel
theorem y_X6_clearText : zYV yX6_clearText cX6_clearText 2 (some .int) := ⟨⟨mw_25_23, mw_1_2, by decide +kernel, by decide +kernel⟩, mw_25_21, mw_25_22⟩
theorem n_X6_clearText : (parseMethodDescriptor yX6_clearText.desc).map (fun d => d.parameters.length) = some 0 := by decide +kernel
theorem y_X7_clearText : zYV yX7_clearText cX7_clearText 2 (some .int) := ⟨⟨mw_26_4, mw_1_5, by decide +kernel, by decide +kernel⟩, mw_26_2, mw_26_3⟩
theorem n_X7_clearText : (parseMethodDescriptor yX7_clearText.desc).map (fun d => d.parameters.length) = some 0 := by decide +kernel
theorem y_X6_fault : zYV yX6_fault cX6_fault 2 (some .int) := ⟨⟨mw_26_8, mw_1_2, by decide +kernel, by decide +kernel⟩, mw_26_6, mw_26_7⟩
theorem n_X6_fault : (parseMethodDescriptor yX6_fault.desc).map (fun d => d.parameters.length) = some 1 := by decide +kernel
theorem y_X1_runOn : zYV yX1_runOn cX1_runOn 5 none := ⟨⟨mw_26_13, mw_2_1, by decide +kernel, by decide +kernel⟩, mw_26_11, mw_26_12⟩
theorem n_X1_runOn : (parseMethodDescriptor yX1_runOn.desc).map (fun d => d.parameters.length) = some 1 := by decide +kernel
theorem y_X1_read : zYV yX1_read cX1_read 7 (some .int) := ⟨⟨mw_26_22, mw_2_1, by decide +kernel, by decide +kernel⟩, mw_26_20, mw_26_21⟩
theorem n_X1_read : (parseMethodDescriptor yX1_read.desc).map (fun d => d.parameters.length) = some 1 := by decide +kernel
theorem y_X1_numbersOf : zYS yX1_numbersOf cX1_numbersOf 1 (some .int) := ⟨⟨mw_27_2, mw_2_1, by decide +kernel, by decide +kernel⟩, mw_27_1⟩
theorem n_X1_numbersOf : (parseMethodDescriptor yX1_numbersOf.desc).map (fun d => d.parameters.length) = some 1 := by decide +kernel
theorem y_X1_digitsAt : zYV yX1_digitsAt cX1_digitsAt 2 (some .int) := ⟨⟨mw_27_7, mw_2_1, by decide +kernel, by decide +kernel⟩, mw_27_5, mw_27_6⟩
theorem n_X1_digitsAt : (parseMethodDescriptor yX1_digitsAt.desc).map (fun d => d.parameters.length) = some 1 := by decide +kernel
theorem y_X1_isDigit : zYS yX1_isDigit cX1_isDigit 1 (some .boolean) := ⟨⟨mw_27_10, mw_2_1, by decide +kernel, by decide +kernel⟩, mw_27_9⟩
theorem n_X1_isDigit : (parseMethodDescriptor yX1_isDigit.desc).map (fun d => d.parameters.length) = some 1 := by decide +kernel
theorem y_X1_numberAt : zYV yX1_numberAt cX1_numberAt 4 (some .int) := ⟨⟨mw_27_14, mw_2_1, by decide +kernel, by decide +kernel⟩, mw_27_12, mw_27_13⟩
theorem n_X1_numberAt : (parseMethodDescriptor yX1_numberAt.desc).map (fun d => d.parameters.length) = some 2 := by decide +kernel
theorem y_X7_fault : zYV yX7_fault cX7_fault 2 (some .int) := ⟨⟨mw_27_20, mw_1_5, by decide +kernel, by decide +kernel⟩, mw_27_18, mw_27_19⟩
theorem n_X7_fault : (parseMethodDescriptor yX7_fault.desc).map (fun d => d.parameters.length) = some 1 := by decide +kernel
theorem y_X7_look : zYV yX7_look cX7_look 2 none := ⟨⟨mw_28_3, mw_1_5, by decide +kernel, by decide +kernel⟩, mw_28_1, mw_28_2⟩
theorem n_X7_look : (parseMethodDescriptor yX7_look.desc).map (fun d => d.parameters.length) = some 0 := by decide +kernel
theorem y_X7_go : zYV yX7_go cX7_go 2 (some .int) := ⟨⟨mw_28_7, mw_1_5, by decide +kernel, by decide +kernel⟩, mw_28_5, mw_28_6⟩
theorem n_X7_go : (parseMethodDescriptor yX7_go.desc).map (fun d => d.parameters.length) = some 0 := by decide +kernel
theorem y_X7_read : zYV yX7_read cX7_read 5 none := ⟨⟨mw_28_13, mw_1_5, by decide +kernel, by decide +kernel⟩, mw_28_11, mw_28_12⟩
theorem n_X7_read : (parseMethodDescriptor yX7_read.desc).map (fun d => d.parameters.length) = some 0 := by decide +kernel
theorem y_X7_sign : zYV yX7_sign cX7_sign 4 (some .int) := ⟨⟨mw_28_17, mw_1_5, by decide +kernel, by decide +kernel⟩, mw_28_15, mw_28_16⟩
theorem n_X7_sign : (parseMethodDescriptor yX7_sign.desc).map (fun d => d.parameters.length) = some 2 := by decide +kernel
theorem y_X7_number : zYV yX7_number cX7_number 3 (some .int) := ⟨⟨mw_28_21, mw_1_5, by decide +kernel, by decide +kernel⟩, mw_28_19, mw_28_20⟩
theorem n_X7_number : (parseMethodDescriptor yX7_number.desc).map (fun d => d.parameters.length) = some 0 := by decide +kernel
theorem y_X7_does : zYV yX7_does cX7_does 6 (some .int) := ⟨⟨mw_29_1, mw_1_5, by decide +kernel, by decide +kernel⟩, mw_28_23, mw_29_0⟩
theorem n_X7_does : (parseMethodDescriptor yX7_does.desc).map (fun d => d.parameters.length) = some 0 := by decide +kernel
theorem y_X6_play : zYV yX6_play cX6_play 1 (some .int) := ⟨⟨mw_29_5, mw_1_2, by decide +kernel, by decide +kernel⟩, mw_29_3, mw_29_4⟩
theorem n_X6_play : (parseMethodDescriptor yX6_play.desc).map (fun d => d.parameters.length) = some 0 := by decide +kernel
theorem y_X7_play : zYV yX7_play cX7_play 1 (some .int) := ⟨⟨mw_29_9, mw_1_5, by decide +kernel, by decide +kernel⟩, mw_29_7, mw_29_8⟩
theorem n_X7_play : (parseMethodDescriptor yX7_play.desc).map (fun d => d.parameters.length) = some 0 := by decide +kernel
section ZC0
variable {p : Program} {l : Launch} {e : Env} {R : Room} {s : State} {m : MethodId} {args : Array Value} {below : List Frame} {meth : Method} {c : Code} {own : String} {cc : ByteArray} {nL : Nat} {ret : Option FieldType} {D : va_G} {cI : ClassId} {A : Nat → Prop} {cells slots : Nat} {Qf : State → Prop} {bs : List va_W} {pc : Nat} {ls : List (Option Value)} {st : List Value}
theorem z_callV0 (C : ZC p s m args meth c own cc nL ret D cI A) {S : Type} {y : MethodName} {yc : ByteArray} {yL : Nat} {yr : Option FieldType} {rm : Room} {rv : S → Option Value} {w1 : S → List va_W} {Q : S → Prop} {As rest : List Value} {idx : Nat} (wc wr : List va_W) {b ci N : Nat} {T : u_T} {fs : List Value} (hci : vwCl[ci]? = some (y.cls, T, N)) (hrc : wc.flatten[0]? = some (b, .inr (ci, fs))) (hM : ZM l D cI y yc yL yr rm (.ref b :: As) wc rv w1 Q) (hy : zYV y yc yL yr) (hlk : Cond.methodLink own idx y ∈ wsL_law) (hdg : decode cc pc = .ok (.invokevirtual idx, 3)) (hst : st = As.reverse ++ .ref b :: rest) {n : Nat} (hn : (parseMethodDescriptor y.desc).map (fun d => d.parameters.length) = some n) (hn2 : As.length = n) (hR : rm.frames + 1 ≤ R.frames ∧ 8 + (yL + 11) + rm.locals ≤ R.locals) (hc0 : rm.cells = 0 ∧ rm.slots = 0 ∧ cells ≤ R.cells ∧ slots ≤ R.slots) (hrest : (rest.map fun v => v.category).sum ≤ 8) (hp : bs.Perm (wc ++ wr)) (kk : ∀ u : S, Q u → ZZ p l e R s m args below meth c D A nL cells slots Qf (w1 u ++ wr) (pc + 3) ls ((rv u).toList ++ rest)) : ZZ p l e R s m args below meth c D A nL cells slots Qf bs pc ls st :=
  z_callV C hci hrc hM hy hlk hdg hst (hn2 ▸ hn) hR ⟨by rw [hc0.1]; exact hc0.2.2.1, by rw [hc0.2.1]; exact hc0.2.2.2⟩ hrest hp (fun u hu => by rw [hc0.1, hc0.2.1]; exact kk u hu)
theorem z_callFV (C : ZC p s m args meth c own cc nL ret D cI A) {y : MethodName} {yc : ByteArray} {yL : Nat} {yr : Option FieldType} {rm : Room} {v : Value} {As rest : List Value} {idx : Nat} (wc wr : List va_W) {b ci N : Nat} {T : u_T} {fs : List Value} (hci : vwCl[ci]? = some (y.cls, T, N)) (hrc : wc.flatten[0]? = some (b, .inr (ci, fs))) (hM : ZM l D cI y yc yL yr rm (.ref b :: As) wc (fun _ : Unit => some v) (fun _ => wc) (fun _ => True)) (hy : zYV y yc yL yr) (hlk : Cond.methodLink own idx y ∈ wsL_law) (hdg : decode cc pc = .ok (.invokevirtual idx, 3)) (hst : st = As.reverse ++ .ref b :: rest) {n : Nat} (hn : (parseMethodDescriptor y.desc).map (fun d => d.parameters.length) = some n) (hn2 : As.length = n) (hR : rm.frames + 1 ≤ R.frames ∧ 8 + (yL + 11) + rm.locals ≤ R.locals) (hc0 : rm.cells = 0 ∧ rm.slots = 0 ∧ cells ≤ R.cells ∧ slots ≤ R.slots) (hrest : (rest.map fun v => v.category).sum ≤ 8) (hp : bs.Perm (wc ++ wr)) (kk : ZZ p l e R s m args below meth c D A nL cells slots Qf bs (pc + 3) ls (v :: rest)) : ZZ p l e R s m args below meth c D A nL cells slots Qf bs pc ls st :=
  z_callV0 C wc wr hci hrc hM hy hlk hdg hst hn hn2 hR hc0 hrest hp (fun u _ => z_perm C bs hp.symm kk)
theorem z_callS0 (C : ZC p s m args meth c own cc nL ret D cI A) {S : Type} {y : MethodName} {yc : ByteArray} {yL : Nat} {yr : Option FieldType} {rm : Room} {rv : S → Option Value} {w1 : S → List va_W} {Q : S → Prop} {As rest : List Value} {idx : Nat} (wc wr : List va_W) (hM : ZM l D cI y yc yL yr rm As wc rv w1 Q) (hy : zYS y yc yL yr) (hlk : Cond.methodLink own idx y ∈ wsL_law) (hdg : decode cc pc = .ok (.invokestatic idx, 3)) (hst : st = As.reverse ++ rest) {n : Nat} (hn : (parseMethodDescriptor y.desc).map (fun d => d.parameters.length) = some n) (hn2 : As.length = n) (hR : rm.frames + 1 ≤ R.frames ∧ 8 + (yL + 11) + rm.locals ≤ R.locals) (hc0 : rm.cells = 0 ∧ rm.slots = 0 ∧ cells ≤ R.cells ∧ slots ≤ R.slots) (hrest : (rest.map fun v => v.category).sum ≤ 8) (hp : bs.Perm (wc ++ wr)) (kk : ∀ u : S, Q u → ZZ p l e R s m args below meth c D A nL cells slots Qf (w1 u ++ wr) (pc + 3) ls ((rv u).toList ++ rest)) : ZZ p l e R s m args below meth c D A nL cells slots Qf bs pc ls st :=
  z_callS C hM hy hlk hdg hst (hn2 ▸ hn) hR ⟨by rw [hc0.1]; exact hc0.2.2.1, by rw [hc0.2.1]; exact hc0.2.2.2⟩ hrest hp (fun u hu => by rw [hc0.1, hc0.2.1]; exact kk u hu)
theorem z_callFS (C : ZC p s m args meth c own cc nL ret D cI A) {y : MethodName} {yc : ByteArray} {yL : Nat} {yr : Option FieldType} {rm : Room} {v : Value} {As rest : List Value} {idx : Nat} (wc wr : List va_W) (hM : ZM l D cI y yc yL yr rm As wc (fun _ : Unit => some v) (fun _ => wc) (fun _ => True)) (hy : zYS y yc yL yr) (hlk : Cond.methodLink own idx y ∈ wsL_law) (hdg : decode cc pc = .ok (.invokestatic idx, 3)) (hst : st = As.reverse ++ rest) {n : Nat} (hn : (parseMethodDescriptor y.desc).map (fun d => d.parameters.length) = some n) (hn2 : As.length = n) (hR : rm.frames + 1 ≤ R.frames ∧ 8 + (yL + 11) + rm.locals ≤ R.locals) (hc0 : rm.cells = 0 ∧ rm.slots = 0 ∧ cells ≤ R.cells ∧ slots ≤ R.slots) (hrest : (rest.map fun v => v.category).sum ≤ 8) (hp : bs.Perm (wc ++ wr)) (kk : ZZ p l e R s m args below meth c D A nL cells slots Qf bs (pc + 3) ls (v :: rest)) : ZZ p l e R s m args below meth c D A nL cells slots Qf bs pc ls st :=
  z_callS0 C wc wr hM hy hlk hdg hst hn hn2 hR hc0 hrest hp (fun u _ => z_perm C bs hp.symm kk)
theorem z_callSN0 (C : ZC p s m args meth c own cc nL ret D cI A) {S : Type} {y : MethodName} {yc : ByteArray} {yL : Nat} {yr : Option FieldType} {rm : Room} {rv : S → Option Value} {w1 : S → List va_W} {Q : S → Prop} {As rest : List Value} {idx : Nat} (wc wr : List va_W) {host : String} (hM : ZM l D cI y yc yL yr rm As wc rv w1 Q) (hy : zYS y yc yL yr) (hlk : Cond.methodLinkNest own idx y host ∈ z_nest) (hdg : decode cc pc = .ok (.invokestatic idx, 3)) (hst : st = As.reverse ++ rest) {n : Nat} (hn : (parseMethodDescriptor y.desc).map (fun d => d.parameters.length) = some n) (hn2 : As.length = n) (hR : rm.frames + 1 ≤ R.frames ∧ 8 + (yL + 11) + rm.locals ≤ R.locals) (hc0 : rm.cells = 0 ∧ rm.slots = 0 ∧ cells ≤ R.cells ∧ slots ≤ R.slots) (hrest : (rest.map fun v => v.category).sum ≤ 8) (hp : bs.Perm (wc ++ wr)) (kk : ∀ u : S, Q u → ZZ p l e R s m args below meth c D A nL cells slots Qf (w1 u ++ wr) (pc + 3) ls ((rv u).toList ++ rest)) : ZZ p l e R s m args below meth c D A nL cells slots Qf bs pc ls st :=
  z_callSN C hM hy hlk hdg hst (hn2 ▸ hn) hR ⟨by rw [hc0.1]; exact hc0.2.2.1, by rw [hc0.2.1]; exact hc0.2.2.2⟩ hrest hp (fun u hu => by rw [hc0.1, hc0.2.1]; exact kk u hu)
theorem z_callFSN (C : ZC p s m args meth c own cc nL ret D cI A) {y : MethodName} {yc : ByteArray} {yL : Nat} {yr : Option FieldType} {rm : Room} {v : Value} {As rest : List Value} {idx : Nat} (wc wr : List va_W) {host : String} (hM : ZM l D cI y yc yL yr rm As wc (fun _ : Unit => some v) (fun _ => wc) (fun _ => True)) (hy : zYS y yc yL yr) (hlk : Cond.methodLinkNest own idx y host ∈ z_nest) (hdg : decode cc pc = .ok (.invokestatic idx, 3)) (hst : st = As.reverse ++ rest) {n : Nat} (hn : (parseMethodDescriptor y.desc).map (fun d => d.parameters.length) = some n) (hn2 : As.length = n) (hR : rm.frames + 1 ≤ R.frames ∧ 8 + (yL + 11) + rm.locals ≤ R.locals) (hc0 : rm.cells = 0 ∧ rm.slots = 0 ∧ cells ≤ R.cells ∧ slots ≤ R.slots) (hrest : (rest.map fun v => v.category).sum ≤ 8) (hp : bs.Perm (wc ++ wr)) (kk : ZZ p l e R s m args below meth c D A nL cells slots Qf bs (pc + 3) ls (v :: rest)) : ZZ p l e R s m args below meth c D A nL cells slots Qf bs pc ls st :=
  z_callSN0 C wc wr hM hy hlk hdg hst hn hn2 hR hc0 hrest hp (fun u _ => z_perm C bs hp.symm kk)
theorem z_bs (bs1 : List va_W) (st1 : List Value) (h1 : bs = bs1) (h2 : st = st1) (kk : ZZ p l e R s m args below meth c D A nL cells slots Qf bs1 pc ls st1) : ZZ p l e R s m args below meth c D A nL cells slots Qf bs pc ls st := by
  subst h1; subst h2; exact kk
theorem z_top (C : ZC p s m args meth c own cc nL ret D cI A) {x : Int32} (v : Int32) (h : x = v) (kk : ZZ p l e R s m args below meth c D A nL cells slots Qf bs pc ls (.int v :: st)) : ZZ p l e R s m args below meth c D A nL cells slots Qf bs pc ls (.int x :: st) := by
  subst h; exact kk
theorem z_focus (bi : Nat) {k : Nat} (hk : k < 3) {g : Nat → Nat} {t : zT} (bs1 : List va_W) (hbi : bs[bi]? = some (wS cI g t)) (h : bs.take bi ++ ([wF cI g t k (tEd t k)] ++ bs.drop (bi + 1)) = bs1) (kk : ZZ p l e R s m args below meth c D A nL cells slots Qf bs1 pc ls st) : ZZ p l e R s m args below meth c D A nL cells slots Qf bs pc ls st :=
  z_openP bi _ bs1 hbi (by simpa using wF_focus hk) h kk
theorem z_unfocus (bi : Nat) {k : Nat} (hk : k < 3) {g : Nat → Nat} {t : zT} {e0 : zE} (t1 : zT) (bs1 : List va_W) (ht : tSetEd t k e0 = t1) (hbi : bs[bi]? = some (wF cI g t k e0)) (h : bs.take bi ++ ([wS cI g t1] ++ bs.drop (bi + 1)) = bs1) (kk : ZZ p l e R s m args below meth c D A nL cells slots Qf bs1 pc ls st) : ZZ p l e R s m args below meth c D A nL cells slots Qf bs pc ls st := by
  subst ht
  exact z_openP bi _ bs1 hbi (by simpa using wF_perm hk) h kk
theorem z_unfocus0 (bi : Nat) {k : Nat} (hk : k < 3) {g : Nat → Nat} {t : zT} (bs1 : List va_W) (hbi : bs[bi]? = some (wF cI g t k (tEd t k))) (h : bs.take bi ++ ([wS cI g t] ++ bs.drop (bi + 1)) = bs1) (kk : ZZ p l e R s m args below meth c D A nL cells slots Qf bs1 pc ls st) : ZZ p l e R s m args below meth c D A nL cells slots Qf bs pc ls st :=
  z_openP bi _ bs1 hbi (by simpa using (wF_focus hk).symm) h kk
theorem z_tableAt (C : ZC p s m args meth c own cc nL ret D cI A) {dflt lo hi : Int} {offs : Array Int} {len : Nat} {x : Int32} (hdg : decode cc pc = .ok (.tableswitch dflt lo hi offs, len)) (v : Int32) (hx : x = v) (h1 : ¬ v.toInt < lo) (h2 : ¬ hi < v.toInt) (off : Int) (ho : offs[(v.toInt - lo).toNat]? = some off) (tgt : Nat) (ht : (pc : Int) + off = (tgt : Int)) (kk : ZZ p l e R s m args below meth c D A nL cells slots Qf bs tgt ls st) : ZZ p l e R s m args below meth c D A nL cells slots Qf bs pc ls (.int x :: st) := by
  subst hx; exact z_tableIn C hdg h1 h2 off ho tgt ht kk
theorem z_lookupAt (C : ZC p s m args meth c own cc nL ret D cI A) {dflt : Int} {ps : Array (Int × Int)} {len : Nat} {x : Int32} (hdg : decode cc pc = .ok (.lookupswitch dflt ps, len)) (hp : (ps.toList.zip (ps.toList.drop 1)).all (fun (a, next) => a.1 < next.1) = true) (v : Int32) (hx : x = v) (off : Int) (ho : Op.lookupswitch.offset ps.toList dflt v.toInt = off) (tgt : Nat) (ht : (pc : Int) + off = (tgt : Int)) (kk : ZZ p l e R s m args below meth c D A nL cells slots Qf bs tgt ls st) : ZZ p l e R s m args below meth c D A nL cells slots Qf bs pc ls (.int x :: st) := by
  subst hx; exact z_lookup C hdg hp off ho tgt ht kk
end ZC0
def zB (x : Int32) : Prop := narrow .boolean (.int x) = .int x ∧ fits .boolean (.int x) = true
def z3 {α : Type} (a b c : α) : Nat → α
  | 0 => a
  | 1 => b
  | _ => c
def z5 {α : Type} (a b c d e : α) : Nat → α
  | 0 => a
  | 1 => b
  | 2 => c
  | 3 => d
  | _ => e
end
section
theorem dX0_of_0 : decode cX0_of 0 = .ok (.iload_n 0, 1) := by decide +kernel
theorem dX0_of_1 : decode cX0_of 1 = .ok (.iload_n 3, 1) := by decide +kernel
theorem dX0_of_2 : decode cX0_of 2 = .ok (.iconst 2, 1) := by decide +kernel
theorem dX0_of_3 : decode cX0_of 3 = .ok (.ishl, 1) := by decide +kernel
theorem dX0_of_4 : decode cX0_of 4 = .ok (.ior, 1) := by decide +kernel
theorem dX0_of_5 : decode cX0_of 5 = .ok (.iload_n 2, 1) := by decide +kernel
theorem dX0_of_6 : decode cX0_of 6 = .ok (.iconst 4, 1) := by decide +kernel
theorem dX0_of_7 : decode cX0_of 7 = .ok (.ishl, 1) := by decide +kernel
theorem dX0_of_8 : decode cX0_of 8 = .ok (.ior, 1) := by decide +kernel
theorem dX0_of_9 : decode cX0_of 9 = .ok (.iload_n 1, 1) := by decide +kernel
theorem dX0_of_10 : decode cX0_of 10 = .ok (.bipush 9, 2) := by decide +kernel
theorem dX0_of_12 : decode cX0_of 12 = .ok (.ishl, 1) := by decide +kernel
theorem dX0_of_13 : decode cX0_of 13 = .ok (.ior, 1) := by decide +kernel
theorem dX0_of_14 : decode cX0_of 14 = .ok (.ireturn, 1) := by decide +kernel
theorem dX0_kind_0 : decode cX0_kind 0 = .ok (.iload_n 0, 1) := by decide +kernel
theorem dX0_kind_1 : decode cX0_kind 1 = .ok (.iconst 3, 1) := by decide +kernel
theorem dX0_kind_2 : decode cX0_kind 2 = .ok (.iand, 1) := by decide +kernel
theorem dX0_kind_3 : decode cX0_kind 3 = .ok (.ireturn, 1) := by decide +kernel
theorem dX0_place_0 : decode cX0_place 0 = .ok (.iload_n 0, 1) := by decide +kernel
theorem dX0_place_1 : decode cX0_place 1 = .ok (.bipush 9, 2) := by decide +kernel
theorem dX0_place_3 : decode cX0_place 3 = .ok (.ishr, 1) := by decide +kernel
theorem dX0_place_4 : decode cX0_place 4 = .ok (.ireturn, 1) := by decide +kernel
theorem dX0_sign_0 : decode cX0_sign 0 = .ok (.iload_n 0, 1) := by decide +kernel
theorem dX0_sign_1 : decode cX0_sign 1 = .ok (.iconst 4, 1) := by decide +kernel
theorem dX0_sign_2 : decode cX0_sign 2 = .ok (.ishr, 1) := by decide +kernel
theorem dX0_sign_3 : decode cX0_sign 3 = .ok (.bipush 31, 2) := by decide +kernel
theorem dX0_sign_5 : decode cX0_sign 5 = .ok (.iand, 1) := by decide +kernel
theorem dX0_sign_6 : decode cX0_sign 6 = .ok (.ireturn, 1) := by decide +kernel
theorem dX0_writer_0 : decode cX0_writer 0 = .ok (.iload_n 0, 1) := by decide +kernel
theorem dX0_writer_1 : decode cX0_writer 1 = .ok (.bipush 12, 2) := by decide +kernel
theorem dX0_writer_3 : decode cX0_writer 3 = .ok (.iand, 1) := by decide +kernel
theorem dX0_writer_4 : decode cX0_writer 4 = .ok (.iconst 2, 1) := by decide +kernel
theorem dX0_writer_5 : decode cX0_writer 5 = .ok (.ishr, 1) := by decide +kernel
theorem dX0_writer_6 : decode cX0_writer 6 = .ok (.ireturn, 1) := by decide +kernel
theorem dX0_part_0 : decode cX0_part 0 = .ok (.iload_n 0, 1) := by decide +kernel
theorem dX0_part_1 : decode cX0_part 1 = .ok (.invokestatic 11, 3) := by decide +kernel
theorem dX0_part_4 : decode cX0_part 4 = .ok (.istore_n 2, 1) := by decide +kernel
theorem dX0_part_5 : decode cX0_part 5 = .ok (.iload_n 1, 1) := by decide +kernel
theorem dX0_part_6 : decode cX0_part 6 = .ok (.tableswitch 57 0 2 #[26, 28, 42], 26) := by decide +kernel
theorem dX0_part_32 : decode cX0_part 32 = .ok (.iload_n 2, 1) := by decide +kernel
theorem dX0_part_33 : decode cX0_part 33 = .ok (.ireturn, 1) := by decide +kernel
theorem dX0_part_34 : decode cX0_part 34 = .ok (.iload_n 2, 1) := by decide +kernel
theorem dX0_part_35 : decode cX0_part 35 = .ok (.ifCond .ne 8, 3) := by decide +kernel
theorem dX0_part_38 : decode cX0_part 38 = .ok (.bipush (-4), 2) := by decide +kernel
theorem dX0_part_40 : decode cX0_part 40 = .ok (.goto 7, 3) := by decide +kernel
theorem dX0_part_43 : decode cX0_part 43 = .ok (.iload_n 0, 1) := by decide +kernel
theorem dX0_part_44 : decode cX0_part 44 = .ok (.invokestatic 15, 3) := by decide +kernel
theorem dX0_part_47 : decode cX0_part 47 = .ok (.ireturn, 1) := by decide +kernel
theorem dX0_part_48 : decode cX0_part 48 = .ok (.iload_n 2, 1) := by decide +kernel
theorem dX0_part_49 : decode cX0_part 49 = .ok (.iconst 1, 1) := by decide +kernel
theorem dX0_part_50 : decode cX0_part 50 = .ok (.if_icmp .ne 10, 3) := by decide +kernel
theorem dX0_part_53 : decode cX0_part 53 = .ok (.iload_n 0, 1) := by decide +kernel
theorem dX0_part_54 : decode cX0_part 54 = .ok (.invokestatic 18, 3) := by decide +kernel
theorem dX0_part_57 : decode cX0_part 57 = .ok (.goto 5, 3) := by decide +kernel
theorem dX0_part_60 : decode cX0_part 60 = .ok (.bipush (-4), 2) := by decide +kernel
theorem dX0_part_62 : decode cX0_part 62 = .ok (.ireturn, 1) := by decide +kernel
theorem dX0_part_63 : decode cX0_part 63 = .ok (.iload_n 0, 1) := by decide +kernel
theorem dX0_part_64 : decode cX0_part 64 = .ok (.invokestatic 21, 3) := by decide +kernel
theorem dX0_part_67 : decode cX0_part 67 = .ok (.ireturn, 1) := by decide +kernel
theorem dX0_reshaped_0 : decode cX0_reshaped 0 = .ok (.iload_n 0, 1) := by decide +kernel
theorem dX0_reshaped_1 : decode cX0_reshaped 1 = .ok (.iconst 3, 1) := by decide +kernel
theorem dX0_reshaped_2 : decode cX0_reshaped 2 = .ok (.iand, 1) := by decide +kernel
theorem dX0_reshaped_3 : decode cX0_reshaped 3 = .ok (.istore_n 2, 1) := by decide +kernel
theorem dX0_reshaped_4 : decode cX0_reshaped 4 = .ok (.iload_n 1, 1) := by decide +kernel
theorem dX0_reshaped_5 : decode cX0_reshaped 5 = .ok (.iconst 3, 1) := by decide +kernel
theorem dX0_reshaped_6 : decode cX0_reshaped 6 = .ok (.iand, 1) := by decide +kernel
theorem dX0_reshaped_7 : decode cX0_reshaped 7 = .ok (.istore_n 3, 1) := by decide +kernel
theorem dX0_reshaped_8 : decode cX0_reshaped 8 = .ok (.iload_n 2, 1) := by decide +kernel
theorem dX0_reshaped_9 : decode cX0_reshaped 9 = .ok (.ifCond .eq 7, 3) := by decide +kernel
theorem dX0_reshaped_12 : decode cX0_reshaped 12 = .ok (.iload_n 3, 1) := by decide +kernel
theorem dX0_reshaped_13 : decode cX0_reshaped 13 = .ok (.ifCond .ne 5, 3) := by decide +kernel
theorem dX0_reshaped_16 : decode cX0_reshaped 16 = .ok (.iload_n 0, 1) := by decide +kernel
theorem dX0_reshaped_17 : decode cX0_reshaped 17 = .ok (.ireturn, 1) := by decide +kernel
theorem dX0_reshaped_18 : decode cX0_reshaped 18 = .ok (.iload_n 0, 1) := by decide +kernel
theorem dX0_reshaped_19 : decode cX0_reshaped 19 = .ok (.bipush 9, 2) := by decide +kernel
theorem dX0_reshaped_21 : decode cX0_reshaped 21 = .ok (.ishr, 1) := by decide +kernel
theorem dX0_reshaped_22 : decode cX0_reshaped 22 = .ok (.istore 4, 2) := by decide +kernel
theorem dX0_reshaped_24 : decode cX0_reshaped 24 = .ok (.iload_n 1, 1) := by decide +kernel
theorem dX0_reshaped_25 : decode cX0_reshaped 25 = .ok (.bipush 9, 2) := by decide +kernel
theorem dX0_reshaped_27 : decode cX0_reshaped 27 = .ok (.ishr, 1) := by decide +kernel
theorem dX0_reshaped_28 : decode cX0_reshaped 28 = .ok (.istore 5, 2) := by decide +kernel
theorem dX0_reshaped_30 : decode cX0_reshaped 30 = .ok (.iload 5, 2) := by decide +kernel
theorem dX0_reshaped_32 : decode cX0_reshaped 32 = .ok (.iload 4, 2) := by decide +kernel
theorem dX0_reshaped_34 : decode cX0_reshaped 34 = .ok (.if_icmp .ne 7, 3) := by decide +kernel
theorem dX0_reshaped_37 : decode cX0_reshaped 37 = .ok (.iconst 1, 1) := by decide +kernel
theorem dX0_reshaped_38 : decode cX0_reshaped 38 = .ok (.goto 4, 3) := by decide +kernel
theorem dX0_reshaped_41 : decode cX0_reshaped 41 = .ok (.iconst 0, 1) := by decide +kernel
theorem dX0_reshaped_42 : decode cX0_reshaped 42 = .ok (.istore 6, 2) := by decide +kernel
theorem dX0_reshaped_44 : decode cX0_reshaped 44 = .ok (.iload_n 3, 1) := by decide +kernel
theorem dX0_reshaped_45 : decode cX0_reshaped 45 = .ok (.iconst 1, 1) := by decide +kernel
theorem dX0_reshaped_46 : decode cX0_reshaped 46 = .ok (.if_icmp .ne 65, 3) := by decide +kernel
theorem dX0_reshaped_49 : decode cX0_reshaped 49 = .ok (.iload_n 1, 1) := by decide +kernel
theorem dX0_reshaped_50 : decode cX0_reshaped 50 = .ok (.bipush 12, 2) := by decide +kernel
theorem dX0_reshaped_52 : decode cX0_reshaped 52 = .ok (.iand, 1) := by decide +kernel
theorem dX0_reshaped_53 : decode cX0_reshaped 53 = .ok (.iload_n 0, 1) := by decide +kernel
theorem dX0_reshaped_54 : decode cX0_reshaped 54 = .ok (.bipush 12, 2) := by decide +kernel
theorem dX0_reshaped_56 : decode cX0_reshaped 56 = .ok (.iand, 1) := by decide +kernel
theorem dX0_reshaped_57 : decode cX0_reshaped 57 = .ok (.if_icmp .ge 7, 3) := by decide +kernel
theorem dX0_reshaped_60 : decode cX0_reshaped 60 = .ok (.iconst 1, 1) := by decide +kernel
theorem dX0_reshaped_61 : decode cX0_reshaped 61 = .ok (.goto 4, 3) := by decide +kernel
theorem dX0_reshaped_64 : decode cX0_reshaped 64 = .ok (.iconst 0, 1) := by decide +kernel
theorem dX0_reshaped_65 : decode cX0_reshaped 65 = .ok (.istore 7, 2) := by decide +kernel
theorem dX0_reshaped_67 : decode cX0_reshaped 67 = .ok (.iload 6, 2) := by decide +kernel
theorem dX0_reshaped_69 : decode cX0_reshaped 69 = .ok (.ifCond .eq 17, 3) := by decide +kernel
theorem dX0_reshaped_72 : decode cX0_reshaped 72 = .ok (.iload_n 2, 1) := by decide +kernel
theorem dX0_reshaped_73 : decode cX0_reshaped 73 = .ok (.iconst 2, 1) := by decide +kernel
theorem dX0_reshaped_74 : decode cX0_reshaped 74 = .ok (.if_icmp .eq 8, 3) := by decide +kernel
theorem dX0_reshaped_77 : decode cX0_reshaped 77 = .ok (.iload 7, 2) := by decide +kernel
theorem dX0_reshaped_79 : decode cX0_reshaped 79 = .ok (.ifCond .eq 7, 3) := by decide +kernel
theorem dX0_reshaped_82 : decode cX0_reshaped 82 = .ok (.iconst 1, 1) := by decide +kernel
theorem dX0_reshaped_83 : decode cX0_reshaped 83 = .ok (.goto 4, 3) := by decide +kernel
theorem dX0_reshaped_86 : decode cX0_reshaped 86 = .ok (.iconst 0, 1) := by decide +kernel
theorem dX0_reshaped_87 : decode cX0_reshaped 87 = .ok (.istore 8, 2) := by decide +kernel
theorem dX0_reshaped_89 : decode cX0_reshaped 89 = .ok (.iload 5, 2) := by decide +kernel
theorem dX0_reshaped_91 : decode cX0_reshaped 91 = .ok (.iload 4, 2) := by decide +kernel
theorem dX0_reshaped_93 : decode cX0_reshaped 93 = .ok (.if_icmp .lt 8, 3) := by decide +kernel
theorem dX0_reshaped_96 : decode cX0_reshaped 96 = .ok (.iload 8, 2) := by decide +kernel
theorem dX0_reshaped_98 : decode cX0_reshaped 98 = .ok (.ifCond .eq 11, 3) := by decide +kernel
theorem dX0_reshaped_101 : decode cX0_reshaped 101 = .ok (.iload_n 0, 1) := by decide +kernel
theorem dX0_reshaped_102 : decode cX0_reshaped 102 = .ok (.sipush 512, 3) := by decide +kernel
theorem dX0_reshaped_105 : decode cX0_reshaped 105 = .ok (.iadd, 1) := by decide +kernel
theorem dX0_reshaped_106 : decode cX0_reshaped 106 = .ok (.goto 4, 3) := by decide +kernel
theorem dX0_reshaped_109 : decode cX0_reshaped 109 = .ok (.iload_n 0, 1) := by decide +kernel
theorem dX0_reshaped_110 : decode cX0_reshaped 110 = .ok (.ireturn, 1) := by decide +kernel
theorem dX0_reshaped_111 : decode cX0_reshaped 111 = .ok (.iload 5, 2) := by decide +kernel
theorem dX0_reshaped_113 : decode cX0_reshaped 113 = .ok (.iload 4, 2) := by decide +kernel
theorem dX0_reshaped_115 : decode cX0_reshaped 115 = .ok (.if_icmp .ge 9, 3) := by decide +kernel
theorem dX0_reshaped_118 : decode cX0_reshaped 118 = .ok (.iload_n 0, 1) := by decide +kernel
theorem dX0_reshaped_119 : decode cX0_reshaped 119 = .ok (.sipush 512, 3) := by decide +kernel
theorem dX0_reshaped_122 : decode cX0_reshaped 122 = .ok (.isub, 1) := by decide +kernel
theorem dX0_reshaped_123 : decode cX0_reshaped 123 = .ok (.ireturn, 1) := by decide +kernel
theorem dX0_reshaped_124 : decode cX0_reshaped 124 = .ok (.iload 6, 2) := by decide +kernel
theorem dX0_reshaped_126 : decode cX0_reshaped 126 = .ok (.ifCond .eq 14, 3) := by decide +kernel
theorem dX0_reshaped_129 : decode cX0_reshaped 129 = .ok (.iload_n 2, 1) := by decide +kernel
theorem dX0_reshaped_130 : decode cX0_reshaped 130 = .ok (.iconst 2, 1) := by decide +kernel
theorem dX0_reshaped_131 : decode cX0_reshaped 131 = .ok (.if_icmp .ne 9, 3) := by decide +kernel
theorem dX0_reshaped_134 : decode cX0_reshaped 134 = .ok (.iload_n 0, 1) := by decide +kernel
theorem dX0_reshaped_135 : decode cX0_reshaped 135 = .ok (.iload_n 2, 1) := by decide +kernel
theorem dX0_reshaped_136 : decode cX0_reshaped 136 = .ok (.isub, 1) := by decide +kernel
theorem dX0_reshaped_137 : decode cX0_reshaped 137 = .ok (.goto 4, 3) := by decide +kernel
theorem dX0_reshaped_140 : decode cX0_reshaped 140 = .ok (.iload_n 0, 1) := by decide +kernel
theorem dX0_reshaped_141 : decode cX0_reshaped 141 = .ok (.ireturn, 1) := by decide +kernel
theorem dX0_passThrough_0 : decode cX0_passThrough 0 = .ok (.iload_n 1, 1) := by decide +kernel
theorem dX0_passThrough_1 : decode cX0_passThrough 1 = .ok (.istore_n 2, 1) := by decide +kernel
theorem dX0_passThrough_2 : decode cX0_passThrough 2 = .ok (.iconst 0, 1) := by decide +kernel
theorem dX0_passThrough_3 : decode cX0_passThrough 3 = .ok (.istore_n 3, 1) := by decide +kernel
theorem dX0_passThrough_4 : decode cX0_passThrough 4 = .ok (.iload_n 3, 1) := by decide +kernel
theorem dX0_passThrough_5 : decode cX0_passThrough 5 = .ok (.aload_n 0, 1) := by decide +kernel
theorem dX0_passThrough_6 : decode cX0_passThrough 6 = .ok (.invokevirtual 24, 3) := by decide +kernel
theorem dX0_passThrough_9 : decode cX0_passThrough 9 = .ok (.if_icmp .ge 34, 3) := by decide +kernel
theorem dX0_passThrough_12 : decode cX0_passThrough 12 = .ok (.aload_n 0, 1) := by decide +kernel
theorem dX0_passThrough_13 : decode cX0_passThrough 13 = .ok (.iload_n 3, 1) := by decide +kernel
theorem dX0_passThrough_14 : decode cX0_passThrough 14 = .ok (.invokevirtual 30, 3) := by decide +kernel
theorem dX0_passThrough_17 : decode cX0_passThrough 17 = .ok (.istore 4, 2) := by decide +kernel
theorem dX0_passThrough_19 : decode cX0_passThrough 19 = .ok (.aload_n 0, 1) := by decide +kernel
theorem dX0_passThrough_20 : decode cX0_passThrough 20 = .ok (.iload_n 3, 1) := by decide +kernel
theorem dX0_passThrough_21 : decode cX0_passThrough 21 = .ok (.iload 4, 2) := by decide +kernel
theorem dX0_passThrough_23 : decode cX0_passThrough 23 = .ok (.iload_n 2, 1) := by decide +kernel
theorem dX0_passThrough_24 : decode cX0_passThrough 24 = .ok (.invokestatic 33, 3) := by decide +kernel
theorem dX0_passThrough_27 : decode cX0_passThrough 27 = .ok (.invokevirtual 37, 3) := by decide +kernel
theorem dX0_passThrough_30 : decode cX0_passThrough 30 = .ok (.iload_n 2, 1) := by decide +kernel
theorem dX0_passThrough_31 : decode cX0_passThrough 31 = .ok (.iload 4, 2) := by decide +kernel
theorem dX0_passThrough_33 : decode cX0_passThrough 33 = .ok (.invokestatic 33, 3) := by decide +kernel
theorem dX0_passThrough_36 : decode cX0_passThrough 36 = .ok (.istore_n 2, 1) := by decide +kernel
theorem dX0_passThrough_37 : decode cX0_passThrough 37 = .ok (.iinc 3 1, 3) := by decide +kernel
theorem dX0_passThrough_40 : decode cX0_passThrough 40 = .ok (.goto (-36), 3) := by decide +kernel
theorem dX0_passThrough_43 : decode cX0_passThrough 43 = .ok (.iload_n 2, 1) := by decide +kernel
theorem dX0_passThrough_44 : decode cX0_passThrough 44 = .ok (.ireturn, 1) := by decide +kernel
theorem dX1_init_0 : decode cX1_init 0 = .ok (.aload_n 0, 1) := by decide +kernel
theorem dX1_init_1 : decode cX1_init 1 = .ok (.invokespecial 3, 3) := by decide +kernel
theorem dX1_init_4 : decode cX1_init 4 = .ok (.aload_n 0, 1) := by decide +kernel
theorem dX1_init_5 : decode cX1_init 5 = .ok (.new 9, 3) := by decide +kernel
theorem dX1_init_8 : decode cX1_init 8 = .ok (.dup, 1) := by decide +kernel
theorem dX1_init_9 : decode cX1_init 9 = .ok (.bipush 60, 2) := by decide +kernel
theorem dX1_init_11 : decode cX1_init 11 = .ok (.invokespecial 11, 3) := by decide +kernel
theorem dX1_init_14 : decode cX1_init 14 = .ok (.putfield 14, 3) := by decide +kernel
theorem dX1_init_17 : decode cX1_init 17 = .ok (.aload_n 0, 1) := by decide +kernel
theorem dX1_init_18 : decode cX1_init 18 = .ok (.new 9, 3) := by decide +kernel
theorem dX1_init_21 : decode cX1_init 21 = .ok (.dup, 1) := by decide +kernel
theorem dX1_init_22 : decode cX1_init 22 = .ok (.iconst 3, 1) := by decide +kernel
theorem dX1_init_23 : decode cX1_init 23 = .ok (.invokespecial 11, 3) := by decide +kernel
theorem dX1_init_26 : decode cX1_init 26 = .ok (.putfield 20, 3) := by decide +kernel
theorem dX1_init_29 : decode cX1_init 29 = .ok (.return_, 1) := by decide +kernel
theorem dX1_runOn_0 : decode cX1_runOn 0 = .ok (.aload_n 0, 1) := by decide +kernel
theorem dX1_runOn_1 : decode cX1_runOn 1 = .ok (.iconst 0, 1) := by decide +kernel
theorem dX1_runOn_2 : decode cX1_runOn 2 = .ok (.putfield 23, 3) := by decide +kernel
theorem dX1_runOn_5 : decode cX1_runOn 5 = .ok (.aload_n 0, 1) := by decide +kernel
theorem dX1_runOn_6 : decode cX1_runOn 6 = .ok (.iconst 0, 1) := by decide +kernel
theorem dX1_runOn_7 : decode cX1_runOn 7 = .ok (.putfield 27, 3) := by decide +kernel
theorem dX1_runOn_10 : decode cX1_runOn 10 = .ok (.aload_n 0, 1) := by decide +kernel
theorem dX1_runOn_11 : decode cX1_runOn 11 = .ok (.iconst 0, 1) := by decide +kernel
theorem dX1_runOn_12 : decode cX1_runOn 12 = .ok (.putfield 30, 3) := by decide +kernel
theorem dX1_runOn_15 : decode cX1_runOn 15 = .ok (.aload_n 0, 1) := by decide +kernel
theorem dX1_runOn_16 : decode cX1_runOn 16 = .ok (.iconst 0, 1) := by decide +kernel
theorem dX1_runOn_17 : decode cX1_runOn 17 = .ok (.putfield 33, 3) := by decide +kernel
theorem dX1_runOn_20 : decode cX1_runOn 20 = .ok (.iconst 0, 1) := by decide +kernel
theorem dX1_runOn_21 : decode cX1_runOn 21 = .ok (.istore_n 2, 1) := by decide +kernel
theorem dX1_runOn_22 : decode cX1_runOn 22 = .ok (.iload_n 2, 1) := by decide +kernel
theorem dX1_runOn_23 : decode cX1_runOn 23 = .ok (.bipush 60, 2) := by decide +kernel
theorem dX1_runOn_25 : decode cX1_runOn 25 = .ok (.if_icmp .ge 115, 3) := by decide +kernel
theorem dX1_runOn_28 : decode cX1_runOn 28 = .ok (.aload_n 0, 1) := by decide +kernel
theorem dX1_runOn_29 : decode cX1_runOn 29 = .ok (.getfield 23, 3) := by decide +kernel
theorem dX1_runOn_32 : decode cX1_runOn 32 = .ok (.aload_n 0, 1) := by decide +kernel
theorem dX1_runOn_33 : decode cX1_runOn 33 = .ok (.getfield 14, 3) := by decide +kernel
theorem dX1_runOn_36 : decode cX1_runOn 36 = .ok (.invokevirtual 36, 3) := by decide +kernel
theorem dX1_runOn_39 : decode cX1_runOn 39 = .ok (.if_icmp .ge 101, 3) := by decide +kernel
theorem dX1_runOn_42 : decode cX1_runOn 42 = .ok (.aload_n 0, 1) := by decide +kernel
theorem dX1_runOn_43 : decode cX1_runOn 43 = .ok (.aload_n 0, 1) := by decide +kernel
theorem dX1_runOn_44 : decode cX1_runOn 44 = .ok (.getfield 23, 3) := by decide +kernel
theorem dX1_runOn_47 : decode cX1_runOn 47 = .ok (.invokevirtual 40, 3) := by decide +kernel
theorem dX1_runOn_50 : decode cX1_runOn 50 = .ok (.istore_n 3, 1) := by decide +kernel
theorem dX1_runOn_51 : decode cX1_runOn 51 = .ok (.iload_n 3, 1) := by decide +kernel
theorem dX1_runOn_52 : decode cX1_runOn 52 = .ok (.ifCond .ne 9, 3) := by decide +kernel
theorem dX1_runOn_55 : decode cX1_runOn 55 = .ok (.aload_n 0, 1) := by decide +kernel
theorem dX1_runOn_56 : decode cX1_runOn 56 = .ok (.iconst 1, 1) := by decide +kernel
theorem dX1_runOn_57 : decode cX1_runOn 57 = .ok (.putfield 27, 3) := by decide +kernel
theorem dX1_runOn_60 : decode cX1_runOn 60 = .ok (.return_, 1) := by decide +kernel
theorem dX1_runOn_61 : decode cX1_runOn 61 = .ok (.aload_n 1, 1) := by decide +kernel
theorem dX1_runOn_62 : decode cX1_runOn 62 = .ok (.aload_n 0, 1) := by decide +kernel
theorem dX1_runOn_63 : decode cX1_runOn 63 = .ok (.getfield 14, 3) := by decide +kernel
theorem dX1_runOn_66 : decode cX1_runOn 66 = .ok (.aload_n 0, 1) := by decide +kernel
theorem dX1_runOn_67 : decode cX1_runOn 67 = .ok (.getfield 23, 3) := by decide +kernel
theorem dX1_runOn_70 : decode cX1_runOn 70 = .ok (.invokevirtual 44, 3) := by decide +kernel
theorem dX1_runOn_73 : decode cX1_runOn 73 = .ok (.aload_n 0, 1) := by decide +kernel
theorem dX1_runOn_74 : decode cX1_runOn 74 = .ok (.getfield 20, 3) := by decide +kernel
theorem dX1_runOn_77 : decode cX1_runOn 77 = .ok (.iconst 0, 1) := by decide +kernel
theorem dX1_runOn_78 : decode cX1_runOn 78 = .ok (.invokevirtual 44, 3) := by decide +kernel
theorem dX1_runOn_81 : decode cX1_runOn 81 = .ok (.aload_n 0, 1) := by decide +kernel
theorem dX1_runOn_82 : decode cX1_runOn 82 = .ok (.getfield 20, 3) := by decide +kernel
theorem dX1_runOn_85 : decode cX1_runOn 85 = .ok (.iconst 1, 1) := by decide +kernel
theorem dX1_runOn_86 : decode cX1_runOn 86 = .ok (.invokevirtual 44, 3) := by decide +kernel
theorem dX1_runOn_89 : decode cX1_runOn 89 = .ok (.aload_n 0, 1) := by decide +kernel
theorem dX1_runOn_90 : decode cX1_runOn 90 = .ok (.getfield 20, 3) := by decide +kernel
theorem dX1_runOn_93 : decode cX1_runOn 93 = .ok (.iconst 2, 1) := by decide +kernel
theorem dX1_runOn_94 : decode cX1_runOn 94 = .ok (.invokevirtual 44, 3) := by decide +kernel
theorem dX1_runOn_97 : decode cX1_runOn 97 = .ok (.invokevirtual 47, 3) := by decide +kernel
theorem dX1_runOn_100 : decode cX1_runOn 100 = .ok (.istore 4, 2) := by decide +kernel
theorem dX1_runOn_102 : decode cX1_runOn 102 = .ok (.iload 4, 2) := by decide +kernel
theorem dX1_runOn_104 : decode cX1_runOn 104 = .ok (.ifCond .ge 15, 3) := by decide +kernel
theorem dX1_runOn_107 : decode cX1_runOn 107 = .ok (.aload_n 0, 1) := by decide +kernel
theorem dX1_runOn_108 : decode cX1_runOn 108 = .ok (.iconst 2, 1) := by decide +kernel
theorem dX1_runOn_109 : decode cX1_runOn 109 = .ok (.putfield 27, 3) := by decide +kernel
theorem dX1_runOn_112 : decode cX1_runOn 112 = .ok (.aload_n 0, 1) := by decide +kernel
theorem dX1_runOn_113 : decode cX1_runOn 113 = .ok (.iload 4, 2) := by decide +kernel
theorem dX1_runOn_115 : decode cX1_runOn 115 = .ok (.putfield 30, 3) := by decide +kernel
theorem dX1_runOn_118 : decode cX1_runOn 118 = .ok (.return_, 1) := by decide +kernel
theorem dX1_runOn_119 : decode cX1_runOn 119 = .ok (.aload_n 0, 1) := by decide +kernel
theorem dX1_runOn_120 : decode cX1_runOn 120 = .ok (.iload_n 3, 1) := by decide +kernel
theorem dX1_runOn_121 : decode cX1_runOn 121 = .ok (.putfield 23, 3) := by decide +kernel
theorem dX1_runOn_124 : decode cX1_runOn 124 = .ok (.aload_n 0, 1) := by decide +kernel
theorem dX1_runOn_125 : decode cX1_runOn 125 = .ok (.dup, 1) := by decide +kernel
theorem dX1_runOn_126 : decode cX1_runOn 126 = .ok (.getfield 33, 3) := by decide +kernel
theorem dX1_runOn_129 : decode cX1_runOn 129 = .ok (.iconst 1, 1) := by decide +kernel
theorem dX1_runOn_130 : decode cX1_runOn 130 = .ok (.iadd, 1) := by decide +kernel
theorem dX1_runOn_131 : decode cX1_runOn 131 = .ok (.putfield 33, 3) := by decide +kernel
theorem dX1_runOn_134 : decode cX1_runOn 134 = .ok (.iinc 2 1, 3) := by decide +kernel
theorem dX1_runOn_137 : decode cX1_runOn 137 = .ok (.goto (-115), 3) := by decide +kernel
theorem dX1_runOn_140 : decode cX1_runOn 140 = .ok (.return_, 1) := by decide +kernel
theorem dX1_read_0 : decode cX1_read 0 = .ok (.aload_n 0, 1) := by decide +kernel
theorem dX1_read_1 : decode cX1_read 1 = .ok (.getfield 14, 3) := by decide +kernel
theorem dX1_read_4 : decode cX1_read 4 = .ok (.iload_n 1, 1) := by decide +kernel
theorem dX1_read_5 : decode cX1_read 5 = .ok (.invokevirtual 44, 3) := by decide +kernel
theorem dX1_read_8 : decode cX1_read 8 = .ok (.invokestatic 53, 3) := by decide +kernel
theorem dX1_read_11 : decode cX1_read 11 = .ok (.istore_n 2, 1) := by decide +kernel
theorem dX1_read_12 : decode cX1_read 12 = .ok (.iload_n 1, 1) := by decide +kernel
theorem dX1_read_13 : decode cX1_read 13 = .ok (.iconst 1, 1) := by decide +kernel
theorem dX1_read_14 : decode cX1_read 14 = .ok (.iadd, 1) := by decide +kernel
theorem dX1_read_15 : decode cX1_read 15 = .ok (.istore_n 3, 1) := by decide +kernel
theorem dX1_read_16 : decode cX1_read 16 = .ok (.aload_n 0, 1) := by decide +kernel
theorem dX1_read_17 : decode cX1_read 17 = .ok (.getfield 20, 3) := by decide +kernel
theorem dX1_read_20 : decode cX1_read 20 = .ok (.invokevirtual 56, 3) := by decide +kernel
theorem dX1_read_23 : decode cX1_read 23 = .ok (.iconst 0, 1) := by decide +kernel
theorem dX1_read_24 : decode cX1_read 24 = .ok (.istore 4, 2) := by decide +kernel
theorem dX1_read_26 : decode cX1_read 26 = .ok (.iload 4, 2) := by decide +kernel
theorem dX1_read_28 : decode cX1_read 28 = .ok (.iload_n 2, 1) := by decide +kernel
theorem dX1_read_29 : decode cX1_read 29 = .ok (.if_icmp .ge 75, 3) := by decide +kernel
theorem dX1_read_32 : decode cX1_read 32 = .ok (.aload_n 0, 1) := by decide +kernel
theorem dX1_read_33 : decode cX1_read 33 = .ok (.iload_n 3, 1) := by decide +kernel
theorem dX1_read_34 : decode cX1_read 34 = .ok (.invokevirtual 59, 3) := by decide +kernel
theorem dX1_read_37 : decode cX1_read 37 = .ok (.istore 5, 2) := by decide +kernel
theorem dX1_read_39 : decode cX1_read 39 = .ok (.iload_n 3, 1) := by decide +kernel
theorem dX1_read_40 : decode cX1_read 40 = .ok (.iload 5, 2) := by decide +kernel
theorem dX1_read_42 : decode cX1_read 42 = .ok (.iadd, 1) := by decide +kernel
theorem dX1_read_43 : decode cX1_read 43 = .ok (.istore 6, 2) := by decide +kernel
theorem dX1_read_45 : decode cX1_read 45 = .ok (.iload 5, 2) := by decide +kernel
theorem dX1_read_47 : decode cX1_read 47 = .ok (.ifCond .eq 30, 3) := by decide +kernel
theorem dX1_read_50 : decode cX1_read 50 = .ok (.aload_n 0, 1) := by decide +kernel
theorem dX1_read_51 : decode cX1_read 51 = .ok (.getfield 14, 3) := by decide +kernel
theorem dX1_read_54 : decode cX1_read 54 = .ok (.iload 6, 2) := by decide +kernel
theorem dX1_read_56 : decode cX1_read 56 = .ok (.invokevirtual 44, 3) := by decide +kernel
theorem dX1_read_59 : decode cX1_read 59 = .ok (.iload 4, 2) := by decide +kernel
theorem dX1_read_61 : decode cX1_read 61 = .ok (.iload_n 2, 1) := by decide +kernel
theorem dX1_read_62 : decode cX1_read 62 = .ok (.iconst 1, 1) := by decide +kernel
theorem dX1_read_63 : decode cX1_read 63 = .ok (.isub, 1) := by decide +kernel
theorem dX1_read_64 : decode cX1_read 64 = .ok (.if_icmp .ge 8, 3) := by decide +kernel
theorem dX1_read_67 : decode cX1_read 67 = .ok (.bipush 44, 2) := by decide +kernel
theorem dX1_read_69 : decode cX1_read 69 = .ok (.goto 5, 3) := by decide +kernel
theorem dX1_read_72 : decode cX1_read 72 = .ok (.bipush 59, 2) := by decide +kernel
theorem dX1_read_74 : decode cX1_read 74 = .ok (.if_icmp .eq 5, 3) := by decide +kernel
theorem dX1_read_77 : decode cX1_read 77 = .ok (.iconst 0, 1) := by decide +kernel
theorem dX1_read_78 : decode cX1_read 78 = .ok (.ireturn, 1) := by decide +kernel
theorem dX1_read_79 : decode cX1_read 79 = .ok (.aload_n 0, 1) := by decide +kernel
theorem dX1_read_80 : decode cX1_read 80 = .ok (.getfield 20, 3) := by decide +kernel
theorem dX1_read_83 : decode cX1_read 83 = .ok (.aload_n 0, 1) := by decide +kernel
theorem dX1_read_84 : decode cX1_read 84 = .ok (.iload_n 3, 1) := by decide +kernel
theorem dX1_read_85 : decode cX1_read 85 = .ok (.iload 5, 2) := by decide +kernel
theorem dX1_read_87 : decode cX1_read 87 = .ok (.invokevirtual 62, 3) := by decide +kernel
theorem dX1_read_90 : decode cX1_read 90 = .ok (.invokevirtual 66, 3) := by decide +kernel
theorem dX1_read_93 : decode cX1_read 93 = .ok (.iload 6, 2) := by decide +kernel
theorem dX1_read_95 : decode cX1_read 95 = .ok (.iconst 1, 1) := by decide +kernel
theorem dX1_read_96 : decode cX1_read 96 = .ok (.iadd, 1) := by decide +kernel
theorem dX1_read_97 : decode cX1_read 97 = .ok (.istore_n 3, 1) := by decide +kernel
theorem dX1_read_98 : decode cX1_read 98 = .ok (.iinc 4 1, 3) := by decide +kernel
theorem dX1_read_101 : decode cX1_read 101 = .ok (.goto (-75), 3) := by decide +kernel
theorem dX1_read_104 : decode cX1_read 104 = .ok (.iload_n 2, 1) := by decide +kernel
theorem dX1_read_105 : decode cX1_read 105 = .ok (.ifCond .ne 7, 3) := by decide +kernel
theorem dX1_read_108 : decode cX1_read 108 = .ok (.iconst 0, 1) := by decide +kernel
theorem dX1_read_109 : decode cX1_read 109 = .ok (.goto 4, 3) := by decide +kernel
theorem dX1_read_112 : decode cX1_read 112 = .ok (.iload_n 3, 1) := by decide +kernel
theorem dX1_read_113 : decode cX1_read 113 = .ok (.ireturn, 1) := by decide +kernel
theorem dX1_numbersOf_0 : decode cX1_numbersOf 0 = .ok (.iload_n 0, 1) := by decide +kernel
theorem dX1_numbersOf_1 : decode cX1_numbersOf 1 = .ok (.lookupswitch 57 #[(98, 55), (100, 53), (104, 55), (105, 51), (115, 55)], 51) := by decide +kernel
theorem dX1_numbersOf_52 : decode cX1_numbersOf 52 = .ok (.iconst 3, 1) := by decide +kernel
theorem dX1_numbersOf_53 : decode cX1_numbersOf 53 = .ok (.ireturn, 1) := by decide +kernel
theorem dX1_numbersOf_54 : decode cX1_numbersOf 54 = .ok (.iconst 2, 1) := by decide +kernel
theorem dX1_numbersOf_55 : decode cX1_numbersOf 55 = .ok (.ireturn, 1) := by decide +kernel
theorem dX1_numbersOf_56 : decode cX1_numbersOf 56 = .ok (.iconst 1, 1) := by decide +kernel
theorem dX1_numbersOf_57 : decode cX1_numbersOf 57 = .ok (.ireturn, 1) := by decide +kernel
theorem dX1_numbersOf_58 : decode cX1_numbersOf 58 = .ok (.iconst 0, 1) := by decide +kernel
theorem dX1_numbersOf_59 : decode cX1_numbersOf 59 = .ok (.ireturn, 1) := by decide +kernel
theorem dX1_digitsAt_0 : decode cX1_digitsAt 0 = .ok (.aload_n 0, 1) := by decide +kernel
theorem dX1_digitsAt_1 : decode cX1_digitsAt 1 = .ok (.getfield 14, 3) := by decide +kernel
theorem dX1_digitsAt_4 : decode cX1_digitsAt 4 = .ok (.iload_n 1, 1) := by decide +kernel
theorem dX1_digitsAt_5 : decode cX1_digitsAt 5 = .ok (.invokevirtual 44, 3) := by decide +kernel
theorem dX1_digitsAt_8 : decode cX1_digitsAt 8 = .ok (.invokestatic 69, 3) := by decide +kernel
theorem dX1_digitsAt_11 : decode cX1_digitsAt 11 = .ok (.ifCond .ne 5, 3) := by decide +kernel
theorem dX1_digitsAt_14 : decode cX1_digitsAt 14 = .ok (.iconst 0, 1) := by decide +kernel
theorem dX1_digitsAt_15 : decode cX1_digitsAt 15 = .ok (.ireturn, 1) := by decide +kernel
theorem dX1_digitsAt_16 : decode cX1_digitsAt 16 = .ok (.aload_n 0, 1) := by decide +kernel
theorem dX1_digitsAt_17 : decode cX1_digitsAt 17 = .ok (.getfield 14, 3) := by decide +kernel
theorem dX1_digitsAt_20 : decode cX1_digitsAt 20 = .ok (.iload_n 1, 1) := by decide +kernel
theorem dX1_digitsAt_21 : decode cX1_digitsAt 21 = .ok (.iconst 1, 1) := by decide +kernel
theorem dX1_digitsAt_22 : decode cX1_digitsAt 22 = .ok (.iadd, 1) := by decide +kernel
theorem dX1_digitsAt_23 : decode cX1_digitsAt 23 = .ok (.invokevirtual 44, 3) := by decide +kernel
theorem dX1_digitsAt_26 : decode cX1_digitsAt 26 = .ok (.invokestatic 69, 3) := by decide +kernel
theorem dX1_digitsAt_29 : decode cX1_digitsAt 29 = .ok (.ifCond .eq 7, 3) := by decide +kernel
theorem dX1_digitsAt_32 : decode cX1_digitsAt 32 = .ok (.iconst 2, 1) := by decide +kernel
theorem dX1_digitsAt_33 : decode cX1_digitsAt 33 = .ok (.goto 4, 3) := by decide +kernel
theorem dX1_digitsAt_36 : decode cX1_digitsAt 36 = .ok (.iconst 1, 1) := by decide +kernel
theorem dX1_digitsAt_37 : decode cX1_digitsAt 37 = .ok (.ireturn, 1) := by decide +kernel
theorem dX1_numberAt_0 : decode cX1_numberAt 0 = .ok (.aload_n 0, 1) := by decide +kernel
theorem dX1_numberAt_1 : decode cX1_numberAt 1 = .ok (.getfield 14, 3) := by decide +kernel
theorem dX1_numberAt_4 : decode cX1_numberAt 4 = .ok (.iload_n 1, 1) := by decide +kernel
theorem dX1_numberAt_5 : decode cX1_numberAt 5 = .ok (.invokevirtual 44, 3) := by decide +kernel
theorem dX1_numberAt_8 : decode cX1_numberAt 8 = .ok (.bipush 48, 2) := by decide +kernel
theorem dX1_numberAt_10 : decode cX1_numberAt 10 = .ok (.isub, 1) := by decide +kernel
theorem dX1_numberAt_11 : decode cX1_numberAt 11 = .ok (.istore_n 3, 1) := by decide +kernel
theorem dX1_numberAt_12 : decode cX1_numberAt 12 = .ok (.iload_n 2, 1) := by decide +kernel
theorem dX1_numberAt_13 : decode cX1_numberAt 13 = .ok (.iconst 2, 1) := by decide +kernel
theorem dX1_numberAt_14 : decode cX1_numberAt 14 = .ok (.if_icmp .ne 24, 3) := by decide +kernel
theorem dX1_numberAt_17 : decode cX1_numberAt 17 = .ok (.iload_n 3, 1) := by decide +kernel
theorem dX1_numberAt_18 : decode cX1_numberAt 18 = .ok (.bipush 10, 2) := by decide +kernel
theorem dX1_numberAt_20 : decode cX1_numberAt 20 = .ok (.imul, 1) := by decide +kernel
theorem dX1_numberAt_21 : decode cX1_numberAt 21 = .ok (.aload_n 0, 1) := by decide +kernel
theorem dX1_numberAt_22 : decode cX1_numberAt 22 = .ok (.getfield 14, 3) := by decide +kernel
theorem dX1_numberAt_25 : decode cX1_numberAt 25 = .ok (.iload_n 1, 1) := by decide +kernel
theorem dX1_numberAt_26 : decode cX1_numberAt 26 = .ok (.iconst 1, 1) := by decide +kernel
theorem dX1_numberAt_27 : decode cX1_numberAt 27 = .ok (.iadd, 1) := by decide +kernel
theorem dX1_numberAt_28 : decode cX1_numberAt 28 = .ok (.invokevirtual 44, 3) := by decide +kernel
theorem dX1_numberAt_31 : decode cX1_numberAt 31 = .ok (.iadd, 1) := by decide +kernel
theorem dX1_numberAt_32 : decode cX1_numberAt 32 = .ok (.bipush 48, 2) := by decide +kernel
theorem dX1_numberAt_34 : decode cX1_numberAt 34 = .ok (.isub, 1) := by decide +kernel
theorem dX1_numberAt_35 : decode cX1_numberAt 35 = .ok (.goto 4, 3) := by decide +kernel
theorem dX1_numberAt_38 : decode cX1_numberAt 38 = .ok (.iload_n 3, 1) := by decide +kernel
theorem dX1_numberAt_39 : decode cX1_numberAt 39 = .ok (.ireturn, 1) := by decide +kernel
theorem dX1_isDigit_0 : decode cX1_isDigit 0 = .ok (.iload_n 0, 1) := by decide +kernel
theorem dX1_isDigit_1 : decode cX1_isDigit 1 = .ok (.bipush 48, 2) := by decide +kernel
theorem dX1_isDigit_3 : decode cX1_isDigit 3 = .ok (.if_icmp .lt 13, 3) := by decide +kernel
theorem dX1_isDigit_6 : decode cX1_isDigit 6 = .ok (.iload_n 0, 1) := by decide +kernel
theorem dX1_isDigit_7 : decode cX1_isDigit 7 = .ok (.bipush 57, 2) := by decide +kernel
theorem dX1_isDigit_9 : decode cX1_isDigit 9 = .ok (.if_icmp .gt 7, 3) := by decide +kernel
theorem dX1_isDigit_12 : decode cX1_isDigit 12 = .ok (.iconst 1, 1) := by decide +kernel
theorem dX1_isDigit_13 : decode cX1_isDigit 13 = .ok (.goto 4, 3) := by decide +kernel
theorem dX1_isDigit_16 : decode cX1_isDigit 16 = .ok (.iconst 0, 1) := by decide +kernel
theorem dX1_isDigit_17 : decode cX1_isDigit 17 = .ok (.ireturn, 1) := by decide +kernel
theorem dX2_init_0 : decode cX2_init 0 = .ok (.aload_n 0, 1) := by decide +kernel
theorem dX2_init_1 : decode cX2_init 1 = .ok (.invokespecial 3, 3) := by decide +kernel
theorem dX2_init_4 : decode cX2_init 4 = .ok (.aload_n 0, 1) := by decide +kernel
theorem dX2_init_5 : decode cX2_init 5 = .ok (.iload_n 1, 1) := by decide +kernel
theorem dX2_init_6 : decode cX2_init 6 = .ok (.putfield 9, 3) := by decide +kernel
theorem dX2_init_9 : decode cX2_init 9 = .ok (.aload_n 0, 1) := by decide +kernel
theorem dX2_init_10 : decode cX2_init 10 = .ok (.new 15, 3) := by decide +kernel
theorem dX2_init_13 : decode cX2_init 13 = .ok (.dup, 1) := by decide +kernel
theorem dX2_init_14 : decode cX2_init 14 = .ok (.bipush 78, 2) := by decide +kernel
theorem dX2_init_16 : decode cX2_init 16 = .ok (.invokespecial 17, 3) := by decide +kernel
theorem dX2_init_19 : decode cX2_init 19 = .ok (.putfield 20, 3) := by decide +kernel
theorem dX2_init_22 : decode cX2_init 22 = .ok (.aload_n 0, 1) := by decide +kernel
theorem dX2_init_23 : decode cX2_init 23 = .ok (.new 15, 3) := by decide +kernel
theorem dX2_init_26 : decode cX2_init 26 = .ok (.dup, 1) := by decide +kernel
theorem dX2_init_27 : decode cX2_init 27 = .ok (.bipush 6, 2) := by decide +kernel
theorem dX2_init_29 : decode cX2_init 29 = .ok (.invokespecial 17, 3) := by decide +kernel
theorem dX2_init_32 : decode cX2_init 32 = .ok (.putfield 24, 3) := by decide +kernel
theorem dX2_init_35 : decode cX2_init 35 = .ok (.aload_n 0, 1) := by decide +kernel
theorem dX2_init_36 : decode cX2_init 36 = .ok (.new 15, 3) := by decide +kernel
theorem dX2_init_39 : decode cX2_init 39 = .ok (.dup, 1) := by decide +kernel
theorem dX2_init_40 : decode cX2_init 40 = .ok (.bipush 6, 2) := by decide +kernel
theorem dX2_init_42 : decode cX2_init 42 = .ok (.invokespecial 17, 3) := by decide +kernel
theorem dX2_init_45 : decode cX2_init 45 = .ok (.putfield 27, 3) := by decide +kernel
theorem dX2_init_48 : decode cX2_init 48 = .ok (.return_, 1) := by decide +kernel
theorem dX2_putIn_0 : decode cX2_putIn 0 = .ok (.iload_n 1, 1) := by decide +kernel
theorem dX2_putIn_1 : decode cX2_putIn 1 = .ok (.ifCond .lt 24, 3) := by decide +kernel
theorem dX2_putIn_4 : decode cX2_putIn 4 = .ok (.iload_n 1, 1) := by decide +kernel
theorem dX2_putIn_5 : decode cX2_putIn 5 = .ok (.aload_n 0, 1) := by decide +kernel
theorem dX2_putIn_6 : decode cX2_putIn 6 = .ok (.getfield 20, 3) := by decide +kernel
theorem dX2_putIn_9 : decode cX2_putIn 9 = .ok (.invokevirtual 30, 3) := by decide +kernel
theorem dX2_putIn_12 : decode cX2_putIn 12 = .ok (.if_icmp .gt 13, 3) := by decide +kernel
theorem dX2_putIn_15 : decode cX2_putIn 15 = .ok (.iload_n 2, 1) := by decide +kernel
theorem dX2_putIn_16 : decode cX2_putIn 16 = .ok (.ifCond .lt 9, 3) := by decide +kernel
theorem dX2_putIn_19 : decode cX2_putIn 19 = .ok (.iload_n 2, 1) := by decide +kernel
theorem dX2_putIn_20 : decode cX2_putIn 20 = .ok (.bipush 26, 2) := by decide +kernel
theorem dX2_putIn_22 : decode cX2_putIn 22 = .ok (.if_icmp .lt 5, 3) := by decide +kernel
theorem dX2_putIn_25 : decode cX2_putIn 25 = .ok (.iconst (-1), 1) := by decide +kernel
theorem dX2_putIn_26 : decode cX2_putIn 26 = .ok (.ireturn, 1) := by decide +kernel
theorem dX2_putIn_27 : decode cX2_putIn 27 = .ok (.aload_n 0, 1) := by decide +kernel
theorem dX2_putIn_28 : decode cX2_putIn 28 = .ok (.getfield 20, 3) := by decide +kernel
theorem dX2_putIn_31 : decode cX2_putIn 31 = .ok (.invokevirtual 30, 3) := by decide +kernel
theorem dX2_putIn_34 : decode cX2_putIn 34 = .ok (.bipush 30, 2) := by decide +kernel
theorem dX2_putIn_36 : decode cX2_putIn 36 = .ok (.if_icmp .ge 15, 3) := by decide +kernel
theorem dX2_putIn_39 : decode cX2_putIn 39 = .ok (.aload_n 0, 1) := by decide +kernel
theorem dX2_putIn_40 : decode cX2_putIn 40 = .ok (.getfield 24, 3) := by decide +kernel
theorem dX2_putIn_43 : decode cX2_putIn 43 = .ok (.invokevirtual 30, 3) := by decide +kernel
theorem dX2_putIn_46 : decode cX2_putIn 46 = .ok (.bipush 6, 2) := by decide +kernel
theorem dX2_putIn_48 : decode cX2_putIn 48 = .ok (.if_icmp .lt 6, 3) := by decide +kernel
theorem dX2_putIn_51 : decode cX2_putIn 51 = .ok (.bipush (-3), 2) := by decide +kernel
theorem dX2_putIn_53 : decode cX2_putIn 53 = .ok (.ireturn, 1) := by decide +kernel
theorem dX2_putIn_54 : decode cX2_putIn 54 = .ok (.aload_n 0, 1) := by decide +kernel
theorem dX2_putIn_55 : decode cX2_putIn 55 = .ok (.iconst 1, 1) := by decide +kernel
theorem dX2_putIn_56 : decode cX2_putIn 56 = .ok (.iload_n 1, 1) := by decide +kernel
theorem dX2_putIn_57 : decode cX2_putIn 57 = .ok (.iload_n 2, 1) := by decide +kernel
theorem dX2_putIn_58 : decode cX2_putIn 58 = .ok (.aload_n 0, 1) := by decide +kernel
theorem dX2_putIn_59 : decode cX2_putIn 59 = .ok (.getfield 9, 3) := by decide +kernel
theorem dX2_putIn_62 : decode cX2_putIn 62 = .ok (.invokestatic 34, 3) := by decide +kernel
theorem dX2_putIn_65 : decode cX2_putIn 65 = .ok (.invokevirtual 40, 3) := by decide +kernel
theorem dX2_putIn_68 : decode cX2_putIn 68 = .ok (.aload_n 0, 1) := by decide +kernel
theorem dX2_putIn_69 : decode cX2_putIn 69 = .ok (.iconst 2, 1) := by decide +kernel
theorem dX2_putIn_70 : decode cX2_putIn 70 = .ok (.iload_n 1, 1) := by decide +kernel
theorem dX2_putIn_71 : decode cX2_putIn 71 = .ok (.iconst 0, 1) := by decide +kernel
theorem dX2_putIn_72 : decode cX2_putIn 72 = .ok (.aload_n 0, 1) := by decide +kernel
theorem dX2_putIn_73 : decode cX2_putIn 73 = .ok (.getfield 9, 3) := by decide +kernel
theorem dX2_putIn_76 : decode cX2_putIn 76 = .ok (.invokestatic 34, 3) := by decide +kernel
theorem dX2_putIn_79 : decode cX2_putIn 79 = .ok (.invokevirtual 43, 3) := by decide +kernel
theorem dX2_putIn_82 : decode cX2_putIn 82 = .ok (.aload_n 0, 1) := by decide +kernel
theorem dX2_putIn_83 : decode cX2_putIn 83 = .ok (.getfield 20, 3) := by decide +kernel
theorem dX2_putIn_86 : decode cX2_putIn 86 = .ok (.invokevirtual 30, 3) := by decide +kernel
theorem dX2_putIn_89 : decode cX2_putIn 89 = .ok (.ireturn, 1) := by decide +kernel
theorem dX2_takeOut_0 : decode cX2_takeOut 0 = .ok (.iload_n 1, 1) := by decide +kernel
theorem dX2_takeOut_1 : decode cX2_takeOut 1 = .ok (.ifCond .lt 14, 3) := by decide +kernel
theorem dX2_takeOut_4 : decode cX2_takeOut 4 = .ok (.iload_n 1, 1) := by decide +kernel
theorem dX2_takeOut_5 : decode cX2_takeOut 5 = .ok (.aload_n 0, 1) := by decide +kernel
theorem dX2_takeOut_6 : decode cX2_takeOut 6 = .ok (.getfield 20, 3) := by decide +kernel
theorem dX2_takeOut_9 : decode cX2_takeOut 9 = .ok (.invokevirtual 30, 3) := by decide +kernel
theorem dX2_takeOut_12 : decode cX2_takeOut 12 = .ok (.if_icmp .lt 5, 3) := by decide +kernel
theorem dX2_takeOut_15 : decode cX2_takeOut 15 = .ok (.iconst (-1), 1) := by decide +kernel
theorem dX2_takeOut_16 : decode cX2_takeOut 16 = .ok (.ireturn, 1) := by decide +kernel
theorem dX2_takeOut_17 : decode cX2_takeOut 17 = .ok (.aload_n 0, 1) := by decide +kernel
theorem dX2_takeOut_18 : decode cX2_takeOut 18 = .ok (.getfield 24, 3) := by decide +kernel
theorem dX2_takeOut_21 : decode cX2_takeOut 21 = .ok (.invokevirtual 30, 3) := by decide +kernel
theorem dX2_takeOut_24 : decode cX2_takeOut 24 = .ok (.bipush 6, 2) := by decide +kernel
theorem dX2_takeOut_26 : decode cX2_takeOut 26 = .ok (.if_icmp .lt 6, 3) := by decide +kernel
theorem dX2_takeOut_29 : decode cX2_takeOut 29 = .ok (.bipush (-3), 2) := by decide +kernel
theorem dX2_takeOut_31 : decode cX2_takeOut 31 = .ok (.ireturn, 1) := by decide +kernel
theorem dX2_takeOut_32 : decode cX2_takeOut 32 = .ok (.aload_n 0, 1) := by decide +kernel
theorem dX2_takeOut_33 : decode cX2_takeOut 33 = .ok (.getfield 20, 3) := by decide +kernel
theorem dX2_takeOut_36 : decode cX2_takeOut 36 = .ok (.iload_n 1, 1) := by decide +kernel
theorem dX2_takeOut_37 : decode cX2_takeOut 37 = .ok (.invokevirtual 46, 3) := by decide +kernel
theorem dX2_takeOut_40 : decode cX2_takeOut 40 = .ok (.istore_n 2, 1) := by decide +kernel
theorem dX2_takeOut_41 : decode cX2_takeOut 41 = .ok (.aload_n 0, 1) := by decide +kernel
theorem dX2_takeOut_42 : decode cX2_takeOut 42 = .ok (.iconst 2, 1) := by decide +kernel
theorem dX2_takeOut_43 : decode cX2_takeOut 43 = .ok (.iload_n 1, 1) := by decide +kernel
theorem dX2_takeOut_44 : decode cX2_takeOut 44 = .ok (.iconst 0, 1) := by decide +kernel
theorem dX2_takeOut_45 : decode cX2_takeOut 45 = .ok (.aload_n 0, 1) := by decide +kernel
theorem dX2_takeOut_46 : decode cX2_takeOut 46 = .ok (.getfield 9, 3) := by decide +kernel
theorem dX2_takeOut_49 : decode cX2_takeOut 49 = .ok (.invokestatic 34, 3) := by decide +kernel
theorem dX2_takeOut_52 : decode cX2_takeOut 52 = .ok (.invokevirtual 40, 3) := by decide +kernel
theorem dX2_takeOut_55 : decode cX2_takeOut 55 = .ok (.aload_n 0, 1) := by decide +kernel
theorem dX2_takeOut_56 : decode cX2_takeOut 56 = .ok (.iconst 1, 1) := by decide +kernel
theorem dX2_takeOut_57 : decode cX2_takeOut 57 = .ok (.iload_n 1, 1) := by decide +kernel
theorem dX2_takeOut_58 : decode cX2_takeOut 58 = .ok (.iload_n 2, 1) := by decide +kernel
theorem dX2_takeOut_59 : decode cX2_takeOut 59 = .ok (.aload_n 0, 1) := by decide +kernel
theorem dX2_takeOut_60 : decode cX2_takeOut 60 = .ok (.getfield 9, 3) := by decide +kernel
theorem dX2_takeOut_63 : decode cX2_takeOut 63 = .ok (.invokestatic 34, 3) := by decide +kernel
theorem dX2_takeOut_66 : decode cX2_takeOut 66 = .ok (.invokevirtual 43, 3) := by decide +kernel
theorem dX2_takeOut_69 : decode cX2_takeOut 69 = .ok (.iload_n 2, 1) := by decide +kernel
theorem dX2_takeOut_70 : decode cX2_takeOut 70 = .ok (.ireturn, 1) := by decide +kernel
theorem dX2_goBack_0 : decode cX2_goBack 0 = .ok (.aload_n 0, 1) := by decide +kernel
theorem dX2_goBack_1 : decode cX2_goBack 1 = .ok (.getfield 27, 3) := by decide +kernel
theorem dX2_goBack_4 : decode cX2_goBack 4 = .ok (.invokevirtual 30, 3) := by decide +kernel
theorem dX2_goBack_7 : decode cX2_goBack 7 = .ok (.iconst 1, 1) := by decide +kernel
theorem dX2_goBack_8 : decode cX2_goBack 8 = .ok (.isub, 1) := by decide +kernel
theorem dX2_goBack_9 : decode cX2_goBack 9 = .ok (.istore_n 1, 1) := by decide +kernel
theorem dX2_goBack_10 : decode cX2_goBack 10 = .ok (.iload_n 1, 1) := by decide +kernel
theorem dX2_goBack_11 : decode cX2_goBack 11 = .ok (.ifCond .ge 6, 3) := by decide +kernel
theorem dX2_goBack_14 : decode cX2_goBack 14 = .ok (.bipush (-2), 2) := by decide +kernel
theorem dX2_goBack_16 : decode cX2_goBack 16 = .ok (.ireturn, 1) := by decide +kernel
theorem dX2_goBack_17 : decode cX2_goBack 17 = .ok (.aload_n 0, 1) := by decide +kernel
theorem dX2_goBack_18 : decode cX2_goBack 18 = .ok (.getfield 27, 3) := by decide +kernel
theorem dX2_goBack_21 : decode cX2_goBack 21 = .ok (.iload_n 1, 1) := by decide +kernel
theorem dX2_goBack_22 : decode cX2_goBack 22 = .ok (.invokevirtual 46, 3) := by decide +kernel
theorem dX2_goBack_25 : decode cX2_goBack 25 = .ok (.istore_n 2, 1) := by decide +kernel
theorem dX2_goBack_26 : decode cX2_goBack 26 = .ok (.iload_n 2, 1) := by decide +kernel
theorem dX2_goBack_27 : decode cX2_goBack 27 = .ok (.invokestatic 50, 3) := by decide +kernel
theorem dX2_goBack_30 : decode cX2_goBack 30 = .ok (.istore_n 3, 1) := by decide +kernel
theorem dX2_goBack_31 : decode cX2_goBack 31 = .ok (.aload_n 0, 1) := by decide +kernel
theorem dX2_goBack_32 : decode cX2_goBack 32 = .ok (.getfield 24, 3) := by decide +kernel
theorem dX2_goBack_35 : decode cX2_goBack 35 = .ok (.invokevirtual 30, 3) := by decide +kernel
theorem dX2_goBack_38 : decode cX2_goBack 38 = .ok (.bipush 6, 2) := by decide +kernel
theorem dX2_goBack_40 : decode cX2_goBack 40 = .ok (.if_icmp .ge 20, 3) := by decide +kernel
theorem dX2_goBack_43 : decode cX2_goBack 43 = .ok (.iload_n 3, 1) := by decide +kernel
theorem dX2_goBack_44 : decode cX2_goBack 44 = .ok (.iconst 1, 1) := by decide +kernel
theorem dX2_goBack_45 : decode cX2_goBack 45 = .ok (.if_icmp .ne 18, 3) := by decide +kernel
theorem dX2_goBack_48 : decode cX2_goBack 48 = .ok (.aload_n 0, 1) := by decide +kernel
theorem dX2_goBack_49 : decode cX2_goBack 49 = .ok (.getfield 20, 3) := by decide +kernel
theorem dX2_goBack_52 : decode cX2_goBack 52 = .ok (.invokevirtual 30, 3) := by decide +kernel
theorem dX2_goBack_55 : decode cX2_goBack 55 = .ok (.bipush 30, 2) := by decide +kernel
theorem dX2_goBack_57 : decode cX2_goBack 57 = .ok (.if_icmp .lt 6, 3) := by decide +kernel
theorem dX2_goBack_60 : decode cX2_goBack 60 = .ok (.bipush (-3), 2) := by decide +kernel
theorem dX2_goBack_62 : decode cX2_goBack 62 = .ok (.ireturn, 1) := by decide +kernel
theorem dX2_goBack_63 : decode cX2_goBack 63 = .ok (.aload_n 0, 1) := by decide +kernel
theorem dX2_goBack_64 : decode cX2_goBack 64 = .ok (.getfield 27, 3) := by decide +kernel
theorem dX2_goBack_67 : decode cX2_goBack 67 = .ok (.iload_n 1, 1) := by decide +kernel
theorem dX2_goBack_68 : decode cX2_goBack 68 = .ok (.invokevirtual 53, 3) := by decide +kernel
theorem dX2_goBack_71 : decode cX2_goBack 71 = .ok (.iload_n 3, 1) := by decide +kernel
theorem dX2_goBack_72 : decode cX2_goBack 72 = .ok (.ifCond .eq 8, 3) := by decide +kernel
theorem dX2_goBack_75 : decode cX2_goBack 75 = .ok (.aload_n 0, 1) := by decide +kernel
theorem dX2_goBack_76 : decode cX2_goBack 76 = .ok (.iload_n 2, 1) := by decide +kernel
theorem dX2_goBack_77 : decode cX2_goBack 77 = .ok (.invokevirtual 40, 3) := by decide +kernel
theorem dX2_goBack_80 : decode cX2_goBack 80 = .ok (.iload_n 3, 1) := by decide +kernel
theorem dX2_goBack_81 : decode cX2_goBack 81 = .ok (.ireturn, 1) := by decide +kernel
theorem dX2_setSpot_0 : decode cX2_setSpot 0 = .ok (.iload_n 1, 1) := by decide +kernel
theorem dX2_setSpot_1 : decode cX2_setSpot 1 = .ok (.ifCond .lt 14, 3) := by decide +kernel
theorem dX2_setSpot_4 : decode cX2_setSpot 4 = .ok (.iload_n 1, 1) := by decide +kernel
theorem dX2_setSpot_5 : decode cX2_setSpot 5 = .ok (.aload_n 0, 1) := by decide +kernel
theorem dX2_setSpot_6 : decode cX2_setSpot 6 = .ok (.getfield 20, 3) := by decide +kernel
theorem dX2_setSpot_9 : decode cX2_setSpot 9 = .ok (.invokevirtual 30, 3) := by decide +kernel
theorem dX2_setSpot_12 : decode cX2_setSpot 12 = .ok (.if_icmp .le 5, 3) := by decide +kernel
theorem dX2_setSpot_15 : decode cX2_setSpot 15 = .ok (.iconst (-1), 1) := by decide +kernel
theorem dX2_setSpot_16 : decode cX2_setSpot 16 = .ok (.ireturn, 1) := by decide +kernel
theorem dX2_setSpot_17 : decode cX2_setSpot 17 = .ok (.aload_n 0, 1) := by decide +kernel
theorem dX2_setSpot_18 : decode cX2_setSpot 18 = .ok (.getfield 56, 3) := by decide +kernel
theorem dX2_setSpot_21 : decode cX2_setSpot 21 = .ok (.istore_n 2, 1) := by decide +kernel
theorem dX2_setSpot_22 : decode cX2_setSpot 22 = .ok (.aload_n 0, 1) := by decide +kernel
theorem dX2_setSpot_23 : decode cX2_setSpot 23 = .ok (.iload_n 1, 1) := by decide +kernel
theorem dX2_setSpot_24 : decode cX2_setSpot 24 = .ok (.putfield 56, 3) := by decide +kernel
theorem dX2_setSpot_27 : decode cX2_setSpot 27 = .ok (.iload_n 2, 1) := by decide +kernel
theorem dX2_setSpot_28 : decode cX2_setSpot 28 = .ok (.ireturn, 1) := by decide +kernel
theorem dX2_canSend_0 : decode cX2_canSend 0 = .ok (.aload_n 0, 1) := by decide +kernel
theorem dX2_canSend_1 : decode cX2_canSend 1 = .ok (.getfield 24, 3) := by decide +kernel
theorem dX2_canSend_4 : decode cX2_canSend 4 = .ok (.invokevirtual 30, 3) := by decide +kernel
theorem dX2_canSend_7 : decode cX2_canSend 7 = .ok (.ifCond .le 14, 3) := by decide +kernel
theorem dX2_canSend_10 : decode cX2_canSend 10 = .ok (.aload_n 0, 1) := by decide +kernel
theorem dX2_canSend_11 : decode cX2_canSend 11 = .ok (.getfield 59, 3) := by decide +kernel
theorem dX2_canSend_14 : decode cX2_canSend 14 = .ok (.ifCond .ne 7, 3) := by decide +kernel
theorem dX2_canSend_17 : decode cX2_canSend 17 = .ok (.iconst 1, 1) := by decide +kernel
theorem dX2_canSend_18 : decode cX2_canSend 18 = .ok (.goto 4, 3) := by decide +kernel
theorem dX2_canSend_21 : decode cX2_canSend 21 = .ok (.iconst 0, 1) := by decide +kernel
theorem dX2_canSend_22 : decode cX2_canSend 22 = .ok (.ireturn, 1) := by decide +kernel
theorem dX2_outgoing_0 : decode cX2_outgoing 0 = .ok (.aload_n 0, 1) := by decide +kernel
theorem dX2_outgoing_1 : decode cX2_outgoing 1 = .ok (.getfield 24, 3) := by decide +kernel
theorem dX2_outgoing_4 : decode cX2_outgoing 4 = .ok (.iconst 0, 1) := by decide +kernel
theorem dX2_outgoing_5 : decode cX2_outgoing 5 = .ok (.invokevirtual 46, 3) := by decide +kernel
theorem dX2_outgoing_8 : decode cX2_outgoing 8 = .ok (.istore_n 2, 1) := by decide +kernel
theorem dX2_outgoing_9 : decode cX2_outgoing 9 = .ok (.aload_n 0, 1) := by decide +kernel
theorem dX2_outgoing_10 : decode cX2_outgoing 10 = .ok (.getfield 63, 3) := by decide +kernel
theorem dX2_outgoing_13 : decode cX2_outgoing 13 = .ok (.istore_n 3, 1) := by decide +kernel
theorem dX2_outgoing_14 : decode cX2_outgoing 14 = .ok (.iload_n 3, 1) := by decide +kernel
theorem dX2_outgoing_15 : decode cX2_outgoing 15 = .ok (.aload_n 1, 1) := by decide +kernel
theorem dX2_outgoing_16 : decode cX2_outgoing 16 = .ok (.invokevirtual 30, 3) := by decide +kernel
theorem dX2_outgoing_19 : decode cX2_outgoing 19 = .ok (.if_icmp .ge 19, 3) := by decide +kernel
theorem dX2_outgoing_22 : decode cX2_outgoing 22 = .ok (.iload_n 2, 1) := by decide +kernel
theorem dX2_outgoing_23 : decode cX2_outgoing 23 = .ok (.aload_n 1, 1) := by decide +kernel
theorem dX2_outgoing_24 : decode cX2_outgoing 24 = .ok (.iload_n 3, 1) := by decide +kernel
theorem dX2_outgoing_25 : decode cX2_outgoing 25 = .ok (.invokevirtual 46, 3) := by decide +kernel
theorem dX2_outgoing_28 : decode cX2_outgoing 28 = .ok (.invokestatic 66, 3) := by decide +kernel
theorem dX2_outgoing_31 : decode cX2_outgoing 31 = .ok (.istore_n 2, 1) := by decide +kernel
theorem dX2_outgoing_32 : decode cX2_outgoing 32 = .ok (.iinc 3 1, 3) := by decide +kernel
theorem dX2_outgoing_35 : decode cX2_outgoing 35 = .ok (.goto (-21), 3) := by decide +kernel
theorem dX2_outgoing_38 : decode cX2_outgoing 38 = .ok (.iload_n 2, 1) := by decide +kernel
theorem dX2_outgoing_39 : decode cX2_outgoing 39 = .ok (.ireturn, 1) := by decide +kernel
theorem dX2_hearNext_0 : decode cX2_hearNext 0 = .ok (.aload_n 0, 1) := by decide +kernel
theorem dX2_hearNext_1 : decode cX2_hearNext 1 = .ok (.getfield 63, 3) := by decide +kernel
theorem dX2_hearNext_4 : decode cX2_hearNext 4 = .ok (.aload_n 1, 1) := by decide +kernel
theorem dX2_hearNext_5 : decode cX2_hearNext 5 = .ok (.invokevirtual 30, 3) := by decide +kernel
theorem dX2_hearNext_8 : decode cX2_hearNext 8 = .ok (.if_icmp .lt 6, 3) := by decide +kernel
theorem dX2_hearNext_11 : decode cX2_hearNext 11 = .ok (.bipush (-2), 2) := by decide +kernel
theorem dX2_hearNext_13 : decode cX2_hearNext 13 = .ok (.ireturn, 1) := by decide +kernel
theorem dX2_hearNext_14 : decode cX2_hearNext 14 = .ok (.aload_n 1, 1) := by decide +kernel
theorem dX2_hearNext_15 : decode cX2_hearNext 15 = .ok (.aload_n 0, 1) := by decide +kernel
theorem dX2_hearNext_16 : decode cX2_hearNext 16 = .ok (.getfield 63, 3) := by decide +kernel
theorem dX2_hearNext_19 : decode cX2_hearNext 19 = .ok (.invokevirtual 46, 3) := by decide +kernel
theorem dX2_hearNext_22 : decode cX2_hearNext 22 = .ok (.istore_n 2, 1) := by decide +kernel
theorem dX2_hearNext_23 : decode cX2_hearNext 23 = .ok (.aload_n 0, 1) := by decide +kernel
theorem dX2_hearNext_24 : decode cX2_hearNext 24 = .ok (.dup, 1) := by decide +kernel
theorem dX2_hearNext_25 : decode cX2_hearNext 25 = .ok (.getfield 63, 3) := by decide +kernel
theorem dX2_hearNext_28 : decode cX2_hearNext 28 = .ok (.iconst 1, 1) := by decide +kernel
theorem dX2_hearNext_29 : decode cX2_hearNext 29 = .ok (.iadd, 1) := by decide +kernel
theorem dX2_hearNext_30 : decode cX2_hearNext 30 = .ok (.putfield 63, 3) := by decide +kernel
theorem dX2_hearNext_33 : decode cX2_hearNext 33 = .ok (.aload_n 0, 1) := by decide +kernel
theorem dX2_hearNext_34 : decode cX2_hearNext 34 = .ok (.getfield 59, 3) := by decide +kernel
theorem dX2_hearNext_37 : decode cX2_hearNext 37 = .ok (.ifCond .eq 29, 3) := by decide +kernel
theorem dX2_hearNext_40 : decode cX2_hearNext 40 = .ok (.iload_n 2, 1) := by decide +kernel
theorem dX2_hearNext_41 : decode cX2_hearNext 41 = .ok (.invokestatic 70, 3) := by decide +kernel
theorem dX2_hearNext_44 : decode cX2_hearNext 44 = .ok (.aload_n 0, 1) := by decide +kernel
theorem dX2_hearNext_45 : decode cX2_hearNext 45 = .ok (.getfield 9, 3) := by decide +kernel
theorem dX2_hearNext_48 : decode cX2_hearNext 48 = .ok (.if_icmp .ne 18, 3) := by decide +kernel
theorem dX2_hearNext_51 : decode cX2_hearNext 51 = .ok (.aload_n 0, 1) := by decide +kernel
theorem dX2_hearNext_52 : decode cX2_hearNext 52 = .ok (.getfield 24, 3) := by decide +kernel
theorem dX2_hearNext_55 : decode cX2_hearNext 55 = .ok (.iconst 0, 1) := by decide +kernel
theorem dX2_hearNext_56 : decode cX2_hearNext 56 = .ok (.invokevirtual 53, 3) := by decide +kernel
theorem dX2_hearNext_59 : decode cX2_hearNext 59 = .ok (.aload_n 0, 1) := by decide +kernel
theorem dX2_hearNext_60 : decode cX2_hearNext 60 = .ok (.iconst 0, 1) := by decide +kernel
theorem dX2_hearNext_61 : decode cX2_hearNext 61 = .ok (.putfield 59, 3) := by decide +kernel
theorem dX2_hearNext_64 : decode cX2_hearNext 64 = .ok (.iconst 0, 1) := by decide +kernel
theorem dX2_hearNext_65 : decode cX2_hearNext 65 = .ok (.ireturn, 1) := by decide +kernel
theorem dX2_hearNext_66 : decode cX2_hearNext 66 = .ok (.aload_n 0, 1) := by decide +kernel
theorem dX2_hearNext_67 : decode cX2_hearNext 67 = .ok (.getfield 24, 3) := by decide +kernel
theorem dX2_hearNext_70 : decode cX2_hearNext 70 = .ok (.iload_n 2, 1) := by decide +kernel
theorem dX2_hearNext_71 : decode cX2_hearNext 71 = .ok (.invokestatic 73, 3) := by decide +kernel
theorem dX2_hearNext_74 : decode cX2_hearNext 74 = .ok (.istore_n 3, 1) := by decide +kernel
theorem dX2_hearNext_75 : decode cX2_hearNext 75 = .ok (.aload_n 0, 1) := by decide +kernel
theorem dX2_hearNext_76 : decode cX2_hearNext 76 = .ok (.iload_n 3, 1) := by decide +kernel
theorem dX2_hearNext_77 : decode cX2_hearNext 77 = .ok (.invokevirtual 77, 3) := by decide +kernel
theorem dX2_hearNext_80 : decode cX2_hearNext 80 = .ok (.iload_n 3, 1) := by decide +kernel
theorem dX2_hearNext_81 : decode cX2_hearNext 81 = .ok (.invokestatic 50, 3) := by decide +kernel
theorem dX2_hearNext_84 : decode cX2_hearNext 84 = .ok (.ireturn, 1) := by decide +kernel
theorem dX2_hearRest_0 : decode cX2_hearRest 0 = .ok (.aload_n 1, 1) := by decide +kernel
theorem dX2_hearRest_1 : decode cX2_hearRest 1 = .ok (.invokevirtual 30, 3) := by decide +kernel
theorem dX2_hearRest_4 : decode cX2_hearRest 4 = .ok (.aload_n 0, 1) := by decide +kernel
theorem dX2_hearRest_5 : decode cX2_hearRest 5 = .ok (.getfield 63, 3) := by decide +kernel
theorem dX2_hearRest_8 : decode cX2_hearRest 8 = .ok (.isub, 1) := by decide +kernel
theorem dX2_hearRest_9 : decode cX2_hearRest 9 = .ok (.istore_n 2, 1) := by decide +kernel
theorem dX2_hearRest_10 : decode cX2_hearRest 10 = .ok (.iload_n 2, 1) := by decide +kernel
theorem dX2_hearRest_11 : decode cX2_hearRest 11 = .ok (.ifCond .gt 6, 3) := by decide +kernel
theorem dX2_hearRest_14 : decode cX2_hearRest 14 = .ok (.bipush (-2), 2) := by decide +kernel
theorem dX2_hearRest_16 : decode cX2_hearRest 16 = .ok (.ireturn, 1) := by decide +kernel
theorem dX2_hearRest_17 : decode cX2_hearRest 17 = .ok (.iconst 0, 1) := by decide +kernel
theorem dX2_hearRest_18 : decode cX2_hearRest 18 = .ok (.istore_n 3, 1) := by decide +kernel
theorem dX2_hearRest_19 : decode cX2_hearRest 19 = .ok (.iload_n 3, 1) := by decide +kernel
theorem dX2_hearRest_20 : decode cX2_hearRest 20 = .ok (.iload_n 2, 1) := by decide +kernel
theorem dX2_hearRest_21 : decode cX2_hearRest 21 = .ok (.if_icmp .ge 15, 3) := by decide +kernel
theorem dX2_hearRest_24 : decode cX2_hearRest 24 = .ok (.aload_n 0, 1) := by decide +kernel
theorem dX2_hearRest_25 : decode cX2_hearRest 25 = .ok (.aload_n 1, 1) := by decide +kernel
theorem dX2_hearRest_26 : decode cX2_hearRest 26 = .ok (.invokevirtual 80, 3) := by decide +kernel
theorem dX2_hearRest_29 : decode cX2_hearRest 29 = .ok (.pop, 1) := by decide +kernel
theorem dX2_hearRest_30 : decode cX2_hearRest 30 = .ok (.iinc 3 1, 3) := by decide +kernel
theorem dX2_hearRest_33 : decode cX2_hearRest 33 = .ok (.goto (-14), 3) := by decide +kernel
theorem dX2_hearRest_36 : decode cX2_hearRest 36 = .ok (.iload_n 2, 1) := by decide +kernel
theorem dX2_hearRest_37 : decode cX2_hearRest 37 = .ok (.ireturn, 1) := by decide +kernel
theorem dX2_isSettled_0 : decode cX2_isSettled 0 = .ok (.aload_n 0, 1) := by decide +kernel
theorem dX2_isSettled_1 : decode cX2_isSettled 1 = .ok (.getfield 24, 3) := by decide +kernel
theorem dX2_isSettled_4 : decode cX2_isSettled 4 = .ok (.invokevirtual 30, 3) := by decide +kernel
theorem dX2_isSettled_7 : decode cX2_isSettled 7 = .ok (.ifCond .ne 18, 3) := by decide +kernel
theorem dX2_isSettled_10 : decode cX2_isSettled 10 = .ok (.aload_n 0, 1) := by decide +kernel
theorem dX2_isSettled_11 : decode cX2_isSettled 11 = .ok (.getfield 63, 3) := by decide +kernel
theorem dX2_isSettled_14 : decode cX2_isSettled 14 = .ok (.aload_n 1, 1) := by decide +kernel
theorem dX2_isSettled_15 : decode cX2_isSettled 15 = .ok (.invokevirtual 30, 3) := by decide +kernel
theorem dX2_isSettled_18 : decode cX2_isSettled 18 = .ok (.if_icmp .lt 7, 3) := by decide +kernel
theorem dX2_isSettled_21 : decode cX2_isSettled 21 = .ok (.iconst 1, 1) := by decide +kernel
theorem dX2_isSettled_22 : decode cX2_isSettled 22 = .ok (.goto 4, 3) := by decide +kernel
theorem dX2_isSettled_25 : decode cX2_isSettled 25 = .ok (.iconst 0, 1) := by decide +kernel
theorem dX2_isSettled_26 : decode cX2_isSettled 26 = .ok (.ireturn, 1) := by decide +kernel
theorem dX2_forget_0 : decode cX2_forget 0 = .ok (.aload_n 0, 1) := by decide +kernel
theorem dX2_forget_1 : decode cX2_forget 1 = .ok (.getfield 20, 3) := by decide +kernel
theorem dX2_forget_4 : decode cX2_forget 4 = .ok (.invokevirtual 84, 3) := by decide +kernel
theorem dX2_forget_7 : decode cX2_forget 7 = .ok (.aload_n 0, 1) := by decide +kernel
theorem dX2_forget_8 : decode cX2_forget 8 = .ok (.getfield 24, 3) := by decide +kernel
theorem dX2_forget_11 : decode cX2_forget 11 = .ok (.invokevirtual 84, 3) := by decide +kernel
theorem dX2_forget_14 : decode cX2_forget 14 = .ok (.aload_n 0, 1) := by decide +kernel
theorem dX2_forget_15 : decode cX2_forget 15 = .ok (.getfield 27, 3) := by decide +kernel
theorem dX2_forget_18 : decode cX2_forget 18 = .ok (.invokevirtual 84, 3) := by decide +kernel
theorem dX2_forget_21 : decode cX2_forget 21 = .ok (.aload_n 0, 1) := by decide +kernel
theorem dX2_forget_22 : decode cX2_forget 22 = .ok (.iconst 0, 1) := by decide +kernel
theorem dX2_forget_23 : decode cX2_forget 23 = .ok (.putfield 59, 3) := by decide +kernel
theorem dX2_forget_26 : decode cX2_forget 26 = .ok (.aload_n 0, 1) := by decide +kernel
theorem dX2_forget_27 : decode cX2_forget 27 = .ok (.iconst 0, 1) := by decide +kernel
theorem dX2_forget_28 : decode cX2_forget 28 = .ok (.putfield 63, 3) := by decide +kernel
theorem dX2_forget_31 : decode cX2_forget 31 = .ok (.aload_n 0, 1) := by decide +kernel
theorem dX2_forget_32 : decode cX2_forget 32 = .ok (.iconst 0, 1) := by decide +kernel
theorem dX2_forget_33 : decode cX2_forget 33 = .ok (.putfield 56, 3) := by decide +kernel
theorem dX2_forget_36 : decode cX2_forget 36 = .ok (.aload_n 0, 1) := by decide +kernel
theorem dX2_forget_37 : decode cX2_forget 37 = .ok (.iconst 0, 1) := by decide +kernel
theorem dX2_forget_38 : decode cX2_forget 38 = .ok (.putfield 87, 3) := by decide +kernel
theorem dX2_forget_41 : decode cX2_forget 41 = .ok (.return_, 1) := by decide +kernel
theorem dX2_copyEditor_0 : decode cX2_copyEditor 0 = .ok (.aload_n 0, 1) := by decide +kernel
theorem dX2_copyEditor_1 : decode cX2_copyEditor 1 = .ok (.getfield 20, 3) := by decide +kernel
theorem dX2_copyEditor_4 : decode cX2_copyEditor 4 = .ok (.aload_n 1, 1) := by decide +kernel
theorem dX2_copyEditor_5 : decode cX2_copyEditor 5 = .ok (.getfield 20, 3) := by decide +kernel
theorem dX2_copyEditor_8 : decode cX2_copyEditor 8 = .ok (.invokevirtual 90, 3) := by decide +kernel
theorem dX2_copyEditor_11 : decode cX2_copyEditor 11 = .ok (.aload_n 0, 1) := by decide +kernel
theorem dX2_copyEditor_12 : decode cX2_copyEditor 12 = .ok (.getfield 24, 3) := by decide +kernel
theorem dX2_copyEditor_15 : decode cX2_copyEditor 15 = .ok (.aload_n 1, 1) := by decide +kernel
theorem dX2_copyEditor_16 : decode cX2_copyEditor 16 = .ok (.getfield 24, 3) := by decide +kernel
theorem dX2_copyEditor_19 : decode cX2_copyEditor 19 = .ok (.invokevirtual 90, 3) := by decide +kernel
theorem dX2_copyEditor_22 : decode cX2_copyEditor 22 = .ok (.aload_n 0, 1) := by decide +kernel
theorem dX2_copyEditor_23 : decode cX2_copyEditor 23 = .ok (.getfield 27, 3) := by decide +kernel
theorem dX2_copyEditor_26 : decode cX2_copyEditor 26 = .ok (.aload_n 1, 1) := by decide +kernel
theorem dX2_copyEditor_27 : decode cX2_copyEditor 27 = .ok (.getfield 27, 3) := by decide +kernel
theorem dX2_copyEditor_30 : decode cX2_copyEditor 30 = .ok (.invokevirtual 90, 3) := by decide +kernel
theorem dX2_copyEditor_33 : decode cX2_copyEditor 33 = .ok (.aload_n 0, 1) := by decide +kernel
theorem dX2_copyEditor_34 : decode cX2_copyEditor 34 = .ok (.aload_n 1, 1) := by decide +kernel
theorem dX2_copyEditor_35 : decode cX2_copyEditor 35 = .ok (.getfield 59, 3) := by decide +kernel
theorem dX2_copyEditor_38 : decode cX2_copyEditor 38 = .ok (.putfield 59, 3) := by decide +kernel
theorem dX2_copyEditor_41 : decode cX2_copyEditor 41 = .ok (.aload_n 0, 1) := by decide +kernel
theorem dX2_copyEditor_42 : decode cX2_copyEditor 42 = .ok (.aload_n 1, 1) := by decide +kernel
theorem dX2_copyEditor_43 : decode cX2_copyEditor 43 = .ok (.getfield 63, 3) := by decide +kernel
theorem dX2_copyEditor_46 : decode cX2_copyEditor 46 = .ok (.putfield 63, 3) := by decide +kernel
theorem dX2_copyEditor_49 : decode cX2_copyEditor 49 = .ok (.aload_n 0, 1) := by decide +kernel
theorem dX2_copyEditor_50 : decode cX2_copyEditor 50 = .ok (.aload_n 1, 1) := by decide +kernel
theorem dX2_copyEditor_51 : decode cX2_copyEditor 51 = .ok (.getfield 56, 3) := by decide +kernel
theorem dX2_copyEditor_54 : decode cX2_copyEditor 54 = .ok (.putfield 56, 3) := by decide +kernel
theorem dX2_copyEditor_57 : decode cX2_copyEditor 57 = .ok (.aload_n 0, 1) := by decide +kernel
theorem dX2_copyEditor_58 : decode cX2_copyEditor 58 = .ok (.aload_n 1, 1) := by decide +kernel
theorem dX2_copyEditor_59 : decode cX2_copyEditor 59 = .ok (.getfield 87, 3) := by decide +kernel
theorem dX2_copyEditor_62 : decode cX2_copyEditor 62 = .ok (.putfield 87, 3) := by decide +kernel
theorem dX2_copyEditor_65 : decode cX2_copyEditor 65 = .ok (.return_, 1) := by decide +kernel
theorem dX2_write_0 : decode cX2_write 0 = .ok (.aload_n 0, 1) := by decide +kernel
theorem dX2_write_1 : decode cX2_write 1 = .ok (.iload_n 1, 1) := by decide +kernel
theorem dX2_write_2 : decode cX2_write 2 = .ok (.invokevirtual 77, 3) := by decide +kernel
theorem dX2_write_5 : decode cX2_write 5 = .ok (.aload_n 0, 1) := by decide +kernel
theorem dX2_write_6 : decode cX2_write 6 = .ok (.getfield 24, 3) := by decide +kernel
theorem dX2_write_9 : decode cX2_write 9 = .ok (.iload_n 1, 1) := by decide +kernel
theorem dX2_write_10 : decode cX2_write 10 = .ok (.invokevirtual 94, 3) := by decide +kernel
theorem dX2_write_13 : decode cX2_write 13 = .ok (.aload_n 0, 1) := by decide +kernel
theorem dX2_write_14 : decode cX2_write 14 = .ok (.dup, 1) := by decide +kernel
theorem dX2_write_15 : decode cX2_write 15 = .ok (.getfield 87, 3) := by decide +kernel
theorem dX2_write_18 : decode cX2_write 18 = .ok (.iconst 1, 1) := by decide +kernel
theorem dX2_write_19 : decode cX2_write 19 = .ok (.iadd, 1) := by decide +kernel
theorem dX2_write_20 : decode cX2_write 20 = .ok (.putfield 87, 3) := by decide +kernel
theorem dX2_write_23 : decode cX2_write 23 = .ok (.return_, 1) := by decide +kernel
theorem dX2_apply_0 : decode cX2_apply 0 = .ok (.iload_n 1, 1) := by decide +kernel
theorem dX2_apply_1 : decode cX2_apply 1 = .ok (.invokestatic 97, 3) := by decide +kernel
theorem dX2_apply_4 : decode cX2_apply 4 = .ok (.istore_n 2, 1) := by decide +kernel
theorem dX2_apply_5 : decode cX2_apply 5 = .ok (.iload_n 1, 1) := by decide +kernel
theorem dX2_apply_6 : decode cX2_apply 6 = .ok (.invokestatic 50, 3) := by decide +kernel
theorem dX2_apply_9 : decode cX2_apply 9 = .ok (.istore_n 3, 1) := by decide +kernel
theorem dX2_apply_10 : decode cX2_apply 10 = .ok (.iload_n 3, 1) := by decide +kernel
theorem dX2_apply_11 : decode cX2_apply 11 = .ok (.iconst 1, 1) := by decide +kernel
theorem dX2_apply_12 : decode cX2_apply 12 = .ok (.if_icmp .ne 40, 3) := by decide +kernel
theorem dX2_apply_15 : decode cX2_apply 15 = .ok (.aload_n 0, 1) := by decide +kernel
theorem dX2_apply_16 : decode cX2_apply 16 = .ok (.getfield 20, 3) := by decide +kernel
theorem dX2_apply_19 : decode cX2_apply 19 = .ok (.iload_n 2, 1) := by decide +kernel
theorem dX2_apply_20 : decode cX2_apply 20 = .ok (.iload_n 1, 1) := by decide +kernel
theorem dX2_apply_21 : decode cX2_apply 21 = .ok (.invokestatic 100, 3) := by decide +kernel
theorem dX2_apply_24 : decode cX2_apply 24 = .ok (.invokevirtual 103, 3) := by decide +kernel
theorem dX2_apply_27 : decode cX2_apply 27 = .ok (.aload_n 0, 1) := by decide +kernel
theorem dX2_apply_28 : decode cX2_apply 28 = .ok (.dup, 1) := by decide +kernel
theorem dX2_apply_29 : decode cX2_apply 29 = .ok (.getfield 56, 3) := by decide +kernel
theorem dX2_apply_32 : decode cX2_apply 32 = .ok (.iload_n 2, 1) := by decide +kernel
theorem dX2_apply_33 : decode cX2_apply 33 = .ok (.aload_n 0, 1) := by decide +kernel
theorem dX2_apply_34 : decode cX2_apply 34 = .ok (.getfield 56, 3) := by decide +kernel
theorem dX2_apply_37 : decode cX2_apply 37 = .ok (.if_icmp .gt 7, 3) := by decide +kernel
theorem dX2_apply_40 : decode cX2_apply 40 = .ok (.iconst 1, 1) := by decide +kernel
theorem dX2_apply_41 : decode cX2_apply 41 = .ok (.goto 4, 3) := by decide +kernel
theorem dX2_apply_44 : decode cX2_apply 44 = .ok (.iconst 0, 1) := by decide +kernel
theorem dX2_apply_45 : decode cX2_apply 45 = .ok (.iadd, 1) := by decide +kernel
theorem dX2_apply_46 : decode cX2_apply 46 = .ok (.putfield 56, 3) := by decide +kernel
theorem dX2_apply_49 : decode cX2_apply 49 = .ok (.goto 38, 3) := by decide +kernel
theorem dX2_apply_52 : decode cX2_apply 52 = .ok (.iload_n 3, 1) := by decide +kernel
theorem dX2_apply_53 : decode cX2_apply 53 = .ok (.iconst 2, 1) := by decide +kernel
theorem dX2_apply_54 : decode cX2_apply 54 = .ok (.if_icmp .ne 33, 3) := by decide +kernel
theorem dX2_apply_57 : decode cX2_apply 57 = .ok (.aload_n 0, 1) := by decide +kernel
theorem dX2_apply_58 : decode cX2_apply 58 = .ok (.getfield 20, 3) := by decide +kernel
theorem dX2_apply_61 : decode cX2_apply 61 = .ok (.iload_n 2, 1) := by decide +kernel
theorem dX2_apply_62 : decode cX2_apply 62 = .ok (.invokevirtual 53, 3) := by decide +kernel
theorem dX2_apply_65 : decode cX2_apply 65 = .ok (.aload_n 0, 1) := by decide +kernel
theorem dX2_apply_66 : decode cX2_apply 66 = .ok (.dup, 1) := by decide +kernel
theorem dX2_apply_67 : decode cX2_apply 67 = .ok (.getfield 56, 3) := by decide +kernel
theorem dX2_apply_70 : decode cX2_apply 70 = .ok (.iload_n 2, 1) := by decide +kernel
theorem dX2_apply_71 : decode cX2_apply 71 = .ok (.aload_n 0, 1) := by decide +kernel
theorem dX2_apply_72 : decode cX2_apply 72 = .ok (.getfield 56, 3) := by decide +kernel
theorem dX2_apply_75 : decode cX2_apply 75 = .ok (.if_icmp .ge 7, 3) := by decide +kernel
theorem dX2_apply_78 : decode cX2_apply 78 = .ok (.iconst 1, 1) := by decide +kernel
theorem dX2_apply_79 : decode cX2_apply 79 = .ok (.goto 4, 3) := by decide +kernel
theorem dX2_apply_82 : decode cX2_apply 82 = .ok (.iconst 0, 1) := by decide +kernel
theorem dX2_apply_83 : decode cX2_apply 83 = .ok (.isub, 1) := by decide +kernel
theorem dX2_apply_84 : decode cX2_apply 84 = .ok (.putfield 56, 3) := by decide +kernel
theorem dX2_apply_87 : decode cX2_apply 87 = .ok (.iconst 0, 1) := by decide +kernel
theorem dX2_apply_88 : decode cX2_apply 88 = .ok (.istore 4, 2) := by decide +kernel
theorem dX2_apply_90 : decode cX2_apply 90 = .ok (.iload 4, 2) := by decide +kernel
theorem dX2_apply_92 : decode cX2_apply 92 = .ok (.aload_n 0, 1) := by decide +kernel
theorem dX2_apply_93 : decode cX2_apply 93 = .ok (.getfield 27, 3) := by decide +kernel
theorem dX2_apply_96 : decode cX2_apply 96 = .ok (.invokevirtual 30, 3) := by decide +kernel
theorem dX2_apply_99 : decode cX2_apply 99 = .ok (.if_icmp .ge 31, 3) := by decide +kernel
theorem dX2_apply_102 : decode cX2_apply 102 = .ok (.aload_n 0, 1) := by decide +kernel
theorem dX2_apply_103 : decode cX2_apply 103 = .ok (.getfield 27, 3) := by decide +kernel
theorem dX2_apply_106 : decode cX2_apply 106 = .ok (.iload 4, 2) := by decide +kernel
theorem dX2_apply_108 : decode cX2_apply 108 = .ok (.aload_n 0, 1) := by decide +kernel
theorem dX2_apply_109 : decode cX2_apply 109 = .ok (.getfield 27, 3) := by decide +kernel
theorem dX2_apply_112 : decode cX2_apply 112 = .ok (.iload 4, 2) := by decide +kernel
theorem dX2_apply_114 : decode cX2_apply 114 = .ok (.invokevirtual 46, 3) := by decide +kernel
theorem dX2_apply_117 : decode cX2_apply 117 = .ok (.iload_n 1, 1) := by decide +kernel
theorem dX2_apply_118 : decode cX2_apply 118 = .ok (.invokestatic 66, 3) := by decide +kernel
theorem dX2_apply_121 : decode cX2_apply 121 = .ok (.invokevirtual 107, 3) := by decide +kernel
theorem dX2_apply_124 : decode cX2_apply 124 = .ok (.iinc 4 1, 3) := by decide +kernel
theorem dX2_apply_127 : decode cX2_apply 127 = .ok (.goto (-37), 3) := by decide +kernel
theorem dX2_apply_130 : decode cX2_apply 130 = .ok (.return_, 1) := by decide +kernel
theorem dX2_keepBack_0 : decode cX2_keepBack 0 = .ok (.aload_n 0, 1) := by decide +kernel
theorem dX2_keepBack_1 : decode cX2_keepBack 1 = .ok (.getfield 27, 3) := by decide +kernel
theorem dX2_keepBack_4 : decode cX2_keepBack 4 = .ok (.invokevirtual 30, 3) := by decide +kernel
theorem dX2_keepBack_7 : decode cX2_keepBack 7 = .ok (.bipush 6, 2) := by decide +kernel
theorem dX2_keepBack_9 : decode cX2_keepBack 9 = .ok (.if_icmp .lt 11, 3) := by decide +kernel
theorem dX2_keepBack_12 : decode cX2_keepBack 12 = .ok (.aload_n 0, 1) := by decide +kernel
theorem dX2_keepBack_13 : decode cX2_keepBack 13 = .ok (.getfield 27, 3) := by decide +kernel
theorem dX2_keepBack_16 : decode cX2_keepBack 16 = .ok (.iconst 0, 1) := by decide +kernel
theorem dX2_keepBack_17 : decode cX2_keepBack 17 = .ok (.invokevirtual 53, 3) := by decide +kernel
theorem dX2_keepBack_20 : decode cX2_keepBack 20 = .ok (.aload_n 0, 1) := by decide +kernel
theorem dX2_keepBack_21 : decode cX2_keepBack 21 = .ok (.getfield 27, 3) := by decide +kernel
theorem dX2_keepBack_24 : decode cX2_keepBack 24 = .ok (.iload_n 1, 1) := by decide +kernel
theorem dX2_keepBack_25 : decode cX2_keepBack 25 = .ok (.invokevirtual 94, 3) := by decide +kernel
theorem dX2_keepBack_28 : decode cX2_keepBack 28 = .ok (.return_, 1) := by decide +kernel
theorem dX3_init_0 : decode cX3_init 0 = .ok (.aload_n 0, 1) := by decide +kernel
theorem dX3_init_1 : decode cX3_init 1 = .ok (.invokespecial 3, 3) := by decide +kernel
theorem dX3_init_4 : decode cX3_init 4 = .ok (.aload_n 0, 1) := by decide +kernel
theorem dX3_init_5 : decode cX3_init 5 = .ok (.new 9, 3) := by decide +kernel
theorem dX3_init_8 : decode cX3_init 8 = .ok (.dup, 1) := by decide +kernel
theorem dX3_init_9 : decode cX3_init 9 = .ok (.invokespecial 11, 3) := by decide +kernel
theorem dX3_init_12 : decode cX3_init 12 = .ok (.putfield 12, 3) := by decide +kernel
theorem dX3_init_15 : decode cX3_init 15 = .ok (.aload_n 0, 1) := by decide +kernel
theorem dX3_init_16 : decode cX3_init 16 = .ok (.new 9, 3) := by decide +kernel
theorem dX3_init_19 : decode cX3_init 19 = .ok (.dup, 1) := by decide +kernel
theorem dX3_init_20 : decode cX3_init 20 = .ok (.invokespecial 11, 3) := by decide +kernel
theorem dX3_init_23 : decode cX3_init 23 = .ok (.putfield 18, 3) := by decide +kernel
theorem dX3_init_26 : decode cX3_init 26 = .ok (.aload_n 0, 1) := by decide +kernel
theorem dX3_init_27 : decode cX3_init 27 = .ok (.new 9, 3) := by decide +kernel
theorem dX3_init_30 : decode cX3_init 30 = .ok (.dup, 1) := by decide +kernel
theorem dX3_init_31 : decode cX3_init 31 = .ok (.invokespecial 11, 3) := by decide +kernel
theorem dX3_init_34 : decode cX3_init 34 = .ok (.putfield 21, 3) := by decide +kernel
theorem dX3_init_37 : decode cX3_init 37 = .ok (.aload_n 0, 1) := by decide +kernel
theorem dX3_init_38 : decode cX3_init 38 = .ok (.new 9, 3) := by decide +kernel
theorem dX3_init_41 : decode cX3_init 41 = .ok (.dup, 1) := by decide +kernel
theorem dX3_init_42 : decode cX3_init 42 = .ok (.invokespecial 11, 3) := by decide +kernel
theorem dX3_init_45 : decode cX3_init 45 = .ok (.putfield 24, 3) := by decide +kernel
theorem dX3_init_48 : decode cX3_init 48 = .ok (.aload_n 0, 1) := by decide +kernel
theorem dX3_init_49 : decode cX3_init 49 = .ok (.new 9, 3) := by decide +kernel
theorem dX3_init_52 : decode cX3_init 52 = .ok (.dup, 1) := by decide +kernel
theorem dX3_init_53 : decode cX3_init 53 = .ok (.invokespecial 11, 3) := by decide +kernel
theorem dX3_init_56 : decode cX3_init 56 = .ok (.putfield 27, 3) := by decide +kernel
theorem dX3_init_59 : decode cX3_init 59 = .ok (.return_, 1) := by decide +kernel
theorem dX3_prepare_0 : decode cX3_prepare 0 = .ok (.aload_n 0, 1) := by decide +kernel
theorem dX3_prepare_1 : decode cX3_prepare 1 = .ok (.getfield 27, 3) := by decide +kernel
theorem dX3_prepare_4 : decode cX3_prepare 4 = .ok (.aload_n 1, 1) := by decide +kernel
theorem dX3_prepare_5 : decode cX3_prepare 5 = .ok (.invokevirtual 30, 3) := by decide +kernel
theorem dX3_prepare_8 : decode cX3_prepare 8 = .ok (.return_, 1) := by decide +kernel
theorem dX3_keep_0 : decode cX3_keep 0 = .ok (.aload_n 0, 1) := by decide +kernel
theorem dX3_keep_1 : decode cX3_keep 1 = .ok (.getfield 24, 3) := by decide +kernel
theorem dX3_keep_4 : decode cX3_keep 4 = .ok (.astore_n 1, 1) := by decide +kernel
theorem dX3_keep_5 : decode cX3_keep 5 = .ok (.aload_n 0, 1) := by decide +kernel
theorem dX3_keep_6 : decode cX3_keep 6 = .ok (.aload_n 0, 1) := by decide +kernel
theorem dX3_keep_7 : decode cX3_keep 7 = .ok (.getfield 21, 3) := by decide +kernel
theorem dX3_keep_10 : decode cX3_keep 10 = .ok (.putfield 24, 3) := by decide +kernel
theorem dX3_keep_13 : decode cX3_keep 13 = .ok (.aload_n 0, 1) := by decide +kernel
theorem dX3_keep_14 : decode cX3_keep 14 = .ok (.aload_n 0, 1) := by decide +kernel
theorem dX3_keep_15 : decode cX3_keep 15 = .ok (.getfield 18, 3) := by decide +kernel
theorem dX3_keep_18 : decode cX3_keep 18 = .ok (.putfield 21, 3) := by decide +kernel
theorem dX3_keep_21 : decode cX3_keep 21 = .ok (.aload_n 0, 1) := by decide +kernel
theorem dX3_keep_22 : decode cX3_keep 22 = .ok (.aload_n 0, 1) := by decide +kernel
theorem dX3_keep_23 : decode cX3_keep 23 = .ok (.getfield 12, 3) := by decide +kernel
theorem dX3_keep_26 : decode cX3_keep 26 = .ok (.putfield 18, 3) := by decide +kernel
theorem dX3_keep_29 : decode cX3_keep 29 = .ok (.aload_n 0, 1) := by decide +kernel
theorem dX3_keep_30 : decode cX3_keep 30 = .ok (.aload_n 0, 1) := by decide +kernel
theorem dX3_keep_31 : decode cX3_keep 31 = .ok (.getfield 27, 3) := by decide +kernel
theorem dX3_keep_34 : decode cX3_keep 34 = .ok (.putfield 12, 3) := by decide +kernel
theorem dX3_keep_37 : decode cX3_keep 37 = .ok (.aload_n 0, 1) := by decide +kernel
theorem dX3_keep_38 : decode cX3_keep 38 = .ok (.aload_n 1, 1) := by decide +kernel
theorem dX3_keep_39 : decode cX3_keep 39 = .ok (.putfield 27, 3) := by decide +kernel
theorem dX3_keep_42 : decode cX3_keep 42 = .ok (.aload_n 0, 1) := by decide +kernel
theorem dX3_keep_43 : decode cX3_keep 43 = .ok (.aload_n 0, 1) := by decide +kernel
theorem dX3_keep_44 : decode cX3_keep 44 = .ok (.getfield 34, 3) := by decide +kernel
theorem dX3_keep_47 : decode cX3_keep 47 = .ok (.iconst 1, 1) := by decide +kernel
theorem dX3_keep_48 : decode cX3_keep 48 = .ok (.iadd, 1) := by decide +kernel
theorem dX3_keep_49 : decode cX3_keep 49 = .ok (.iconst 4, 1) := by decide +kernel
theorem dX3_keep_50 : decode cX3_keep 50 = .ok (.invokestatic 38, 3) := by decide +kernel
theorem dX3_keep_53 : decode cX3_keep 53 = .ok (.putfield 34, 3) := by decide +kernel
theorem dX3_keep_56 : decode cX3_keep 56 = .ok (.return_, 1) := by decide +kernel
theorem dX3_restore_0 : decode cX3_restore 0 = .ok (.aload_n 0, 1) := by decide +kernel
theorem dX3_restore_1 : decode cX3_restore 1 = .ok (.getfield 12, 3) := by decide +kernel
theorem dX3_restore_4 : decode cX3_restore 4 = .ok (.astore_n 2, 1) := by decide +kernel
theorem dX3_restore_5 : decode cX3_restore 5 = .ok (.aload_n 1, 1) := by decide +kernel
theorem dX3_restore_6 : decode cX3_restore 6 = .ok (.aload_n 2, 1) := by decide +kernel
theorem dX3_restore_7 : decode cX3_restore 7 = .ok (.invokevirtual 30, 3) := by decide +kernel
theorem dX3_restore_10 : decode cX3_restore 10 = .ok (.aload_n 0, 1) := by decide +kernel
theorem dX3_restore_11 : decode cX3_restore 11 = .ok (.aload_n 0, 1) := by decide +kernel
theorem dX3_restore_12 : decode cX3_restore 12 = .ok (.getfield 18, 3) := by decide +kernel
theorem dX3_restore_15 : decode cX3_restore 15 = .ok (.putfield 12, 3) := by decide +kernel
theorem dX3_restore_18 : decode cX3_restore 18 = .ok (.aload_n 0, 1) := by decide +kernel
theorem dX3_restore_19 : decode cX3_restore 19 = .ok (.aload_n 0, 1) := by decide +kernel
theorem dX3_restore_20 : decode cX3_restore 20 = .ok (.getfield 21, 3) := by decide +kernel
theorem dX3_restore_23 : decode cX3_restore 23 = .ok (.putfield 18, 3) := by decide +kernel
theorem dX3_restore_26 : decode cX3_restore 26 = .ok (.aload_n 0, 1) := by decide +kernel
theorem dX3_restore_27 : decode cX3_restore 27 = .ok (.aload_n 0, 1) := by decide +kernel
theorem dX3_restore_28 : decode cX3_restore 28 = .ok (.getfield 24, 3) := by decide +kernel
theorem dX3_restore_31 : decode cX3_restore 31 = .ok (.putfield 21, 3) := by decide +kernel
theorem dX3_restore_34 : decode cX3_restore 34 = .ok (.aload_n 0, 1) := by decide +kernel
theorem dX3_restore_35 : decode cX3_restore 35 = .ok (.aload_n 2, 1) := by decide +kernel
theorem dX3_restore_36 : decode cX3_restore 36 = .ok (.putfield 24, 3) := by decide +kernel
theorem dX3_restore_39 : decode cX3_restore 39 = .ok (.aload_n 0, 1) := by decide +kernel
theorem dX3_restore_40 : decode cX3_restore 40 = .ok (.aload_n 0, 1) := by decide +kernel
theorem dX3_restore_41 : decode cX3_restore 41 = .ok (.getfield 34, 3) := by decide +kernel
theorem dX3_restore_44 : decode cX3_restore 44 = .ok (.iconst 1, 1) := by decide +kernel
theorem dX3_restore_45 : decode cX3_restore 45 = .ok (.isub, 1) := by decide +kernel
theorem dX3_restore_46 : decode cX3_restore 46 = .ok (.iconst 0, 1) := by decide +kernel
theorem dX3_restore_47 : decode cX3_restore 47 = .ok (.invokestatic 44, 3) := by decide +kernel
theorem dX3_restore_50 : decode cX3_restore 50 = .ok (.putfield 34, 3) := by decide +kernel
theorem dX3_restore_53 : decode cX3_restore 53 = .ok (.return_, 1) := by decide +kernel
theorem dX4_init_0 : decode cX4_init 0 = .ok (.aload_n 0, 1) := by decide +kernel
theorem dX4_init_1 : decode cX4_init 1 = .ok (.invokespecial 1, 3) := by decide +kernel
theorem dX4_init_4 : decode cX4_init 4 = .ok (.aload_n 0, 1) := by decide +kernel
theorem dX4_init_5 : decode cX4_init 5 = .ok (.iload_n 1, 1) := by decide +kernel
theorem dX4_init_6 : decode cX4_init 6 = .ok (.iconst 0, 1) := by decide +kernel
theorem dX4_init_7 : decode cX4_init 7 = .ok (.invokestatic 7, 3) := by decide +kernel
theorem dX4_init_10 : decode cX4_init 10 = .ok (.newarray .int, 2) := by decide +kernel
theorem dX4_init_12 : decode cX4_init 12 = .ok (.putfield 13, 3) := by decide +kernel
theorem dX4_init_15 : decode cX4_init 15 = .ok (.aload_n 0, 1) := by decide +kernel
theorem dX4_init_16 : decode cX4_init 16 = .ok (.iconst 0, 1) := by decide +kernel
theorem dX4_init_17 : decode cX4_init 17 = .ok (.putfield 19, 3) := by decide +kernel
theorem dX4_init_20 : decode cX4_init 20 = .ok (.return_, 1) := by decide +kernel
theorem dX4_size_0 : decode cX4_size 0 = .ok (.aload_n 0, 1) := by decide +kernel
theorem dX4_size_1 : decode cX4_size 1 = .ok (.getfield 19, 3) := by decide +kernel
theorem dX4_size_4 : decode cX4_size 4 = .ok (.ireturn, 1) := by decide +kernel
theorem dX4_at_0 : decode cX4_at 0 = .ok (.iload_n 1, 1) := by decide +kernel
theorem dX4_at_1 : decode cX4_at 1 = .ok (.ifCond .lt 29, 3) := by decide +kernel
theorem dX4_at_4 : decode cX4_at 4 = .ok (.iload_n 1, 1) := by decide +kernel
theorem dX4_at_5 : decode cX4_at 5 = .ok (.aload_n 0, 1) := by decide +kernel
theorem dX4_at_6 : decode cX4_at 6 = .ok (.getfield 19, 3) := by decide +kernel
theorem dX4_at_9 : decode cX4_at 9 = .ok (.if_icmp .ge 21, 3) := by decide +kernel
theorem dX4_at_12 : decode cX4_at 12 = .ok (.iload_n 1, 1) := by decide +kernel
theorem dX4_at_13 : decode cX4_at 13 = .ok (.aload_n 0, 1) := by decide +kernel
theorem dX4_at_14 : decode cX4_at 14 = .ok (.getfield 13, 3) := by decide +kernel
theorem dX4_at_17 : decode cX4_at 17 = .ok (.arraylength, 1) := by decide +kernel
theorem dX4_at_18 : decode cX4_at 18 = .ok (.if_icmp .ge 12, 3) := by decide +kernel
theorem dX4_at_21 : decode cX4_at 21 = .ok (.aload_n 0, 1) := by decide +kernel
theorem dX4_at_22 : decode cX4_at 22 = .ok (.getfield 13, 3) := by decide +kernel
theorem dX4_at_25 : decode cX4_at 25 = .ok (.iload_n 1, 1) := by decide +kernel
theorem dX4_at_26 : decode cX4_at 26 = .ok (.iaload, 1) := by decide +kernel
theorem dX4_at_27 : decode cX4_at 27 = .ok (.goto 4, 3) := by decide +kernel
theorem dX4_at_30 : decode cX4_at 30 = .ok (.iconst 0, 1) := by decide +kernel
theorem dX4_at_31 : decode cX4_at 31 = .ok (.ireturn, 1) := by decide +kernel
theorem dX4_put_0 : decode cX4_put 0 = .ok (.iload_n 1, 1) := by decide +kernel
theorem dX4_put_1 : decode cX4_put 1 = .ok (.ifCond .lt 27, 3) := by decide +kernel
theorem dX4_put_4 : decode cX4_put 4 = .ok (.iload_n 1, 1) := by decide +kernel
theorem dX4_put_5 : decode cX4_put 5 = .ok (.aload_n 0, 1) := by decide +kernel
theorem dX4_put_6 : decode cX4_put 6 = .ok (.getfield 19, 3) := by decide +kernel
theorem dX4_put_9 : decode cX4_put 9 = .ok (.if_icmp .ge 19, 3) := by decide +kernel
theorem dX4_put_12 : decode cX4_put 12 = .ok (.iload_n 1, 1) := by decide +kernel
theorem dX4_put_13 : decode cX4_put 13 = .ok (.aload_n 0, 1) := by decide +kernel
theorem dX4_put_14 : decode cX4_put 14 = .ok (.getfield 13, 3) := by decide +kernel
theorem dX4_put_17 : decode cX4_put 17 = .ok (.arraylength, 1) := by decide +kernel
theorem dX4_put_18 : decode cX4_put 18 = .ok (.if_icmp .ge 10, 3) := by decide +kernel
theorem dX4_put_21 : decode cX4_put 21 = .ok (.aload_n 0, 1) := by decide +kernel
theorem dX4_put_22 : decode cX4_put 22 = .ok (.getfield 13, 3) := by decide +kernel
theorem dX4_put_25 : decode cX4_put 25 = .ok (.iload_n 1, 1) := by decide +kernel
theorem dX4_put_26 : decode cX4_put 26 = .ok (.iload_n 2, 1) := by decide +kernel
theorem dX4_put_27 : decode cX4_put 27 = .ok (.iastore, 1) := by decide +kernel
theorem dX4_put_28 : decode cX4_put 28 = .ok (.return_, 1) := by decide +kernel
theorem dX4_add_0 : decode cX4_add 0 = .ok (.aload_n 0, 1) := by decide +kernel
theorem dX4_add_1 : decode cX4_add 1 = .ok (.aload_n 0, 1) := by decide +kernel
theorem dX4_add_2 : decode cX4_add 2 = .ok (.getfield 19, 3) := by decide +kernel
theorem dX4_add_5 : decode cX4_add 5 = .ok (.iload_n 1, 1) := by decide +kernel
theorem dX4_add_6 : decode cX4_add 6 = .ok (.invokevirtual 23, 3) := by decide +kernel
theorem dX4_add_9 : decode cX4_add 9 = .ok (.return_, 1) := by decide +kernel
theorem dX4_addAt_0 : decode cX4_addAt 0 = .ok (.iload_n 1, 1) := by decide +kernel
theorem dX4_addAt_1 : decode cX4_addAt 1 = .ok (.ifCond .lt 23, 3) := by decide +kernel
theorem dX4_addAt_4 : decode cX4_addAt 4 = .ok (.iload_n 1, 1) := by decide +kernel
theorem dX4_addAt_5 : decode cX4_addAt 5 = .ok (.aload_n 0, 1) := by decide +kernel
theorem dX4_addAt_6 : decode cX4_addAt 6 = .ok (.getfield 19, 3) := by decide +kernel
theorem dX4_addAt_9 : decode cX4_addAt 9 = .ok (.if_icmp .gt 15, 3) := by decide +kernel
theorem dX4_addAt_12 : decode cX4_addAt 12 = .ok (.aload_n 0, 1) := by decide +kernel
theorem dX4_addAt_13 : decode cX4_addAt 13 = .ok (.getfield 19, 3) := by decide +kernel
theorem dX4_addAt_16 : decode cX4_addAt 16 = .ok (.aload_n 0, 1) := by decide +kernel
theorem dX4_addAt_17 : decode cX4_addAt 17 = .ok (.getfield 13, 3) := by decide +kernel
theorem dX4_addAt_20 : decode cX4_addAt 20 = .ok (.arraylength, 1) := by decide +kernel
theorem dX4_addAt_21 : decode cX4_addAt 21 = .ok (.if_icmp .lt 4, 3) := by decide +kernel
theorem dX4_addAt_24 : decode cX4_addAt 24 = .ok (.return_, 1) := by decide +kernel
theorem dX4_addAt_25 : decode cX4_addAt 25 = .ok (.aload_n 0, 1) := by decide +kernel
theorem dX4_addAt_26 : decode cX4_addAt 26 = .ok (.getfield 19, 3) := by decide +kernel
theorem dX4_addAt_29 : decode cX4_addAt 29 = .ok (.istore_n 3, 1) := by decide +kernel
theorem dX4_addAt_30 : decode cX4_addAt 30 = .ok (.iload_n 3, 1) := by decide +kernel
theorem dX4_addAt_31 : decode cX4_addAt 31 = .ok (.iload_n 1, 1) := by decide +kernel
theorem dX4_addAt_32 : decode cX4_addAt 32 = .ok (.if_icmp .le 23, 3) := by decide +kernel
theorem dX4_addAt_35 : decode cX4_addAt 35 = .ok (.aload_n 0, 1) := by decide +kernel
theorem dX4_addAt_36 : decode cX4_addAt 36 = .ok (.getfield 13, 3) := by decide +kernel
theorem dX4_addAt_39 : decode cX4_addAt 39 = .ok (.iload_n 3, 1) := by decide +kernel
theorem dX4_addAt_40 : decode cX4_addAt 40 = .ok (.aload_n 0, 1) := by decide +kernel
theorem dX4_addAt_41 : decode cX4_addAt 41 = .ok (.getfield 13, 3) := by decide +kernel
theorem dX4_addAt_44 : decode cX4_addAt 44 = .ok (.iload_n 3, 1) := by decide +kernel
theorem dX4_addAt_45 : decode cX4_addAt 45 = .ok (.iconst 1, 1) := by decide +kernel
theorem dX4_addAt_46 : decode cX4_addAt 46 = .ok (.isub, 1) := by decide +kernel
theorem dX4_addAt_47 : decode cX4_addAt 47 = .ok (.iaload, 1) := by decide +kernel
theorem dX4_addAt_48 : decode cX4_addAt 48 = .ok (.iastore, 1) := by decide +kernel
theorem dX4_addAt_49 : decode cX4_addAt 49 = .ok (.iinc 3 (-1), 3) := by decide +kernel
theorem dX4_addAt_52 : decode cX4_addAt 52 = .ok (.goto (-22), 3) := by decide +kernel
theorem dX4_addAt_55 : decode cX4_addAt 55 = .ok (.aload_n 0, 1) := by decide +kernel
theorem dX4_addAt_56 : decode cX4_addAt 56 = .ok (.getfield 13, 3) := by decide +kernel
theorem dX4_addAt_59 : decode cX4_addAt 59 = .ok (.iload_n 1, 1) := by decide +kernel
theorem dX4_addAt_60 : decode cX4_addAt 60 = .ok (.iload_n 2, 1) := by decide +kernel
theorem dX4_addAt_61 : decode cX4_addAt 61 = .ok (.iastore, 1) := by decide +kernel
theorem dX4_addAt_62 : decode cX4_addAt 62 = .ok (.aload_n 0, 1) := by decide +kernel
theorem dX4_addAt_63 : decode cX4_addAt 63 = .ok (.dup, 1) := by decide +kernel
theorem dX4_addAt_64 : decode cX4_addAt 64 = .ok (.getfield 19, 3) := by decide +kernel
theorem dX4_addAt_67 : decode cX4_addAt 67 = .ok (.iconst 1, 1) := by decide +kernel
theorem dX4_addAt_68 : decode cX4_addAt 68 = .ok (.iadd, 1) := by decide +kernel
theorem dX4_addAt_69 : decode cX4_addAt 69 = .ok (.putfield 19, 3) := by decide +kernel
theorem dX4_addAt_72 : decode cX4_addAt 72 = .ok (.return_, 1) := by decide +kernel
theorem dX4_removeAt_0 : decode cX4_removeAt 0 = .ok (.iload_n 1, 1) := by decide +kernel
theorem dX4_removeAt_1 : decode cX4_removeAt 1 = .ok (.ifCond .lt 23, 3) := by decide +kernel
theorem dX4_removeAt_4 : decode cX4_removeAt 4 = .ok (.iload_n 1, 1) := by decide +kernel
theorem dX4_removeAt_5 : decode cX4_removeAt 5 = .ok (.aload_n 0, 1) := by decide +kernel
theorem dX4_removeAt_6 : decode cX4_removeAt 6 = .ok (.getfield 19, 3) := by decide +kernel
theorem dX4_removeAt_9 : decode cX4_removeAt 9 = .ok (.if_icmp .ge 15, 3) := by decide +kernel
theorem dX4_removeAt_12 : decode cX4_removeAt 12 = .ok (.aload_n 0, 1) := by decide +kernel
theorem dX4_removeAt_13 : decode cX4_removeAt 13 = .ok (.getfield 19, 3) := by decide +kernel
theorem dX4_removeAt_16 : decode cX4_removeAt 16 = .ok (.aload_n 0, 1) := by decide +kernel
theorem dX4_removeAt_17 : decode cX4_removeAt 17 = .ok (.getfield 13, 3) := by decide +kernel
theorem dX4_removeAt_20 : decode cX4_removeAt 20 = .ok (.arraylength, 1) := by decide +kernel
theorem dX4_removeAt_21 : decode cX4_removeAt 21 = .ok (.if_icmp .le 4, 3) := by decide +kernel
theorem dX4_removeAt_24 : decode cX4_removeAt 24 = .ok (.return_, 1) := by decide +kernel
theorem dX4_removeAt_25 : decode cX4_removeAt 25 = .ok (.aload_n 0, 1) := by decide +kernel
theorem dX4_removeAt_26 : decode cX4_removeAt 26 = .ok (.dup, 1) := by decide +kernel
theorem dX4_removeAt_27 : decode cX4_removeAt 27 = .ok (.getfield 19, 3) := by decide +kernel
theorem dX4_removeAt_30 : decode cX4_removeAt 30 = .ok (.iconst 1, 1) := by decide +kernel
theorem dX4_removeAt_31 : decode cX4_removeAt 31 = .ok (.isub, 1) := by decide +kernel
theorem dX4_removeAt_32 : decode cX4_removeAt 32 = .ok (.putfield 19, 3) := by decide +kernel
theorem dX4_removeAt_35 : decode cX4_removeAt 35 = .ok (.iload_n 1, 1) := by decide +kernel
theorem dX4_removeAt_36 : decode cX4_removeAt 36 = .ok (.istore_n 2, 1) := by decide +kernel
theorem dX4_removeAt_37 : decode cX4_removeAt 37 = .ok (.iload_n 2, 1) := by decide +kernel
theorem dX4_removeAt_38 : decode cX4_removeAt 38 = .ok (.aload_n 0, 1) := by decide +kernel
theorem dX4_removeAt_39 : decode cX4_removeAt 39 = .ok (.getfield 19, 3) := by decide +kernel
theorem dX4_removeAt_42 : decode cX4_removeAt 42 = .ok (.if_icmp .ge 23, 3) := by decide +kernel
theorem dX4_removeAt_45 : decode cX4_removeAt 45 = .ok (.aload_n 0, 1) := by decide +kernel
theorem dX4_removeAt_46 : decode cX4_removeAt 46 = .ok (.getfield 13, 3) := by decide +kernel
theorem dX4_removeAt_49 : decode cX4_removeAt 49 = .ok (.iload_n 2, 1) := by decide +kernel
theorem dX4_removeAt_50 : decode cX4_removeAt 50 = .ok (.aload_n 0, 1) := by decide +kernel
theorem dX4_removeAt_51 : decode cX4_removeAt 51 = .ok (.getfield 13, 3) := by decide +kernel
theorem dX4_removeAt_54 : decode cX4_removeAt 54 = .ok (.iload_n 2, 1) := by decide +kernel
theorem dX4_removeAt_55 : decode cX4_removeAt 55 = .ok (.iconst 1, 1) := by decide +kernel
theorem dX4_removeAt_56 : decode cX4_removeAt 56 = .ok (.iadd, 1) := by decide +kernel
theorem dX4_removeAt_57 : decode cX4_removeAt 57 = .ok (.iaload, 1) := by decide +kernel
theorem dX4_removeAt_58 : decode cX4_removeAt 58 = .ok (.iastore, 1) := by decide +kernel
theorem dX4_removeAt_59 : decode cX4_removeAt 59 = .ok (.iinc 2 1, 3) := by decide +kernel
theorem dX4_removeAt_62 : decode cX4_removeAt 62 = .ok (.goto (-25), 3) := by decide +kernel
theorem dX4_removeAt_65 : decode cX4_removeAt 65 = .ok (.return_, 1) := by decide +kernel
theorem dX4_empty_0 : decode cX4_empty 0 = .ok (.aload_n 0, 1) := by decide +kernel
theorem dX4_empty_1 : decode cX4_empty 1 = .ok (.iconst 0, 1) := by decide +kernel
theorem dX4_empty_2 : decode cX4_empty 2 = .ok (.putfield 19, 3) := by decide +kernel
theorem dX4_empty_5 : decode cX4_empty 5 = .ok (.return_, 1) := by decide +kernel
theorem dX4_copyNumbers_0 : decode cX4_copyNumbers 0 = .ok (.aload_n 1, 1) := by decide +kernel
theorem dX4_copyNumbers_1 : decode cX4_copyNumbers 1 = .ok (.getfield 19, 3) := by decide +kernel
theorem dX4_copyNumbers_4 : decode cX4_copyNumbers 4 = .ok (.aload_n 1, 1) := by decide +kernel
theorem dX4_copyNumbers_5 : decode cX4_copyNumbers 5 = .ok (.getfield 13, 3) := by decide +kernel
theorem dX4_copyNumbers_8 : decode cX4_copyNumbers 8 = .ok (.arraylength, 1) := by decide +kernel
theorem dX4_copyNumbers_9 : decode cX4_copyNumbers 9 = .ok (.aload_n 0, 1) := by decide +kernel
theorem dX4_copyNumbers_10 : decode cX4_copyNumbers 10 = .ok (.getfield 13, 3) := by decide +kernel
theorem dX4_copyNumbers_13 : decode cX4_copyNumbers 13 = .ok (.arraylength, 1) := by decide +kernel
theorem dX4_copyNumbers_14 : decode cX4_copyNumbers 14 = .ok (.invokestatic 27, 3) := by decide +kernel
theorem dX4_copyNumbers_17 : decode cX4_copyNumbers 17 = .ok (.invokestatic 27, 3) := by decide +kernel
theorem dX4_copyNumbers_20 : decode cX4_copyNumbers 20 = .ok (.istore_n 2, 1) := by decide +kernel
theorem dX4_copyNumbers_21 : decode cX4_copyNumbers 21 = .ok (.iconst 0, 1) := by decide +kernel
theorem dX4_copyNumbers_22 : decode cX4_copyNumbers 22 = .ok (.istore_n 3, 1) := by decide +kernel
theorem dX4_copyNumbers_23 : decode cX4_copyNumbers 23 = .ok (.iload_n 3, 1) := by decide +kernel
theorem dX4_copyNumbers_24 : decode cX4_copyNumbers 24 = .ok (.iload_n 2, 1) := by decide +kernel
theorem dX4_copyNumbers_25 : decode cX4_copyNumbers 25 = .ok (.if_icmp .ge 21, 3) := by decide +kernel
theorem dX4_copyNumbers_28 : decode cX4_copyNumbers 28 = .ok (.aload_n 0, 1) := by decide +kernel
theorem dX4_copyNumbers_29 : decode cX4_copyNumbers 29 = .ok (.getfield 13, 3) := by decide +kernel
theorem dX4_copyNumbers_32 : decode cX4_copyNumbers 32 = .ok (.iload_n 3, 1) := by decide +kernel
theorem dX4_copyNumbers_33 : decode cX4_copyNumbers 33 = .ok (.aload_n 1, 1) := by decide +kernel
theorem dX4_copyNumbers_34 : decode cX4_copyNumbers 34 = .ok (.getfield 13, 3) := by decide +kernel
theorem dX4_copyNumbers_37 : decode cX4_copyNumbers 37 = .ok (.iload_n 3, 1) := by decide +kernel
theorem dX4_copyNumbers_38 : decode cX4_copyNumbers 38 = .ok (.iaload, 1) := by decide +kernel
theorem dX4_copyNumbers_39 : decode cX4_copyNumbers 39 = .ok (.iastore, 1) := by decide +kernel
theorem dX4_copyNumbers_40 : decode cX4_copyNumbers 40 = .ok (.iinc 3 1, 3) := by decide +kernel
theorem dX4_copyNumbers_43 : decode cX4_copyNumbers 43 = .ok (.goto (-20), 3) := by decide +kernel
theorem dX4_copyNumbers_46 : decode cX4_copyNumbers 46 = .ok (.aload_n 0, 1) := by decide +kernel
theorem dX4_copyNumbers_47 : decode cX4_copyNumbers 47 = .ok (.iload_n 2, 1) := by decide +kernel
theorem dX4_copyNumbers_48 : decode cX4_copyNumbers 48 = .ok (.putfield 19, 3) := by decide +kernel
theorem dX4_copyNumbers_51 : decode cX4_copyNumbers 51 = .ok (.return_, 1) := by decide +kernel
theorem dX4_isSameAs_0 : decode cX4_isSameAs 0 = .ok (.aload_n 0, 1) := by decide +kernel
theorem dX4_isSameAs_1 : decode cX4_isSameAs 1 = .ok (.getfield 19, 3) := by decide +kernel
theorem dX4_isSameAs_4 : decode cX4_isSameAs 4 = .ok (.aload_n 1, 1) := by decide +kernel
theorem dX4_isSameAs_5 : decode cX4_isSameAs 5 = .ok (.getfield 19, 3) := by decide +kernel
theorem dX4_isSameAs_8 : decode cX4_isSameAs 8 = .ok (.if_icmp .eq 5, 3) := by decide +kernel
theorem dX4_isSameAs_11 : decode cX4_isSameAs 11 = .ok (.iconst 0, 1) := by decide +kernel
theorem dX4_isSameAs_12 : decode cX4_isSameAs 12 = .ok (.ireturn, 1) := by decide +kernel
theorem dX4_isSameAs_13 : decode cX4_isSameAs 13 = .ok (.iconst 0, 1) := by decide +kernel
theorem dX4_isSameAs_14 : decode cX4_isSameAs 14 = .ok (.istore_n 2, 1) := by decide +kernel
theorem dX4_isSameAs_15 : decode cX4_isSameAs 15 = .ok (.iload_n 2, 1) := by decide +kernel
theorem dX4_isSameAs_16 : decode cX4_isSameAs 16 = .ok (.aload_n 0, 1) := by decide +kernel
theorem dX4_isSameAs_17 : decode cX4_isSameAs 17 = .ok (.getfield 19, 3) := by decide +kernel
theorem dX4_isSameAs_20 : decode cX4_isSameAs 20 = .ok (.if_icmp .ge 24, 3) := by decide +kernel
theorem dX4_isSameAs_23 : decode cX4_isSameAs 23 = .ok (.aload_n 0, 1) := by decide +kernel
theorem dX4_isSameAs_24 : decode cX4_isSameAs 24 = .ok (.iload_n 2, 1) := by decide +kernel
theorem dX4_isSameAs_25 : decode cX4_isSameAs 25 = .ok (.invokevirtual 30, 3) := by decide +kernel
theorem dX4_isSameAs_28 : decode cX4_isSameAs 28 = .ok (.aload_n 1, 1) := by decide +kernel
theorem dX4_isSameAs_29 : decode cX4_isSameAs 29 = .ok (.iload_n 2, 1) := by decide +kernel
theorem dX4_isSameAs_30 : decode cX4_isSameAs 30 = .ok (.invokevirtual 30, 3) := by decide +kernel
theorem dX4_isSameAs_33 : decode cX4_isSameAs 33 = .ok (.if_icmp .eq 5, 3) := by decide +kernel
theorem dX4_isSameAs_36 : decode cX4_isSameAs 36 = .ok (.iconst 0, 1) := by decide +kernel
theorem dX4_isSameAs_37 : decode cX4_isSameAs 37 = .ok (.ireturn, 1) := by decide +kernel
theorem dX4_isSameAs_38 : decode cX4_isSameAs 38 = .ok (.iinc 2 1, 3) := by decide +kernel
theorem dX4_isSameAs_41 : decode cX4_isSameAs 41 = .ok (.goto (-26), 3) := by decide +kernel
theorem dX4_isSameAs_44 : decode cX4_isSameAs 44 = .ok (.iconst 1, 1) := by decide +kernel
theorem dX4_isSameAs_45 : decode cX4_isSameAs 45 = .ok (.ireturn, 1) := by decide +kernel
theorem dX5_init_0 : decode cX5_init 0 = .ok (.aload_n 0, 1) := by decide +kernel
theorem dX5_init_1 : decode cX5_init 1 = .ok (.invokespecial 3, 3) := by decide +kernel
theorem dX5_init_4 : decode cX5_init 4 = .ok (.aload_n 0, 1) := by decide +kernel
theorem dX5_init_5 : decode cX5_init 5 = .ok (.new 9, 3) := by decide +kernel
theorem dX5_init_8 : decode cX5_init 8 = .ok (.dup, 1) := by decide +kernel
theorem dX5_init_9 : decode cX5_init 9 = .ok (.iconst 0, 1) := by decide +kernel
theorem dX5_init_10 : decode cX5_init 10 = .ok (.invokespecial 11, 3) := by decide +kernel
theorem dX5_init_13 : decode cX5_init 13 = .ok (.putfield 14, 3) := by decide +kernel
theorem dX5_init_16 : decode cX5_init 16 = .ok (.aload_n 0, 1) := by decide +kernel
theorem dX5_init_17 : decode cX5_init 17 = .ok (.new 9, 3) := by decide +kernel
theorem dX5_init_20 : decode cX5_init 20 = .ok (.dup, 1) := by decide +kernel
theorem dX5_init_21 : decode cX5_init 21 = .ok (.iconst 1, 1) := by decide +kernel
theorem dX5_init_22 : decode cX5_init 22 = .ok (.invokespecial 11, 3) := by decide +kernel
theorem dX5_init_25 : decode cX5_init 25 = .ok (.putfield 20, 3) := by decide +kernel
theorem dX5_init_28 : decode cX5_init 28 = .ok (.aload_n 0, 1) := by decide +kernel
theorem dX5_init_29 : decode cX5_init 29 = .ok (.new 9, 3) := by decide +kernel
theorem dX5_init_32 : decode cX5_init 32 = .ok (.dup, 1) := by decide +kernel
theorem dX5_init_33 : decode cX5_init 33 = .ok (.iconst 2, 1) := by decide +kernel
theorem dX5_init_34 : decode cX5_init 34 = .ok (.invokespecial 11, 3) := by decide +kernel
theorem dX5_init_37 : decode cX5_init 37 = .ok (.putfield 23, 3) := by decide +kernel
theorem dX5_init_40 : decode cX5_init 40 = .ok (.aload_n 0, 1) := by decide +kernel
theorem dX5_init_41 : decode cX5_init 41 = .ok (.new 26, 3) := by decide +kernel
theorem dX5_init_44 : decode cX5_init 44 = .ok (.dup, 1) := by decide +kernel
theorem dX5_init_45 : decode cX5_init 45 = .ok (.bipush 78, 2) := by decide +kernel
theorem dX5_init_47 : decode cX5_init 47 = .ok (.invokespecial 28, 3) := by decide +kernel
theorem dX5_init_50 : decode cX5_init 50 = .ok (.putfield 29, 3) := by decide +kernel
theorem dX5_init_53 : decode cX5_init 53 = .ok (.aload_n 0, 1) := by decide +kernel
theorem dX5_init_54 : decode cX5_init 54 = .ok (.new 26, 3) := by decide +kernel
theorem dX5_init_57 : decode cX5_init 57 = .ok (.dup, 1) := by decide +kernel
theorem dX5_init_58 : decode cX5_init 58 = .ok (.bipush 78, 2) := by decide +kernel
theorem dX5_init_60 : decode cX5_init 60 = .ok (.invokespecial 28, 3) := by decide +kernel
theorem dX5_init_63 : decode cX5_init 63 = .ok (.putfield 33, 3) := by decide +kernel
theorem dX5_init_66 : decode cX5_init 66 = .ok (.aload_n 0, 1) := by decide +kernel
theorem dX5_init_67 : decode cX5_init 67 = .ok (.new 26, 3) := by decide +kernel
theorem dX5_init_70 : decode cX5_init 70 = .ok (.dup, 1) := by decide +kernel
theorem dX5_init_71 : decode cX5_init 71 = .ok (.bipush 78, 2) := by decide +kernel
theorem dX5_init_73 : decode cX5_init 73 = .ok (.invokespecial 28, 3) := by decide +kernel
theorem dX5_init_76 : decode cX5_init 76 = .ok (.putfield 36, 3) := by decide +kernel
theorem dX5_init_79 : decode cX5_init 79 = .ok (.return_, 1) := by decide +kernel
theorem dX5_editor_0 : decode cX5_editor 0 = .ok (.iload_n 1, 1) := by decide +kernel
theorem dX5_editor_1 : decode cX5_editor 1 = .ok (.ifCond .ne 8, 3) := by decide +kernel
theorem dX5_editor_4 : decode cX5_editor 4 = .ok (.aload_n 0, 1) := by decide +kernel
theorem dX5_editor_5 : decode cX5_editor 5 = .ok (.getfield 14, 3) := by decide +kernel
theorem dX5_editor_8 : decode cX5_editor 8 = .ok (.areturn, 1) := by decide +kernel
theorem dX5_editor_9 : decode cX5_editor 9 = .ok (.iload_n 1, 1) := by decide +kernel
theorem dX5_editor_10 : decode cX5_editor 10 = .ok (.iconst 1, 1) := by decide +kernel
theorem dX5_editor_11 : decode cX5_editor 11 = .ok (.if_icmp .ne 10, 3) := by decide +kernel
theorem dX5_editor_14 : decode cX5_editor 14 = .ok (.aload_n 0, 1) := by decide +kernel
theorem dX5_editor_15 : decode cX5_editor 15 = .ok (.getfield 20, 3) := by decide +kernel
theorem dX5_editor_18 : decode cX5_editor 18 = .ok (.goto 7, 3) := by decide +kernel
theorem dX5_editor_21 : decode cX5_editor 21 = .ok (.aload_n 0, 1) := by decide +kernel
theorem dX5_editor_22 : decode cX5_editor 22 = .ok (.getfield 23, 3) := by decide +kernel
theorem dX5_editor_25 : decode cX5_editor 25 = .ok (.areturn, 1) := by decide +kernel
theorem dX5_answer_0 : decode cX5_answer 0 = .ok (.iload_n 2, 1) := by decide +kernel
theorem dX5_answer_1 : decode cX5_answer 1 = .ok (.invokestatic 39, 3) := by decide +kernel
theorem dX5_answer_4 : decode cX5_answer 4 = .ok (.ifCond .eq 5, 3) := by decide +kernel
theorem dX5_answer_7 : decode cX5_answer 7 = .ok (.iconst (-1), 1) := by decide +kernel
theorem dX5_answer_8 : decode cX5_answer 8 = .ok (.ireturn, 1) := by decide +kernel
theorem dX5_answer_9 : decode cX5_answer 9 = .ok (.aload_n 0, 1) := by decide +kernel
theorem dX5_answer_10 : decode cX5_answer 10 = .ok (.iload_n 2, 1) := by decide +kernel
theorem dX5_answer_11 : decode cX5_answer 11 = .ok (.invokevirtual 43, 3) := by decide +kernel
theorem dX5_answer_14 : decode cX5_answer 14 = .ok (.astore 5, 2) := by decide +kernel
theorem dX5_answer_16 : decode cX5_answer 16 = .ok (.iload_n 1, 1) := by decide +kernel
theorem dX5_answer_17 : decode cX5_answer 17 = .ok (.lookupswitch 105 #[(77, 81), (98, 75), (100, 68), (104, 95), (105, 59), (115, 88)], 59) := by decide +kernel
theorem dX5_answer_76 : decode cX5_answer 76 = .ok (.aload 5, 2) := by decide +kernel
theorem dX5_answer_78 : decode cX5_answer 78 = .ok (.iload_n 3, 1) := by decide +kernel
theorem dX5_answer_79 : decode cX5_answer 79 = .ok (.iload 4, 2) := by decide +kernel
theorem dX5_answer_81 : decode cX5_answer 81 = .ok (.invokevirtual 47, 3) := by decide +kernel
theorem dX5_answer_84 : decode cX5_answer 84 = .ok (.ireturn, 1) := by decide +kernel
theorem dX5_answer_85 : decode cX5_answer 85 = .ok (.aload 5, 2) := by decide +kernel
theorem dX5_answer_87 : decode cX5_answer 87 = .ok (.iload_n 3, 1) := by decide +kernel
theorem dX5_answer_88 : decode cX5_answer 88 = .ok (.invokevirtual 51, 3) := by decide +kernel
theorem dX5_answer_91 : decode cX5_answer 91 = .ok (.ireturn, 1) := by decide +kernel
theorem dX5_answer_92 : decode cX5_answer 92 = .ok (.aload 5, 2) := by decide +kernel
theorem dX5_answer_94 : decode cX5_answer 94 = .ok (.invokevirtual 55, 3) := by decide +kernel
theorem dX5_answer_97 : decode cX5_answer 97 = .ok (.ireturn, 1) := by decide +kernel
theorem dX5_answer_98 : decode cX5_answer 98 = .ok (.aload 5, 2) := by decide +kernel
theorem dX5_answer_100 : decode cX5_answer 100 = .ok (.iload_n 3, 1) := by decide +kernel
theorem dX5_answer_101 : decode cX5_answer 101 = .ok (.invokevirtual 59, 3) := by decide +kernel
theorem dX5_answer_104 : decode cX5_answer 104 = .ok (.ireturn, 1) := by decide +kernel
theorem dX5_answer_105 : decode cX5_answer 105 = .ok (.aload_n 0, 1) := by decide +kernel
theorem dX5_answer_106 : decode cX5_answer 106 = .ok (.aload 5, 2) := by decide +kernel
theorem dX5_answer_108 : decode cX5_answer 108 = .ok (.invokevirtual 62, 3) := by decide +kernel
theorem dX5_answer_111 : decode cX5_answer 111 = .ok (.ireturn, 1) := by decide +kernel
theorem dX5_answer_112 : decode cX5_answer 112 = .ok (.aload 5, 2) := by decide +kernel
theorem dX5_answer_114 : decode cX5_answer 114 = .ok (.aload_n 0, 1) := by decide +kernel
theorem dX5_answer_115 : decode cX5_answer 115 = .ok (.getfield 29, 3) := by decide +kernel
theorem dX5_answer_118 : decode cX5_answer 118 = .ok (.invokevirtual 66, 3) := by decide +kernel
theorem dX5_answer_121 : decode cX5_answer 121 = .ok (.ireturn, 1) := by decide +kernel
theorem dX5_answer_122 : decode cX5_answer 122 = .ok (.aload 5, 2) := by decide +kernel
theorem dX5_answer_124 : decode cX5_answer 124 = .ok (.aload_n 0, 1) := by decide +kernel
theorem dX5_answer_125 : decode cX5_answer 125 = .ok (.getfield 29, 3) := by decide +kernel
theorem dX5_answer_128 : decode cX5_answer 128 = .ok (.invokevirtual 70, 3) := by decide +kernel
theorem dX5_answer_131 : decode cX5_answer 131 = .ok (.ireturn, 1) := by decide +kernel
theorem dX5_nothingsInLog_0 : decode cX5_nothingsInLog 0 = .ok (.iconst 0, 1) := by decide +kernel
theorem dX5_nothingsInLog_1 : decode cX5_nothingsInLog 1 = .ok (.istore_n 1, 1) := by decide +kernel
theorem dX5_nothingsInLog_2 : decode cX5_nothingsInLog 2 = .ok (.iconst 0, 1) := by decide +kernel
theorem dX5_nothingsInLog_3 : decode cX5_nothingsInLog 3 = .ok (.istore_n 2, 1) := by decide +kernel
theorem dX5_nothingsInLog_4 : decode cX5_nothingsInLog 4 = .ok (.iload_n 2, 1) := by decide +kernel
theorem dX5_nothingsInLog_5 : decode cX5_nothingsInLog 5 = .ok (.aload_n 0, 1) := by decide +kernel
theorem dX5_nothingsInLog_6 : decode cX5_nothingsInLog 6 = .ok (.getfield 29, 3) := by decide +kernel
theorem dX5_nothingsInLog_9 : decode cX5_nothingsInLog 9 = .ok (.invokevirtual 73, 3) := by decide +kernel
theorem dX5_nothingsInLog_12 : decode cX5_nothingsInLog 12 = .ok (.if_icmp .ge 31, 3) := by decide +kernel
theorem dX5_nothingsInLog_15 : decode cX5_nothingsInLog 15 = .ok (.iload_n 1, 1) := by decide +kernel
theorem dX5_nothingsInLog_16 : decode cX5_nothingsInLog 16 = .ok (.aload_n 0, 1) := by decide +kernel
theorem dX5_nothingsInLog_17 : decode cX5_nothingsInLog 17 = .ok (.getfield 29, 3) := by decide +kernel
theorem dX5_nothingsInLog_20 : decode cX5_nothingsInLog 20 = .ok (.iload_n 2, 1) := by decide +kernel
theorem dX5_nothingsInLog_21 : decode cX5_nothingsInLog 21 = .ok (.invokevirtual 76, 3) := by decide +kernel
theorem dX5_nothingsInLog_24 : decode cX5_nothingsInLog 24 = .ok (.invokestatic 79, 3) := by decide +kernel
theorem dX5_nothingsInLog_27 : decode cX5_nothingsInLog 27 = .ok (.ifCond .ne 7, 3) := by decide +kernel
theorem dX5_nothingsInLog_30 : decode cX5_nothingsInLog 30 = .ok (.iconst 1, 1) := by decide +kernel
theorem dX5_nothingsInLog_31 : decode cX5_nothingsInLog 31 = .ok (.goto 4, 3) := by decide +kernel
theorem dX5_nothingsInLog_34 : decode cX5_nothingsInLog 34 = .ok (.iconst 0, 1) := by decide +kernel
theorem dX5_nothingsInLog_35 : decode cX5_nothingsInLog 35 = .ok (.iadd, 1) := by decide +kernel
theorem dX5_nothingsInLog_36 : decode cX5_nothingsInLog 36 = .ok (.istore_n 1, 1) := by decide +kernel
theorem dX5_nothingsInLog_37 : decode cX5_nothingsInLog 37 = .ok (.iinc 2 1, 3) := by decide +kernel
theorem dX5_nothingsInLog_40 : decode cX5_nothingsInLog 40 = .ok (.goto (-36), 3) := by decide +kernel
theorem dX5_nothingsInLog_43 : decode cX5_nothingsInLog 43 = .ok (.iload_n 1, 1) := by decide +kernel
theorem dX5_nothingsInLog_44 : decode cX5_nothingsInLog 44 = .ok (.ireturn, 1) := by decide +kernel
theorem dX5_waitingOfAll_0 : decode cX5_waitingOfAll 0 = .ok (.aload_n 0, 1) := by decide +kernel
theorem dX5_waitingOfAll_1 : decode cX5_waitingOfAll 1 = .ok (.getfield 14, 3) := by decide +kernel
theorem dX5_waitingOfAll_4 : decode cX5_waitingOfAll 4 = .ok (.getfield 84, 3) := by decide +kernel
theorem dX5_waitingOfAll_7 : decode cX5_waitingOfAll 7 = .ok (.invokevirtual 73, 3) := by decide +kernel
theorem dX5_waitingOfAll_10 : decode cX5_waitingOfAll 10 = .ok (.aload_n 0, 1) := by decide +kernel
theorem dX5_waitingOfAll_11 : decode cX5_waitingOfAll 11 = .ok (.getfield 20, 3) := by decide +kernel
theorem dX5_waitingOfAll_14 : decode cX5_waitingOfAll 14 = .ok (.getfield 84, 3) := by decide +kernel
theorem dX5_waitingOfAll_17 : decode cX5_waitingOfAll 17 = .ok (.invokevirtual 73, 3) := by decide +kernel
theorem dX5_waitingOfAll_20 : decode cX5_waitingOfAll 20 = .ok (.iadd, 1) := by decide +kernel
theorem dX5_waitingOfAll_21 : decode cX5_waitingOfAll 21 = .ok (.aload_n 0, 1) := by decide +kernel
theorem dX5_waitingOfAll_22 : decode cX5_waitingOfAll 22 = .ok (.getfield 23, 3) := by decide +kernel
theorem dX5_waitingOfAll_25 : decode cX5_waitingOfAll 25 = .ok (.getfield 84, 3) := by decide +kernel
theorem dX5_waitingOfAll_28 : decode cX5_waitingOfAll 28 = .ok (.invokevirtual 73, 3) := by decide +kernel
theorem dX5_waitingOfAll_31 : decode cX5_waitingOfAll 31 = .ok (.iadd, 1) := by decide +kernel
theorem dX5_waitingOfAll_32 : decode cX5_waitingOfAll 32 = .ok (.ireturn, 1) := by decide +kernel
theorem dX5_settledEditors_0 : decode cX5_settledEditors 0 = .ok (.iconst 0, 1) := by decide +kernel
theorem dX5_settledEditors_1 : decode cX5_settledEditors 1 = .ok (.istore_n 1, 1) := by decide +kernel
theorem dX5_settledEditors_2 : decode cX5_settledEditors 2 = .ok (.iconst 0, 1) := by decide +kernel
theorem dX5_settledEditors_3 : decode cX5_settledEditors 3 = .ok (.istore_n 2, 1) := by decide +kernel
theorem dX5_settledEditors_4 : decode cX5_settledEditors 4 = .ok (.iload_n 2, 1) := by decide +kernel
theorem dX5_settledEditors_5 : decode cX5_settledEditors 5 = .ok (.iconst 3, 1) := by decide +kernel
theorem dX5_settledEditors_6 : decode cX5_settledEditors 6 = .ok (.if_icmp .ge 32, 3) := by decide +kernel
theorem dX5_settledEditors_9 : decode cX5_settledEditors 9 = .ok (.iload_n 1, 1) := by decide +kernel
theorem dX5_settledEditors_10 : decode cX5_settledEditors 10 = .ok (.aload_n 0, 1) := by decide +kernel
theorem dX5_settledEditors_11 : decode cX5_settledEditors 11 = .ok (.iload_n 2, 1) := by decide +kernel
theorem dX5_settledEditors_12 : decode cX5_settledEditors 12 = .ok (.invokevirtual 43, 3) := by decide +kernel
theorem dX5_settledEditors_15 : decode cX5_settledEditors 15 = .ok (.aload_n 0, 1) := by decide +kernel
theorem dX5_settledEditors_16 : decode cX5_settledEditors 16 = .ok (.getfield 29, 3) := by decide +kernel
theorem dX5_settledEditors_19 : decode cX5_settledEditors 19 = .ok (.invokevirtual 87, 3) := by decide +kernel
theorem dX5_settledEditors_22 : decode cX5_settledEditors 22 = .ok (.ifCond .eq 7, 3) := by decide +kernel
theorem dX5_settledEditors_25 : decode cX5_settledEditors 25 = .ok (.iconst 1, 1) := by decide +kernel
theorem dX5_settledEditors_26 : decode cX5_settledEditors 26 = .ok (.goto 4, 3) := by decide +kernel
theorem dX5_settledEditors_29 : decode cX5_settledEditors 29 = .ok (.iconst 0, 1) := by decide +kernel
theorem dX5_settledEditors_30 : decode cX5_settledEditors 30 = .ok (.iadd, 1) := by decide +kernel
theorem dX5_settledEditors_31 : decode cX5_settledEditors 31 = .ok (.istore_n 1, 1) := by decide +kernel
theorem dX5_settledEditors_32 : decode cX5_settledEditors 32 = .ok (.iinc 2 1, 3) := by decide +kernel
theorem dX5_settledEditors_35 : decode cX5_settledEditors 35 = .ok (.goto (-31), 3) := by decide +kernel
theorem dX5_settledEditors_38 : decode cX5_settledEditors 38 = .ok (.iload_n 1, 1) := by decide +kernel
theorem dX5_settledEditors_39 : decode cX5_settledEditors 39 = .ok (.ireturn, 1) := by decide +kernel
theorem dX5_isOneText_0 : decode cX5_isOneText 0 = .ok (.aload_n 0, 1) := by decide +kernel
theorem dX5_isOneText_1 : decode cX5_isOneText 1 = .ok (.getfield 14, 3) := by decide +kernel
theorem dX5_isOneText_4 : decode cX5_isOneText 4 = .ok (.getfield 91, 3) := by decide +kernel
theorem dX5_isOneText_7 : decode cX5_isOneText 7 = .ok (.aload_n 0, 1) := by decide +kernel
theorem dX5_isOneText_8 : decode cX5_isOneText 8 = .ok (.getfield 33, 3) := by decide +kernel
theorem dX5_isOneText_11 : decode cX5_isOneText 11 = .ok (.invokevirtual 94, 3) := by decide +kernel
theorem dX5_isOneText_14 : decode cX5_isOneText 14 = .ok (.ifCond .eq 41, 3) := by decide +kernel
theorem dX5_isOneText_17 : decode cX5_isOneText 17 = .ok (.aload_n 0, 1) := by decide +kernel
theorem dX5_isOneText_18 : decode cX5_isOneText 18 = .ok (.getfield 20, 3) := by decide +kernel
theorem dX5_isOneText_21 : decode cX5_isOneText 21 = .ok (.getfield 91, 3) := by decide +kernel
theorem dX5_isOneText_24 : decode cX5_isOneText 24 = .ok (.aload_n 0, 1) := by decide +kernel
theorem dX5_isOneText_25 : decode cX5_isOneText 25 = .ok (.getfield 33, 3) := by decide +kernel
theorem dX5_isOneText_28 : decode cX5_isOneText 28 = .ok (.invokevirtual 94, 3) := by decide +kernel
theorem dX5_isOneText_31 : decode cX5_isOneText 31 = .ok (.ifCond .eq 24, 3) := by decide +kernel
theorem dX5_isOneText_34 : decode cX5_isOneText 34 = .ok (.aload_n 0, 1) := by decide +kernel
theorem dX5_isOneText_35 : decode cX5_isOneText 35 = .ok (.getfield 23, 3) := by decide +kernel
theorem dX5_isOneText_38 : decode cX5_isOneText 38 = .ok (.getfield 91, 3) := by decide +kernel
theorem dX5_isOneText_41 : decode cX5_isOneText 41 = .ok (.aload_n 0, 1) := by decide +kernel
theorem dX5_isOneText_42 : decode cX5_isOneText 42 = .ok (.getfield 33, 3) := by decide +kernel
theorem dX5_isOneText_45 : decode cX5_isOneText 45 = .ok (.invokevirtual 94, 3) := by decide +kernel
theorem dX5_isOneText_48 : decode cX5_isOneText 48 = .ok (.ifCond .eq 7, 3) := by decide +kernel
theorem dX5_isOneText_51 : decode cX5_isOneText 51 = .ok (.iconst 1, 1) := by decide +kernel
theorem dX5_isOneText_52 : decode cX5_isOneText 52 = .ok (.goto 4, 3) := by decide +kernel
theorem dX5_isOneText_55 : decode cX5_isOneText 55 = .ok (.iconst 0, 1) := by decide +kernel
theorem dX5_isOneText_56 : decode cX5_isOneText 56 = .ok (.ireturn, 1) := by decide +kernel
theorem dX5_begin_0 : decode cX5_begin 0 = .ok (.aload_n 0, 1) := by decide +kernel
theorem dX5_begin_1 : decode cX5_begin 1 = .ok (.getfield 14, 3) := by decide +kernel
theorem dX5_begin_4 : decode cX5_begin 4 = .ok (.invokevirtual 97, 3) := by decide +kernel
theorem dX5_begin_7 : decode cX5_begin 7 = .ok (.aload_n 0, 1) := by decide +kernel
theorem dX5_begin_8 : decode cX5_begin 8 = .ok (.getfield 20, 3) := by decide +kernel
theorem dX5_begin_11 : decode cX5_begin 11 = .ok (.invokevirtual 97, 3) := by decide +kernel
theorem dX5_begin_14 : decode cX5_begin 14 = .ok (.aload_n 0, 1) := by decide +kernel
theorem dX5_begin_15 : decode cX5_begin 15 = .ok (.getfield 23, 3) := by decide +kernel
theorem dX5_begin_18 : decode cX5_begin 18 = .ok (.invokevirtual 97, 3) := by decide +kernel
theorem dX5_begin_21 : decode cX5_begin 21 = .ok (.aload_n 0, 1) := by decide +kernel
theorem dX5_begin_22 : decode cX5_begin 22 = .ok (.getfield 29, 3) := by decide +kernel
theorem dX5_begin_25 : decode cX5_begin 25 = .ok (.invokevirtual 100, 3) := by decide +kernel
theorem dX5_begin_28 : decode cX5_begin 28 = .ok (.aload_n 0, 1) := by decide +kernel
theorem dX5_begin_29 : decode cX5_begin 29 = .ok (.getfield 33, 3) := by decide +kernel
theorem dX5_begin_32 : decode cX5_begin 32 = .ok (.invokevirtual 100, 3) := by decide +kernel
theorem dX5_begin_35 : decode cX5_begin 35 = .ok (.aload_n 0, 1) := by decide +kernel
theorem dX5_begin_36 : decode cX5_begin 36 = .ok (.getfield 36, 3) := by decide +kernel
theorem dX5_begin_39 : decode cX5_begin 39 = .ok (.invokevirtual 100, 3) := by decide +kernel
theorem dX5_begin_42 : decode cX5_begin 42 = .ok (.return_, 1) := by decide +kernel
theorem dX5_copyState_0 : decode cX5_copyState 0 = .ok (.aload_n 0, 1) := by decide +kernel
theorem dX5_copyState_1 : decode cX5_copyState 1 = .ok (.getfield 14, 3) := by decide +kernel
theorem dX5_copyState_4 : decode cX5_copyState 4 = .ok (.aload_n 1, 1) := by decide +kernel
theorem dX5_copyState_5 : decode cX5_copyState 5 = .ok (.getfield 14, 3) := by decide +kernel
theorem dX5_copyState_8 : decode cX5_copyState 8 = .ok (.invokevirtual 103, 3) := by decide +kernel
theorem dX5_copyState_11 : decode cX5_copyState 11 = .ok (.aload_n 0, 1) := by decide +kernel
theorem dX5_copyState_12 : decode cX5_copyState 12 = .ok (.getfield 20, 3) := by decide +kernel
theorem dX5_copyState_15 : decode cX5_copyState 15 = .ok (.aload_n 1, 1) := by decide +kernel
theorem dX5_copyState_16 : decode cX5_copyState 16 = .ok (.getfield 20, 3) := by decide +kernel
theorem dX5_copyState_19 : decode cX5_copyState 19 = .ok (.invokevirtual 103, 3) := by decide +kernel
theorem dX5_copyState_22 : decode cX5_copyState 22 = .ok (.aload_n 0, 1) := by decide +kernel
theorem dX5_copyState_23 : decode cX5_copyState 23 = .ok (.getfield 23, 3) := by decide +kernel
theorem dX5_copyState_26 : decode cX5_copyState 26 = .ok (.aload_n 1, 1) := by decide +kernel
theorem dX5_copyState_27 : decode cX5_copyState 27 = .ok (.getfield 23, 3) := by decide +kernel
theorem dX5_copyState_30 : decode cX5_copyState 30 = .ok (.invokevirtual 103, 3) := by decide +kernel
theorem dX5_copyState_33 : decode cX5_copyState 33 = .ok (.aload_n 0, 1) := by decide +kernel
theorem dX5_copyState_34 : decode cX5_copyState 34 = .ok (.getfield 29, 3) := by decide +kernel
theorem dX5_copyState_37 : decode cX5_copyState 37 = .ok (.aload_n 1, 1) := by decide +kernel
theorem dX5_copyState_38 : decode cX5_copyState 38 = .ok (.getfield 29, 3) := by decide +kernel
theorem dX5_copyState_41 : decode cX5_copyState 41 = .ok (.invokevirtual 107, 3) := by decide +kernel
theorem dX5_copyState_44 : decode cX5_copyState 44 = .ok (.aload_n 0, 1) := by decide +kernel
theorem dX5_copyState_45 : decode cX5_copyState 45 = .ok (.getfield 33, 3) := by decide +kernel
theorem dX5_copyState_48 : decode cX5_copyState 48 = .ok (.aload_n 1, 1) := by decide +kernel
theorem dX5_copyState_49 : decode cX5_copyState 49 = .ok (.getfield 33, 3) := by decide +kernel
theorem dX5_copyState_52 : decode cX5_copyState 52 = .ok (.invokevirtual 107, 3) := by decide +kernel
theorem dX5_copyState_55 : decode cX5_copyState 55 = .ok (.aload_n 0, 1) := by decide +kernel
theorem dX5_copyState_56 : decode cX5_copyState 56 = .ok (.getfield 36, 3) := by decide +kernel
theorem dX5_copyState_59 : decode cX5_copyState 59 = .ok (.aload_n 1, 1) := by decide +kernel
theorem dX5_copyState_60 : decode cX5_copyState 60 = .ok (.getfield 36, 3) := by decide +kernel
theorem dX5_copyState_63 : decode cX5_copyState 63 = .ok (.invokevirtual 107, 3) := by decide +kernel
theorem dX5_copyState_66 : decode cX5_copyState 66 = .ok (.return_, 1) := by decide +kernel
theorem dX5_copyEndOf_0 : decode cX5_copyEndOf 0 = .ok (.aload_n 0, 1) := by decide +kernel
theorem dX5_copyEndOf_1 : decode cX5_copyEndOf 1 = .ok (.aload_n 1, 1) := by decide +kernel
theorem dX5_copyEndOf_2 : decode cX5_copyEndOf 2 = .ok (.invokevirtual 111, 3) := by decide +kernel
theorem dX5_copyEndOf_5 : decode cX5_copyEndOf 5 = .ok (.iconst 0, 1) := by decide +kernel
theorem dX5_copyEndOf_6 : decode cX5_copyEndOf 6 = .ok (.istore_n 3, 1) := by decide +kernel
theorem dX5_copyEndOf_7 : decode cX5_copyEndOf 7 = .ok (.iload_n 3, 1) := by decide +kernel
theorem dX5_copyEndOf_8 : decode cX5_copyEndOf 8 = .ok (.iconst 3, 1) := by decide +kernel
theorem dX5_copyEndOf_9 : decode cX5_copyEndOf 9 = .ok (.if_icmp .ge 78, 3) := by decide +kernel
theorem dX5_copyEndOf_12 : decode cX5_copyEndOf 12 = .ok (.aload_n 0, 1) := by decide +kernel
theorem dX5_copyEndOf_13 : decode cX5_copyEndOf 13 = .ok (.iload_n 2, 1) := by decide +kernel
theorem dX5_copyEndOf_14 : decode cX5_copyEndOf 14 = .ok (.ifCond .eq 9, 3) := by decide +kernel
theorem dX5_copyEndOf_17 : decode cX5_copyEndOf 17 = .ok (.iconst 2, 1) := by decide +kernel
theorem dX5_copyEndOf_18 : decode cX5_copyEndOf 18 = .ok (.iload_n 3, 1) := by decide +kernel
theorem dX5_copyEndOf_19 : decode cX5_copyEndOf 19 = .ok (.isub, 1) := by decide +kernel
theorem dX5_copyEndOf_20 : decode cX5_copyEndOf 20 = .ok (.goto 4, 3) := by decide +kernel
theorem dX5_copyEndOf_23 : decode cX5_copyEndOf 23 = .ok (.iload_n 3, 1) := by decide +kernel
theorem dX5_copyEndOf_24 : decode cX5_copyEndOf 24 = .ok (.invokevirtual 43, 3) := by decide +kernel
theorem dX5_copyEndOf_27 : decode cX5_copyEndOf 27 = .ok (.astore 4, 2) := by decide +kernel
theorem dX5_copyEndOf_29 : decode cX5_copyEndOf 29 = .ok (.iconst 0, 1) := by decide +kernel
theorem dX5_copyEndOf_30 : decode cX5_copyEndOf 30 = .ok (.istore 5, 2) := by decide +kernel
theorem dX5_copyEndOf_32 : decode cX5_copyEndOf 32 = .ok (.iload 5, 2) := by decide +kernel
theorem dX5_copyEndOf_34 : decode cX5_copyEndOf 34 = .ok (.bipush 6, 2) := by decide +kernel
theorem dX5_copyEndOf_36 : decode cX5_copyEndOf 36 = .ok (.if_icmp .gt 45, 3) := by decide +kernel
theorem dX5_copyEndOf_39 : decode cX5_copyEndOf 39 = .ok (.aload 4, 2) := by decide +kernel
theorem dX5_copyEndOf_41 : decode cX5_copyEndOf 41 = .ok (.aload_n 0, 1) := by decide +kernel
theorem dX5_copyEndOf_42 : decode cX5_copyEndOf 42 = .ok (.getfield 29, 3) := by decide +kernel
theorem dX5_copyEndOf_45 : decode cX5_copyEndOf 45 = .ok (.invokevirtual 87, 3) := by decide +kernel
theorem dX5_copyEndOf_48 : decode cX5_copyEndOf 48 = .ok (.ifCond .ne 33, 3) := by decide +kernel
theorem dX5_copyEndOf_51 : decode cX5_copyEndOf 51 = .ok (.aload 4, 2) := by decide +kernel
theorem dX5_copyEndOf_53 : decode cX5_copyEndOf 53 = .ok (.invokevirtual 115, 3) := by decide +kernel
theorem dX5_copyEndOf_56 : decode cX5_copyEndOf 56 = .ok (.ifCond .eq 9, 3) := by decide +kernel
theorem dX5_copyEndOf_59 : decode cX5_copyEndOf 59 = .ok (.aload_n 0, 1) := by decide +kernel
theorem dX5_copyEndOf_60 : decode cX5_copyEndOf 60 = .ok (.aload 4, 2) := by decide +kernel
theorem dX5_copyEndOf_62 : decode cX5_copyEndOf 62 = .ok (.invokevirtual 119, 3) := by decide +kernel
theorem dX5_copyEndOf_65 : decode cX5_copyEndOf 65 = .ok (.aload 4, 2) := by decide +kernel
theorem dX5_copyEndOf_67 : decode cX5_copyEndOf 67 = .ok (.aload_n 0, 1) := by decide +kernel
theorem dX5_copyEndOf_68 : decode cX5_copyEndOf 68 = .ok (.getfield 29, 3) := by decide +kernel
theorem dX5_copyEndOf_71 : decode cX5_copyEndOf 71 = .ok (.invokevirtual 70, 3) := by decide +kernel
theorem dX5_copyEndOf_74 : decode cX5_copyEndOf 74 = .ok (.pop, 1) := by decide +kernel
theorem dX5_copyEndOf_75 : decode cX5_copyEndOf 75 = .ok (.iinc 5 1, 3) := by decide +kernel
theorem dX5_copyEndOf_78 : decode cX5_copyEndOf 78 = .ok (.goto (-46), 3) := by decide +kernel
theorem dX5_copyEndOf_81 : decode cX5_copyEndOf 81 = .ok (.iinc 3 1, 3) := by decide +kernel
theorem dX5_copyEndOf_84 : decode cX5_copyEndOf 84 = .ok (.goto (-77), 3) := by decide +kernel
theorem dX5_copyEndOf_87 : decode cX5_copyEndOf 87 = .ok (.iconst 0, 1) := by decide +kernel
theorem dX5_copyEndOf_88 : decode cX5_copyEndOf 88 = .ok (.istore_n 3, 1) := by decide +kernel
theorem dX5_copyEndOf_89 : decode cX5_copyEndOf 89 = .ok (.iload_n 3, 1) := by decide +kernel
theorem dX5_copyEndOf_90 : decode cX5_copyEndOf 90 = .ok (.iconst 3, 1) := by decide +kernel
theorem dX5_copyEndOf_91 : decode cX5_copyEndOf 91 = .ok (.if_icmp .ge 22, 3) := by decide +kernel
theorem dX5_copyEndOf_94 : decode cX5_copyEndOf 94 = .ok (.aload_n 0, 1) := by decide +kernel
theorem dX5_copyEndOf_95 : decode cX5_copyEndOf 95 = .ok (.iload_n 3, 1) := by decide +kernel
theorem dX5_copyEndOf_96 : decode cX5_copyEndOf 96 = .ok (.invokevirtual 43, 3) := by decide +kernel
theorem dX5_copyEndOf_99 : decode cX5_copyEndOf 99 = .ok (.aload_n 0, 1) := by decide +kernel
theorem dX5_copyEndOf_100 : decode cX5_copyEndOf 100 = .ok (.getfield 29, 3) := by decide +kernel
theorem dX5_copyEndOf_103 : decode cX5_copyEndOf 103 = .ok (.invokevirtual 70, 3) := by decide +kernel
theorem dX5_copyEndOf_106 : decode cX5_copyEndOf 106 = .ok (.pop, 1) := by decide +kernel
theorem dX5_copyEndOf_107 : decode cX5_copyEndOf 107 = .ok (.iinc 3 1, 3) := by decide +kernel
theorem dX5_copyEndOf_110 : decode cX5_copyEndOf 110 = .ok (.goto (-21), 3) := by decide +kernel
theorem dX5_copyEndOf_113 : decode cX5_copyEndOf 113 = .ok (.return_, 1) := by decide +kernel
theorem dX5_pass_0 : decode cX5_pass 0 = .ok (.aload_n 1, 1) := by decide +kernel
theorem dX5_pass_1 : decode cX5_pass 1 = .ok (.invokevirtual 115, 3) := by decide +kernel
theorem dX5_pass_4 : decode cX5_pass 4 = .ok (.ifCond .ne 6, 3) := by decide +kernel
theorem dX5_pass_7 : decode cX5_pass 7 = .ok (.bipush (-2), 2) := by decide +kernel
theorem dX5_pass_9 : decode cX5_pass 9 = .ok (.ireturn, 1) := by decide +kernel
theorem dX5_pass_10 : decode cX5_pass 10 = .ok (.aload_n 0, 1) := by decide +kernel
theorem dX5_pass_11 : decode cX5_pass 11 = .ok (.getfield 29, 3) := by decide +kernel
theorem dX5_pass_14 : decode cX5_pass 14 = .ok (.invokevirtual 73, 3) := by decide +kernel
theorem dX5_pass_17 : decode cX5_pass 17 = .ok (.bipush 60, 2) := by decide +kernel
theorem dX5_pass_19 : decode cX5_pass 19 = .ok (.if_icmp .lt 6, 3) := by decide +kernel
theorem dX5_pass_22 : decode cX5_pass 22 = .ok (.bipush (-3), 2) := by decide +kernel
theorem dX5_pass_24 : decode cX5_pass 24 = .ok (.ireturn, 1) := by decide +kernel
theorem dX5_pass_25 : decode cX5_pass 25 = .ok (.aload_n 0, 1) := by decide +kernel
theorem dX5_pass_26 : decode cX5_pass 26 = .ok (.aload_n 1, 1) := by decide +kernel
theorem dX5_pass_27 : decode cX5_pass 27 = .ok (.invokevirtual 119, 3) := by decide +kernel
theorem dX5_pass_30 : decode cX5_pass 30 = .ok (.aload_n 0, 1) := by decide +kernel
theorem dX5_pass_31 : decode cX5_pass 31 = .ok (.getfield 29, 3) := by decide +kernel
theorem dX5_pass_34 : decode cX5_pass 34 = .ok (.invokevirtual 73, 3) := by decide +kernel
theorem dX5_pass_37 : decode cX5_pass 37 = .ok (.ireturn, 1) := by decide +kernel
theorem dX5_append_0 : decode cX5_append 0 = .ok (.aload_n 1, 1) := by decide +kernel
theorem dX5_append_1 : decode cX5_append 1 = .ok (.aload_n 0, 1) := by decide +kernel
theorem dX5_append_2 : decode cX5_append 2 = .ok (.getfield 29, 3) := by decide +kernel
theorem dX5_append_5 : decode cX5_append 5 = .ok (.invokevirtual 122, 3) := by decide +kernel
theorem dX5_append_8 : decode cX5_append 8 = .ok (.istore_n 2, 1) := by decide +kernel
theorem dX5_append_9 : decode cX5_append 9 = .ok (.iload_n 2, 1) := by decide +kernel
theorem dX5_append_10 : decode cX5_append 10 = .ok (.invokestatic 125, 3) := by decide +kernel
theorem dX5_append_13 : decode cX5_append 13 = .ok (.istore_n 3, 1) := by decide +kernel
theorem dX5_append_14 : decode cX5_append 14 = .ok (.iload_n 2, 1) := by decide +kernel
theorem dX5_append_15 : decode cX5_append 15 = .ok (.invokestatic 79, 3) := by decide +kernel
theorem dX5_append_18 : decode cX5_append 18 = .ok (.istore 4, 2) := by decide +kernel
theorem dX5_append_20 : decode cX5_append 20 = .ok (.iload 4, 2) := by decide +kernel
theorem dX5_append_22 : decode cX5_append 22 = .ok (.iconst 1, 1) := by decide +kernel
theorem dX5_append_23 : decode cX5_append 23 = .ok (.if_icmp .ne 30, 3) := by decide +kernel
theorem dX5_append_26 : decode cX5_append 26 = .ok (.aload_n 0, 1) := by decide +kernel
theorem dX5_append_27 : decode cX5_append 27 = .ok (.getfield 33, 3) := by decide +kernel
theorem dX5_append_30 : decode cX5_append 30 = .ok (.iload_n 3, 1) := by decide +kernel
theorem dX5_append_31 : decode cX5_append 31 = .ok (.iload_n 2, 1) := by decide +kernel
theorem dX5_append_32 : decode cX5_append 32 = .ok (.invokestatic 128, 3) := by decide +kernel
theorem dX5_append_35 : decode cX5_append 35 = .ok (.invokevirtual 131, 3) := by decide +kernel
theorem dX5_append_38 : decode cX5_append 38 = .ok (.aload_n 0, 1) := by decide +kernel
theorem dX5_append_39 : decode cX5_append 39 = .ok (.getfield 36, 3) := by decide +kernel
theorem dX5_append_42 : decode cX5_append 42 = .ok (.iload_n 3, 1) := by decide +kernel
theorem dX5_append_43 : decode cX5_append 43 = .ok (.iload_n 2, 1) := by decide +kernel
theorem dX5_append_44 : decode cX5_append 44 = .ok (.invokestatic 135, 3) := by decide +kernel
theorem dX5_append_47 : decode cX5_append 47 = .ok (.invokevirtual 131, 3) := by decide +kernel
theorem dX5_append_50 : decode cX5_append 50 = .ok (.goto 25, 3) := by decide +kernel
theorem dX5_append_53 : decode cX5_append 53 = .ok (.iload 4, 2) := by decide +kernel
theorem dX5_append_55 : decode cX5_append 55 = .ok (.iconst 2, 1) := by decide +kernel
theorem dX5_append_56 : decode cX5_append 56 = .ok (.if_icmp .ne 19, 3) := by decide +kernel
theorem dX5_append_59 : decode cX5_append 59 = .ok (.aload_n 0, 1) := by decide +kernel
theorem dX5_append_60 : decode cX5_append 60 = .ok (.getfield 33, 3) := by decide +kernel
theorem dX5_append_63 : decode cX5_append 63 = .ok (.iload_n 3, 1) := by decide +kernel
theorem dX5_append_64 : decode cX5_append 64 = .ok (.invokevirtual 138, 3) := by decide +kernel
theorem dX5_append_67 : decode cX5_append 67 = .ok (.aload_n 0, 1) := by decide +kernel
theorem dX5_append_68 : decode cX5_append 68 = .ok (.getfield 36, 3) := by decide +kernel
theorem dX5_append_71 : decode cX5_append 71 = .ok (.iload_n 3, 1) := by decide +kernel
theorem dX5_append_72 : decode cX5_append 72 = .ok (.invokevirtual 138, 3) := by decide +kernel
theorem dX5_append_75 : decode cX5_append 75 = .ok (.aload_n 0, 1) := by decide +kernel
theorem dX5_append_76 : decode cX5_append 76 = .ok (.getfield 29, 3) := by decide +kernel
theorem dX5_append_79 : decode cX5_append 79 = .ok (.iload_n 2, 1) := by decide +kernel
theorem dX5_append_80 : decode cX5_append 80 = .ok (.invokevirtual 141, 3) := by decide +kernel
theorem dX5_append_83 : decode cX5_append 83 = .ok (.aload_n 1, 1) := by decide +kernel
theorem dX5_append_84 : decode cX5_append 84 = .ok (.iconst 1, 1) := by decide +kernel
theorem dX5_append_85 : decode cX5_append 85 = .ok (.putfield 144, 3) := by decide +kernel
theorem dX5_append_88 : decode cX5_append 88 = .ok (.return_, 1) := by decide +kernel
theorem dX6_init_0 : decode cX6_init 0 = .ok (.aload_n 0, 1) := by decide +kernel
theorem dX6_init_1 : decode cX6_init 1 = .ok (.invokespecial 3, 3) := by decide +kernel
theorem dX6_init_4 : decode cX6_init 4 = .ok (.aload_n 0, 1) := by decide +kernel
theorem dX6_init_5 : decode cX6_init 5 = .ok (.new 9, 3) := by decide +kernel
theorem dX6_init_8 : decode cX6_init 8 = .ok (.dup, 1) := by decide +kernel
theorem dX6_init_9 : decode cX6_init 9 = .ok (.invokespecial 11, 3) := by decide +kernel
theorem dX6_init_12 : decode cX6_init 12 = .ok (.putfield 12, 3) := by decide +kernel
theorem dX6_init_15 : decode cX6_init 15 = .ok (.aload_n 0, 1) := by decide +kernel
theorem dX6_init_16 : decode cX6_init 16 = .ok (.new 9, 3) := by decide +kernel
theorem dX6_init_19 : decode cX6_init 19 = .ok (.dup, 1) := by decide +kernel
theorem dX6_init_20 : decode cX6_init 20 = .ok (.invokespecial 11, 3) := by decide +kernel
theorem dX6_init_23 : decode cX6_init 23 = .ok (.putfield 16, 3) := by decide +kernel
theorem dX6_init_26 : decode cX6_init 26 = .ok (.aload_n 0, 1) := by decide +kernel
theorem dX6_init_27 : decode cX6_init 27 = .ok (.new 9, 3) := by decide +kernel
theorem dX6_init_30 : decode cX6_init 30 = .ok (.dup, 1) := by decide +kernel
theorem dX6_init_31 : decode cX6_init 31 = .ok (.invokespecial 11, 3) := by decide +kernel
theorem dX6_init_34 : decode cX6_init 34 = .ok (.putfield 19, 3) := by decide +kernel
theorem dX6_init_37 : decode cX6_init 37 = .ok (.aload_n 0, 1) := by decide +kernel
theorem dX6_init_38 : decode cX6_init 38 = .ok (.new 9, 3) := by decide +kernel
theorem dX6_init_41 : decode cX6_init 41 = .ok (.dup, 1) := by decide +kernel
theorem dX6_init_42 : decode cX6_init 42 = .ok (.invokespecial 11, 3) := by decide +kernel
theorem dX6_init_45 : decode cX6_init 45 = .ok (.putfield 22, 3) := by decide +kernel
theorem dX6_init_48 : decode cX6_init 48 = .ok (.aload_n 0, 1) := by decide +kernel
theorem dX6_init_49 : decode cX6_init 49 = .ok (.new 25, 3) := by decide +kernel
theorem dX6_init_52 : decode cX6_init 52 = .ok (.dup, 1) := by decide +kernel
theorem dX6_init_53 : decode cX6_init 53 = .ok (.invokespecial 27, 3) := by decide +kernel
theorem dX6_init_56 : decode cX6_init 56 = .ok (.putfield 28, 3) := by decide +kernel
theorem dX6_init_59 : decode cX6_init 59 = .ok (.aload_n 0, 1) := by decide +kernel
theorem dX6_init_60 : decode cX6_init 60 = .ok (.new 32, 3) := by decide +kernel
theorem dX6_init_63 : decode cX6_init 63 = .ok (.dup, 1) := by decide +kernel
theorem dX6_init_64 : decode cX6_init 64 = .ok (.invokespecial 34, 3) := by decide +kernel
theorem dX6_init_67 : decode cX6_init 67 = .ok (.putfield 35, 3) := by decide +kernel
theorem dX6_init_70 : decode cX6_init 70 = .ok (.return_, 1) := by decide +kernel
theorem dX6_insert_0 : decode cX6_insert 0 = .ok (.aload_n 0, 1) := by decide +kernel
theorem dX6_insert_1 : decode cX6_insert 1 = .ok (.bipush 105, 2) := by decide +kernel
theorem dX6_insert_3 : decode cX6_insert 3 = .ok (.iload_n 1, 1) := by decide +kernel
theorem dX6_insert_4 : decode cX6_insert 4 = .ok (.iload_n 2, 1) := by decide +kernel
theorem dX6_insert_5 : decode cX6_insert 5 = .ok (.iload_n 3, 1) := by decide +kernel
theorem dX6_insert_6 : decode cX6_insert 6 = .ok (.invokevirtual 39, 3) := by decide +kernel
theorem dX6_insert_9 : decode cX6_insert 9 = .ok (.ireturn, 1) := by decide +kernel
theorem dX6_delete_0 : decode cX6_delete 0 = .ok (.aload_n 0, 1) := by decide +kernel
theorem dX6_delete_1 : decode cX6_delete 1 = .ok (.bipush 100, 2) := by decide +kernel
theorem dX6_delete_3 : decode cX6_delete 3 = .ok (.iload_n 1, 1) := by decide +kernel
theorem dX6_delete_4 : decode cX6_delete 4 = .ok (.iload_n 2, 1) := by decide +kernel
theorem dX6_delete_5 : decode cX6_delete 5 = .ok (.iconst 0, 1) := by decide +kernel
theorem dX6_delete_6 : decode cX6_delete 6 = .ok (.invokevirtual 39, 3) := by decide +kernel
theorem dX6_delete_9 : decode cX6_delete 9 = .ok (.ireturn, 1) := by decide +kernel
theorem dX6_takeBack_0 : decode cX6_takeBack 0 = .ok (.aload_n 0, 1) := by decide +kernel
theorem dX6_takeBack_1 : decode cX6_takeBack 1 = .ok (.bipush 98, 2) := by decide +kernel
theorem dX6_takeBack_3 : decode cX6_takeBack 3 = .ok (.iload_n 1, 1) := by decide +kernel
theorem dX6_takeBack_4 : decode cX6_takeBack 4 = .ok (.iconst 0, 1) := by decide +kernel
theorem dX6_takeBack_5 : decode cX6_takeBack 5 = .ok (.iconst 0, 1) := by decide +kernel
theorem dX6_takeBack_6 : decode cX6_takeBack 6 = .ok (.invokevirtual 39, 3) := by decide +kernel
theorem dX6_takeBack_9 : decode cX6_takeBack 9 = .ok (.ireturn, 1) := by decide +kernel
theorem dX6_mark_0 : decode cX6_mark 0 = .ok (.aload_n 0, 1) := by decide +kernel
theorem dX6_mark_1 : decode cX6_mark 1 = .ok (.bipush 77, 2) := by decide +kernel
theorem dX6_mark_3 : decode cX6_mark 3 = .ok (.iload_n 1, 1) := by decide +kernel
theorem dX6_mark_4 : decode cX6_mark 4 = .ok (.iload_n 2, 1) := by decide +kernel
theorem dX6_mark_5 : decode cX6_mark 5 = .ok (.iconst 0, 1) := by decide +kernel
theorem dX6_mark_6 : decode cX6_mark 6 = .ok (.invokevirtual 39, 3) := by decide +kernel
theorem dX6_mark_9 : decode cX6_mark 9 = .ok (.ireturn, 1) := by decide +kernel
theorem dX6_send_0 : decode cX6_send 0 = .ok (.aload_n 0, 1) := by decide +kernel
theorem dX6_send_1 : decode cX6_send 1 = .ok (.bipush 115, 2) := by decide +kernel
theorem dX6_send_3 : decode cX6_send 3 = .ok (.iload_n 1, 1) := by decide +kernel
theorem dX6_send_4 : decode cX6_send 4 = .ok (.iconst 0, 1) := by decide +kernel
theorem dX6_send_5 : decode cX6_send 5 = .ok (.iconst 0, 1) := by decide +kernel
theorem dX6_send_6 : decode cX6_send 6 = .ok (.invokevirtual 39, 3) := by decide +kernel
theorem dX6_send_9 : decode cX6_send 9 = .ok (.ireturn, 1) := by decide +kernel
theorem dX6_hear_0 : decode cX6_hear 0 = .ok (.aload_n 0, 1) := by decide +kernel
theorem dX6_hear_1 : decode cX6_hear 1 = .ok (.bipush 104, 2) := by decide +kernel
theorem dX6_hear_3 : decode cX6_hear 3 = .ok (.iload_n 1, 1) := by decide +kernel
theorem dX6_hear_4 : decode cX6_hear 4 = .ok (.iconst 0, 1) := by decide +kernel
theorem dX6_hear_5 : decode cX6_hear 5 = .ok (.iconst 0, 1) := by decide +kernel
theorem dX6_hear_6 : decode cX6_hear 6 = .ok (.invokevirtual 39, 3) := by decide +kernel
theorem dX6_hear_9 : decode cX6_hear 9 = .ok (.ireturn, 1) := by decide +kernel
theorem dX6_hearAll_0 : decode cX6_hearAll 0 = .ok (.aload_n 0, 1) := by decide +kernel
theorem dX6_hearAll_1 : decode cX6_hearAll 1 = .ok (.bipush 65, 2) := by decide +kernel
theorem dX6_hearAll_3 : decode cX6_hearAll 3 = .ok (.iload_n 1, 1) := by decide +kernel
theorem dX6_hearAll_4 : decode cX6_hearAll 4 = .ok (.iconst 0, 1) := by decide +kernel
theorem dX6_hearAll_5 : decode cX6_hearAll 5 = .ok (.iconst 0, 1) := by decide +kernel
theorem dX6_hearAll_6 : decode cX6_hearAll 6 = .ok (.invokevirtual 39, 3) := by decide +kernel
theorem dX6_hearAll_9 : decode cX6_hearAll 9 = .ok (.ireturn, 1) := by decide +kernel
theorem dX6_clear_0 : decode cX6_clear 0 = .ok (.aload_n 0, 1) := by decide +kernel
theorem dX6_clear_1 : decode cX6_clear 1 = .ok (.getfield 12, 3) := by decide +kernel
theorem dX6_clear_4 : decode cX6_clear 4 = .ok (.getfield 43, 3) := by decide +kernel
theorem dX6_clear_7 : decode cX6_clear 7 = .ok (.invokevirtual 47, 3) := by decide +kernel
theorem dX6_clear_10 : decode cX6_clear 10 = .ok (.istore_n 1, 1) := by decide +kernel
theorem dX6_clear_11 : decode cX6_clear 11 = .ok (.aload_n 0, 1) := by decide +kernel
theorem dX6_clear_12 : decode cX6_clear 12 = .ok (.getfield 28, 3) := by decide +kernel
theorem dX6_clear_15 : decode cX6_clear 15 = .ok (.aload_n 0, 1) := by decide +kernel
theorem dX6_clear_16 : decode cX6_clear 16 = .ok (.getfield 12, 3) := by decide +kernel
theorem dX6_clear_19 : decode cX6_clear 19 = .ok (.invokevirtual 53, 3) := by decide +kernel
theorem dX6_clear_22 : decode cX6_clear 22 = .ok (.aload_n 0, 1) := by decide +kernel
theorem dX6_clear_23 : decode cX6_clear 23 = .ok (.getfield 28, 3) := by decide +kernel
theorem dX6_clear_26 : decode cX6_clear 26 = .ok (.invokevirtual 57, 3) := by decide +kernel
theorem dX6_clear_29 : decode cX6_clear 29 = .ok (.aload_n 0, 1) := by decide +kernel
theorem dX6_clear_30 : decode cX6_clear 30 = .ok (.getfield 12, 3) := by decide +kernel
theorem dX6_clear_33 : decode cX6_clear 33 = .ok (.invokevirtual 60, 3) := by decide +kernel
theorem dX6_clear_36 : decode cX6_clear 36 = .ok (.iload_n 1, 1) := by decide +kernel
theorem dX6_clear_37 : decode cX6_clear 37 = .ok (.ireturn, 1) := by decide +kernel
theorem dX6_letter_0 : decode cX6_letter 0 = .ok (.iload_n 1, 1) := by decide +kernel
theorem dX6_letter_1 : decode cX6_letter 1 = .ok (.invokestatic 63, 3) := by decide +kernel
theorem dX6_letter_4 : decode cX6_letter 4 = .ok (.ifCond .eq 8, 3) := by decide +kernel
theorem dX6_letter_7 : decode cX6_letter 7 = .ok (.iload_n 1, 1) := by decide +kernel
theorem dX6_letter_8 : decode cX6_letter 8 = .ok (.iconst 3, 1) := by decide +kernel
theorem dX6_letter_9 : decode cX6_letter 9 = .ok (.if_icmp .ne 7, 3) := by decide +kernel
theorem dX6_letter_12 : decode cX6_letter 12 = .ok (.iload_n 2, 1) := by decide +kernel
theorem dX6_letter_13 : decode cX6_letter 13 = .ok (.ifCond .ge 5, 3) := by decide +kernel
theorem dX6_letter_16 : decode cX6_letter 16 = .ok (.iconst (-1), 1) := by decide +kernel
theorem dX6_letter_17 : decode cX6_letter 17 = .ok (.ireturn, 1) := by decide +kernel
theorem dX6_letter_18 : decode cX6_letter 18 = .ok (.iload_n 1, 1) := by decide +kernel
theorem dX6_letter_19 : decode cX6_letter 19 = .ok (.iconst 3, 1) := by decide +kernel
theorem dX6_letter_20 : decode cX6_letter 20 = .ok (.if_icmp .ne 13, 3) := by decide +kernel
theorem dX6_letter_23 : decode cX6_letter 23 = .ok (.aload_n 0, 1) := by decide +kernel
theorem dX6_letter_24 : decode cX6_letter 24 = .ok (.getfield 12, 3) := by decide +kernel
theorem dX6_letter_27 : decode cX6_letter 27 = .ok (.getfield 67, 3) := by decide +kernel
theorem dX6_letter_30 : decode cX6_letter 30 = .ok (.goto 14, 3) := by decide +kernel
theorem dX6_letter_33 : decode cX6_letter 33 = .ok (.aload_n 0, 1) := by decide +kernel
theorem dX6_letter_34 : decode cX6_letter 34 = .ok (.getfield 12, 3) := by decide +kernel
theorem dX6_letter_37 : decode cX6_letter 37 = .ok (.iload_n 1, 1) := by decide +kernel
theorem dX6_letter_38 : decode cX6_letter 38 = .ok (.invokevirtual 70, 3) := by decide +kernel
theorem dX6_letter_41 : decode cX6_letter 41 = .ok (.getfield 74, 3) := by decide +kernel
theorem dX6_letter_44 : decode cX6_letter 44 = .ok (.astore_n 3, 1) := by decide +kernel
theorem dX6_letter_45 : decode cX6_letter 45 = .ok (.iload_n 2, 1) := by decide +kernel
theorem dX6_letter_46 : decode cX6_letter 46 = .ok (.aload_n 3, 1) := by decide +kernel
theorem dX6_letter_47 : decode cX6_letter 47 = .ok (.invokevirtual 47, 3) := by decide +kernel
theorem dX6_letter_50 : decode cX6_letter 50 = .ok (.if_icmp .ge 11, 3) := by decide +kernel
theorem dX6_letter_53 : decode cX6_letter 53 = .ok (.aload_n 3, 1) := by decide +kernel
theorem dX6_letter_54 : decode cX6_letter 54 = .ok (.iload_n 2, 1) := by decide +kernel
theorem dX6_letter_55 : decode cX6_letter 55 = .ok (.invokevirtual 79, 3) := by decide +kernel
theorem dX6_letter_58 : decode cX6_letter 58 = .ok (.goto 5, 3) := by decide +kernel
theorem dX6_letter_61 : decode cX6_letter 61 = .ok (.bipush (-4), 2) := by decide +kernel
theorem dX6_letter_63 : decode cX6_letter 63 = .ok (.ireturn, 1) := by decide +kernel
theorem dX6_editorOf_0 : decode cX6_editorOf 0 = .ok (.iload_n 1, 1) := by decide +kernel
theorem dX6_editorOf_1 : decode cX6_editorOf 1 = .ok (.invokestatic 63, 3) := by decide +kernel
theorem dX6_editorOf_4 : decode cX6_editorOf 4 = .ok (.ifCond .eq 5, 3) := by decide +kernel
theorem dX6_editorOf_7 : decode cX6_editorOf 7 = .ok (.iconst (-1), 1) := by decide +kernel
theorem dX6_editorOf_8 : decode cX6_editorOf 8 = .ok (.ireturn, 1) := by decide +kernel
theorem dX6_editorOf_9 : decode cX6_editorOf 9 = .ok (.aload_n 0, 1) := by decide +kernel
theorem dX6_editorOf_10 : decode cX6_editorOf 10 = .ok (.getfield 12, 3) := by decide +kernel
theorem dX6_editorOf_13 : decode cX6_editorOf 13 = .ok (.iload_n 1, 1) := by decide +kernel
theorem dX6_editorOf_14 : decode cX6_editorOf 14 = .ok (.invokevirtual 70, 3) := by decide +kernel
theorem dX6_editorOf_17 : decode cX6_editorOf 17 = .ok (.astore_n 3, 1) := by decide +kernel
theorem dX6_editorOf_18 : decode cX6_editorOf 18 = .ok (.iload_n 2, 1) := by decide +kernel
theorem dX6_editorOf_19 : decode cX6_editorOf 19 = .ok (.tableswitch 140 0 8 #[49, 57, 65, 78, 83, 99, 104, 112, 135], 49) := by decide +kernel
theorem dX6_editorOf_68 : decode cX6_editorOf 68 = .ok (.aload_n 3, 1) := by decide +kernel
theorem dX6_editorOf_69 : decode cX6_editorOf 69 = .ok (.getfield 74, 3) := by decide +kernel
theorem dX6_editorOf_72 : decode cX6_editorOf 72 = .ok (.invokevirtual 47, 3) := by decide +kernel
theorem dX6_editorOf_75 : decode cX6_editorOf 75 = .ok (.ireturn, 1) := by decide +kernel
theorem dX6_editorOf_76 : decode cX6_editorOf 76 = .ok (.aload_n 3, 1) := by decide +kernel
theorem dX6_editorOf_77 : decode cX6_editorOf 77 = .ok (.getfield 83, 3) := by decide +kernel
theorem dX6_editorOf_80 : decode cX6_editorOf 80 = .ok (.invokevirtual 47, 3) := by decide +kernel
theorem dX6_editorOf_83 : decode cX6_editorOf 83 = .ok (.ireturn, 1) := by decide +kernel
theorem dX6_editorOf_84 : decode cX6_editorOf 84 = .ok (.aload_n 3, 1) := by decide +kernel
theorem dX6_editorOf_85 : decode cX6_editorOf 85 = .ok (.getfield 86, 3) := by decide +kernel
theorem dX6_editorOf_88 : decode cX6_editorOf 88 = .ok (.ifCond .eq 7, 3) := by decide +kernel
theorem dX6_editorOf_91 : decode cX6_editorOf 91 = .ok (.iconst 1, 1) := by decide +kernel
theorem dX6_editorOf_92 : decode cX6_editorOf 92 = .ok (.goto 4, 3) := by decide +kernel
theorem dX6_editorOf_95 : decode cX6_editorOf 95 = .ok (.iconst 0, 1) := by decide +kernel
theorem dX6_editorOf_96 : decode cX6_editorOf 96 = .ok (.ireturn, 1) := by decide +kernel
theorem dX6_editorOf_97 : decode cX6_editorOf 97 = .ok (.aload_n 3, 1) := by decide +kernel
theorem dX6_editorOf_98 : decode cX6_editorOf 98 = .ok (.getfield 90, 3) := by decide +kernel
theorem dX6_editorOf_101 : decode cX6_editorOf 101 = .ok (.ireturn, 1) := by decide +kernel
theorem dX6_editorOf_102 : decode cX6_editorOf 102 = .ok (.aload_n 0, 1) := by decide +kernel
theorem dX6_editorOf_103 : decode cX6_editorOf 103 = .ok (.getfield 12, 3) := by decide +kernel
theorem dX6_editorOf_106 : decode cX6_editorOf 106 = .ok (.getfield 43, 3) := by decide +kernel
theorem dX6_editorOf_109 : decode cX6_editorOf 109 = .ok (.invokevirtual 47, 3) := by decide +kernel
theorem dX6_editorOf_112 : decode cX6_editorOf 112 = .ok (.aload_n 3, 1) := by decide +kernel
theorem dX6_editorOf_113 : decode cX6_editorOf 113 = .ok (.getfield 90, 3) := by decide +kernel
theorem dX6_editorOf_116 : decode cX6_editorOf 116 = .ok (.isub, 1) := by decide +kernel
theorem dX6_editorOf_117 : decode cX6_editorOf 117 = .ok (.ireturn, 1) := by decide +kernel
theorem dX6_editorOf_118 : decode cX6_editorOf 118 = .ok (.aload_n 3, 1) := by decide +kernel
theorem dX6_editorOf_119 : decode cX6_editorOf 119 = .ok (.getfield 94, 3) := by decide +kernel
theorem dX6_editorOf_122 : decode cX6_editorOf 122 = .ok (.ireturn, 1) := by decide +kernel
theorem dX6_editorOf_123 : decode cX6_editorOf 123 = .ok (.aload_n 3, 1) := by decide +kernel
theorem dX6_editorOf_124 : decode cX6_editorOf 124 = .ok (.getfield 97, 3) := by decide +kernel
theorem dX6_editorOf_127 : decode cX6_editorOf 127 = .ok (.invokevirtual 47, 3) := by decide +kernel
theorem dX6_editorOf_130 : decode cX6_editorOf 130 = .ok (.ireturn, 1) := by decide +kernel
theorem dX6_editorOf_131 : decode cX6_editorOf 131 = .ok (.aload_n 3, 1) := by decide +kernel
theorem dX6_editorOf_132 : decode cX6_editorOf 132 = .ok (.getfield 74, 3) := by decide +kernel
theorem dX6_editorOf_135 : decode cX6_editorOf 135 = .ok (.aload_n 0, 1) := by decide +kernel
theorem dX6_editorOf_136 : decode cX6_editorOf 136 = .ok (.getfield 12, 3) := by decide +kernel
theorem dX6_editorOf_139 : decode cX6_editorOf 139 = .ok (.getfield 67, 3) := by decide +kernel
theorem dX6_editorOf_142 : decode cX6_editorOf 142 = .ok (.invokevirtual 100, 3) := by decide +kernel
theorem dX6_editorOf_145 : decode cX6_editorOf 145 = .ok (.ifCond .eq 7, 3) := by decide +kernel
theorem dX6_editorOf_148 : decode cX6_editorOf 148 = .ok (.iconst 1, 1) := by decide +kernel
theorem dX6_editorOf_149 : decode cX6_editorOf 149 = .ok (.goto 4, 3) := by decide +kernel
theorem dX6_editorOf_152 : decode cX6_editorOf 152 = .ok (.iconst 0, 1) := by decide +kernel
theorem dX6_editorOf_153 : decode cX6_editorOf 153 = .ok (.ireturn, 1) := by decide +kernel
theorem dX6_editorOf_154 : decode cX6_editorOf 154 = .ok (.aload_n 3, 1) := by decide +kernel
theorem dX6_editorOf_155 : decode cX6_editorOf 155 = .ok (.getfield 104, 3) := by decide +kernel
theorem dX6_editorOf_158 : decode cX6_editorOf 158 = .ok (.ireturn, 1) := by decide +kernel
theorem dX6_editorOf_159 : decode cX6_editorOf 159 = .ok (.iconst (-1), 1) := by decide +kernel
theorem dX6_editorOf_160 : decode cX6_editorOf 160 = .ok (.ireturn, 1) := by decide +kernel
theorem dX6_waitingOf_0 : decode cX6_waitingOf 0 = .ok (.iload_n 1, 1) := by decide +kernel
theorem dX6_waitingOf_1 : decode cX6_waitingOf 1 = .ok (.invokestatic 63, 3) := by decide +kernel
theorem dX6_waitingOf_4 : decode cX6_waitingOf 4 = .ok (.ifCond .ne 16, 3) := by decide +kernel
theorem dX6_waitingOf_7 : decode cX6_waitingOf 7 = .ok (.iload_n 2, 1) := by decide +kernel
theorem dX6_waitingOf_8 : decode cX6_waitingOf 8 = .ok (.ifCond .lt 12, 3) := by decide +kernel
theorem dX6_waitingOf_11 : decode cX6_waitingOf 11 = .ok (.iload_n 3, 1) := by decide +kernel
theorem dX6_waitingOf_12 : decode cX6_waitingOf 12 = .ok (.ifCond .lt 8, 3) := by decide +kernel
theorem dX6_waitingOf_15 : decode cX6_waitingOf 15 = .ok (.iload_n 3, 1) := by decide +kernel
theorem dX6_waitingOf_16 : decode cX6_waitingOf 16 = .ok (.iconst 2, 1) := by decide +kernel
theorem dX6_waitingOf_17 : decode cX6_waitingOf 17 = .ok (.if_icmp .le 5, 3) := by decide +kernel
theorem dX6_waitingOf_20 : decode cX6_waitingOf 20 = .ok (.iconst (-1), 1) := by decide +kernel
theorem dX6_waitingOf_21 : decode cX6_waitingOf 21 = .ok (.ireturn, 1) := by decide +kernel
theorem dX6_waitingOf_22 : decode cX6_waitingOf 22 = .ok (.aload_n 0, 1) := by decide +kernel
theorem dX6_waitingOf_23 : decode cX6_waitingOf 23 = .ok (.getfield 12, 3) := by decide +kernel
theorem dX6_waitingOf_26 : decode cX6_waitingOf 26 = .ok (.iload_n 1, 1) := by decide +kernel
theorem dX6_waitingOf_27 : decode cX6_waitingOf 27 = .ok (.invokevirtual 70, 3) := by decide +kernel
theorem dX6_waitingOf_30 : decode cX6_waitingOf 30 = .ok (.getfield 83, 3) := by decide +kernel
theorem dX6_waitingOf_33 : decode cX6_waitingOf 33 = .ok (.iload_n 2, 1) := by decide +kernel
theorem dX6_waitingOf_34 : decode cX6_waitingOf 34 = .ok (.iload_n 3, 1) := by decide +kernel
theorem dX6_waitingOf_35 : decode cX6_waitingOf 35 = .ok (.invokestatic 107, 3) := by decide +kernel
theorem dX6_waitingOf_38 : decode cX6_waitingOf 38 = .ok (.ireturn, 1) := by decide +kernel
theorem dX6_logOf_0 : decode cX6_logOf 0 = .ok (.iload_n 1, 1) := by decide +kernel
theorem dX6_logOf_1 : decode cX6_logOf 1 = .ok (.ifCond .lt 12, 3) := by decide +kernel
theorem dX6_logOf_4 : decode cX6_logOf 4 = .ok (.iload_n 2, 1) := by decide +kernel
theorem dX6_logOf_5 : decode cX6_logOf 5 = .ok (.ifCond .lt 8, 3) := by decide +kernel
theorem dX6_logOf_8 : decode cX6_logOf 8 = .ok (.iload_n 2, 1) := by decide +kernel
theorem dX6_logOf_9 : decode cX6_logOf 9 = .ok (.iconst 3, 1) := by decide +kernel
theorem dX6_logOf_10 : decode cX6_logOf 10 = .ok (.if_icmp .le 5, 3) := by decide +kernel
theorem dX6_logOf_13 : decode cX6_logOf 13 = .ok (.iconst (-1), 1) := by decide +kernel
theorem dX6_logOf_14 : decode cX6_logOf 14 = .ok (.ireturn, 1) := by decide +kernel
theorem dX6_logOf_15 : decode cX6_logOf 15 = .ok (.aload_n 0, 1) := by decide +kernel
theorem dX6_logOf_16 : decode cX6_logOf 16 = .ok (.getfield 12, 3) := by decide +kernel
theorem dX6_logOf_19 : decode cX6_logOf 19 = .ok (.getfield 43, 3) := by decide +kernel
theorem dX6_logOf_22 : decode cX6_logOf 22 = .ok (.iload_n 1, 1) := by decide +kernel
theorem dX6_logOf_23 : decode cX6_logOf 23 = .ok (.iload_n 2, 1) := by decide +kernel
theorem dX6_logOf_24 : decode cX6_logOf 24 = .ok (.invokestatic 107, 3) := by decide +kernel
theorem dX6_logOf_27 : decode cX6_logOf 27 = .ok (.ireturn, 1) := by decide +kernel
theorem dX6_by_0 : decode cX6_by 0 = .ok (.iload_n 1, 1) := by decide +kernel
theorem dX6_by_1 : decode cX6_by 1 = .ok (.ifCond .ge 5, 3) := by decide +kernel
theorem dX6_by_4 : decode cX6_by 4 = .ok (.iconst (-1), 1) := by decide +kernel
theorem dX6_by_5 : decode cX6_by 5 = .ok (.ireturn, 1) := by decide +kernel
theorem dX6_by_6 : decode cX6_by 6 = .ok (.iload_n 1, 1) := by decide +kernel
theorem dX6_by_7 : decode cX6_by 7 = .ok (.aload_n 0, 1) := by decide +kernel
theorem dX6_by_8 : decode cX6_by 8 = .ok (.getfield 12, 3) := by decide +kernel
theorem dX6_by_11 : decode cX6_by 11 = .ok (.getfield 111, 3) := by decide +kernel
theorem dX6_by_14 : decode cX6_by 14 = .ok (.invokevirtual 47, 3) := by decide +kernel
theorem dX6_by_17 : decode cX6_by 17 = .ok (.if_icmp .ge 17, 3) := by decide +kernel
theorem dX6_by_20 : decode cX6_by 20 = .ok (.aload_n 0, 1) := by decide +kernel
theorem dX6_by_21 : decode cX6_by 21 = .ok (.getfield 12, 3) := by decide +kernel
theorem dX6_by_24 : decode cX6_by 24 = .ok (.getfield 111, 3) := by decide +kernel
theorem dX6_by_27 : decode cX6_by 27 = .ok (.iload_n 1, 1) := by decide +kernel
theorem dX6_by_28 : decode cX6_by 28 = .ok (.invokevirtual 79, 3) := by decide +kernel
theorem dX6_by_31 : decode cX6_by 31 = .ok (.goto 5, 3) := by decide +kernel
theorem dX6_by_34 : decode cX6_by 34 = .ok (.bipush (-4), 2) := by decide +kernel
theorem dX6_by_36 : decode cX6_by 36 = .ok (.ireturn, 1) := by decide +kernel
theorem dX6_count_0 : decode cX6_count 0 = .ok (.iload_n 1, 1) := by decide +kernel
theorem dX6_count_1 : decode cX6_count 1 = .ok (.tableswitch 108 0 6 #[43, 54, 65, 73, 81, 89, 97], 43) := by decide +kernel
theorem dX6_count_44 : decode cX6_count 44 = .ok (.aload_n 0, 1) := by decide +kernel
theorem dX6_count_45 : decode cX6_count 45 = .ok (.getfield 12, 3) := by decide +kernel
theorem dX6_count_48 : decode cX6_count 48 = .ok (.getfield 43, 3) := by decide +kernel
theorem dX6_count_51 : decode cX6_count 51 = .ok (.invokevirtual 47, 3) := by decide +kernel
theorem dX6_count_54 : decode cX6_count 54 = .ok (.ireturn, 1) := by decide +kernel
theorem dX6_count_55 : decode cX6_count 55 = .ok (.aload_n 0, 1) := by decide +kernel
theorem dX6_count_56 : decode cX6_count 56 = .ok (.getfield 12, 3) := by decide +kernel
theorem dX6_count_59 : decode cX6_count 59 = .ok (.getfield 67, 3) := by decide +kernel
theorem dX6_count_62 : decode cX6_count 62 = .ok (.invokevirtual 47, 3) := by decide +kernel
theorem dX6_count_65 : decode cX6_count 65 = .ok (.ireturn, 1) := by decide +kernel
theorem dX6_count_66 : decode cX6_count 66 = .ok (.aload_n 0, 1) := by decide +kernel
theorem dX6_count_67 : decode cX6_count 67 = .ok (.getfield 12, 3) := by decide +kernel
theorem dX6_count_70 : decode cX6_count 70 = .ok (.invokevirtual 114, 3) := by decide +kernel
theorem dX6_count_73 : decode cX6_count 73 = .ok (.ireturn, 1) := by decide +kernel
theorem dX6_count_74 : decode cX6_count 74 = .ok (.aload_n 0, 1) := by decide +kernel
theorem dX6_count_75 : decode cX6_count 75 = .ok (.getfield 12, 3) := by decide +kernel
theorem dX6_count_78 : decode cX6_count 78 = .ok (.invokevirtual 117, 3) := by decide +kernel
theorem dX6_count_81 : decode cX6_count 81 = .ok (.ireturn, 1) := by decide +kernel
theorem dX6_count_82 : decode cX6_count 82 = .ok (.aload_n 0, 1) := by decide +kernel
theorem dX6_count_83 : decode cX6_count 83 = .ok (.getfield 12, 3) := by decide +kernel
theorem dX6_count_86 : decode cX6_count 86 = .ok (.invokevirtual 120, 3) := by decide +kernel
theorem dX6_count_89 : decode cX6_count 89 = .ok (.ireturn, 1) := by decide +kernel
theorem dX6_count_90 : decode cX6_count 90 = .ok (.aload_n 0, 1) := by decide +kernel
theorem dX6_count_91 : decode cX6_count 91 = .ok (.getfield 28, 3) := by decide +kernel
theorem dX6_count_94 : decode cX6_count 94 = .ok (.getfield 123, 3) := by decide +kernel
theorem dX6_count_97 : decode cX6_count 97 = .ok (.ireturn, 1) := by decide +kernel
theorem dX6_count_98 : decode cX6_count 98 = .ok (.aload_n 0, 1) := by decide +kernel
theorem dX6_count_99 : decode cX6_count 99 = .ok (.getfield 35, 3) := by decide +kernel
theorem dX6_count_102 : decode cX6_count 102 = .ok (.getfield 125, 3) := by decide +kernel
theorem dX6_count_105 : decode cX6_count 105 = .ok (.invokevirtual 47, 3) := by decide +kernel
theorem dX6_count_108 : decode cX6_count 108 = .ok (.ireturn, 1) := by decide +kernel
theorem dX6_count_109 : decode cX6_count 109 = .ok (.iconst (-1), 1) := by decide +kernel
theorem dX6_count_110 : decode cX6_count 110 = .ok (.ireturn, 1) := by decide +kernel
theorem dX6_inTheEnd_0 : decode cX6_inTheEnd 0 = .ok (.iload_n 1, 1) := by decide +kernel
theorem dX6_inTheEnd_1 : decode cX6_inTheEnd 1 = .ok (.ifCond .lt 12, 3) := by decide +kernel
theorem dX6_inTheEnd_4 : decode cX6_inTheEnd 4 = .ok (.iload_n 1, 1) := by decide +kernel
theorem dX6_inTheEnd_5 : decode cX6_inTheEnd 5 = .ok (.iconst 1, 1) := by decide +kernel
theorem dX6_inTheEnd_6 : decode cX6_inTheEnd 6 = .ok (.if_icmp .gt 7, 3) := by decide +kernel
theorem dX6_inTheEnd_9 : decode cX6_inTheEnd 9 = .ok (.iload_n 2, 1) := by decide +kernel
theorem dX6_inTheEnd_10 : decode cX6_inTheEnd 10 = .ok (.ifCond .ge 5, 3) := by decide +kernel
theorem dX6_inTheEnd_13 : decode cX6_inTheEnd 13 = .ok (.iconst (-1), 1) := by decide +kernel
theorem dX6_inTheEnd_14 : decode cX6_inTheEnd 14 = .ok (.ireturn, 1) := by decide +kernel
theorem dX6_inTheEnd_15 : decode cX6_inTheEnd 15 = .ok (.aload_n 0, 1) := by decide +kernel
theorem dX6_inTheEnd_16 : decode cX6_inTheEnd 16 = .ok (.getfield 16, 3) := by decide +kernel
theorem dX6_inTheEnd_19 : decode cX6_inTheEnd 19 = .ok (.aload_n 0, 1) := by decide +kernel
theorem dX6_inTheEnd_20 : decode cX6_inTheEnd 20 = .ok (.getfield 12, 3) := by decide +kernel
theorem dX6_inTheEnd_23 : decode cX6_inTheEnd 23 = .ok (.iload_n 1, 1) := by decide +kernel
theorem dX6_inTheEnd_24 : decode cX6_inTheEnd 24 = .ok (.iconst 1, 1) := by decide +kernel
theorem dX6_inTheEnd_25 : decode cX6_inTheEnd 25 = .ok (.if_icmp .ne 7, 3) := by decide +kernel
theorem dX6_inTheEnd_28 : decode cX6_inTheEnd 28 = .ok (.iconst 1, 1) := by decide +kernel
theorem dX6_inTheEnd_29 : decode cX6_inTheEnd 29 = .ok (.goto 4, 3) := by decide +kernel
theorem dX6_inTheEnd_32 : decode cX6_inTheEnd 32 = .ok (.iconst 0, 1) := by decide +kernel
theorem dX6_inTheEnd_33 : decode cX6_inTheEnd 33 = .ok (.invokevirtual 128, 3) := by decide +kernel
theorem dX6_inTheEnd_36 : decode cX6_inTheEnd 36 = .ok (.iload_n 2, 1) := by decide +kernel
theorem dX6_inTheEnd_37 : decode cX6_inTheEnd 37 = .ok (.aload_n 0, 1) := by decide +kernel
theorem dX6_inTheEnd_38 : decode cX6_inTheEnd 38 = .ok (.getfield 16, 3) := by decide +kernel
theorem dX6_inTheEnd_41 : decode cX6_inTheEnd 41 = .ok (.getfield 67, 3) := by decide +kernel
theorem dX6_inTheEnd_44 : decode cX6_inTheEnd 44 = .ok (.invokevirtual 47, 3) := by decide +kernel
theorem dX6_inTheEnd_47 : decode cX6_inTheEnd 47 = .ok (.if_icmp .ge 17, 3) := by decide +kernel
theorem dX6_inTheEnd_50 : decode cX6_inTheEnd 50 = .ok (.aload_n 0, 1) := by decide +kernel
theorem dX6_inTheEnd_51 : decode cX6_inTheEnd 51 = .ok (.getfield 16, 3) := by decide +kernel
theorem dX6_inTheEnd_54 : decode cX6_inTheEnd 54 = .ok (.getfield 67, 3) := by decide +kernel
theorem dX6_inTheEnd_57 : decode cX6_inTheEnd 57 = .ok (.iload_n 2, 1) := by decide +kernel
theorem dX6_inTheEnd_58 : decode cX6_inTheEnd 58 = .ok (.invokevirtual 79, 3) := by decide +kernel
theorem dX6_inTheEnd_61 : decode cX6_inTheEnd 61 = .ok (.goto 5, 3) := by decide +kernel
theorem dX6_inTheEnd_64 : decode cX6_inTheEnd 64 = .ok (.bipush (-4), 2) := by decide +kernel
theorem dX6_inTheEnd_66 : decode cX6_inTheEnd 66 = .ok (.ireturn, 1) := by decide +kernel
theorem dX6_both_0 : decode cX6_both 0 = .ok (.iload_n 1, 1) := by decide +kernel
theorem dX6_both_1 : decode cX6_both 1 = .ok (.ifCond .lt 8, 3) := by decide +kernel
theorem dX6_both_4 : decode cX6_both 4 = .ok (.iload_n 1, 1) := by decide +kernel
theorem dX6_both_5 : decode cX6_both 5 = .ok (.iconst 3, 1) := by decide +kernel
theorem dX6_both_6 : decode cX6_both 6 = .ok (.if_icmp .le 5, 3) := by decide +kernel
theorem dX6_both_9 : decode cX6_both 9 = .ok (.iconst (-1), 1) := by decide +kernel
theorem dX6_both_10 : decode cX6_both 10 = .ok (.ireturn, 1) := by decide +kernel
theorem dX6_both_11 : decode cX6_both 11 = .ok (.aload_n 0, 1) := by decide +kernel
theorem dX6_both_12 : decode cX6_both 12 = .ok (.getfield 19, 3) := by decide +kernel
theorem dX6_both_15 : decode cX6_both 15 = .ok (.aload_n 0, 1) := by decide +kernel
theorem dX6_both_16 : decode cX6_both 16 = .ok (.getfield 12, 3) := by decide +kernel
theorem dX6_both_19 : decode cX6_both 19 = .ok (.iconst 0, 1) := by decide +kernel
theorem dX6_both_20 : decode cX6_both 20 = .ok (.invokevirtual 128, 3) := by decide +kernel
theorem dX6_both_23 : decode cX6_both 23 = .ok (.aload_n 0, 1) := by decide +kernel
theorem dX6_both_24 : decode cX6_both 24 = .ok (.getfield 22, 3) := by decide +kernel
theorem dX6_both_27 : decode cX6_both 27 = .ok (.aload_n 0, 1) := by decide +kernel
theorem dX6_both_28 : decode cX6_both 28 = .ok (.getfield 12, 3) := by decide +kernel
theorem dX6_both_31 : decode cX6_both 31 = .ok (.iconst 1, 1) := by decide +kernel
theorem dX6_both_32 : decode cX6_both 32 = .ok (.invokevirtual 128, 3) := by decide +kernel
theorem dX6_both_35 : decode cX6_both 35 = .ok (.iload_n 1, 1) := by decide +kernel
theorem dX6_both_36 : decode cX6_both 36 = .ok (.tableswitch 76 0 2 #[28, 39, 50], 28) := by decide +kernel
theorem dX6_both_64 : decode cX6_both 64 = .ok (.aload_n 0, 1) := by decide +kernel
theorem dX6_both_65 : decode cX6_both 65 = .ok (.getfield 19, 3) := by decide +kernel
theorem dX6_both_68 : decode cX6_both 68 = .ok (.getfield 67, 3) := by decide +kernel
theorem dX6_both_71 : decode cX6_both 71 = .ok (.invokevirtual 47, 3) := by decide +kernel
theorem dX6_both_74 : decode cX6_both 74 = .ok (.ireturn, 1) := by decide +kernel
theorem dX6_both_75 : decode cX6_both 75 = .ok (.aload_n 0, 1) := by decide +kernel
theorem dX6_both_76 : decode cX6_both 76 = .ok (.getfield 22, 3) := by decide +kernel
theorem dX6_both_79 : decode cX6_both 79 = .ok (.getfield 67, 3) := by decide +kernel
theorem dX6_both_82 : decode cX6_both 82 = .ok (.invokevirtual 47, 3) := by decide +kernel
theorem dX6_both_85 : decode cX6_both 85 = .ok (.ireturn, 1) := by decide +kernel
theorem dX6_both_86 : decode cX6_both 86 = .ok (.aload_n 0, 1) := by decide +kernel
theorem dX6_both_87 : decode cX6_both 87 = .ok (.getfield 19, 3) := by decide +kernel
theorem dX6_both_90 : decode cX6_both 90 = .ok (.getfield 67, 3) := by decide +kernel
theorem dX6_both_93 : decode cX6_both 93 = .ok (.aload_n 0, 1) := by decide +kernel
theorem dX6_both_94 : decode cX6_both 94 = .ok (.getfield 22, 3) := by decide +kernel
theorem dX6_both_97 : decode cX6_both 97 = .ok (.getfield 67, 3) := by decide +kernel
theorem dX6_both_100 : decode cX6_both 100 = .ok (.invokevirtual 100, 3) := by decide +kernel
theorem dX6_both_103 : decode cX6_both 103 = .ok (.ifCond .eq 7, 3) := by decide +kernel
theorem dX6_both_106 : decode cX6_both 106 = .ok (.iconst 1, 1) := by decide +kernel
theorem dX6_both_107 : decode cX6_both 107 = .ok (.goto 4, 3) := by decide +kernel
theorem dX6_both_110 : decode cX6_both 110 = .ok (.iconst 0, 1) := by decide +kernel
theorem dX6_both_111 : decode cX6_both 111 = .ok (.ireturn, 1) := by decide +kernel
theorem dX6_both_112 : decode cX6_both 112 = .ok (.aload_n 0, 1) := by decide +kernel
theorem dX6_both_113 : decode cX6_both 113 = .ok (.getfield 19, 3) := by decide +kernel
theorem dX6_both_116 : decode cX6_both 116 = .ok (.invokevirtual 132, 3) := by decide +kernel
theorem dX6_both_119 : decode cX6_both 119 = .ok (.ifCond .eq 17, 3) := by decide +kernel
theorem dX6_both_122 : decode cX6_both 122 = .ok (.aload_n 0, 1) := by decide +kernel
theorem dX6_both_123 : decode cX6_both 123 = .ok (.getfield 22, 3) := by decide +kernel
theorem dX6_both_126 : decode cX6_both 126 = .ok (.invokevirtual 132, 3) := by decide +kernel
theorem dX6_both_129 : decode cX6_both 129 = .ok (.ifCond .eq 7, 3) := by decide +kernel
theorem dX6_both_132 : decode cX6_both 132 = .ok (.iconst 1, 1) := by decide +kernel
theorem dX6_both_133 : decode cX6_both 133 = .ok (.goto 4, 3) := by decide +kernel
theorem dX6_both_136 : decode cX6_both 136 = .ok (.iconst 0, 1) := by decide +kernel
theorem dX6_both_137 : decode cX6_both 137 = .ok (.ireturn, 1) := by decide +kernel
theorem dX6_wouldSend_0 : decode cX6_wouldSend 0 = .ok (.iload_n 1, 1) := by decide +kernel
theorem dX6_wouldSend_1 : decode cX6_wouldSend 1 = .ok (.invokestatic 63, 3) := by decide +kernel
theorem dX6_wouldSend_4 : decode cX6_wouldSend 4 = .ok (.ifCond .ne 12, 3) := by decide +kernel
theorem dX6_wouldSend_7 : decode cX6_wouldSend 7 = .ok (.iload_n 2, 1) := by decide +kernel
theorem dX6_wouldSend_8 : decode cX6_wouldSend 8 = .ok (.ifCond .lt 8, 3) := by decide +kernel
theorem dX6_wouldSend_11 : decode cX6_wouldSend 11 = .ok (.iload_n 2, 1) := by decide +kernel
theorem dX6_wouldSend_12 : decode cX6_wouldSend 12 = .ok (.iconst 1, 1) := by decide +kernel
theorem dX6_wouldSend_13 : decode cX6_wouldSend 13 = .ok (.if_icmp .le 5, 3) := by decide +kernel
theorem dX6_wouldSend_16 : decode cX6_wouldSend 16 = .ok (.iconst (-1), 1) := by decide +kernel
theorem dX6_wouldSend_17 : decode cX6_wouldSend 17 = .ok (.ireturn, 1) := by decide +kernel
theorem dX6_wouldSend_18 : decode cX6_wouldSend 18 = .ok (.aload_n 0, 1) := by decide +kernel
theorem dX6_wouldSend_19 : decode cX6_wouldSend 19 = .ok (.getfield 12, 3) := by decide +kernel
theorem dX6_wouldSend_22 : decode cX6_wouldSend 22 = .ok (.iload_n 1, 1) := by decide +kernel
theorem dX6_wouldSend_23 : decode cX6_wouldSend 23 = .ok (.invokevirtual 70, 3) := by decide +kernel
theorem dX6_wouldSend_26 : decode cX6_wouldSend 26 = .ok (.astore_n 3, 1) := by decide +kernel
theorem dX6_wouldSend_27 : decode cX6_wouldSend 27 = .ok (.aload_n 3, 1) := by decide +kernel
theorem dX6_wouldSend_28 : decode cX6_wouldSend 28 = .ok (.invokevirtual 136, 3) := by decide +kernel
theorem dX6_wouldSend_31 : decode cX6_wouldSend 31 = .ok (.ifCond .ne 6, 3) := by decide +kernel
theorem dX6_wouldSend_34 : decode cX6_wouldSend 34 = .ok (.bipush (-2), 2) := by decide +kernel
theorem dX6_wouldSend_36 : decode cX6_wouldSend 36 = .ok (.ireturn, 1) := by decide +kernel
theorem dX6_wouldSend_37 : decode cX6_wouldSend 37 = .ok (.aload_n 3, 1) := by decide +kernel
theorem dX6_wouldSend_38 : decode cX6_wouldSend 38 = .ok (.aload_n 0, 1) := by decide +kernel
theorem dX6_wouldSend_39 : decode cX6_wouldSend 39 = .ok (.getfield 12, 3) := by decide +kernel
theorem dX6_wouldSend_42 : decode cX6_wouldSend 42 = .ok (.getfield 43, 3) := by decide +kernel
theorem dX6_wouldSend_45 : decode cX6_wouldSend 45 = .ok (.invokevirtual 139, 3) := by decide +kernel
theorem dX6_wouldSend_48 : decode cX6_wouldSend 48 = .ok (.iload_n 2, 1) := by decide +kernel
theorem dX6_wouldSend_49 : decode cX6_wouldSend 49 = .ok (.invokestatic 143, 3) := by decide +kernel
theorem dX6_wouldSend_52 : decode cX6_wouldSend 52 = .ok (.ireturn, 1) := by decide +kernel
theorem dX6_undo_0 : decode cX6_undo 0 = .ok (.aload_n 0, 1) := by decide +kernel
theorem dX6_undo_1 : decode cX6_undo 1 = .ok (.getfield 28, 3) := by decide +kernel
theorem dX6_undo_4 : decode cX6_undo 4 = .ok (.getfield 123, 3) := by decide +kernel
theorem dX6_undo_7 : decode cX6_undo 7 = .ok (.ifCond .ne 6, 3) := by decide +kernel
theorem dX6_undo_10 : decode cX6_undo 10 = .ok (.bipush (-2), 2) := by decide +kernel
theorem dX6_undo_12 : decode cX6_undo 12 = .ok (.ireturn, 1) := by decide +kernel
theorem dX6_undo_13 : decode cX6_undo 13 = .ok (.aload_n 0, 1) := by decide +kernel
theorem dX6_undo_14 : decode cX6_undo 14 = .ok (.getfield 28, 3) := by decide +kernel
theorem dX6_undo_17 : decode cX6_undo 17 = .ok (.aload_n 0, 1) := by decide +kernel
theorem dX6_undo_18 : decode cX6_undo 18 = .ok (.getfield 12, 3) := by decide +kernel
theorem dX6_undo_21 : decode cX6_undo 21 = .ok (.invokevirtual 149, 3) := by decide +kernel
theorem dX6_undo_24 : decode cX6_undo 24 = .ok (.aload_n 0, 1) := by decide +kernel
theorem dX6_undo_25 : decode cX6_undo 25 = .ok (.getfield 28, 3) := by decide +kernel
theorem dX6_undo_28 : decode cX6_undo 28 = .ok (.getfield 123, 3) := by decide +kernel
theorem dX6_undo_31 : decode cX6_undo 31 = .ok (.ireturn, 1) := by decide +kernel
theorem dX6_type_0 : decode cX6_type 0 = .ok (.iload_n 1, 1) := by decide +kernel
theorem dX6_type_1 : decode cX6_type 1 = .ok (.bipush 32, 2) := by decide +kernel
theorem dX6_type_3 : decode cX6_type 3 = .ok (.if_icmp .lt 9, 3) := by decide +kernel
theorem dX6_type_6 : decode cX6_type 6 = .ok (.iload_n 1, 1) := by decide +kernel
theorem dX6_type_7 : decode cX6_type 7 = .ok (.bipush 126, 2) := by decide +kernel
theorem dX6_type_9 : decode cX6_type 9 = .ok (.if_icmp .le 5, 3) := by decide +kernel
theorem dX6_type_12 : decode cX6_type 12 = .ok (.iconst (-1), 1) := by decide +kernel
theorem dX6_type_13 : decode cX6_type 13 = .ok (.ireturn, 1) := by decide +kernel
theorem dX6_type_14 : decode cX6_type 14 = .ok (.aload_n 0, 1) := by decide +kernel
theorem dX6_type_15 : decode cX6_type 15 = .ok (.getfield 35, 3) := by decide +kernel
theorem dX6_type_18 : decode cX6_type 18 = .ok (.getfield 125, 3) := by decide +kernel
theorem dX6_type_21 : decode cX6_type 21 = .ok (.invokevirtual 47, 3) := by decide +kernel
theorem dX6_type_24 : decode cX6_type 24 = .ok (.bipush 60, 2) := by decide +kernel
theorem dX6_type_26 : decode cX6_type 26 = .ok (.if_icmp .lt 6, 3) := by decide +kernel
theorem dX6_type_29 : decode cX6_type 29 = .ok (.bipush (-3), 2) := by decide +kernel
theorem dX6_type_31 : decode cX6_type 31 = .ok (.ireturn, 1) := by decide +kernel
theorem dX6_type_32 : decode cX6_type 32 = .ok (.aload_n 0, 1) := by decide +kernel
theorem dX6_type_33 : decode cX6_type 33 = .ok (.getfield 35, 3) := by decide +kernel
theorem dX6_type_36 : decode cX6_type 36 = .ok (.getfield 125, 3) := by decide +kernel
theorem dX6_type_39 : decode cX6_type 39 = .ok (.iload_n 1, 1) := by decide +kernel
theorem dX6_type_40 : decode cX6_type 40 = .ok (.invokevirtual 152, 3) := by decide +kernel
theorem dX6_type_43 : decode cX6_type 43 = .ok (.aload_n 0, 1) := by decide +kernel
theorem dX6_type_44 : decode cX6_type 44 = .ok (.getfield 35, 3) := by decide +kernel
theorem dX6_type_47 : decode cX6_type 47 = .ok (.getfield 125, 3) := by decide +kernel
theorem dX6_type_50 : decode cX6_type 50 = .ok (.invokevirtual 47, 3) := by decide +kernel
theorem dX6_type_53 : decode cX6_type 53 = .ok (.ireturn, 1) := by decide +kernel
theorem dX6_clearText_0 : decode cX6_clearText 0 = .ok (.aload_n 0, 1) := by decide +kernel
theorem dX6_clearText_1 : decode cX6_clearText 1 = .ok (.getfield 35, 3) := by decide +kernel
theorem dX6_clearText_4 : decode cX6_clearText 4 = .ok (.getfield 125, 3) := by decide +kernel
theorem dX6_clearText_7 : decode cX6_clearText 7 = .ok (.invokevirtual 47, 3) := by decide +kernel
theorem dX6_clearText_10 : decode cX6_clearText 10 = .ok (.istore_n 1, 1) := by decide +kernel
theorem dX6_clearText_11 : decode cX6_clearText 11 = .ok (.aload_n 0, 1) := by decide +kernel
theorem dX6_clearText_12 : decode cX6_clearText 12 = .ok (.getfield 35, 3) := by decide +kernel
theorem dX6_clearText_15 : decode cX6_clearText 15 = .ok (.getfield 125, 3) := by decide +kernel
theorem dX6_clearText_18 : decode cX6_clearText 18 = .ok (.invokevirtual 156, 3) := by decide +kernel
theorem dX6_clearText_21 : decode cX6_clearText 21 = .ok (.iload_n 1, 1) := by decide +kernel
theorem dX6_clearText_22 : decode cX6_clearText 22 = .ok (.ireturn, 1) := by decide +kernel
theorem dX6_fault_0 : decode cX6_fault 0 = .ok (.iload_n 1, 1) := by decide +kernel
theorem dX6_fault_1 : decode cX6_fault 1 = .ok (.ifCond .lt 8, 3) := by decide +kernel
theorem dX6_fault_4 : decode cX6_fault 4 = .ok (.iload_n 1, 1) := by decide +kernel
theorem dX6_fault_5 : decode cX6_fault 5 = .ok (.iconst 2, 1) := by decide +kernel
theorem dX6_fault_6 : decode cX6_fault 6 = .ok (.if_icmp .le 5, 3) := by decide +kernel
theorem dX6_fault_9 : decode cX6_fault 9 = .ok (.iconst (-1), 1) := by decide +kernel
theorem dX6_fault_10 : decode cX6_fault 10 = .ok (.ireturn, 1) := by decide +kernel
theorem dX6_fault_11 : decode cX6_fault 11 = .ok (.aload_n 0, 1) := by decide +kernel
theorem dX6_fault_12 : decode cX6_fault 12 = .ok (.getfield 16, 3) := by decide +kernel
theorem dX6_fault_15 : decode cX6_fault 15 = .ok (.aload_n 0, 1) := by decide +kernel
theorem dX6_fault_16 : decode cX6_fault 16 = .ok (.getfield 12, 3) := by decide +kernel
theorem dX6_fault_19 : decode cX6_fault 19 = .ok (.invokevirtual 159, 3) := by decide +kernel
theorem dX6_fault_22 : decode cX6_fault 22 = .ok (.aload_n 0, 1) := by decide +kernel
theorem dX6_fault_23 : decode cX6_fault 23 = .ok (.getfield 35, 3) := by decide +kernel
theorem dX6_fault_26 : decode cX6_fault 26 = .ok (.aload_n 0, 1) := by decide +kernel
theorem dX6_fault_27 : decode cX6_fault 27 = .ok (.getfield 16, 3) := by decide +kernel
theorem dX6_fault_30 : decode cX6_fault 30 = .ok (.invokevirtual 162, 3) := by decide +kernel
theorem dX6_fault_33 : decode cX6_fault 33 = .ok (.aload_n 0, 1) := by decide +kernel
theorem dX6_fault_34 : decode cX6_fault 34 = .ok (.getfield 35, 3) := by decide +kernel
theorem dX6_fault_37 : decode cX6_fault 37 = .ok (.getfield 165, 3) := by decide +kernel
theorem dX6_fault_40 : decode cX6_fault 40 = .ok (.ifCond .eq 19, 3) := by decide +kernel
theorem dX6_fault_43 : decode cX6_fault 43 = .ok (.iload_n 1, 1) := by decide +kernel
theorem dX6_fault_44 : decode cX6_fault 44 = .ok (.iconst 2, 1) := by decide +kernel
theorem dX6_fault_45 : decode cX6_fault 45 = .ok (.if_icmp .ne 17, 3) := by decide +kernel
theorem dX6_fault_48 : decode cX6_fault 48 = .ok (.aload_n 0, 1) := by decide +kernel
theorem dX6_fault_49 : decode cX6_fault 49 = .ok (.getfield 35, 3) := by decide +kernel
theorem dX6_fault_52 : decode cX6_fault 52 = .ok (.getfield 165, 3) := by decide +kernel
theorem dX6_fault_55 : decode cX6_fault 55 = .ok (.iconst 1, 1) := by decide +kernel
theorem dX6_fault_56 : decode cX6_fault 56 = .ok (.if_icmp .ne 6, 3) := by decide +kernel
theorem dX6_fault_59 : decode cX6_fault 59 = .ok (.bipush (-4), 2) := by decide +kernel
theorem dX6_fault_61 : decode cX6_fault 61 = .ok (.ireturn, 1) := by decide +kernel
theorem dX6_fault_62 : decode cX6_fault 62 = .ok (.iload_n 1, 1) := by decide +kernel
theorem dX6_fault_63 : decode cX6_fault 63 = .ok (.ifCond .ne 11, 3) := by decide +kernel
theorem dX6_fault_66 : decode cX6_fault 66 = .ok (.aload_n 0, 1) := by decide +kernel
theorem dX6_fault_67 : decode cX6_fault 67 = .ok (.getfield 35, 3) := by decide +kernel
theorem dX6_fault_70 : decode cX6_fault 70 = .ok (.getfield 168, 3) := by decide +kernel
theorem dX6_fault_73 : decode cX6_fault 73 = .ok (.ireturn, 1) := by decide +kernel
theorem dX6_fault_74 : decode cX6_fault 74 = .ok (.iload_n 1, 1) := by decide +kernel
theorem dX6_fault_75 : decode cX6_fault 75 = .ok (.iconst 1, 1) := by decide +kernel
theorem dX6_fault_76 : decode cX6_fault 76 = .ok (.if_icmp .ne 13, 3) := by decide +kernel
theorem dX6_fault_79 : decode cX6_fault 79 = .ok (.aload_n 0, 1) := by decide +kernel
theorem dX6_fault_80 : decode cX6_fault 80 = .ok (.getfield 35, 3) := by decide +kernel
theorem dX6_fault_83 : decode cX6_fault 83 = .ok (.getfield 165, 3) := by decide +kernel
theorem dX6_fault_86 : decode cX6_fault 86 = .ok (.goto 10, 3) := by decide +kernel
theorem dX6_fault_89 : decode cX6_fault 89 = .ok (.aload_n 0, 1) := by decide +kernel
theorem dX6_fault_90 : decode cX6_fault 90 = .ok (.getfield 35, 3) := by decide +kernel
theorem dX6_fault_93 : decode cX6_fault 93 = .ok (.getfield 171, 3) := by decide +kernel
theorem dX6_fault_96 : decode cX6_fault 96 = .ok (.ireturn, 1) := by decide +kernel
theorem dX6_play_0 : decode cX6_play 0 = .ok (.aload_n 0, 1) := by decide +kernel
theorem dX6_play_1 : decode cX6_play 1 = .ok (.getfield 16, 3) := by decide +kernel
theorem dX6_play_4 : decode cX6_play 4 = .ok (.aload_n 0, 1) := by decide +kernel
theorem dX6_play_5 : decode cX6_play 5 = .ok (.getfield 12, 3) := by decide +kernel
theorem dX6_play_8 : decode cX6_play 8 = .ok (.invokevirtual 159, 3) := by decide +kernel
theorem dX6_play_11 : decode cX6_play 11 = .ok (.aload_n 0, 1) := by decide +kernel
theorem dX6_play_12 : decode cX6_play 12 = .ok (.getfield 35, 3) := by decide +kernel
theorem dX6_play_15 : decode cX6_play 15 = .ok (.aload_n 0, 1) := by decide +kernel
theorem dX6_play_16 : decode cX6_play 16 = .ok (.getfield 16, 3) := by decide +kernel
theorem dX6_play_19 : decode cX6_play 19 = .ok (.invokevirtual 162, 3) := by decide +kernel
theorem dX6_play_22 : decode cX6_play 22 = .ok (.aload_n 0, 1) := by decide +kernel
theorem dX6_play_23 : decode cX6_play 23 = .ok (.getfield 35, 3) := by decide +kernel
theorem dX6_play_26 : decode cX6_play 26 = .ok (.getfield 165, 3) := by decide +kernel
theorem dX6_play_29 : decode cX6_play 29 = .ok (.ifCond .eq 6, 3) := by decide +kernel
theorem dX6_play_32 : decode cX6_play 32 = .ok (.bipush (-2), 2) := by decide +kernel
theorem dX6_play_34 : decode cX6_play 34 = .ok (.ireturn, 1) := by decide +kernel
theorem dX6_play_35 : decode cX6_play 35 = .ok (.aload_n 0, 1) := by decide +kernel
theorem dX6_play_36 : decode cX6_play 36 = .ok (.getfield 28, 3) := by decide +kernel
theorem dX6_play_39 : decode cX6_play 39 = .ok (.aload_n 0, 1) := by decide +kernel
theorem dX6_play_40 : decode cX6_play 40 = .ok (.getfield 12, 3) := by decide +kernel
theorem dX6_play_43 : decode cX6_play 43 = .ok (.invokevirtual 53, 3) := by decide +kernel
theorem dX6_play_46 : decode cX6_play 46 = .ok (.aload_n 0, 1) := by decide +kernel
theorem dX6_play_47 : decode cX6_play 47 = .ok (.getfield 28, 3) := by decide +kernel
theorem dX6_play_50 : decode cX6_play 50 = .ok (.invokevirtual 57, 3) := by decide +kernel
theorem dX6_play_53 : decode cX6_play 53 = .ok (.aload_n 0, 1) := by decide +kernel
theorem dX6_play_54 : decode cX6_play 54 = .ok (.getfield 12, 3) := by decide +kernel
theorem dX6_play_57 : decode cX6_play 57 = .ok (.aload_n 0, 1) := by decide +kernel
theorem dX6_play_58 : decode cX6_play 58 = .ok (.getfield 16, 3) := by decide +kernel
theorem dX6_play_61 : decode cX6_play 61 = .ok (.invokevirtual 159, 3) := by decide +kernel
theorem dX6_play_64 : decode cX6_play 64 = .ok (.aload_n 0, 1) := by decide +kernel
theorem dX6_play_65 : decode cX6_play 65 = .ok (.getfield 35, 3) := by decide +kernel
theorem dX6_play_68 : decode cX6_play 68 = .ok (.getfield 174, 3) := by decide +kernel
theorem dX6_play_71 : decode cX6_play 71 = .ok (.ireturn, 1) := by decide +kernel
theorem dX6_recorded_0 : decode cX6_recorded 0 = .ok (.aload_n 0, 1) := by decide +kernel
theorem dX6_recorded_1 : decode cX6_recorded 1 = .ok (.getfield 28, 3) := by decide +kernel
theorem dX6_recorded_4 : decode cX6_recorded 4 = .ok (.aload_n 0, 1) := by decide +kernel
theorem dX6_recorded_5 : decode cX6_recorded 5 = .ok (.getfield 12, 3) := by decide +kernel
theorem dX6_recorded_8 : decode cX6_recorded 8 = .ok (.invokevirtual 53, 3) := by decide +kernel
theorem dX6_recorded_11 : decode cX6_recorded 11 = .ok (.aload_n 0, 1) := by decide +kernel
theorem dX6_recorded_12 : decode cX6_recorded 12 = .ok (.getfield 12, 3) := by decide +kernel
theorem dX6_recorded_15 : decode cX6_recorded 15 = .ok (.iload_n 1, 1) := by decide +kernel
theorem dX6_recorded_16 : decode cX6_recorded 16 = .ok (.iload_n 2, 1) := by decide +kernel
theorem dX6_recorded_17 : decode cX6_recorded 17 = .ok (.iload_n 3, 1) := by decide +kernel
theorem dX6_recorded_18 : decode cX6_recorded 18 = .ok (.iload 4, 2) := by decide +kernel
theorem dX6_recorded_20 : decode cX6_recorded 20 = .ok (.invokevirtual 177, 3) := by decide +kernel
theorem dX6_recorded_23 : decode cX6_recorded 23 = .ok (.istore 5, 2) := by decide +kernel
theorem dX6_recorded_25 : decode cX6_recorded 25 = .ok (.iload 5, 2) := by decide +kernel
theorem dX6_recorded_27 : decode cX6_recorded 27 = .ok (.ifCond .lt 10, 3) := by decide +kernel
theorem dX6_recorded_30 : decode cX6_recorded 30 = .ok (.aload_n 0, 1) := by decide +kernel
theorem dX6_recorded_31 : decode cX6_recorded 31 = .ok (.getfield 28, 3) := by decide +kernel
theorem dX6_recorded_34 : decode cX6_recorded 34 = .ok (.invokevirtual 57, 3) := by decide +kernel
theorem dX6_recorded_37 : decode cX6_recorded 37 = .ok (.iload 5, 2) := by decide +kernel
theorem dX6_recorded_39 : decode cX6_recorded 39 = .ok (.ireturn, 1) := by decide +kernel
theorem dX6_isNoEditor_0 : decode cX6_isNoEditor 0 = .ok (.iload_n 0, 1) := by decide +kernel
theorem dX6_isNoEditor_1 : decode cX6_isNoEditor 1 = .ok (.ifCond .lt 8, 3) := by decide +kernel
theorem dX6_isNoEditor_4 : decode cX6_isNoEditor 4 = .ok (.iload_n 0, 1) := by decide +kernel
theorem dX6_isNoEditor_5 : decode cX6_isNoEditor 5 = .ok (.iconst 3, 1) := by decide +kernel
theorem dX6_isNoEditor_6 : decode cX6_isNoEditor 6 = .ok (.if_icmp .lt 7, 3) := by decide +kernel
theorem dX6_isNoEditor_9 : decode cX6_isNoEditor 9 = .ok (.iconst 1, 1) := by decide +kernel
theorem dX6_isNoEditor_10 : decode cX6_isNoEditor 10 = .ok (.goto 4, 3) := by decide +kernel
theorem dX6_isNoEditor_13 : decode cX6_isNoEditor 13 = .ok (.iconst 0, 1) := by decide +kernel
theorem dX6_isNoEditor_14 : decode cX6_isNoEditor 14 = .ok (.ireturn, 1) := by decide +kernel
theorem dX6_partOf_0 : decode cX6_partOf 0 = .ok (.iload_n 1, 1) := by decide +kernel
theorem dX6_partOf_1 : decode cX6_partOf 1 = .ok (.aload_n 0, 1) := by decide +kernel
theorem dX6_partOf_2 : decode cX6_partOf 2 = .ok (.invokevirtual 47, 3) := by decide +kernel
theorem dX6_partOf_5 : decode cX6_partOf 5 = .ok (.if_icmp .ge 15, 3) := by decide +kernel
theorem dX6_partOf_8 : decode cX6_partOf 8 = .ok (.aload_n 0, 1) := by decide +kernel
theorem dX6_partOf_9 : decode cX6_partOf 9 = .ok (.iload_n 1, 1) := by decide +kernel
theorem dX6_partOf_10 : decode cX6_partOf 10 = .ok (.invokevirtual 79, 3) := by decide +kernel
theorem dX6_partOf_13 : decode cX6_partOf 13 = .ok (.iload_n 2, 1) := by decide +kernel
theorem dX6_partOf_14 : decode cX6_partOf 14 = .ok (.invokestatic 143, 3) := by decide +kernel
theorem dX6_partOf_17 : decode cX6_partOf 17 = .ok (.goto 5, 3) := by decide +kernel
theorem dX6_partOf_20 : decode cX6_partOf 20 = .ok (.bipush (-4), 2) := by decide +kernel
theorem dX6_partOf_22 : decode cX6_partOf 22 = .ok (.ireturn, 1) := by decide +kernel
theorem dJ9_max_7cf53_0 : decode cJ9_max_7cf53 0 = .ok (.iload_n 0, 1) := by decide +kernel
theorem dJ9_max_7cf53_1 : decode cJ9_max_7cf53 1 = .ok (.iload_n 1, 1) := by decide +kernel
theorem dJ9_max_7cf53_2 : decode cJ9_max_7cf53 2 = .ok (.if_icmp .lt 7, 3) := by decide +kernel
theorem dJ9_max_7cf53_5 : decode cJ9_max_7cf53 5 = .ok (.iload_n 0, 1) := by decide +kernel
theorem dJ9_max_7cf53_6 : decode cJ9_max_7cf53 6 = .ok (.goto 4, 3) := by decide +kernel
theorem dJ9_max_7cf53_9 : decode cJ9_max_7cf53 9 = .ok (.iload_n 1, 1) := by decide +kernel
theorem dJ9_max_7cf53_10 : decode cJ9_max_7cf53 10 = .ok (.ireturn, 1) := by decide +kernel
theorem dJ9_min_7cf53_0 : decode cJ9_min_7cf53 0 = .ok (.iload_n 0, 1) := by decide +kernel
theorem dJ9_min_7cf53_1 : decode cJ9_min_7cf53 1 = .ok (.iload_n 1, 1) := by decide +kernel
theorem dJ9_min_7cf53_2 : decode cJ9_min_7cf53 2 = .ok (.if_icmp .gt 7, 3) := by decide +kernel
theorem dJ9_min_7cf53_5 : decode cJ9_min_7cf53 5 = .ok (.iload_n 0, 1) := by decide +kernel
theorem dJ9_min_7cf53_6 : decode cJ9_min_7cf53 6 = .ok (.goto 4, 3) := by decide +kernel
theorem dJ9_min_7cf53_9 : decode cJ9_min_7cf53 9 = .ok (.iload_n 1, 1) := by decide +kernel
theorem dJ9_min_7cf53_10 : decode cJ9_min_7cf53 10 = .ok (.ireturn, 1) := by decide +kernel
end
section
/-! printed by wip/whole/gen.py: what each method does, and that the machine does it -/
def rmX0_of : Room := { frames := 0, cells := 0, slots := 0, locals := 0 }
def f_X0_of  (p1 : Int32) (p2 : Int32) (p3 : Int32) (p4 : Int32) : Int32 := (((p1 ||| (p4 <<< (2 &&& 31))) ||| (p3 <<< (4 &&& 31))) ||| (p2 <<< (9 &&& 31)))
set_option maxHeartbeats 4000000 in
set_option maxRecDepth 100000 in
theorem met_X0_of (l : Launch) (D : va_G) (cI : ClassId)   (p1 : Int32) (p2 : Int32) (p3 : Int32) (p4 : Int32) : ZM l D cI yX0_of cX0_of 4 (some .int) rmX0_of [.int p1, .int p2, .int p3, .int p4] [] (fun _ : Unit => some (.int (f_X0_of p1 p2 p3 p4))) (fun _ : Unit => []) (fun _ : Unit => True) := by
  refine z_body [some (.int p1), some (.int p2), some (.int p3), some (.int p4)] (by decide +kernel) rfl (Nat.le_of_ble_eq_true rfl) rfl ?_
  intro p e s m args below meth c A C hin
  refine z_iload_n C dX0_of_0 rfl ?_
  refine z_iload_n C dX0_of_1 rfl ?_
  refine z_iconst C dX0_of_2 2 (by decide) ?_
  refine z_ishl C dX0_of_3 ?_
  refine z_ior C dX0_of_4 ?_
  refine z_iload_n C dX0_of_5 rfl ?_
  refine z_iconst C dX0_of_6 4 (by decide) ?_
  refine z_ishl C dX0_of_7 ?_
  refine z_ior C dX0_of_8 ?_
  refine z_iload_n C dX0_of_9 rfl ?_
  refine z_bipush C dX0_of_10 9 (by decide) ?_
  refine z_ishl C dX0_of_12 ?_
  refine z_ior C dX0_of_13 ?_
  exact z_iret C rfl () (by rw [f_X0_of]) trivial rfl dX0_of_14
def rmX0_kind : Room := { frames := 0, cells := 0, slots := 0, locals := 0 }
def f_X0_kind  (p1 : Int32) : Int32 := (p1 &&& 3)
set_option maxHeartbeats 4000000 in
set_option maxRecDepth 100000 in
theorem met_X0_kind (l : Launch) (D : va_G) (cI : ClassId)   (p1 : Int32) : ZM l D cI yX0_kind cX0_kind 1 (some .int) rmX0_kind [.int p1] [] (fun _ : Unit => some (.int (f_X0_kind p1))) (fun _ : Unit => []) (fun _ : Unit => True) := by
  refine z_body [some (.int p1)] (by decide +kernel) rfl (Nat.le_of_ble_eq_true rfl) rfl ?_
  intro p e s m args below meth c A C hin
  refine z_iload_n C dX0_kind_0 rfl ?_
  refine z_iconst C dX0_kind_1 3 (by decide) ?_
  refine z_iand C dX0_kind_2 ?_
  exact z_iret C rfl () (by rw [f_X0_kind]) trivial rfl dX0_kind_3
def rmX0_place : Room := { frames := 0, cells := 0, slots := 0, locals := 0 }
def f_X0_place  (p1 : Int32) : Int32 := (p1 >>> (9 &&& 31))
set_option maxHeartbeats 4000000 in
set_option maxRecDepth 100000 in
theorem met_X0_place (l : Launch) (D : va_G) (cI : ClassId)   (p1 : Int32) : ZM l D cI yX0_place cX0_place 1 (some .int) rmX0_place [.int p1] [] (fun _ : Unit => some (.int (f_X0_place p1))) (fun _ : Unit => []) (fun _ : Unit => True) := by
  refine z_body [some (.int p1)] (by decide +kernel) rfl (Nat.le_of_ble_eq_true rfl) rfl ?_
  intro p e s m args below meth c A C hin
  refine z_iload_n C dX0_place_0 rfl ?_
  refine z_bipush C dX0_place_1 9 (by decide) ?_
  refine z_ishr C dX0_place_3 ?_
  exact z_iret C rfl () (by rw [f_X0_place]) trivial rfl dX0_place_4
def rmX0_sign : Room := { frames := 0, cells := 0, slots := 0, locals := 0 }
def f_X0_sign  (p1 : Int32) : Int32 := ((p1 >>> (4 &&& 31)) &&& 31)
set_option maxHeartbeats 4000000 in
set_option maxRecDepth 100000 in
theorem met_X0_sign (l : Launch) (D : va_G) (cI : ClassId)   (p1 : Int32) : ZM l D cI yX0_sign cX0_sign 1 (some .int) rmX0_sign [.int p1] [] (fun _ : Unit => some (.int (f_X0_sign p1))) (fun _ : Unit => []) (fun _ : Unit => True) := by
  refine z_body [some (.int p1)] (by decide +kernel) rfl (Nat.le_of_ble_eq_true rfl) rfl ?_
  intro p e s m args below meth c A C hin
  refine z_iload_n C dX0_sign_0 rfl ?_
  refine z_iconst C dX0_sign_1 4 (by decide) ?_
  refine z_ishr C dX0_sign_2 ?_
  refine z_bipush C dX0_sign_3 31 (by decide) ?_
  refine z_iand C dX0_sign_5 ?_
  exact z_iret C rfl () (by rw [f_X0_sign]) trivial rfl dX0_sign_6
def rmX0_writer : Room := { frames := 0, cells := 0, slots := 0, locals := 0 }
def f_X0_writer  (p1 : Int32) : Int32 := ((p1 &&& 12) >>> (2 &&& 31))
set_option maxHeartbeats 4000000 in
set_option maxRecDepth 100000 in
theorem met_X0_writer (l : Launch) (D : va_G) (cI : ClassId)   (p1 : Int32) : ZM l D cI yX0_writer cX0_writer 1 (some .int) rmX0_writer [.int p1] [] (fun _ : Unit => some (.int (f_X0_writer p1))) (fun _ : Unit => []) (fun _ : Unit => True) := by
  refine z_body [some (.int p1)] (by decide +kernel) rfl (Nat.le_of_ble_eq_true rfl) rfl ?_
  intro p e s m args below meth c A C hin
  refine z_iload_n C dX0_writer_0 rfl ?_
  refine z_bipush C dX0_writer_1 12 (by decide) ?_
  refine z_iand C dX0_writer_3 ?_
  refine z_iconst C dX0_writer_4 2 (by decide) ?_
  refine z_ishr C dX0_writer_5 ?_
  exact z_iret C rfl () (by rw [f_X0_writer]) trivial rfl dX0_writer_6
def rmX0_part : Room := { frames := 1, cells := 0, slots := 0, locals := 20 }
def f_X0_part  (p1 : Int32) (p2 : Int32) : Int32 := (if p2 = 0 then (f_X0_kind p1) else (if p2 = 1 then (if (f_X0_kind p1) = 0 then (-4) else (f_X0_place p1)) else (if p2 = 2 then (if (f_X0_kind p1) = 1 then (f_X0_sign p1) else (-4)) else (f_X0_writer p1))))
set_option maxHeartbeats 4000000 in
set_option maxRecDepth 100000 in
theorem met_X0_part (l : Launch) (D : va_G) (cI : ClassId)   (p1 : Int32) (p2 : Int32) : ZM l D cI yX0_part cX0_part 3 (some .int) rmX0_part [.int p1, .int p2] [] (fun _ : Unit => some (.int (f_X0_part p1 p2))) (fun _ : Unit => []) (fun _ : Unit => True) := by
  refine z_body [some (.int p1), some (.int p2), none] (by decide +kernel) rfl (Nat.le_of_ble_eq_true rfl) rfl ?_
  intro p e s m args below meth c A C hin
  refine z_iload_n C dX0_part_0 rfl ?_
  refine z_callFS C [] [] (met_X0_kind l D cI p1) y_X0_kind mw_20_12 dX0_part_1 rfl n_X0_kind rfl (by decide) ⟨rfl, rfl, Nat.le_of_ble_eq_true rfl, Nat.le_of_ble_eq_true rfl⟩ (Nat.le_of_ble_eq_true rfl) (List.Perm.refl _) ?_
  refine z_istore_n C dX0_part_4 [some (.int p1), some (.int p2), some (.int (f_X0_kind p1))] (by decide) rfl ?_
  refine z_iload_n C dX0_part_5 rfl ?_
  by_cases c1 : p2 = 0
  · refine z_tableAt C dX0_part_6 0 c1 (by decide) (by decide) 26 rfl 32 (by decide) ?_
    refine z_iload_n C dX0_part_32 rfl ?_
    exact z_iret C rfl () (by rw [f_X0_part, if_pos c1]) trivial rfl dX0_part_33
  by_cases c2 : p2 = 1
  · refine z_tableAt C dX0_part_6 1 c2 (by decide) (by decide) 28 rfl 34 (by decide) ?_
    refine z_iload_n C dX0_part_34 rfl ?_
    refine z_if_ne C dX0_part_35 43 (by decide) (fun c3 => ?_) (fun c3 => ?_)
    · refine z_iload_n C dX0_part_43 rfl ?_
      refine z_callFS C [] [] (met_X0_place l D cI p1) y_X0_place mw_20_13 dX0_part_44 rfl n_X0_place rfl (by decide) ⟨rfl, rfl, Nat.le_of_ble_eq_true rfl, Nat.le_of_ble_eq_true rfl⟩ (Nat.le_of_ble_eq_true rfl) (List.Perm.refl _) ?_
      exact z_iret C rfl () (by rw [f_X0_part, if_neg c1, if_pos c2, if_neg c3]) trivial rfl dX0_part_47
    · refine z_bipush C dX0_part_38 (-4) (by decide) ?_
      refine z_goto C dX0_part_40 47 (by decide) ?_
      exact z_iret C rfl () (by rw [f_X0_part, if_neg c1, if_pos c2, if_pos c3]) trivial rfl dX0_part_47
  by_cases c4 : p2 = 2
  · refine z_tableAt C dX0_part_6 2 c4 (by decide) (by decide) 42 rfl 48 (by decide) ?_
    refine z_iload_n C dX0_part_48 rfl ?_
    refine z_iconst C dX0_part_49 1 (by decide) ?_
    refine z_icmp_ne C dX0_part_50 60 (by decide) (fun c5 => ?_) (fun c5 => ?_)
    · refine z_bipush C dX0_part_60 (-4) (by decide) ?_
      exact z_iret C rfl () (by rw [f_X0_part, if_neg c1, if_neg c2, if_pos c4, if_neg c5]) trivial rfl dX0_part_62
    · refine z_iload_n C dX0_part_53 rfl ?_
      refine z_callFS C [] [] (met_X0_sign l D cI p1) y_X0_sign mw_20_14 dX0_part_54 rfl n_X0_sign rfl (by decide) ⟨rfl, rfl, Nat.le_of_ble_eq_true rfl, Nat.le_of_ble_eq_true rfl⟩ (Nat.le_of_ble_eq_true rfl) (List.Perm.refl _) ?_
      refine z_goto C dX0_part_57 62 (by decide) ?_
      exact z_iret C rfl () (by rw [f_X0_part, if_neg c1, if_neg c2, if_pos c4, if_pos c5]) trivial rfl dX0_part_62
  refine z_tableOut C dX0_part_6 (by
    have nc1 := lv_neT (a := 0) c1 rfl
    have nc2 := lv_neT (a := 1) c2 rfl
    have nc4 := lv_neT (a := 2) c4 rfl
    omega) 63 (by decide) ?_
  refine z_iload_n C dX0_part_63 rfl ?_
  refine z_callFS C [] [] (met_X0_writer l D cI p1) y_X0_writer mw_20_15 dX0_part_64 rfl n_X0_writer rfl (by decide) ⟨rfl, rfl, Nat.le_of_ble_eq_true rfl, Nat.le_of_ble_eq_true rfl⟩ (Nat.le_of_ble_eq_true rfl) (List.Perm.refl _) ?_
  exact z_iret C rfl () (by rw [f_X0_part, if_neg c1, if_neg c2, if_neg c4]) trivial rfl dX0_part_67
def rmX0_reshaped : Room := { frames := 0, cells := 0, slots := 0, locals := 0 }
def f_X0_reshaped  (p1 : Int32) (p2 : Int32) : Int32 := (if (p1 &&& 3) = 0 then p1 else (if (p2 &&& 3) = 0 then p1 else (if (p2 >>> (9 &&& 31)) = (p1 >>> (9 &&& 31)) then (if (p2 &&& 3) = 1 then (if (p1 &&& 12) ≤ (p2 &&& 12) then (if (p1 &&& 3) = 2 then (if (p2 >>> (9 &&& 31)) < (p1 >>> (9 &&& 31)) then (p1 + 512) else (p1 + 512)) else (if (p2 >>> (9 &&& 31)) < (p1 >>> (9 &&& 31)) then (p1 + 512) else p1)) else (if (p1 &&& 3) = 2 then (if (p2 >>> (9 &&& 31)) < (p1 >>> (9 &&& 31)) then (p1 + 512) else (p1 + 512)) else (if (p2 >>> (9 &&& 31)) < (p1 >>> (9 &&& 31)) then (p1 + 512) else (p1 + 512)))) else (if (p1 >>> (9 &&& 31)) ≤ (p2 >>> (9 &&& 31)) then (if (p1 &&& 3) = 2 then (p1 - (p1 &&& 3)) else p1) else (p1 - 512))) else (if (p2 &&& 3) = 1 then (if (p1 &&& 12) ≤ (p2 &&& 12) then (if (p2 >>> (9 &&& 31)) < (p1 >>> (9 &&& 31)) then (p1 + 512) else p1) else (if (p2 >>> (9 &&& 31)) < (p1 >>> (9 &&& 31)) then (p1 + 512) else p1)) else (if (p1 >>> (9 &&& 31)) ≤ (p2 >>> (9 &&& 31)) then p1 else (p1 - 512))))))
set_option maxHeartbeats 4000000 in
set_option maxRecDepth 100000 in
theorem met_X0_reshaped (l : Launch) (D : va_G) (cI : ClassId)   (p1 : Int32) (p2 : Int32) : ZM l D cI yX0_reshaped cX0_reshaped 9 (some .int) rmX0_reshaped [.int p1, .int p2] [] (fun _ : Unit => some (.int (f_X0_reshaped p1 p2))) (fun _ : Unit => []) (fun _ : Unit => True) := by
  refine z_body [some (.int p1), some (.int p2), none, none, none, none, none, none, none] (by decide +kernel) rfl (Nat.le_of_ble_eq_true rfl) rfl ?_
  intro p e s m args below meth c A C hin
  refine z_iload_n C dX0_reshaped_0 rfl ?_
  refine z_iconst C dX0_reshaped_1 3 (by decide) ?_
  refine z_iand C dX0_reshaped_2 ?_
  refine z_istore_n C dX0_reshaped_3 [some (.int p1), some (.int p2), some (.int (p1 &&& 3)), none, none, none, none, none, none] (by decide) rfl ?_
  refine z_iload_n C dX0_reshaped_4 rfl ?_
  refine z_iconst C dX0_reshaped_5 3 (by decide) ?_
  refine z_iand C dX0_reshaped_6 ?_
  refine z_istore_n C dX0_reshaped_7 [some (.int p1), some (.int p2), some (.int (p1 &&& 3)), some (.int (p2 &&& 3)), none, none, none, none, none] (by decide) rfl ?_
  refine z_iload_n C dX0_reshaped_8 rfl ?_
  refine z_if_eq C dX0_reshaped_9 16 (by decide) (fun c1 => ?_) (fun c1 => ?_)
  · refine z_iload_n C dX0_reshaped_16 rfl ?_
    exact z_iret C rfl () (by rw [f_X0_reshaped, if_pos c1]) trivial rfl dX0_reshaped_17
  · refine z_iload_n C dX0_reshaped_12 rfl ?_
    refine z_if_ne C dX0_reshaped_13 18 (by decide) (fun c2 => ?_) (fun c2 => ?_)
    · refine z_iload_n C dX0_reshaped_18 rfl ?_
      refine z_bipush C dX0_reshaped_19 9 (by decide) ?_
      refine z_ishr C dX0_reshaped_21 ?_
      refine z_istore C dX0_reshaped_22 [some (.int p1), some (.int p2), some (.int (p1 &&& 3)), some (.int (p2 &&& 3)), some (.int (p1 >>> (9 &&& 31))), none, none, none, none] (by decide) rfl ?_
      refine z_iload_n C dX0_reshaped_24 rfl ?_
      refine z_bipush C dX0_reshaped_25 9 (by decide) ?_
      refine z_ishr C dX0_reshaped_27 ?_
      refine z_istore C dX0_reshaped_28 [some (.int p1), some (.int p2), some (.int (p1 &&& 3)), some (.int (p2 &&& 3)), some (.int (p1 >>> (9 &&& 31))), some (.int (p2 >>> (9 &&& 31))), none, none, none] (by decide) rfl ?_
      refine z_iload C dX0_reshaped_30 rfl ?_
      refine z_iload C dX0_reshaped_32 rfl ?_
      refine z_icmp_ne C dX0_reshaped_34 41 (by decide) (fun c3 => ?_) (fun c3 => ?_)
      · refine z_iconst C dX0_reshaped_41 0 (by decide) ?_
        refine z_istore C dX0_reshaped_42 [some (.int p1), some (.int p2), some (.int (p1 &&& 3)), some (.int (p2 &&& 3)), some (.int (p1 >>> (9 &&& 31))), some (.int (p2 >>> (9 &&& 31))), some (.int 0), none, none] (by decide) rfl ?_
        refine z_iload_n C dX0_reshaped_44 rfl ?_
        refine z_iconst C dX0_reshaped_45 1 (by decide) ?_
        refine z_icmp_ne C dX0_reshaped_46 111 (by decide) (fun c4 => ?_) (fun c4 => ?_)
        · refine z_iload C dX0_reshaped_111 rfl ?_
          refine z_iload C dX0_reshaped_113 rfl ?_
          refine z_icmp_ge C dX0_reshaped_115 124 (by decide) (fun c5 => ?_) (fun c5 => ?_)
          · refine z_iload C dX0_reshaped_124 rfl ?_
            refine z_if_eq C dX0_reshaped_126 140 (by decide) (fun c6 => ?_) (fun c6 => absurd c6 (by decide))
            refine z_iload_n C dX0_reshaped_140 rfl ?_
            exact z_iret C rfl () (by rw [f_X0_reshaped, if_neg c1, if_neg c2, if_neg c3, if_neg c4, if_pos c5]) trivial rfl dX0_reshaped_141
          · refine z_iload_n C dX0_reshaped_118 rfl ?_
            refine z_sipush C dX0_reshaped_119 512 (by decide) ?_
            refine z_isub C dX0_reshaped_122 ?_
            exact z_iret C rfl () (by rw [f_X0_reshaped, if_neg c1, if_neg c2, if_neg c3, if_neg c4, if_neg c5]) trivial rfl dX0_reshaped_123
        · refine z_iload_n C dX0_reshaped_49 rfl ?_
          refine z_bipush C dX0_reshaped_50 12 (by decide) ?_
          refine z_iand C dX0_reshaped_52 ?_
          refine z_iload_n C dX0_reshaped_53 rfl ?_
          refine z_bipush C dX0_reshaped_54 12 (by decide) ?_
          refine z_iand C dX0_reshaped_56 ?_
          refine z_icmp_ge C dX0_reshaped_57 64 (by decide) (fun c7 => ?_) (fun c7 => ?_)
          · refine z_iconst C dX0_reshaped_64 0 (by decide) ?_
            refine z_istore C dX0_reshaped_65 [some (.int p1), some (.int p2), some (.int (p1 &&& 3)), some (.int (p2 &&& 3)), some (.int (p1 >>> (9 &&& 31))), some (.int (p2 >>> (9 &&& 31))), some (.int 0), some (.int 0), none] (by decide) rfl ?_
            refine z_iload C dX0_reshaped_67 rfl ?_
            refine z_if_eq C dX0_reshaped_69 86 (by decide) (fun c8 => ?_) (fun c8 => absurd c8 (by decide))
            refine z_iconst C dX0_reshaped_86 0 (by decide) ?_
            refine z_istore C dX0_reshaped_87 [some (.int p1), some (.int p2), some (.int (p1 &&& 3)), some (.int (p2 &&& 3)), some (.int (p1 >>> (9 &&& 31))), some (.int (p2 >>> (9 &&& 31))), some (.int 0), some (.int 0), some (.int 0)] (by decide) rfl ?_
            refine z_iload C dX0_reshaped_89 rfl ?_
            refine z_iload C dX0_reshaped_91 rfl ?_
            refine z_icmp_lt C dX0_reshaped_93 101 (by decide) (fun c9 => ?_) (fun c9 => ?_)
            · refine z_iload_n C dX0_reshaped_101 rfl ?_
              refine z_sipush C dX0_reshaped_102 512 (by decide) ?_
              refine z_iadd C dX0_reshaped_105 ?_
              refine z_goto C dX0_reshaped_106 110 (by decide) ?_
              exact z_iret C rfl () (by rw [f_X0_reshaped, if_neg c1, if_neg c2, if_neg c3, if_pos c4, if_pos c7, if_pos c9]) trivial rfl dX0_reshaped_110
            · refine z_iload C dX0_reshaped_96 rfl ?_
              refine z_if_eq C dX0_reshaped_98 109 (by decide) (fun c10 => ?_) (fun c10 => absurd c10 (by decide))
              refine z_iload_n C dX0_reshaped_109 rfl ?_
              exact z_iret C rfl () (by rw [f_X0_reshaped, if_neg c1, if_neg c2, if_neg c3, if_pos c4, if_pos c7, if_neg c9]) trivial rfl dX0_reshaped_110
          · refine z_iconst C dX0_reshaped_60 1 (by decide) ?_
            refine z_goto C dX0_reshaped_61 65 (by decide) ?_
            refine z_istore C dX0_reshaped_65 [some (.int p1), some (.int p2), some (.int (p1 &&& 3)), some (.int (p2 &&& 3)), some (.int (p1 >>> (9 &&& 31))), some (.int (p2 >>> (9 &&& 31))), some (.int 0), some (.int 1), none] (by decide) rfl ?_
            refine z_iload C dX0_reshaped_67 rfl ?_
            refine z_if_eq C dX0_reshaped_69 86 (by decide) (fun c11 => ?_) (fun c11 => absurd c11 (by decide))
            refine z_iconst C dX0_reshaped_86 0 (by decide) ?_
            refine z_istore C dX0_reshaped_87 [some (.int p1), some (.int p2), some (.int (p1 &&& 3)), some (.int (p2 &&& 3)), some (.int (p1 >>> (9 &&& 31))), some (.int (p2 >>> (9 &&& 31))), some (.int 0), some (.int 1), some (.int 0)] (by decide) rfl ?_
            refine z_iload C dX0_reshaped_89 rfl ?_
            refine z_iload C dX0_reshaped_91 rfl ?_
            refine z_icmp_lt C dX0_reshaped_93 101 (by decide) (fun c12 => ?_) (fun c12 => ?_)
            · refine z_iload_n C dX0_reshaped_101 rfl ?_
              refine z_sipush C dX0_reshaped_102 512 (by decide) ?_
              refine z_iadd C dX0_reshaped_105 ?_
              refine z_goto C dX0_reshaped_106 110 (by decide) ?_
              exact z_iret C rfl () (by rw [f_X0_reshaped, if_neg c1, if_neg c2, if_neg c3, if_pos c4, if_neg c7, if_pos c12]) trivial rfl dX0_reshaped_110
            · refine z_iload C dX0_reshaped_96 rfl ?_
              refine z_if_eq C dX0_reshaped_98 109 (by decide) (fun c13 => ?_) (fun c13 => absurd c13 (by decide))
              refine z_iload_n C dX0_reshaped_109 rfl ?_
              exact z_iret C rfl () (by rw [f_X0_reshaped, if_neg c1, if_neg c2, if_neg c3, if_pos c4, if_neg c7, if_neg c12]) trivial rfl dX0_reshaped_110
      · refine z_iconst C dX0_reshaped_37 1 (by decide) ?_
        refine z_goto C dX0_reshaped_38 42 (by decide) ?_
        refine z_istore C dX0_reshaped_42 [some (.int p1), some (.int p2), some (.int (p1 &&& 3)), some (.int (p2 &&& 3)), some (.int (p1 >>> (9 &&& 31))), some (.int (p2 >>> (9 &&& 31))), some (.int 1), none, none] (by decide) rfl ?_
        refine z_iload_n C dX0_reshaped_44 rfl ?_
        refine z_iconst C dX0_reshaped_45 1 (by decide) ?_
        refine z_icmp_ne C dX0_reshaped_46 111 (by decide) (fun c14 => ?_) (fun c14 => ?_)
        · refine z_iload C dX0_reshaped_111 rfl ?_
          refine z_iload C dX0_reshaped_113 rfl ?_
          refine z_icmp_ge C dX0_reshaped_115 124 (by decide) (fun c15 => ?_) (fun c15 => ?_)
          · refine z_iload C dX0_reshaped_124 rfl ?_
            refine z_if_eq C dX0_reshaped_126 140 (by decide) (fun c16 => absurd c16 (by decide)) (fun c16 => ?_)
            refine z_iload_n C dX0_reshaped_129 rfl ?_
            refine z_iconst C dX0_reshaped_130 2 (by decide) ?_
            refine z_icmp_ne C dX0_reshaped_131 140 (by decide) (fun c17 => ?_) (fun c17 => ?_)
            · refine z_iload_n C dX0_reshaped_140 rfl ?_
              exact z_iret C rfl () (by rw [f_X0_reshaped, if_neg c1, if_neg c2, if_pos c3, if_neg c14, if_pos c15, if_neg c17]) trivial rfl dX0_reshaped_141
            · refine z_iload_n C dX0_reshaped_134 rfl ?_
              refine z_iload_n C dX0_reshaped_135 rfl ?_
              refine z_isub C dX0_reshaped_136 ?_
              refine z_goto C dX0_reshaped_137 141 (by decide) ?_
              exact z_iret C rfl () (by rw [f_X0_reshaped, if_neg c1, if_neg c2, if_pos c3, if_neg c14, if_pos c15, if_pos c17]) trivial rfl dX0_reshaped_141
          · refine z_iload_n C dX0_reshaped_118 rfl ?_
            refine z_sipush C dX0_reshaped_119 512 (by decide) ?_
            refine z_isub C dX0_reshaped_122 ?_
            exact z_iret C rfl () (by rw [f_X0_reshaped, if_neg c1, if_neg c2, if_pos c3, if_neg c14, if_neg c15]) trivial rfl dX0_reshaped_123
        · refine z_iload_n C dX0_reshaped_49 rfl ?_
          refine z_bipush C dX0_reshaped_50 12 (by decide) ?_
          refine z_iand C dX0_reshaped_52 ?_
          refine z_iload_n C dX0_reshaped_53 rfl ?_
          refine z_bipush C dX0_reshaped_54 12 (by decide) ?_
          refine z_iand C dX0_reshaped_56 ?_
          refine z_icmp_ge C dX0_reshaped_57 64 (by decide) (fun c18 => ?_) (fun c18 => ?_)
          · refine z_iconst C dX0_reshaped_64 0 (by decide) ?_
            refine z_istore C dX0_reshaped_65 [some (.int p1), some (.int p2), some (.int (p1 &&& 3)), some (.int (p2 &&& 3)), some (.int (p1 >>> (9 &&& 31))), some (.int (p2 >>> (9 &&& 31))), some (.int 1), some (.int 0), none] (by decide) rfl ?_
            refine z_iload C dX0_reshaped_67 rfl ?_
            refine z_if_eq C dX0_reshaped_69 86 (by decide) (fun c19 => absurd c19 (by decide)) (fun c19 => ?_)
            refine z_iload_n C dX0_reshaped_72 rfl ?_
            refine z_iconst C dX0_reshaped_73 2 (by decide) ?_
            refine z_icmp_eq C dX0_reshaped_74 82 (by decide) (fun c20 => ?_) (fun c20 => ?_)
            · refine z_iconst C dX0_reshaped_82 1 (by decide) ?_
              refine z_goto C dX0_reshaped_83 87 (by decide) ?_
              refine z_istore C dX0_reshaped_87 [some (.int p1), some (.int p2), some (.int (p1 &&& 3)), some (.int (p2 &&& 3)), some (.int (p1 >>> (9 &&& 31))), some (.int (p2 >>> (9 &&& 31))), some (.int 1), some (.int 0), some (.int 1)] (by decide) rfl ?_
              refine z_iload C dX0_reshaped_89 rfl ?_
              refine z_iload C dX0_reshaped_91 rfl ?_
              refine z_icmp_lt C dX0_reshaped_93 101 (by decide) (fun c21 => ?_) (fun c21 => ?_)
              · refine z_iload_n C dX0_reshaped_101 rfl ?_
                refine z_sipush C dX0_reshaped_102 512 (by decide) ?_
                refine z_iadd C dX0_reshaped_105 ?_
                refine z_goto C dX0_reshaped_106 110 (by decide) ?_
                exact z_iret C rfl () (by rw [f_X0_reshaped, if_neg c1, if_neg c2, if_pos c3, if_pos c14, if_pos c18, if_pos c20, if_pos c21]) trivial rfl dX0_reshaped_110
              · refine z_iload C dX0_reshaped_96 rfl ?_
                refine z_if_eq C dX0_reshaped_98 109 (by decide) (fun c22 => absurd c22 (by decide)) (fun c22 => ?_)
                refine z_iload_n C dX0_reshaped_101 rfl ?_
                refine z_sipush C dX0_reshaped_102 512 (by decide) ?_
                refine z_iadd C dX0_reshaped_105 ?_
                refine z_goto C dX0_reshaped_106 110 (by decide) ?_
                exact z_iret C rfl () (by rw [f_X0_reshaped, if_neg c1, if_neg c2, if_pos c3, if_pos c14, if_pos c18, if_pos c20, if_neg c21]) trivial rfl dX0_reshaped_110
            · refine z_iload C dX0_reshaped_77 rfl ?_
              refine z_if_eq C dX0_reshaped_79 86 (by decide) (fun c23 => ?_) (fun c23 => absurd c23 (by decide))
              refine z_iconst C dX0_reshaped_86 0 (by decide) ?_
              refine z_istore C dX0_reshaped_87 [some (.int p1), some (.int p2), some (.int (p1 &&& 3)), some (.int (p2 &&& 3)), some (.int (p1 >>> (9 &&& 31))), some (.int (p2 >>> (9 &&& 31))), some (.int 1), some (.int 0), some (.int 0)] (by decide) rfl ?_
              refine z_iload C dX0_reshaped_89 rfl ?_
              refine z_iload C dX0_reshaped_91 rfl ?_
              refine z_icmp_lt C dX0_reshaped_93 101 (by decide) (fun c24 => ?_) (fun c24 => ?_)
              · refine z_iload_n C dX0_reshaped_101 rfl ?_
                refine z_sipush C dX0_reshaped_102 512 (by decide) ?_
                refine z_iadd C dX0_reshaped_105 ?_
                refine z_goto C dX0_reshaped_106 110 (by decide) ?_
                exact z_iret C rfl () (by rw [f_X0_reshaped, if_neg c1, if_neg c2, if_pos c3, if_pos c14, if_pos c18, if_neg c20, if_pos c24]) trivial rfl dX0_reshaped_110
              · refine z_iload C dX0_reshaped_96 rfl ?_
                refine z_if_eq C dX0_reshaped_98 109 (by decide) (fun c25 => ?_) (fun c25 => absurd c25 (by decide))
                refine z_iload_n C dX0_reshaped_109 rfl ?_
                exact z_iret C rfl () (by rw [f_X0_reshaped, if_neg c1, if_neg c2, if_pos c3, if_pos c14, if_pos c18, if_neg c20, if_neg c24]) trivial rfl dX0_reshaped_110
          · refine z_iconst C dX0_reshaped_60 1 (by decide) ?_
            refine z_goto C dX0_reshaped_61 65 (by decide) ?_
            refine z_istore C dX0_reshaped_65 [some (.int p1), some (.int p2), some (.int (p1 &&& 3)), some (.int (p2 &&& 3)), some (.int (p1 >>> (9 &&& 31))), some (.int (p2 >>> (9 &&& 31))), some (.int 1), some (.int 1), none] (by decide) rfl ?_
            refine z_iload C dX0_reshaped_67 rfl ?_
            refine z_if_eq C dX0_reshaped_69 86 (by decide) (fun c26 => absurd c26 (by decide)) (fun c26 => ?_)
            refine z_iload_n C dX0_reshaped_72 rfl ?_
            refine z_iconst C dX0_reshaped_73 2 (by decide) ?_
            refine z_icmp_eq C dX0_reshaped_74 82 (by decide) (fun c27 => ?_) (fun c27 => ?_)
            · refine z_iconst C dX0_reshaped_82 1 (by decide) ?_
              refine z_goto C dX0_reshaped_83 87 (by decide) ?_
              refine z_istore C dX0_reshaped_87 [some (.int p1), some (.int p2), some (.int (p1 &&& 3)), some (.int (p2 &&& 3)), some (.int (p1 >>> (9 &&& 31))), some (.int (p2 >>> (9 &&& 31))), some (.int 1), some (.int 1), some (.int 1)] (by decide) rfl ?_
              refine z_iload C dX0_reshaped_89 rfl ?_
              refine z_iload C dX0_reshaped_91 rfl ?_
              refine z_icmp_lt C dX0_reshaped_93 101 (by decide) (fun c28 => ?_) (fun c28 => ?_)
              · refine z_iload_n C dX0_reshaped_101 rfl ?_
                refine z_sipush C dX0_reshaped_102 512 (by decide) ?_
                refine z_iadd C dX0_reshaped_105 ?_
                refine z_goto C dX0_reshaped_106 110 (by decide) ?_
                exact z_iret C rfl () (by rw [f_X0_reshaped, if_neg c1, if_neg c2, if_pos c3, if_pos c14, if_neg c18, if_pos c27, if_pos c28]) trivial rfl dX0_reshaped_110
              · refine z_iload C dX0_reshaped_96 rfl ?_
                refine z_if_eq C dX0_reshaped_98 109 (by decide) (fun c29 => absurd c29 (by decide)) (fun c29 => ?_)
                refine z_iload_n C dX0_reshaped_101 rfl ?_
                refine z_sipush C dX0_reshaped_102 512 (by decide) ?_
                refine z_iadd C dX0_reshaped_105 ?_
                refine z_goto C dX0_reshaped_106 110 (by decide) ?_
                exact z_iret C rfl () (by rw [f_X0_reshaped, if_neg c1, if_neg c2, if_pos c3, if_pos c14, if_neg c18, if_pos c27, if_neg c28]) trivial rfl dX0_reshaped_110
            · refine z_iload C dX0_reshaped_77 rfl ?_
              refine z_if_eq C dX0_reshaped_79 86 (by decide) (fun c30 => absurd c30 (by decide)) (fun c30 => ?_)
              refine z_iconst C dX0_reshaped_82 1 (by decide) ?_
              refine z_goto C dX0_reshaped_83 87 (by decide) ?_
              refine z_istore C dX0_reshaped_87 [some (.int p1), some (.int p2), some (.int (p1 &&& 3)), some (.int (p2 &&& 3)), some (.int (p1 >>> (9 &&& 31))), some (.int (p2 >>> (9 &&& 31))), some (.int 1), some (.int 1), some (.int 1)] (by decide) rfl ?_
              refine z_iload C dX0_reshaped_89 rfl ?_
              refine z_iload C dX0_reshaped_91 rfl ?_
              refine z_icmp_lt C dX0_reshaped_93 101 (by decide) (fun c31 => ?_) (fun c31 => ?_)
              · refine z_iload_n C dX0_reshaped_101 rfl ?_
                refine z_sipush C dX0_reshaped_102 512 (by decide) ?_
                refine z_iadd C dX0_reshaped_105 ?_
                refine z_goto C dX0_reshaped_106 110 (by decide) ?_
                exact z_iret C rfl () (by rw [f_X0_reshaped, if_neg c1, if_neg c2, if_pos c3, if_pos c14, if_neg c18, if_neg c27, if_pos c31]) trivial rfl dX0_reshaped_110
              · refine z_iload C dX0_reshaped_96 rfl ?_
                refine z_if_eq C dX0_reshaped_98 109 (by decide) (fun c32 => absurd c32 (by decide)) (fun c32 => ?_)
                refine z_iload_n C dX0_reshaped_101 rfl ?_
                refine z_sipush C dX0_reshaped_102 512 (by decide) ?_
                refine z_iadd C dX0_reshaped_105 ?_
                refine z_goto C dX0_reshaped_106 110 (by decide) ?_
                exact z_iret C rfl () (by rw [f_X0_reshaped, if_neg c1, if_neg c2, if_pos c3, if_pos c14, if_neg c18, if_neg c27, if_neg c31]) trivial rfl dX0_reshaped_110
    · refine z_iload_n C dX0_reshaped_16 rfl ?_
      exact z_iret C rfl () (by rw [f_X0_reshaped, if_neg c1, if_pos c2]) trivial rfl dX0_reshaped_17
def rmX4_size : Room := { frames := 0, cells := 0, slots := 0, locals := 0 }
def f_X4_size (n : zN)  : Int32 := (nSize n)
set_option maxHeartbeats 4000000 in
set_option maxRecDepth 100000 in
theorem met_X4_size (l : Launch) (D : va_G) (cI : ClassId) (an : Nat) (cn : Nat) (n : zN)  : ZM l D cI yX4_size cX4_size 1 (some .int) rmX4_size [.ref an] [(wN cI an cn n)] (fun _ : Unit => some (.int (f_X4_size n))) (fun _ : Unit => [(wN cI an cn n)]) (fun _ : Unit => True) := by
  refine z_body [some (.ref an)] (by decide +kernel) rfl (Nat.le_of_ble_eq_true rfl) rfl ?_
  intro p e s m args below meth c A C hin
  refine z_aload_n C dX4_size_0 rfl ?_
  refine z_get C inlX4 rfl 1 (by decide) mw_3_14 dX4_size_1 0 0 rfl rfl rfl ?_
  exact z_iret C rfl () (by rw [f_X4_size]) trivial rfl dX4_size_4
def rmX4_at : Room := { frames := 0, cells := 0, slots := 0, locals := 0 }
def wp_X4_at (n : zN) (p1 : Int32) (Q : Int32 → Prop) : Prop := ((p1 < 0 → (Q 0)) ∧ (¬ p1 < 0 → (((nSize n) ≤ p1 → (Q 0)) ∧ (¬ (nSize n) ≤ p1 → (((nI (nCap n)) ≤ p1 → (Q 0)) ∧ (¬ (nI (nCap n)) ≤ p1 → (vp_in p1 (nCap n) ∧ (Q ((nRow n) p1.toNatClampNeg)))))))))
set_option maxHeartbeats 4000000 in
set_option maxRecDepth 100000 in
theorem met_X4_at (l : Launch) (D : va_G) (cI : ClassId) (an : Nat) (cn : Nat) (n : zN) (p1 : Int32) (Q : Int32 → Prop) (hw : wp_X4_at n p1 Q) : ZM l D cI yX4_at cX4_at 2 (some .int) rmX4_at [.ref an, .int p1] [(wN cI an cn n)] (fun u : Int32 => some (.int u)) (fun u : Int32 => [(wN cI an cn n)]) (fun u : Int32 => Q u) := by
  refine z_body [some (.ref an), some (.int p1)] (by decide +kernel) rfl (Nat.le_of_ble_eq_true rfl) rfl ?_
  intro p e s m args below meth c A C hin
  unfold wp_X4_at at hw
  refine z_iload_n C dX4_at_0 rfl ?_
  refine z_if_lt C dX4_at_1 30 (by decide) (fun c1 => ?_) (fun c1 => ?_)
  · replace hw := hw.1 c1
    refine z_iconst C dX4_at_30 0 (by decide) ?_
    exact z_iret C rfl (0 : Int32) rfl hw rfl dX4_at_31
  · replace hw := hw.2 c1
    refine z_iload_n C dX4_at_4 rfl ?_
    refine z_aload_n C dX4_at_5 rfl ?_
    refine z_get C inlX4 rfl 1 (by decide) mw_3_14 dX4_at_6 0 0 rfl rfl rfl ?_
    refine z_icmp_ge C dX4_at_9 30 (by decide) (fun c2 => ?_) (fun c2 => ?_)
    · replace hw := hw.1 c2
      refine z_iconst C dX4_at_30 0 (by decide) ?_
      exact z_iret C rfl (0 : Int32) rfl hw rfl dX4_at_31
    · replace hw := hw.2 c2
      refine z_iload_n C dX4_at_12 rfl ?_
      refine z_aload_n C dX4_at_13 rfl ?_
      refine z_get C inlX4 rfl 0 (by decide) mw_3_13 dX4_at_14 0 0 rfl rfl rfl ?_
      refine z_alen C dX4_at_17 0 1 rfl rfl (nI (nCap n)) rfl ?_
      refine z_icmp_ge C dX4_at_18 30 (by decide) (fun c3 => ?_) (fun c3 => ?_)
      · replace hw := hw.1 c3
        refine z_iconst C dX4_at_30 0 (by decide) ?_
        exact z_iret C rfl (0 : Int32) rfl hw rfl dX4_at_31
      · replace hw := hw.2 c3
        refine z_aload_n C dX4_at_21 rfl ?_
        refine z_get C inlX4 rfl 0 (by decide) mw_3_13 dX4_at_22 0 0 rfl rfl rfl ?_
        refine z_iload_n C dX4_at_25 rfl ?_
        refine z_iald C dX4_at_26 0 1 rfl rfl hw.1 ?_
        replace hw := hw.2
        refine z_goto C dX4_at_27 31 (by decide) ?_
        exact z_iret C rfl (((nRow n) p1.toNatClampNeg)) rfl hw rfl dX4_at_31
def rmX4_put : Room := { frames := 0, cells := 0, slots := 0, locals := 0 }
def wp_X4_put (n : zN) (p1 : Int32) (p2 : Int32) (Q : zN → Prop) : Prop := ((p1 < 0 → (Q n)) ∧ (¬ p1 < 0 → (((nSize n) ≤ p1 → (Q n)) ∧ (¬ (nSize n) ≤ p1 → (((nI (nCap n)) ≤ p1 → (Q n)) ∧ (¬ (nI (nCap n)) ≤ p1 → (vp_in p1 (nCap n) ∧ (Q (nSetRow n (upd (nRow n) p1.toNatClampNeg p2))))))))))
set_option maxHeartbeats 4000000 in
set_option maxRecDepth 100000 in
theorem met_X4_put (l : Launch) (D : va_G) (cI : ClassId) (an : Nat) (cn : Nat) (n : zN) (p1 : Int32) (p2 : Int32) (Q : zN → Prop) (hw : wp_X4_put n p1 p2 Q) : ZM l D cI yX4_put cX4_put 3 none rmX4_put [.ref an, .int p1, .int p2] [(wN cI an cn n)] (fun _ : zN => none) (fun u : zN => [(wN cI an cn u)]) (fun u : zN => Q u) := by
  refine z_body [some (.ref an), some (.int p1), some (.int p2)] (by decide +kernel) rfl (Nat.le_of_ble_eq_true rfl) rfl ?_
  intro p e s m args below meth c A C hin
  unfold wp_X4_put at hw
  refine z_iload_n C dX4_put_0 rfl ?_
  refine z_if_lt C dX4_put_1 28 (by decide) (fun c1 => ?_) (fun c1 => ?_)
  · replace hw := hw.1 c1
    exact z_vret C rfl (n) rfl hw rfl dX4_put_28
  · replace hw := hw.2 c1
    refine z_iload_n C dX4_put_4 rfl ?_
    refine z_aload_n C dX4_put_5 rfl ?_
    refine z_get C inlX4 rfl 1 (by decide) mw_3_14 dX4_put_6 0 0 rfl rfl rfl ?_
    refine z_icmp_ge C dX4_put_9 28 (by decide) (fun c2 => ?_) (fun c2 => ?_)
    · replace hw := hw.1 c2
      exact z_vret C rfl (n) rfl hw rfl dX4_put_28
    · replace hw := hw.2 c2
      refine z_iload_n C dX4_put_12 rfl ?_
      refine z_aload_n C dX4_put_13 rfl ?_
      refine z_get C inlX4 rfl 0 (by decide) mw_3_13 dX4_put_14 0 0 rfl rfl rfl ?_
      refine z_alen C dX4_put_17 0 1 rfl rfl (nI (nCap n)) rfl ?_
      refine z_icmp_ge C dX4_put_18 28 (by decide) (fun c3 => ?_) (fun c3 => ?_)
      · replace hw := hw.1 c3
        exact z_vret C rfl (n) rfl hw rfl dX4_put_28
      · replace hw := hw.2 c3
        refine z_aload_n C dX4_put_21 rfl ?_
        refine z_get C inlX4 rfl 0 (by decide) mw_3_13 dX4_put_22 0 0 rfl rfl rfl ?_
        refine z_iload_n C dX4_put_25 rfl ?_
        refine z_iload_n C dX4_put_26 rfl ?_
        refine z_iast C dX4_put_27 0 1 rfl rfl hw.1 [(wN cI an cn (nSetRow n (upd (nRow n) p1.toNatClampNeg p2)))] rfl ?_
        replace hw := hw.2
        exact z_vret C rfl ((nSetRow n (upd (nRow n) p1.toNatClampNeg p2))) rfl hw rfl dX4_put_28
def rmX4_addAt : Room := { frames := 0, cells := 0, slots := 0, locals := 0 }
def lb_X4_addAt_30 (n : zN) (p1 : Int32) (p2 : Int32)   (Q : zN → Prop)  (K30 : (Int32) → (Nat → Int32) → Prop) (v3 : Int32) (w0Row : Nat → Int32) : Prop := ((v3 ≤ p1 → (vp_in p1 (nCap n) ∧ (Q (nSetSize (nSetRow n (upd w0Row p1.toNatClampNeg p2)) ((nSize n) + 1))))) ∧ (¬ v3 ≤ p1 → (vp_in (v3 - 1) (nCap n) ∧ (vp_in v3 (nCap n) ∧ (K30 (v3 + (-1)) (upd w0Row v3.toNatClampNeg (w0Row (v3 - 1).toNatClampNeg)))))))
set_option maxHeartbeats 4000000 in
set_option maxRecDepth 100000 in
theorem wk_X4_addAt_30 {p : Program} {l : Launch} {e : Env} {s : State} {m : MethodId} {args : Array Value} {below : List Frame} {meth : Method} {c : Code} {D : va_G} {cI : ClassId} {A : Nat → Prop} (C : ZC p s m args meth c RX4 cX4_addAt 4 none D cI A) (an : Nat) (cn : Nat) (n : zN) (p1 : Int32) (p2 : Int32)   (v3 : Int32) (w0Row : Nat → Int32) (Q : zN → Prop)  (hw : zLoop2 (lb_X4_addAt_30 n p1 p2   Q ) v3 w0Row) : ZZ p l e rmX4_addAt s m args below meth c D A 4 0 0 (MQ below (ZQ D A (fun _ : zN => none) (fun u : zN => [(wN cI an cn u)]) (fun u : zN => Q u)) args s rmX4_addAt.cells rmX4_addAt.slots A) [(wN cI an cn (nSetRow n w0Row))] 30 [some (.ref an), some (.int p1), some (.int p2), some (.int v3)] [] := by
  refine zLoop2_w (fun (v3 : Int32) (w0Row : Nat → Int32) => ZZ p l e rmX4_addAt s m args below meth c D A 4 0 0 (MQ below (ZQ D A (fun _ : zN => none) (fun u : zN => [(wN cI an cn u)]) (fun u : zN => Q u)) args s rmX4_addAt.cells rmX4_addAt.slots A) [(wN cI an cn (nSetRow n w0Row))] 30 [some (.ref an), some (.int p1), some (.int p2), some (.int v3)] []) ?_ _ _ hw
  clear hw
  intro K30 hK30 v3 w0Row hw
  unfold lb_X4_addAt_30 at hw
  refine z_iload_n C dX4_addAt_30 rfl ?_
  refine z_iload_n C dX4_addAt_31 rfl ?_
  refine z_icmp_le C dX4_addAt_32 55 (by decide) (fun c5 => ?_) (fun c5 => ?_)
  · replace hw := hw.1 c5
    refine z_aload_n C dX4_addAt_55 rfl ?_
    refine z_get C inlX4 rfl 0 (by decide) mw_3_13 dX4_addAt_56 0 0 rfl rfl rfl ?_
    refine z_iload_n C dX4_addAt_59 rfl ?_
    refine z_iload_n C dX4_addAt_60 rfl ?_
    refine z_iast C dX4_addAt_61 0 1 rfl rfl hw.1 [(wN cI an cn (nSetRow n (upd w0Row p1.toNatClampNeg p2)))] rfl ?_
    replace hw := hw.2
    refine z_aload_n C dX4_addAt_62 rfl ?_
    refine z_dup C dX4_addAt_63 rfl ?_
    refine z_get C inlX4 rfl 1 (by decide) mw_3_14 dX4_addAt_64 0 0 rfl rfl rfl ?_
    refine z_iconst C dX4_addAt_67 1 (by decide) ?_
    refine z_iadd C dX4_addAt_68 ?_
    refine z_put C inlX4 rfl tyX4 tyX4_ok nmX4 1 (by decide) mw_3_14 rfl rfl rfl rfl dX4_addAt_69 0 0 rfl rfl (Nat.le_of_ble_eq_true rfl) [(wN cI an cn (nSetSize (nSetRow n (upd w0Row p1.toNatClampNeg p2)) ((nSize n) + 1)))] rfl ?_
    exact z_vret C rfl ((nSetSize (nSetRow n (upd w0Row p1.toNatClampNeg p2)) ((nSize n) + 1))) rfl hw rfl dX4_addAt_72
  · replace hw := hw.2 c5
    refine z_aload_n C dX4_addAt_35 rfl ?_
    refine z_get C inlX4 rfl 0 (by decide) mw_3_13 dX4_addAt_36 0 0 rfl rfl rfl ?_
    refine z_iload_n C dX4_addAt_39 rfl ?_
    refine z_aload_n C dX4_addAt_40 rfl ?_
    refine z_get C inlX4 rfl 0 (by decide) mw_3_13 dX4_addAt_41 0 0 rfl rfl rfl ?_
    refine z_iload_n C dX4_addAt_44 rfl ?_
    refine z_iconst C dX4_addAt_45 1 (by decide) ?_
    refine z_isub C dX4_addAt_46 ?_
    refine z_iald C dX4_addAt_47 0 1 rfl rfl hw.1 ?_
    replace hw := hw.2
    refine z_iast C dX4_addAt_48 0 1 rfl rfl hw.1 [(wN cI an cn (nSetRow n (upd w0Row v3.toNatClampNeg (w0Row (v3 - 1).toNatClampNeg))))] rfl ?_
    replace hw := hw.2
    refine z_iinc C dX4_addAt_49 rfl (v3 + (-1)) (by rfl) [some (.ref an), some (.int p1), some (.int p2), some (.int (v3 + (-1)))] (by decide) rfl ?_
    refine z_goto C dX4_addAt_52 30 (by decide) ?_
    exact hK30 _ _ hw
def wp_X4_addAt (n : zN) (p1 : Int32) (p2 : Int32) (Q : zN → Prop) : Prop := ((p1 < 0 → (Q n)) ∧ (¬ p1 < 0 → (((nSize n) < p1 → (Q n)) ∧ (¬ (nSize n) < p1 → (((nSize n) < (nI (nCap n)) → (∀ x4 : Int32, x4 = (nSize n) → (zLoop2 (lb_X4_addAt_30 n p1 p2   Q ) x4 (nRow n)))) ∧ (¬ (nSize n) < (nI (nCap n)) → (Q n)))))))
set_option maxHeartbeats 4000000 in
set_option maxRecDepth 100000 in
theorem met_X4_addAt (l : Launch) (D : va_G) (cI : ClassId) (an : Nat) (cn : Nat) (n : zN) (p1 : Int32) (p2 : Int32) (Q : zN → Prop) (hw : wp_X4_addAt n p1 p2 Q) : ZM l D cI yX4_addAt cX4_addAt 4 none rmX4_addAt [.ref an, .int p1, .int p2] [(wN cI an cn n)] (fun _ : zN => none) (fun u : zN => [(wN cI an cn u)]) (fun u : zN => Q u) := by
  refine z_body [some (.ref an), some (.int p1), some (.int p2), none] (by decide +kernel) rfl (Nat.le_of_ble_eq_true rfl) rfl ?_
  intro p e s m args below meth c A C hin
  unfold wp_X4_addAt at hw
  refine z_iload_n C dX4_addAt_0 rfl ?_
  refine z_if_lt C dX4_addAt_1 24 (by decide) (fun c1 => ?_) (fun c1 => ?_)
  · replace hw := hw.1 c1
    exact z_vret C rfl (n) rfl hw rfl dX4_addAt_24
  · replace hw := hw.2 c1
    refine z_iload_n C dX4_addAt_4 rfl ?_
    refine z_aload_n C dX4_addAt_5 rfl ?_
    refine z_get C inlX4 rfl 1 (by decide) mw_3_14 dX4_addAt_6 0 0 rfl rfl rfl ?_
    refine z_icmp_gt C dX4_addAt_9 24 (by decide) (fun c2 => ?_) (fun c2 => ?_)
    · replace hw := hw.1 c2
      exact z_vret C rfl (n) rfl hw rfl dX4_addAt_24
    · replace hw := hw.2 c2
      refine z_aload_n C dX4_addAt_12 rfl ?_
      refine z_get C inlX4 rfl 1 (by decide) mw_3_14 dX4_addAt_13 0 0 rfl rfl rfl ?_
      refine z_aload_n C dX4_addAt_16 rfl ?_
      refine z_get C inlX4 rfl 0 (by decide) mw_3_13 dX4_addAt_17 0 0 rfl rfl rfl ?_
      refine z_alen C dX4_addAt_20 0 1 rfl rfl (nI (nCap n)) rfl ?_
      refine z_icmp_lt C dX4_addAt_21 25 (by decide) (fun c3 => ?_) (fun c3 => ?_)
      · replace hw := hw.1 c3
        refine z_aload_n C dX4_addAt_25 rfl ?_
        refine z_get C inlX4 rfl 1 (by decide) mw_3_14 dX4_addAt_26 0 0 rfl rfl rfl ?_
        refine z_name C (fun x4 ex4 => ?_)
        replace hw := hw x4 ex4
        refine z_istore_n C dX4_addAt_29 [some (.ref an), some (.int p1), some (.int p2), some (.int x4)] (by decide) rfl ?_
        exact wk_X4_addAt_30 C an cn n p1 p2   x4 (nRow n) _  hw
      · replace hw := hw.2 c3
        exact z_vret C rfl (n) rfl hw rfl dX4_addAt_24
def rmX4_add : Room := { frames := 1, cells := 0, slots := 0, locals := 23 }
def wp_X4_add (n : zN) (p1 : Int32) (Q : zN → Prop) : Prop := (wp_X4_addAt n (nSize n) p1 (fun u1 => (Q u1)))
set_option maxHeartbeats 4000000 in
set_option maxRecDepth 100000 in
theorem met_X4_add (l : Launch) (D : va_G) (cI : ClassId) (an : Nat) (cn : Nat) (n : zN) (p1 : Int32) (Q : zN → Prop) (hw : wp_X4_add n p1 Q) : ZM l D cI yX4_add cX4_add 2 none rmX4_add [.ref an, .int p1] [(wN cI an cn n)] (fun _ : zN => none) (fun u : zN => [(wN cI an cn u)]) (fun u : zN => Q u) := by
  refine z_body [some (.ref an), some (.int p1)] (by decide +kernel) rfl (Nat.le_of_ble_eq_true rfl) rfl ?_
  intro p e s m args below meth c A C hin
  unfold wp_X4_add at hw
  refine z_aload_n C dX4_add_0 rfl ?_
  refine z_aload_n C dX4_add_1 rfl ?_
  refine z_get C inlX4 rfl 1 (by decide) mw_3_14 dX4_add_2 0 0 rfl rfl rfl ?_
  refine z_iload_n C dX4_add_5 rfl ?_
  refine z_callV0 C [(wN cI an cn n)] [] rfl rfl (met_X4_addAt l D cI an cn n (nSize n) p1 _ hw) y_X4_addAt mw_8_21 dX4_add_6 rfl n_X4_addAt rfl (by decide) ⟨rfl, rfl, Nat.le_of_ble_eq_true rfl, Nat.le_of_ble_eq_true rfl⟩ (Nat.le_of_ble_eq_true rfl) (z_pm [0] 1 rfl (by decide) rfl) ?_
  intro u1 hw
  try dsimp only at hw
  refine z_bs [(wN cI an cn u1)] [] rfl rfl ?_
  exact z_vret C rfl (u1) rfl hw rfl dX4_add_9
def rmX4_removeAt : Room := { frames := 0, cells := 0, slots := 0, locals := 0 }
def lb_X4_removeAt_37 (n : zN) (p1 : Int32) (w0Size : Int32)  (Q : zN → Prop)  (K37 : (Int32) → (Nat → Int32) → Prop) (v2 : Int32) (w0Row : Nat → Int32) : Prop := ((w0Size ≤ v2 → (Q (nSetSize (nSetRow n w0Row) w0Size))) ∧ (¬ w0Size ≤ v2 → (vp_in (v2 + 1) (nCap n) ∧ (vp_in v2 (nCap n) ∧ (K37 (v2 + 1) (upd w0Row v2.toNatClampNeg (w0Row (v2 + 1).toNatClampNeg)))))))
set_option maxHeartbeats 4000000 in
set_option maxRecDepth 100000 in
theorem wk_X4_removeAt_37 {p : Program} {l : Launch} {e : Env} {s : State} {m : MethodId} {args : Array Value} {below : List Frame} {meth : Method} {c : Code} {D : va_G} {cI : ClassId} {A : Nat → Prop} (C : ZC p s m args meth c RX4 cX4_removeAt 3 none D cI A) (an : Nat) (cn : Nat) (n : zN) (p1 : Int32) (w0Size : Int32)  (v2 : Int32) (w0Row : Nat → Int32) (Q : zN → Prop)  (hw : zLoop2 (lb_X4_removeAt_37 n p1 w0Size  Q ) v2 w0Row) : ZZ p l e rmX4_removeAt s m args below meth c D A 3 0 0 (MQ below (ZQ D A (fun _ : zN => none) (fun u : zN => [(wN cI an cn u)]) (fun u : zN => Q u)) args s rmX4_removeAt.cells rmX4_removeAt.slots A) [(wN cI an cn (nSetSize (nSetRow n w0Row) w0Size))] 37 [some (.ref an), none, some (.int v2)] [] := by
  refine zLoop2_w (fun (v2 : Int32) (w0Row : Nat → Int32) => ZZ p l e rmX4_removeAt s m args below meth c D A 3 0 0 (MQ below (ZQ D A (fun _ : zN => none) (fun u : zN => [(wN cI an cn u)]) (fun u : zN => Q u)) args s rmX4_removeAt.cells rmX4_removeAt.slots A) [(wN cI an cn (nSetSize (nSetRow n w0Row) w0Size))] 37 [some (.ref an), none, some (.int v2)] []) ?_ _ _ hw
  clear hw
  intro K37 hK37 v2 w0Row hw
  unfold lb_X4_removeAt_37 at hw
  refine z_iload_n C dX4_removeAt_37 rfl ?_
  refine z_aload_n C dX4_removeAt_38 rfl ?_
  refine z_get C inlX4 rfl 1 (by decide) mw_3_14 dX4_removeAt_39 0 0 rfl rfl rfl ?_
  refine z_icmp_ge C dX4_removeAt_42 65 (by decide) (fun c4 => ?_) (fun c4 => ?_)
  · replace hw := hw.1 c4
    exact z_vret C rfl ((nSetSize (nSetRow n w0Row) w0Size)) rfl hw rfl dX4_removeAt_65
  · replace hw := hw.2 c4
    refine z_aload_n C dX4_removeAt_45 rfl ?_
    refine z_get C inlX4 rfl 0 (by decide) mw_3_13 dX4_removeAt_46 0 0 rfl rfl rfl ?_
    refine z_iload_n C dX4_removeAt_49 rfl ?_
    refine z_aload_n C dX4_removeAt_50 rfl ?_
    refine z_get C inlX4 rfl 0 (by decide) mw_3_13 dX4_removeAt_51 0 0 rfl rfl rfl ?_
    refine z_iload_n C dX4_removeAt_54 rfl ?_
    refine z_iconst C dX4_removeAt_55 1 (by decide) ?_
    refine z_iadd C dX4_removeAt_56 ?_
    refine z_iald C dX4_removeAt_57 0 1 rfl rfl hw.1 ?_
    replace hw := hw.2
    refine z_iast C dX4_removeAt_58 0 1 rfl rfl hw.1 [(wN cI an cn (nSetSize (nSetRow n (upd w0Row v2.toNatClampNeg (w0Row (v2 + 1).toNatClampNeg))) w0Size))] rfl ?_
    replace hw := hw.2
    refine z_iinc C dX4_removeAt_59 rfl (v2 + 1) (by rfl) [some (.ref an), none, some (.int (v2 + 1))] (by decide) rfl ?_
    refine z_goto C dX4_removeAt_62 37 (by decide) ?_
    exact hK37 _ _ hw
def wp_X4_removeAt (n : zN) (p1 : Int32) (Q : zN → Prop) : Prop := ((p1 < 0 → (Q n)) ∧ (¬ p1 < 0 → (((nSize n) ≤ p1 → (Q n)) ∧ (¬ (nSize n) ≤ p1 → (((nSize n) ≤ (nI (nCap n)) → (zLoop2 (lb_X4_removeAt_37 n p1 ((nSize n) - 1)  Q ) p1 (nRow n))) ∧ (¬ (nSize n) ≤ (nI (nCap n)) → (Q n)))))))
set_option maxHeartbeats 4000000 in
set_option maxRecDepth 100000 in
theorem met_X4_removeAt (l : Launch) (D : va_G) (cI : ClassId) (an : Nat) (cn : Nat) (n : zN) (p1 : Int32) (Q : zN → Prop) (hw : wp_X4_removeAt n p1 Q) : ZM l D cI yX4_removeAt cX4_removeAt 3 none rmX4_removeAt [.ref an, .int p1] [(wN cI an cn n)] (fun _ : zN => none) (fun u : zN => [(wN cI an cn u)]) (fun u : zN => Q u) := by
  refine z_body [some (.ref an), some (.int p1), none] (by decide +kernel) rfl (Nat.le_of_ble_eq_true rfl) rfl ?_
  intro p e s m args below meth c A C hin
  unfold wp_X4_removeAt at hw
  refine z_iload_n C dX4_removeAt_0 rfl ?_
  refine z_if_lt C dX4_removeAt_1 24 (by decide) (fun c1 => ?_) (fun c1 => ?_)
  · replace hw := hw.1 c1
    exact z_vret C rfl (n) rfl hw rfl dX4_removeAt_24
  · replace hw := hw.2 c1
    refine z_iload_n C dX4_removeAt_4 rfl ?_
    refine z_aload_n C dX4_removeAt_5 rfl ?_
    refine z_get C inlX4 rfl 1 (by decide) mw_3_14 dX4_removeAt_6 0 0 rfl rfl rfl ?_
    refine z_icmp_ge C dX4_removeAt_9 24 (by decide) (fun c2 => ?_) (fun c2 => ?_)
    · replace hw := hw.1 c2
      exact z_vret C rfl (n) rfl hw rfl dX4_removeAt_24
    · replace hw := hw.2 c2
      refine z_aload_n C dX4_removeAt_12 rfl ?_
      refine z_get C inlX4 rfl 1 (by decide) mw_3_14 dX4_removeAt_13 0 0 rfl rfl rfl ?_
      refine z_aload_n C dX4_removeAt_16 rfl ?_
      refine z_get C inlX4 rfl 0 (by decide) mw_3_13 dX4_removeAt_17 0 0 rfl rfl rfl ?_
      refine z_alen C dX4_removeAt_20 0 1 rfl rfl (nI (nCap n)) rfl ?_
      refine z_icmp_le C dX4_removeAt_21 25 (by decide) (fun c3 => ?_) (fun c3 => ?_)
      · replace hw := hw.1 c3
        refine z_aload_n C dX4_removeAt_25 rfl ?_
        refine z_dup C dX4_removeAt_26 rfl ?_
        refine z_get C inlX4 rfl 1 (by decide) mw_3_14 dX4_removeAt_27 0 0 rfl rfl rfl ?_
        refine z_iconst C dX4_removeAt_30 1 (by decide) ?_
        refine z_isub C dX4_removeAt_31 ?_
        refine z_put C inlX4 rfl tyX4 tyX4_ok nmX4 1 (by decide) mw_3_14 rfl rfl rfl rfl dX4_removeAt_32 0 0 rfl rfl (Nat.le_of_ble_eq_true rfl) [(wN cI an cn (nSetSize n ((nSize n) - 1)))] rfl ?_
        refine z_iload_n C dX4_removeAt_35 rfl ?_
        refine z_istore_n C dX4_removeAt_36 [some (.ref an), some (.int p1), some (.int p1)] (by decide) rfl ?_
        refine z_ls C [true, false, true] [some (.ref an), none, some (.int p1)] rfl ?_
        exact wk_X4_removeAt_37 C an cn n p1 ((nSize n) - 1)  p1 (nRow n) _  hw
      · replace hw := hw.2 c3
        exact z_vret C rfl (n) rfl hw rfl dX4_removeAt_24
def rmX4_empty : Room := { frames := 0, cells := 0, slots := 0, locals := 0 }
def wp_X4_empty (n : zN)  (Q : zN → Prop) : Prop := (Q (nSetSize n 0))
set_option maxHeartbeats 4000000 in
set_option maxRecDepth 100000 in
theorem met_X4_empty (l : Launch) (D : va_G) (cI : ClassId) (an : Nat) (cn : Nat) (n : zN)  (Q : zN → Prop) (hw : wp_X4_empty n Q) : ZM l D cI yX4_empty cX4_empty 1 none rmX4_empty [.ref an] [(wN cI an cn n)] (fun _ : zN => none) (fun u : zN => [(wN cI an cn u)]) (fun u : zN => Q u) := by
  refine z_body [some (.ref an)] (by decide +kernel) rfl (Nat.le_of_ble_eq_true rfl) rfl ?_
  intro p e s m args below meth c A C hin
  unfold wp_X4_empty at hw
  refine z_aload_n C dX4_empty_0 rfl ?_
  refine z_iconst C dX4_empty_1 0 (by decide) ?_
  refine z_put C inlX4 rfl tyX4 tyX4_ok nmX4 1 (by decide) mw_3_14 rfl rfl rfl rfl dX4_empty_2 0 0 rfl rfl (Nat.le_of_ble_eq_true rfl) [(wN cI an cn (nSetSize n 0))] rfl ?_
  exact z_vret C rfl ((nSetSize n 0)) rfl hw rfl dX4_empty_5
def rmX4_copyNumbers : Room := { frames := 1, cells := 0, slots := 0, locals := 24 }
def lb_X4_copyNumbers_23 (n : zN) (o : zN) (v2 : Int32)  (Q : zN → Prop)  (K23 : (Int32) → (Nat → Int32) → Prop) (v3 : Int32) (w0Row : Nat → Int32) : Prop := ((v2 ≤ v3 → (Q (nSetSize (nSetRow n w0Row) v2))) ∧ (¬ v2 ≤ v3 → (vp_in v3 (nCap o) ∧ (vp_in v3 (nCap n) ∧ (K23 (v3 + 1) (upd w0Row v3.toNatClampNeg ((nRow o) v3.toNatClampNeg)))))))
set_option maxHeartbeats 4000000 in
set_option maxRecDepth 100000 in
theorem wk_X4_copyNumbers_23 {p : Program} {l : Launch} {e : Env} {s : State} {m : MethodId} {args : Array Value} {below : List Frame} {meth : Method} {c : Code} {D : va_G} {cI : ClassId} {A : Nat → Prop} (C : ZC p s m args meth c RX4 cX4_copyNumbers 4 none D cI A) (an : Nat) (cn : Nat) (ao : Nat) (co : Nat) (n : zN) (o : zN) (v2 : Int32)  (v3 : Int32) (w0Row : Nat → Int32) (Q : zN → Prop)  (hw : zLoop2 (lb_X4_copyNumbers_23 n o v2  Q ) v3 w0Row) : ZZ p l e rmX4_copyNumbers s m args below meth c D A 4 0 0 (MQ below (ZQ D A (fun _ : zN => none) (fun u : zN => [(wN cI an cn u), (wN cI ao co o)]) (fun u : zN => Q u)) args s rmX4_copyNumbers.cells rmX4_copyNumbers.slots A) [(wN cI an cn (nSetRow n w0Row)), (wN cI ao co o)] 23 [some (.ref an), some (.ref ao), some (.int v2), some (.int v3)] [] := by
  refine zLoop2_w (fun (v3 : Int32) (w0Row : Nat → Int32) => ZZ p l e rmX4_copyNumbers s m args below meth c D A 4 0 0 (MQ below (ZQ D A (fun _ : zN => none) (fun u : zN => [(wN cI an cn u), (wN cI ao co o)]) (fun u : zN => Q u)) args s rmX4_copyNumbers.cells rmX4_copyNumbers.slots A) [(wN cI an cn (nSetRow n w0Row)), (wN cI ao co o)] 23 [some (.ref an), some (.ref ao), some (.int v2), some (.int v3)] []) ?_ _ _ hw
  clear hw
  intro K23 hK23 v3 w0Row hw
  unfold lb_X4_copyNumbers_23 at hw
  refine z_iload_n C dX4_copyNumbers_23 rfl ?_
  refine z_iload_n C dX4_copyNumbers_24 rfl ?_
  refine z_icmp_ge C dX4_copyNumbers_25 46 (by decide) (fun c2 => ?_) (fun c2 => ?_)
  · replace hw := hw.1 c2
    refine z_aload_n C dX4_copyNumbers_46 rfl ?_
    refine z_iload_n C dX4_copyNumbers_47 rfl ?_
    refine z_put C inlX4 rfl tyX4 tyX4_ok nmX4 1 (by decide) mw_3_14 rfl rfl rfl rfl dX4_copyNumbers_48 0 0 rfl rfl (Nat.le_of_ble_eq_true rfl) [(wN cI an cn (nSetSize (nSetRow n w0Row) v2)), (wN cI ao co o)] rfl ?_
    exact z_vret C rfl ((nSetSize (nSetRow n w0Row) v2)) rfl hw rfl dX4_copyNumbers_51
  · replace hw := hw.2 c2
    refine z_aload_n C dX4_copyNumbers_28 rfl ?_
    refine z_get C inlX4 rfl 0 (by decide) mw_3_13 dX4_copyNumbers_29 0 0 rfl rfl rfl ?_
    refine z_iload_n C dX4_copyNumbers_32 rfl ?_
    refine z_aload_n C dX4_copyNumbers_33 rfl ?_
    refine z_get C inlX4 rfl 0 (by decide) mw_3_13 dX4_copyNumbers_34 1 0 rfl rfl rfl ?_
    refine z_iload_n C dX4_copyNumbers_37 rfl ?_
    refine z_iald C dX4_copyNumbers_38 1 1 rfl rfl hw.1 ?_
    replace hw := hw.2
    refine z_iast C dX4_copyNumbers_39 0 1 rfl rfl hw.1 [(wN cI an cn (nSetRow n (upd w0Row v3.toNatClampNeg ((nRow o) v3.toNatClampNeg)))), (wN cI ao co o)] rfl ?_
    replace hw := hw.2
    refine z_iinc C dX4_copyNumbers_40 rfl (v3 + 1) (by rfl) [some (.ref an), some (.ref ao), some (.int v2), some (.int (v3 + 1))] (by decide) rfl ?_
    refine z_goto C dX4_copyNumbers_43 23 (by decide) ?_
    exact hK23 _ _ hw
def wp_X4_copyNumbers (n : zN) (o : zN)  (Q : zN → Prop) : Prop := (∀ x1 : Int32, x1 = (if (if (nI (nCap n)) < (nI (nCap o)) then (nI (nCap n)) else (nI (nCap o))) < (nSize o) then (if (nI (nCap n)) < (nI (nCap o)) then (nI (nCap n)) else (nI (nCap o))) else (nSize o)) → (zLoop2 (lb_X4_copyNumbers_23 n o x1  Q ) 0 (nRow n)))
set_option maxHeartbeats 4000000 in
set_option maxRecDepth 100000 in
theorem met_X4_copyNumbers (l : Launch) (D : va_G) (cI : ClassId) (an : Nat) (cn : Nat) (ao : Nat) (co : Nat) (n : zN) (o : zN)  (Q : zN → Prop) (hw : wp_X4_copyNumbers n o Q) : ZM l D cI yX4_copyNumbers cX4_copyNumbers 4 none rmX4_copyNumbers [.ref an, .ref ao] [(wN cI an cn n), (wN cI ao co o)] (fun _ : zN => none) (fun u : zN => [(wN cI an cn u), (wN cI ao co o)]) (fun u : zN => Q u) := by
  refine z_body [some (.ref an), some (.ref ao), none, none] (by decide +kernel) rfl (Nat.le_of_ble_eq_true rfl) rfl ?_
  intro p e s m args below meth c A C hin
  unfold wp_X4_copyNumbers at hw
  refine z_aload_n C dX4_copyNumbers_0 rfl ?_
  refine z_get C inlX4 rfl 1 (by decide) mw_3_14 dX4_copyNumbers_1 1 0 rfl rfl rfl ?_
  refine z_aload_n C dX4_copyNumbers_4 rfl ?_
  refine z_get C inlX4 rfl 0 (by decide) mw_3_13 dX4_copyNumbers_5 1 0 rfl rfl rfl ?_
  refine z_alen C dX4_copyNumbers_8 1 1 rfl rfl (nI (nCap o)) rfl ?_
  refine z_aload_n C dX4_copyNumbers_9 rfl ?_
  refine z_get C inlX4 rfl 0 (by decide) mw_3_13 dX4_copyNumbers_10 0 0 rfl rfl rfl ?_
  refine z_alen C dX4_copyNumbers_13 0 1 rfl rfl (nI (nCap n)) rfl ?_
  refine z_mmin C mw_6_3 mw_6_4 mw_3_10 mw_6_5 (Nat.le_of_ble_eq_true rfl) (Nat.le_of_ble_eq_true rfl) ⟨Nat.le_of_ble_eq_true rfl, Nat.le_of_ble_eq_true rfl⟩ dX4_copyNumbers_14 ?_
  refine z_mmin C mw_6_3 mw_6_4 mw_3_10 mw_6_5 (Nat.le_of_ble_eq_true rfl) (Nat.le_of_ble_eq_true rfl) ⟨Nat.le_of_ble_eq_true rfl, Nat.le_of_ble_eq_true rfl⟩ dX4_copyNumbers_17 ?_
  refine z_name C (fun x1 ex1 => ?_)
  replace hw := hw x1 ex1
  refine z_istore_n C dX4_copyNumbers_20 [some (.ref an), some (.ref ao), some (.int x1), none] (by decide) rfl ?_
  refine z_iconst C dX4_copyNumbers_21 0 (by decide) ?_
  refine z_istore_n C dX4_copyNumbers_22 [some (.ref an), some (.ref ao), some (.int x1), some (.int 0)] (by decide) rfl ?_
  exact wk_X4_copyNumbers_23 C an cn ao co n o x1  0 (nRow n) _  hw
def rmX4_isSameAs : Room := { frames := 1, cells := 0, slots := 0, locals := 21 }
def lb_X4_isSameAs_15 (n : zN) (o : zN)   (Q : Int32 → Prop)  (K15 : (Int32) → Prop) (v2 : Int32) : Prop := (((nSize n) ≤ v2 → (Q 1)) ∧ (¬ (nSize n) ≤ v2 → (wp_X4_at n v2 (fun r3 => (wp_X4_at o v2 (fun r4 => ((r3 = r4 → (K15 (v2 + 1))) ∧ (¬ r3 = r4 → (Q 0)))))))))
set_option maxHeartbeats 4000000 in
set_option maxRecDepth 100000 in
theorem wk_X4_isSameAs_15 {p : Program} {l : Launch} {e : Env} {s : State} {m : MethodId} {args : Array Value} {below : List Frame} {meth : Method} {c : Code} {D : va_G} {cI : ClassId} {A : Nat → Prop} (C : ZC p s m args meth c RX4 cX4_isSameAs 3 (some .boolean) D cI A) (an : Nat) (cn : Nat) (ao : Nat) (co : Nat) (n : zN) (o : zN)   (v2 : Int32) (Q : Int32 → Prop)  (hw : zLoop1 (lb_X4_isSameAs_15 n o   Q ) v2) : ZZ p l e rmX4_isSameAs s m args below meth c D A 3 0 0 (MQ below (ZQ D A (fun u : Int32 => some (.int u)) (fun u : Int32 => [(wN cI an cn n), (wN cI ao co o)]) (fun u : Int32 => Q u)) args s rmX4_isSameAs.cells rmX4_isSameAs.slots A) [(wN cI an cn n), (wN cI ao co o)] 15 [some (.ref an), some (.ref ao), some (.int v2)] [] := by
  refine zLoop1_w (fun (v2 : Int32) => ZZ p l e rmX4_isSameAs s m args below meth c D A 3 0 0 (MQ below (ZQ D A (fun u : Int32 => some (.int u)) (fun u : Int32 => [(wN cI an cn n), (wN cI ao co o)]) (fun u : Int32 => Q u)) args s rmX4_isSameAs.cells rmX4_isSameAs.slots A) [(wN cI an cn n), (wN cI ao co o)] 15 [some (.ref an), some (.ref ao), some (.int v2)] []) ?_ _ hw
  clear hw
  intro K15 hK15 v2 hw
  unfold lb_X4_isSameAs_15 at hw
  refine z_iload_n C dX4_isSameAs_15 rfl ?_
  refine z_aload_n C dX4_isSameAs_16 rfl ?_
  refine z_get C inlX4 rfl 1 (by decide) mw_3_14 dX4_isSameAs_17 0 0 rfl rfl rfl ?_
  refine z_icmp_ge C dX4_isSameAs_20 44 (by decide) (fun c2 => ?_) (fun c2 => ?_)
  · replace hw := hw.1 c2
    refine z_iconst C dX4_isSameAs_44 1 (by decide) ?_
    exact z_zret C rfl (by decide) (1 : Int32) rfl hw rfl dX4_isSameAs_45
  · replace hw := hw.2 c2
    refine z_aload_n C dX4_isSameAs_23 rfl ?_
    refine z_iload_n C dX4_isSameAs_24 rfl ?_
    refine z_callV0 C [(wN cI an cn n)] [(wN cI ao co o)] rfl rfl (met_X4_at l D cI an cn n v2 _ hw) y_X4_at mw_19_17 dX4_isSameAs_25 rfl n_X4_at rfl (by decide) ⟨rfl, rfl, Nat.le_of_ble_eq_true rfl, Nat.le_of_ble_eq_true rfl⟩ (Nat.le_of_ble_eq_true rfl) (z_pm [0, 1] 2 rfl (by decide) rfl) ?_
    intro r3 hw
    try dsimp only at hw
    refine z_bs [(wN cI an cn n), (wN cI ao co o)] [.int r3] rfl rfl ?_
    refine z_aload_n C dX4_isSameAs_28 rfl ?_
    refine z_iload_n C dX4_isSameAs_29 rfl ?_
    refine z_callV0 C [(wN cI ao co o)] [(wN cI an cn n)] rfl rfl (met_X4_at l D cI ao co o v2 _ hw) y_X4_at mw_19_17 dX4_isSameAs_30 rfl n_X4_at rfl (by decide) ⟨rfl, rfl, Nat.le_of_ble_eq_true rfl, Nat.le_of_ble_eq_true rfl⟩ (Nat.le_of_ble_eq_true rfl) (z_pm [1, 0] 2 rfl (by decide) rfl) ?_
    intro r4 hw
    try dsimp only at hw
    refine z_bs [(wN cI ao co o), (wN cI an cn n)] [.int r4, .int r3] rfl rfl ?_
    refine z_perm C [(wN cI an cn n), (wN cI ao co o)] (z_pm [1, 0] 2 rfl (by decide) rfl) ?_
    refine z_icmp_eq C dX4_isSameAs_33 38 (by decide) (fun c5 => ?_) (fun c5 => ?_)
    · replace hw := hw.1 c5
      refine z_iinc C dX4_isSameAs_38 rfl (v2 + 1) (by rfl) [some (.ref an), some (.ref ao), some (.int (v2 + 1))] (by decide) rfl ?_
      refine z_goto C dX4_isSameAs_41 15 (by decide) ?_
      exact hK15 _ hw
    · replace hw := hw.2 c5
      refine z_iconst C dX4_isSameAs_36 0 (by decide) ?_
      exact z_zret C rfl (by decide) (0 : Int32) rfl hw rfl dX4_isSameAs_37
def wp_X4_isSameAs (n : zN) (o : zN)  (Q : Int32 → Prop) : Prop := (((nSize n) = (nSize o) → (zLoop1 (lb_X4_isSameAs_15 n o   Q ) 0)) ∧ (¬ (nSize n) = (nSize o) → (Q 0)))
set_option maxHeartbeats 4000000 in
set_option maxRecDepth 100000 in
theorem met_X4_isSameAs (l : Launch) (D : va_G) (cI : ClassId) (an : Nat) (cn : Nat) (ao : Nat) (co : Nat) (n : zN) (o : zN)  (Q : Int32 → Prop) (hw : wp_X4_isSameAs n o Q) : ZM l D cI yX4_isSameAs cX4_isSameAs 3 (some .boolean) rmX4_isSameAs [.ref an, .ref ao] [(wN cI an cn n), (wN cI ao co o)] (fun u : Int32 => some (.int u)) (fun u : Int32 => [(wN cI an cn n), (wN cI ao co o)]) (fun u : Int32 => Q u) := by
  refine z_body [some (.ref an), some (.ref ao), none] (by decide +kernel) rfl (Nat.le_of_ble_eq_true rfl) rfl ?_
  intro p e s m args below meth c A C hin
  unfold wp_X4_isSameAs at hw
  refine z_aload_n C dX4_isSameAs_0 rfl ?_
  refine z_get C inlX4 rfl 1 (by decide) mw_3_14 dX4_isSameAs_1 0 0 rfl rfl rfl ?_
  refine z_aload_n C dX4_isSameAs_4 rfl ?_
  refine z_get C inlX4 rfl 1 (by decide) mw_3_14 dX4_isSameAs_5 1 0 rfl rfl rfl ?_
  refine z_icmp_eq C dX4_isSameAs_8 13 (by decide) (fun c1 => ?_) (fun c1 => ?_)
  · replace hw := hw.1 c1
    refine z_iconst C dX4_isSameAs_13 0 (by decide) ?_
    refine z_istore_n C dX4_isSameAs_14 [some (.ref an), some (.ref ao), some (.int 0)] (by decide) rfl ?_
    exact wk_X4_isSameAs_15 C an cn ao co n o   0 _  hw
  · replace hw := hw.2 c1
    refine z_iconst C dX4_isSameAs_11 0 (by decide) ?_
    exact z_zret C rfl (by decide) (0 : Int32) rfl hw rfl dX4_isSameAs_12
def rmX0_passThrough : Room := { frames := 1, cells := 0, slots := 0, locals := 28 }
def lb_X0_passThrough_4 (n : zN) (p2 : Int32)   (Q : Int32 → zN → Prop)  (K4 : (Int32) → (Int32) → (zN) → Prop) (v2 : Int32) (v3 : Int32) (w0 : zN) : Prop := (((f_X4_size w0) ≤ v3 → (Q v2 w0)) ∧ (¬ (f_X4_size w0) ≤ v3 → (wp_X4_at w0 v3 (fun r2 => (wp_X4_put w0 v3 (f_X0_reshaped r2 v2) (fun u3 => (∀ x4 : Int32, x4 = (f_X0_reshaped v2 r2) → (K4 x4 (v3 + 1) u3))))))))
set_option maxHeartbeats 4000000 in
set_option maxRecDepth 100000 in
theorem wk_X0_passThrough_4 {p : Program} {l : Launch} {e : Env} {s : State} {m : MethodId} {args : Array Value} {below : List Frame} {meth : Method} {c : Code} {D : va_G} {cI : ClassId} {A : Nat → Prop} (C : ZC p s m args meth c RX0 cX0_passThrough 5 (some .int) D cI A) (an : Nat) (cn : Nat) (n : zN) (p2 : Int32)   (v2 : Int32) (v3 : Int32) (w0 : zN) (Q : Int32 → zN → Prop)  (hw : zLoop3 (lb_X0_passThrough_4 n p2   Q ) v2 v3 w0) : ZZ p l e rmX0_passThrough s m args below meth c D A 5 0 0 (MQ below (ZQ D A (fun u : Int32 × zN => some (.int u.1)) (fun u : Int32 × zN => [(wN cI an cn (u.2))]) (fun u : Int32 × zN => Q u.1 u.2)) args s rmX0_passThrough.cells rmX0_passThrough.slots A) [(wN cI an cn w0)] 4 [some (.ref an), none, some (.int v2), some (.int v3), none] [] := by
  refine zLoop3_w (fun (v2 : Int32) (v3 : Int32) (w0 : zN) => ZZ p l e rmX0_passThrough s m args below meth c D A 5 0 0 (MQ below (ZQ D A (fun u : Int32 × zN => some (.int u.1)) (fun u : Int32 × zN => [(wN cI an cn (u.2))]) (fun u : Int32 × zN => Q u.1 u.2)) args s rmX0_passThrough.cells rmX0_passThrough.slots A) [(wN cI an cn w0)] 4 [some (.ref an), none, some (.int v2), some (.int v3), none] []) ?_ _ _ _ hw
  clear hw
  intro K4 hK4 v2 v3 w0 hw
  unfold lb_X0_passThrough_4 at hw
  refine z_iload_n C dX0_passThrough_4 rfl ?_
  refine z_aload_n C dX0_passThrough_5 rfl ?_
  refine z_callFV C [(wN cI an cn w0)] [] rfl rfl (met_X4_size l D cI an cn w0) y_X4_size mw_11_0 dX0_passThrough_6 rfl n_X4_size rfl (by decide) ⟨rfl, rfl, Nat.le_of_ble_eq_true rfl, Nat.le_of_ble_eq_true rfl⟩ (Nat.le_of_ble_eq_true rfl) (z_pm [0] 1 rfl (by decide) rfl) ?_
  refine z_icmp_ge C dX0_passThrough_9 43 (by decide) (fun c1 => ?_) (fun c1 => ?_)
  · replace hw := hw.1 c1
    refine z_iload_n C dX0_passThrough_43 rfl ?_
    exact z_iret C rfl (v2, w0) rfl hw rfl dX0_passThrough_44
  · replace hw := hw.2 c1
    refine z_aload_n C dX0_passThrough_12 rfl ?_
    refine z_iload_n C dX0_passThrough_13 rfl ?_
    refine z_callV0 C [(wN cI an cn w0)] [] rfl rfl (met_X4_at l D cI an cn w0 v3 _ hw) y_X4_at mw_11_1 dX0_passThrough_14 rfl n_X4_at rfl (by decide) ⟨rfl, rfl, Nat.le_of_ble_eq_true rfl, Nat.le_of_ble_eq_true rfl⟩ (Nat.le_of_ble_eq_true rfl) (z_pm [0] 1 rfl (by decide) rfl) ?_
    intro r2 hw
    try dsimp only at hw
    refine z_bs [(wN cI an cn w0)] [.int r2] rfl rfl ?_
    refine z_istore C dX0_passThrough_17 [some (.ref an), none, some (.int v2), some (.int v3), some (.int r2)] (by decide) rfl ?_
    refine z_aload_n C dX0_passThrough_19 rfl ?_
    refine z_iload_n C dX0_passThrough_20 rfl ?_
    refine z_iload C dX0_passThrough_21 rfl ?_
    refine z_iload_n C dX0_passThrough_23 rfl ?_
    refine z_callFS C [] [(wN cI an cn w0)] (met_X0_reshaped l D cI r2 v2) y_X0_reshaped mw_11_2 dX0_passThrough_24 rfl n_X0_reshaped rfl (by decide) ⟨rfl, rfl, Nat.le_of_ble_eq_true rfl, Nat.le_of_ble_eq_true rfl⟩ (Nat.le_of_ble_eq_true rfl) (z_pm [0] 1 rfl (by decide) rfl) ?_
    refine z_callV0 C [(wN cI an cn w0)] [] rfl rfl (met_X4_put l D cI an cn w0 v3 (f_X0_reshaped r2 v2) _ hw) y_X4_put mw_11_3 dX0_passThrough_27 rfl n_X4_put rfl (by decide) ⟨rfl, rfl, Nat.le_of_ble_eq_true rfl, Nat.le_of_ble_eq_true rfl⟩ (Nat.le_of_ble_eq_true rfl) (z_pm [0] 1 rfl (by decide) rfl) ?_
    intro u3 hw
    try dsimp only at hw
    refine z_bs [(wN cI an cn u3)] [] rfl rfl ?_
    refine z_iload_n C dX0_passThrough_30 rfl ?_
    refine z_iload C dX0_passThrough_31 rfl ?_
    refine z_callFS C [] [(wN cI an cn u3)] (met_X0_reshaped l D cI v2 r2) y_X0_reshaped mw_11_2 dX0_passThrough_33 rfl n_X0_reshaped rfl (by decide) ⟨rfl, rfl, Nat.le_of_ble_eq_true rfl, Nat.le_of_ble_eq_true rfl⟩ (Nat.le_of_ble_eq_true rfl) (z_pm [0] 1 rfl (by decide) rfl) ?_
    refine z_name C (fun x4 ex4 => ?_)
    replace hw := hw x4 ex4
    refine z_istore_n C dX0_passThrough_36 [some (.ref an), none, some (.int x4), some (.int v3), some (.int r2)] (by decide) rfl ?_
    refine z_iinc C dX0_passThrough_37 rfl (v3 + 1) (by rfl) [some (.ref an), none, some (.int x4), some (.int (v3 + 1)), some (.int r2)] (by decide) rfl ?_
    refine z_goto C dX0_passThrough_40 4 (by decide) ?_
    refine z_ls C [true, false, true, true, false] [some (.ref an), none, some (.int x4), some (.int (v3 + 1)), none] rfl ?_
    exact hK4 _ _ _ hw
def wp_X0_passThrough (n : zN) (p2 : Int32) (Q : Int32 → zN → Prop) : Prop := (zLoop3 (lb_X0_passThrough_4 n p2   Q ) p2 0 n)
set_option maxHeartbeats 4000000 in
set_option maxRecDepth 100000 in
theorem met_X0_passThrough (l : Launch) (D : va_G) (cI : ClassId) (an : Nat) (cn : Nat) (n : zN) (p2 : Int32) (Q : Int32 → zN → Prop) (hw : wp_X0_passThrough n p2 Q) : ZM l D cI yX0_passThrough cX0_passThrough 5 (some .int) rmX0_passThrough [.ref an, .int p2] [(wN cI an cn n)] (fun u : Int32 × zN => some (.int u.1)) (fun u : Int32 × zN => [(wN cI an cn (u.2))]) (fun u : Int32 × zN => Q u.1 u.2) := by
  refine z_body [some (.ref an), some (.int p2), none, none, none] (by decide +kernel) rfl (Nat.le_of_ble_eq_true rfl) rfl ?_
  intro p e s m args below meth c A C hin
  unfold wp_X0_passThrough at hw
  refine z_iload_n C dX0_passThrough_0 rfl ?_
  refine z_istore_n C dX0_passThrough_1 [some (.ref an), some (.int p2), some (.int p2), none, none] (by decide) rfl ?_
  refine z_iconst C dX0_passThrough_2 0 (by decide) ?_
  refine z_istore_n C dX0_passThrough_3 [some (.ref an), some (.int p2), some (.int p2), some (.int 0), none] (by decide) rfl ?_
  refine z_ls C [true, false, true, true, false] [some (.ref an), none, some (.int p2), some (.int 0), none] rfl ?_
  exact wk_X0_passThrough_4 C an cn n p2   p2 0 n _  hw
end
section
/-! printed by wip/whole/gen.py: what each method does, and that the machine does it -/
def rmX2_canSend : Room := { frames := 1, cells := 0, slots := 0, locals := 20 }
def f_X2_canSend (ed : zE)  : Int32 := (if (f_X4_size (eWait ed)) ≤ 0 then 0 else (if (eUw ed) = 0 then 1 else 0))
set_option maxHeartbeats 4000000 in
set_option maxRecDepth 100000 in
theorem met_X2_canSend (l : Launch) (D : va_G) (cI : ClassId) (ged : Nat → Nat) (ed : zE)  : ZM l D cI yX2_canSend cX2_canSend 1 (some .boolean) rmX2_canSend [.ref (ged 0)] [(wE cI ged ed)] (fun _ : Unit => some (.int (f_X2_canSend ed))) (fun _ : Unit => [(wE cI ged ed)]) (fun _ : Unit => True) := by
  refine z_body [some (.ref (ged 0))] (by decide +kernel) rfl (Nat.le_of_ble_eq_true rfl) rfl ?_
  intro p e s m args below meth c A C hin
  refine z_aload_n C dX2_canSend_0 rfl ?_
  refine z_get C inlX2 rfl 2 (by decide) mw_3_2 dX2_canSend_1 0 0 rfl rfl rfl ?_
  refine z_open 0 [(wEo ged ed), (wN cI (ged 1) (ged 2) (eCopy ed)), (wN cI (ged 3) (ged 4) (eWait ed)), (wN cI (ged 5) (ged 6) (eBacks ed))] [(wEo ged ed), (wN cI (ged 1) (ged 2) (eCopy ed)), (wN cI (ged 3) (ged 4) (eWait ed)), (wN cI (ged 5) (ged 6) (eBacks ed))] rfl rfl rfl ?_
  refine z_callFV C [(wN cI (ged 3) (ged 4) (eWait ed))] [(wEo ged ed), (wN cI (ged 1) (ged 2) (eCopy ed)), (wN cI (ged 5) (ged 6) (eBacks ed))] rfl rfl (met_X4_size l D cI (ged 3) (ged 4) (eWait ed)) y_X4_size mw_6_21 dX2_canSend_4 rfl n_X4_size rfl (by decide) ⟨rfl, rfl, Nat.le_of_ble_eq_true rfl, Nat.le_of_ble_eq_true rfl⟩ (Nat.le_of_ble_eq_true rfl) (z_pm [2, 0, 1, 3] 4 rfl (by decide) rfl) ?_
  refine z_shut 0 [(wEo ged ed), (wN cI (ged 1) (ged 2) (eCopy ed)), (wN cI (ged 3) (ged 4) (eWait ed)), (wN cI (ged 5) (ged 6) (eBacks ed))] [(wE cI ged ed)] rfl rfl rfl ?_
  refine z_if_le C dX2_canSend_7 21 (by decide) (fun c1 => ?_) (fun c1 => ?_)
  · refine z_iconst C dX2_canSend_21 0 (by decide) ?_
    exact z_zret C rfl (by decide) () (by rw [f_X2_canSend, if_pos c1]) trivial rfl dX2_canSend_22
  · refine z_aload_n C dX2_canSend_10 rfl ?_
    refine z_get C inlX2 rfl 4 (by decide) mw_5_19 dX2_canSend_11 0 0 rfl rfl rfl ?_
    refine z_if_ne C dX2_canSend_14 21 (by decide) (fun c2 => ?_) (fun c2 => ?_)
    · refine z_iconst C dX2_canSend_21 0 (by decide) ?_
      exact z_zret C rfl (by decide) () (by rw [f_X2_canSend, if_neg c1, if_neg c2]) trivial rfl dX2_canSend_22
    · refine z_iconst C dX2_canSend_17 1 (by decide) ?_
      refine z_goto C dX2_canSend_18 22 (by decide) ?_
      exact z_zret C rfl (by decide) () (by rw [f_X2_canSend, if_neg c1, if_pos c2]) trivial rfl dX2_canSend_22
def rmX2_isSettled : Room := { frames := 1, cells := 0, slots := 0, locals := 20 }
def f_X2_isSettled (ed : zE) (o : zN)  : Int32 := (if (f_X4_size (eWait ed)) = 0 then (if (eHeard ed) < (f_X4_size o) then 0 else 1) else 0)
set_option maxHeartbeats 4000000 in
set_option maxRecDepth 100000 in
theorem met_X2_isSettled (l : Launch) (D : va_G) (cI : ClassId) (ged : Nat → Nat) (ao : Nat) (co : Nat) (ed : zE) (o : zN)  : ZM l D cI yX2_isSettled cX2_isSettled 2 (some .boolean) rmX2_isSettled [.ref (ged 0), .ref ao] [(wE cI ged ed), (wN cI ao co o)] (fun _ : Unit => some (.int (f_X2_isSettled ed o))) (fun _ : Unit => [(wE cI ged ed), (wN cI ao co o)]) (fun _ : Unit => True) := by
  refine z_body [some (.ref (ged 0)), some (.ref ao)] (by decide +kernel) rfl (Nat.le_of_ble_eq_true rfl) rfl ?_
  intro p e s m args below meth c A C hin
  refine z_aload_n C dX2_isSettled_0 rfl ?_
  refine z_get C inlX2 rfl 2 (by decide) mw_3_2 dX2_isSettled_1 0 0 rfl rfl rfl ?_
  refine z_open 0 [(wEo ged ed), (wN cI (ged 1) (ged 2) (eCopy ed)), (wN cI (ged 3) (ged 4) (eWait ed)), (wN cI (ged 5) (ged 6) (eBacks ed))] [(wEo ged ed), (wN cI (ged 1) (ged 2) (eCopy ed)), (wN cI (ged 3) (ged 4) (eWait ed)), (wN cI (ged 5) (ged 6) (eBacks ed)), (wN cI ao co o)] rfl rfl rfl ?_
  refine z_callFV C [(wN cI (ged 3) (ged 4) (eWait ed))] [(wEo ged ed), (wN cI (ged 1) (ged 2) (eCopy ed)), (wN cI (ged 5) (ged 6) (eBacks ed)), (wN cI ao co o)] rfl rfl (met_X4_size l D cI (ged 3) (ged 4) (eWait ed)) y_X4_size mw_6_21 dX2_isSettled_4 rfl n_X4_size rfl (by decide) ⟨rfl, rfl, Nat.le_of_ble_eq_true rfl, Nat.le_of_ble_eq_true rfl⟩ (Nat.le_of_ble_eq_true rfl) (z_pm [2, 0, 1, 3, 4] 5 rfl (by decide) rfl) ?_
  refine z_shut 0 [(wEo ged ed), (wN cI (ged 1) (ged 2) (eCopy ed)), (wN cI (ged 3) (ged 4) (eWait ed)), (wN cI (ged 5) (ged 6) (eBacks ed))] [(wE cI ged ed), (wN cI ao co o)] rfl rfl rfl ?_
  refine z_if_ne C dX2_isSettled_7 25 (by decide) (fun c1 => ?_) (fun c1 => ?_)
  · refine z_iconst C dX2_isSettled_25 0 (by decide) ?_
    exact z_zret C rfl (by decide) () (by rw [f_X2_isSettled, if_neg c1]) trivial rfl dX2_isSettled_26
  · refine z_aload_n C dX2_isSettled_10 rfl ?_
    refine z_get C inlX2 rfl 5 (by decide) mw_5_20 dX2_isSettled_11 0 0 rfl rfl rfl ?_
    refine z_aload_n C dX2_isSettled_14 rfl ?_
    refine z_callFV C [(wN cI ao co o)] [(wE cI ged ed)] rfl rfl (met_X4_size l D cI ao co o) y_X4_size mw_6_21 dX2_isSettled_15 rfl n_X4_size rfl (by decide) ⟨rfl, rfl, Nat.le_of_ble_eq_true rfl, Nat.le_of_ble_eq_true rfl⟩ (Nat.le_of_ble_eq_true rfl) (z_pm [1, 0] 2 rfl (by decide) rfl) ?_
    refine z_icmp_lt C dX2_isSettled_18 25 (by decide) (fun c2 => ?_) (fun c2 => ?_)
    · refine z_iconst C dX2_isSettled_25 0 (by decide) ?_
      exact z_zret C rfl (by decide) () (by rw [f_X2_isSettled, if_pos c1, if_pos c2]) trivial rfl dX2_isSettled_26
    · refine z_iconst C dX2_isSettled_21 1 (by decide) ?_
      refine z_goto C dX2_isSettled_22 26 (by decide) ?_
      exact z_zret C rfl (by decide) () (by rw [f_X2_isSettled, if_pos c1, if_neg c2]) trivial rfl dX2_isSettled_26
def rmX2_apply : Room := { frames := 1, cells := 0, slots := 0, locals := 28 }
def lb_X2_apply_90 (ed : zE) (p1 : Int32) (w0Spot : Int32) (w0Copy : zN)  (Q : zE → Prop)  (K90 : (Int32) → (zN) → Prop) (v4 : Int32) (w0Backs : zN) : Prop := (((f_X4_size w0Backs) ≤ v4 → (Q (eSetBacks (eSetCopy (eSetSpot ed w0Spot) w0Copy) w0Backs))) ∧ (¬ (f_X4_size w0Backs) ≤ v4 → (wp_X4_at w0Backs v4 (fun r6 => (wp_X4_put w0Backs v4 (f_X0_reshaped r6 p1) (fun u7 => (K90 (v4 + 1) u7)))))))
set_option maxHeartbeats 4000000 in
set_option maxRecDepth 100000 in
theorem wk_X2_apply_90 {p : Program} {l : Launch} {e : Env} {s : State} {m : MethodId} {args : Array Value} {below : List Frame} {meth : Method} {c : Code} {D : va_G} {cI : ClassId} {A : Nat → Prop} (C : ZC p s m args meth c RX2 cX2_apply 5 none D cI A) (ged : Nat → Nat) (ed : zE) (p1 : Int32) (w0Spot : Int32) (w0Copy : zN)  (v4 : Int32) (w0Backs : zN) (Q : zE → Prop)  (hw : zLoop2 (lb_X2_apply_90 ed p1 w0Spot w0Copy  Q ) v4 w0Backs) : ZZ p l e rmX2_apply s m args below meth c D A 5 0 0 (MQ below (ZQ D A (fun _ : zE => none) (fun u : zE => [(wE cI ged u)]) (fun u : zE => Q u)) args s rmX2_apply.cells rmX2_apply.slots A) [(wE cI ged (eSetBacks (eSetCopy (eSetSpot ed w0Spot) w0Copy) w0Backs))] 90 [some (.ref (ged 0)), some (.int p1), none, none, some (.int v4)] [] := by
  refine zLoop2_w (fun (v4 : Int32) (w0Backs : zN) => ZZ p l e rmX2_apply s m args below meth c D A 5 0 0 (MQ below (ZQ D A (fun _ : zE => none) (fun u : zE => [(wE cI ged u)]) (fun u : zE => Q u)) args s rmX2_apply.cells rmX2_apply.slots A) [(wE cI ged (eSetBacks (eSetCopy (eSetSpot ed w0Spot) w0Copy) w0Backs))] 90 [some (.ref (ged 0)), some (.int p1), none, none, some (.int v4)] []) ?_ _ _ hw
  clear hw
  intro K90 hK90 v4 w0Backs hw
  unfold lb_X2_apply_90 at hw
  refine z_iload C dX2_apply_90 rfl ?_
  refine z_aload_n C dX2_apply_92 rfl ?_
  refine z_get C inlX2 rfl 3 (by decide) mw_3_3 dX2_apply_93 0 0 rfl rfl rfl ?_
  refine z_open 0 [(wEo ged (eSetBacks (eSetCopy (eSetSpot ed w0Spot) w0Copy) w0Backs)), (wN cI (ged 1) (ged 2) w0Copy), (wN cI (ged 3) (ged 4) (eWait ed)), (wN cI (ged 5) (ged 6) w0Backs)] [(wEo ged (eSetBacks (eSetCopy (eSetSpot ed w0Spot) w0Copy) w0Backs)), (wN cI (ged 1) (ged 2) w0Copy), (wN cI (ged 3) (ged 4) (eWait ed)), (wN cI (ged 5) (ged 6) w0Backs)] rfl rfl rfl ?_
  refine z_callFV C [(wN cI (ged 5) (ged 6) w0Backs)] [(wEo ged (eSetBacks (eSetCopy (eSetSpot ed w0Spot) w0Copy) w0Backs)), (wN cI (ged 1) (ged 2) w0Copy), (wN cI (ged 3) (ged 4) (eWait ed))] rfl rfl (met_X4_size l D cI (ged 5) (ged 6) w0Backs) y_X4_size mw_6_21 dX2_apply_96 rfl n_X4_size rfl (by decide) ⟨rfl, rfl, Nat.le_of_ble_eq_true rfl, Nat.le_of_ble_eq_true rfl⟩ (Nat.le_of_ble_eq_true rfl) (z_pm [3, 0, 1, 2] 4 rfl (by decide) rfl) ?_
  refine z_shut 0 [(wEo ged (eSetBacks (eSetCopy (eSetSpot ed w0Spot) w0Copy) w0Backs)), (wN cI (ged 1) (ged 2) w0Copy), (wN cI (ged 3) (ged 4) (eWait ed)), (wN cI (ged 5) (ged 6) w0Backs)] [(wE cI ged (eSetBacks (eSetCopy (eSetSpot ed w0Spot) w0Copy) w0Backs))] rfl rfl rfl ?_
  refine z_icmp_ge C dX2_apply_99 130 (by decide) (fun c5 => ?_) (fun c5 => ?_)
  · replace hw := hw.1 c5
    exact z_vret C rfl ((eSetBacks (eSetCopy (eSetSpot ed w0Spot) w0Copy) w0Backs)) rfl hw rfl dX2_apply_130
  · replace hw := hw.2 c5
    refine z_aload_n C dX2_apply_102 rfl ?_
    refine z_get C inlX2 rfl 3 (by decide) mw_3_3 dX2_apply_103 0 0 rfl rfl rfl ?_
    refine z_iload C dX2_apply_106 rfl ?_
    refine z_aload_n C dX2_apply_108 rfl ?_
    refine z_get C inlX2 rfl 3 (by decide) mw_3_3 dX2_apply_109 0 0 rfl rfl rfl ?_
    refine z_iload C dX2_apply_112 rfl ?_
    refine z_open 0 [(wEo ged (eSetBacks (eSetCopy (eSetSpot ed w0Spot) w0Copy) w0Backs)), (wN cI (ged 1) (ged 2) w0Copy), (wN cI (ged 3) (ged 4) (eWait ed)), (wN cI (ged 5) (ged 6) w0Backs)] [(wEo ged (eSetBacks (eSetCopy (eSetSpot ed w0Spot) w0Copy) w0Backs)), (wN cI (ged 1) (ged 2) w0Copy), (wN cI (ged 3) (ged 4) (eWait ed)), (wN cI (ged 5) (ged 6) w0Backs)] rfl rfl rfl ?_
    refine z_callV0 C [(wN cI (ged 5) (ged 6) w0Backs)] [(wEo ged (eSetBacks (eSetCopy (eSetSpot ed w0Spot) w0Copy) w0Backs)), (wN cI (ged 1) (ged 2) w0Copy), (wN cI (ged 3) (ged 4) (eWait ed))] rfl rfl (met_X4_at l D cI (ged 5) (ged 6) w0Backs v4 _ hw) y_X4_at mw_8_6 dX2_apply_114 rfl n_X4_at rfl (by decide) ⟨rfl, rfl, Nat.le_of_ble_eq_true rfl, Nat.le_of_ble_eq_true rfl⟩ (Nat.le_of_ble_eq_true rfl) (z_pm [3, 0, 1, 2] 4 rfl (by decide) rfl) ?_
    intro r6 hw
    try dsimp only at hw
    refine z_bs [(wN cI (ged 5) (ged 6) w0Backs), (wEo ged (eSetBacks (eSetCopy (eSetSpot ed w0Spot) w0Copy) w0Backs)), (wN cI (ged 1) (ged 2) w0Copy), (wN cI (ged 3) (ged 4) (eWait ed))] [.int r6, .int v4, .ref (ged 5)] rfl rfl ?_
    refine z_perm C [(wEo ged (eSetBacks (eSetCopy (eSetSpot ed w0Spot) w0Copy) w0Backs)), (wN cI (ged 1) (ged 2) w0Copy), (wN cI (ged 3) (ged 4) (eWait ed)), (wN cI (ged 5) (ged 6) w0Backs)] (z_pm [1, 2, 3, 0] 4 rfl (by decide) rfl) ?_
    refine z_shut 0 [(wEo ged (eSetBacks (eSetCopy (eSetSpot ed w0Spot) w0Copy) w0Backs)), (wN cI (ged 1) (ged 2) w0Copy), (wN cI (ged 3) (ged 4) (eWait ed)), (wN cI (ged 5) (ged 6) w0Backs)] [(wE cI ged (eSetBacks (eSetCopy (eSetSpot ed w0Spot) w0Copy) w0Backs))] rfl rfl rfl ?_
    refine z_iload_n C dX2_apply_117 rfl ?_
    refine z_callFS C [] [(wE cI ged (eSetBacks (eSetCopy (eSetSpot ed w0Spot) w0Copy) w0Backs))] (met_X0_reshaped l D cI r6 p1) y_X0_reshaped mw_8_10 dX2_apply_118 rfl n_X0_reshaped rfl (by decide) ⟨rfl, rfl, Nat.le_of_ble_eq_true rfl, Nat.le_of_ble_eq_true rfl⟩ (Nat.le_of_ble_eq_true rfl) (z_pm [0] 1 rfl (by decide) rfl) ?_
    refine z_open 0 [(wEo ged (eSetBacks (eSetCopy (eSetSpot ed w0Spot) w0Copy) w0Backs)), (wN cI (ged 1) (ged 2) w0Copy), (wN cI (ged 3) (ged 4) (eWait ed)), (wN cI (ged 5) (ged 6) w0Backs)] [(wEo ged (eSetBacks (eSetCopy (eSetSpot ed w0Spot) w0Copy) w0Backs)), (wN cI (ged 1) (ged 2) w0Copy), (wN cI (ged 3) (ged 4) (eWait ed)), (wN cI (ged 5) (ged 6) w0Backs)] rfl rfl rfl ?_
    refine z_callV0 C [(wN cI (ged 5) (ged 6) w0Backs)] [(wEo ged (eSetBacks (eSetCopy (eSetSpot ed w0Spot) w0Copy) w0Backs)), (wN cI (ged 1) (ged 2) w0Copy), (wN cI (ged 3) (ged 4) (eWait ed))] rfl rfl (met_X4_put l D cI (ged 5) (ged 6) w0Backs v4 (f_X0_reshaped r6 p1) _ hw) y_X4_put mw_8_13 dX2_apply_121 rfl n_X4_put rfl (by decide) ⟨rfl, rfl, Nat.le_of_ble_eq_true rfl, Nat.le_of_ble_eq_true rfl⟩ (Nat.le_of_ble_eq_true rfl) (z_pm [3, 0, 1, 2] 4 rfl (by decide) rfl) ?_
    intro u7 hw
    try dsimp only at hw
    refine z_bs [(wN cI (ged 5) (ged 6) u7), (wEo ged (eSetBacks (eSetCopy (eSetSpot ed w0Spot) w0Copy) w0Backs)), (wN cI (ged 1) (ged 2) w0Copy), (wN cI (ged 3) (ged 4) (eWait ed))] [] rfl rfl ?_
    refine z_perm C [(wEo ged (eSetBacks (eSetCopy (eSetSpot ed w0Spot) w0Copy) w0Backs)), (wN cI (ged 1) (ged 2) w0Copy), (wN cI (ged 3) (ged 4) (eWait ed)), (wN cI (ged 5) (ged 6) u7)] (z_pm [1, 2, 3, 0] 4 rfl (by decide) rfl) ?_
    refine z_shut 0 [(wEo ged (eSetBacks (eSetCopy (eSetSpot ed w0Spot) w0Copy) w0Backs)), (wN cI (ged 1) (ged 2) w0Copy), (wN cI (ged 3) (ged 4) (eWait ed)), (wN cI (ged 5) (ged 6) u7)] [(wE cI ged (eSetBacks (eSetCopy (eSetSpot ed w0Spot) w0Copy) u7))] rfl rfl rfl ?_
    refine z_iinc C dX2_apply_124 rfl (v4 + 1) (by rfl) [some (.ref (ged 0)), some (.int p1), none, none, some (.int (v4 + 1))] (by decide) rfl ?_
    refine z_goto C dX2_apply_127 90 (by decide) ?_
    exact hK90 _ _ hw
def wp_X2_apply (ed : zE) (p1 : Int32) (Q : zE → Prop) : Prop := (∀ x1 : Int32, x1 = (f_X0_place p1) → (∀ x2 : Int32, x2 = (f_X0_kind p1) → ((¬ x2 = 1 → ((¬ x2 = 2 → (zLoop2 (lb_X2_apply_90 ed p1 (eSpot ed) (eCopy ed)  Q ) 0 (eBacks ed))) ∧ (x2 = 2 → (wp_X4_removeAt (eCopy ed) x1 (fun u8 => (((eSpot ed) ≤ x1 → (zLoop2 (lb_X2_apply_90 ed p1 ((eSpot ed) - 0) u8  Q ) 0 (eBacks ed))) ∧ (¬ (eSpot ed) ≤ x1 → (zLoop2 (lb_X2_apply_90 ed p1 ((eSpot ed) - 1) u8  Q ) 0 (eBacks ed))))))))) ∧ (x2 = 1 → (wp_X4_addAt (eCopy ed) x1 (f_X0_sign p1) (fun u10 => (((eSpot ed) < x1 → (zLoop2 (lb_X2_apply_90 ed p1 ((eSpot ed) + 0) u10  Q ) 0 (eBacks ed))) ∧ (¬ (eSpot ed) < x1 → (zLoop2 (lb_X2_apply_90 ed p1 ((eSpot ed) + 1) u10  Q ) 0 (eBacks ed))))))))))
set_option maxHeartbeats 4000000 in
set_option maxRecDepth 100000 in
theorem met_X2_apply (l : Launch) (D : va_G) (cI : ClassId) (ged : Nat → Nat) (ed : zE) (p1 : Int32) (Q : zE → Prop) (hw : wp_X2_apply ed p1 Q) : ZM l D cI yX2_apply cX2_apply 5 none rmX2_apply [.ref (ged 0), .int p1] [(wE cI ged ed)] (fun _ : zE => none) (fun u : zE => [(wE cI ged u)]) (fun u : zE => Q u) := by
  refine z_body [some (.ref (ged 0)), some (.int p1), none, none, none] (by decide +kernel) rfl (Nat.le_of_ble_eq_true rfl) rfl ?_
  intro p e s m args below meth c A C hin
  unfold wp_X2_apply at hw
  refine z_iload_n C dX2_apply_0 rfl ?_
  refine z_callFS C [] [(wE cI ged ed)] (met_X0_place l D cI p1) y_X0_place mw_7_13 dX2_apply_1 rfl n_X0_place rfl (by decide) ⟨rfl, rfl, Nat.le_of_ble_eq_true rfl, Nat.le_of_ble_eq_true rfl⟩ (Nat.le_of_ble_eq_true rfl) (z_pm [0] 1 rfl (by decide) rfl) ?_
  refine z_name C (fun x1 ex1 => ?_)
  replace hw := hw x1 ex1
  refine z_istore_n C dX2_apply_4 [some (.ref (ged 0)), some (.int p1), some (.int x1), none, none] (by decide) rfl ?_
  refine z_iload_n C dX2_apply_5 rfl ?_
  refine z_callFS C [] [(wE cI ged ed)] (met_X0_kind l D cI p1) y_X0_kind mw_7_16 dX2_apply_6 rfl n_X0_kind rfl (by decide) ⟨rfl, rfl, Nat.le_of_ble_eq_true rfl, Nat.le_of_ble_eq_true rfl⟩ (Nat.le_of_ble_eq_true rfl) (z_pm [0] 1 rfl (by decide) rfl) ?_
  refine z_name C (fun x2 ex2 => ?_)
  replace hw := hw x2 ex2
  refine z_istore_n C dX2_apply_9 [some (.ref (ged 0)), some (.int p1), some (.int x1), some (.int x2), none] (by decide) rfl ?_
  refine z_iload_n C dX2_apply_10 rfl ?_
  refine z_iconst C dX2_apply_11 1 (by decide) ?_
  refine z_icmp_ne C dX2_apply_12 52 (by decide) (fun c3 => ?_) (fun c3 => ?_)
  · replace hw := hw.1 c3
    refine z_iload_n C dX2_apply_52 rfl ?_
    refine z_iconst C dX2_apply_53 2 (by decide) ?_
    refine z_icmp_ne C dX2_apply_54 87 (by decide) (fun c4 => ?_) (fun c4 => ?_)
    · replace hw := hw.1 c4
      refine z_iconst C dX2_apply_87 0 (by decide) ?_
      refine z_istore C dX2_apply_88 [some (.ref (ged 0)), some (.int p1), some (.int x1), some (.int x2), some (.int 0)] (by decide) rfl ?_
      refine z_ls C [true, true, false, false, true] [some (.ref (ged 0)), some (.int p1), none, none, some (.int 0)] rfl ?_
      exact wk_X2_apply_90 C ged ed p1 (eSpot ed) (eCopy ed)  0 (eBacks ed) _  hw
    · replace hw := hw.2 c4
      refine z_aload_n C dX2_apply_57 rfl ?_
      refine z_get C inlX2 rfl 1 (by decide) mw_3_1 dX2_apply_58 0 0 rfl rfl rfl ?_
      refine z_iload_n C dX2_apply_61 rfl ?_
      refine z_open 0 [(wEo ged ed), (wN cI (ged 1) (ged 2) (eCopy ed)), (wN cI (ged 3) (ged 4) (eWait ed)), (wN cI (ged 5) (ged 6) (eBacks ed))] [(wEo ged ed), (wN cI (ged 1) (ged 2) (eCopy ed)), (wN cI (ged 3) (ged 4) (eWait ed)), (wN cI (ged 5) (ged 6) (eBacks ed))] rfl rfl rfl ?_
      refine z_callV0 C [(wN cI (ged 1) (ged 2) (eCopy ed))] [(wEo ged ed), (wN cI (ged 3) (ged 4) (eWait ed)), (wN cI (ged 5) (ged 6) (eBacks ed))] rfl rfl (met_X4_removeAt l D cI (ged 1) (ged 2) (eCopy ed) x1 _ hw) y_X4_removeAt mw_8_2 dX2_apply_62 rfl n_X4_removeAt rfl (by decide) ⟨rfl, rfl, Nat.le_of_ble_eq_true rfl, Nat.le_of_ble_eq_true rfl⟩ (Nat.le_of_ble_eq_true rfl) (z_pm [1, 0, 2, 3] 4 rfl (by decide) rfl) ?_
      intro u8 hw
      try dsimp only at hw
      refine z_bs [(wN cI (ged 1) (ged 2) u8), (wEo ged ed), (wN cI (ged 3) (ged 4) (eWait ed)), (wN cI (ged 5) (ged 6) (eBacks ed))] [] rfl rfl ?_
      refine z_perm C [(wEo ged ed), (wN cI (ged 1) (ged 2) u8), (wN cI (ged 3) (ged 4) (eWait ed)), (wN cI (ged 5) (ged 6) (eBacks ed))] (z_pm [1, 0, 2, 3] 4 rfl (by decide) rfl) ?_
      refine z_shut 0 [(wEo ged ed), (wN cI (ged 1) (ged 2) u8), (wN cI (ged 3) (ged 4) (eWait ed)), (wN cI (ged 5) (ged 6) (eBacks ed))] [(wE cI ged (eSetCopy ed u8))] rfl rfl rfl ?_
      refine z_aload_n C dX2_apply_65 rfl ?_
      refine z_dup C dX2_apply_66 rfl ?_
      refine z_get C inlX2 rfl 6 (by decide) mw_5_21 dX2_apply_67 0 0 rfl rfl rfl ?_
      refine z_iload_n C dX2_apply_70 rfl ?_
      refine z_aload_n C dX2_apply_71 rfl ?_
      refine z_get C inlX2 rfl 6 (by decide) mw_5_21 dX2_apply_72 0 0 rfl rfl rfl ?_
      refine z_icmp_ge C dX2_apply_75 82 (by decide) (fun c9 => ?_) (fun c9 => ?_)
      · replace hw := hw.1 c9
        refine z_iconst C dX2_apply_82 0 (by decide) ?_
        refine z_isub C dX2_apply_83 ?_
        refine z_put C inlX2 rfl tyX2 tyX2_ok nmX2 6 (by decide) mw_5_21 rfl rfl rfl rfl dX2_apply_84 0 0 rfl rfl (Nat.le_of_ble_eq_true rfl) [(wE cI ged (eSetCopy (eSetSpot ed ((eSpot ed) - 0)) u8))] rfl ?_
        refine z_iconst C dX2_apply_87 0 (by decide) ?_
        refine z_istore C dX2_apply_88 [some (.ref (ged 0)), some (.int p1), some (.int x1), some (.int x2), some (.int 0)] (by decide) rfl ?_
        refine z_ls C [true, true, false, false, true] [some (.ref (ged 0)), some (.int p1), none, none, some (.int 0)] rfl ?_
        exact wk_X2_apply_90 C ged ed p1 ((eSpot ed) - 0) u8  0 (eBacks ed) _  hw
      · replace hw := hw.2 c9
        refine z_iconst C dX2_apply_78 1 (by decide) ?_
        refine z_goto C dX2_apply_79 83 (by decide) ?_
        refine z_isub C dX2_apply_83 ?_
        refine z_put C inlX2 rfl tyX2 tyX2_ok nmX2 6 (by decide) mw_5_21 rfl rfl rfl rfl dX2_apply_84 0 0 rfl rfl (Nat.le_of_ble_eq_true rfl) [(wE cI ged (eSetCopy (eSetSpot ed ((eSpot ed) - 1)) u8))] rfl ?_
        refine z_iconst C dX2_apply_87 0 (by decide) ?_
        refine z_istore C dX2_apply_88 [some (.ref (ged 0)), some (.int p1), some (.int x1), some (.int x2), some (.int 0)] (by decide) rfl ?_
        refine z_ls C [true, true, false, false, true] [some (.ref (ged 0)), some (.int p1), none, none, some (.int 0)] rfl ?_
        exact wk_X2_apply_90 C ged ed p1 ((eSpot ed) - 1) u8  0 (eBacks ed) _  hw
  · replace hw := hw.2 c3
    refine z_aload_n C dX2_apply_15 rfl ?_
    refine z_get C inlX2 rfl 1 (by decide) mw_3_1 dX2_apply_16 0 0 rfl rfl rfl ?_
    refine z_iload_n C dX2_apply_19 rfl ?_
    refine z_iload_n C dX2_apply_20 rfl ?_
    refine z_callFS C [] [(wE cI ged ed)] (met_X0_sign l D cI p1) y_X0_sign mw_7_19 dX2_apply_21 rfl n_X0_sign rfl (by decide) ⟨rfl, rfl, Nat.le_of_ble_eq_true rfl, Nat.le_of_ble_eq_true rfl⟩ (Nat.le_of_ble_eq_true rfl) (z_pm [0] 1 rfl (by decide) rfl) ?_
    refine z_open 0 [(wEo ged ed), (wN cI (ged 1) (ged 2) (eCopy ed)), (wN cI (ged 3) (ged 4) (eWait ed)), (wN cI (ged 5) (ged 6) (eBacks ed))] [(wEo ged ed), (wN cI (ged 1) (ged 2) (eCopy ed)), (wN cI (ged 3) (ged 4) (eWait ed)), (wN cI (ged 5) (ged 6) (eBacks ed))] rfl rfl rfl ?_
    refine z_callV0 C [(wN cI (ged 1) (ged 2) (eCopy ed))] [(wEo ged ed), (wN cI (ged 3) (ged 4) (eWait ed)), (wN cI (ged 5) (ged 6) (eBacks ed))] rfl rfl (met_X4_addAt l D cI (ged 1) (ged 2) (eCopy ed) x1 (f_X0_sign p1) _ hw) y_X4_addAt mw_7_22 dX2_apply_24 rfl n_X4_addAt rfl (by decide) ⟨rfl, rfl, Nat.le_of_ble_eq_true rfl, Nat.le_of_ble_eq_true rfl⟩ (Nat.le_of_ble_eq_true rfl) (z_pm [1, 0, 2, 3] 4 rfl (by decide) rfl) ?_
    intro u10 hw
    try dsimp only at hw
    refine z_bs [(wN cI (ged 1) (ged 2) u10), (wEo ged ed), (wN cI (ged 3) (ged 4) (eWait ed)), (wN cI (ged 5) (ged 6) (eBacks ed))] [] rfl rfl ?_
    refine z_perm C [(wEo ged ed), (wN cI (ged 1) (ged 2) u10), (wN cI (ged 3) (ged 4) (eWait ed)), (wN cI (ged 5) (ged 6) (eBacks ed))] (z_pm [1, 0, 2, 3] 4 rfl (by decide) rfl) ?_
    refine z_shut 0 [(wEo ged ed), (wN cI (ged 1) (ged 2) u10), (wN cI (ged 3) (ged 4) (eWait ed)), (wN cI (ged 5) (ged 6) (eBacks ed))] [(wE cI ged (eSetCopy ed u10))] rfl rfl rfl ?_
    refine z_aload_n C dX2_apply_27 rfl ?_
    refine z_dup C dX2_apply_28 rfl ?_
    refine z_get C inlX2 rfl 6 (by decide) mw_5_21 dX2_apply_29 0 0 rfl rfl rfl ?_
    refine z_iload_n C dX2_apply_32 rfl ?_
    refine z_aload_n C dX2_apply_33 rfl ?_
    refine z_get C inlX2 rfl 6 (by decide) mw_5_21 dX2_apply_34 0 0 rfl rfl rfl ?_
    refine z_icmp_gt C dX2_apply_37 44 (by decide) (fun c11 => ?_) (fun c11 => ?_)
    · replace hw := hw.1 c11
      refine z_iconst C dX2_apply_44 0 (by decide) ?_
      refine z_iadd C dX2_apply_45 ?_
      refine z_put C inlX2 rfl tyX2 tyX2_ok nmX2 6 (by decide) mw_5_21 rfl rfl rfl rfl dX2_apply_46 0 0 rfl rfl (Nat.le_of_ble_eq_true rfl) [(wE cI ged (eSetCopy (eSetSpot ed ((eSpot ed) + 0)) u10))] rfl ?_
      refine z_goto C dX2_apply_49 87 (by decide) ?_
      refine z_iconst C dX2_apply_87 0 (by decide) ?_
      refine z_istore C dX2_apply_88 [some (.ref (ged 0)), some (.int p1), some (.int x1), some (.int x2), some (.int 0)] (by decide) rfl ?_
      refine z_ls C [true, true, false, false, true] [some (.ref (ged 0)), some (.int p1), none, none, some (.int 0)] rfl ?_
      exact wk_X2_apply_90 C ged ed p1 ((eSpot ed) + 0) u10  0 (eBacks ed) _  hw
    · replace hw := hw.2 c11
      refine z_iconst C dX2_apply_40 1 (by decide) ?_
      refine z_goto C dX2_apply_41 45 (by decide) ?_
      refine z_iadd C dX2_apply_45 ?_
      refine z_put C inlX2 rfl tyX2 tyX2_ok nmX2 6 (by decide) mw_5_21 rfl rfl rfl rfl dX2_apply_46 0 0 rfl rfl (Nat.le_of_ble_eq_true rfl) [(wE cI ged (eSetCopy (eSetSpot ed ((eSpot ed) + 1)) u10))] rfl ?_
      refine z_goto C dX2_apply_49 87 (by decide) ?_
      refine z_iconst C dX2_apply_87 0 (by decide) ?_
      refine z_istore C dX2_apply_88 [some (.ref (ged 0)), some (.int p1), some (.int x1), some (.int x2), some (.int 0)] (by decide) rfl ?_
      refine z_ls C [true, true, false, false, true] [some (.ref (ged 0)), some (.int p1), none, none, some (.int 0)] rfl ?_
      exact wk_X2_apply_90 C ged ed p1 ((eSpot ed) + 1) u10  0 (eBacks ed) _  hw
def rmX2_write : Room := { frames := 2, cells := 0, slots := 0, locals := 52 }
def wp_X2_write (ed : zE) (p1 : Int32) (Q : zE → Prop) : Prop := (wp_X2_apply ed p1 (fun u1 => (wp_X4_add (eWait u1) p1 (fun u2 => (Q (eSetWait (eSetWr u1 ((eWr u1) + 1)) u2))))))
set_option maxHeartbeats 4000000 in
set_option maxRecDepth 100000 in
theorem met_X2_write (l : Launch) (D : va_G) (cI : ClassId) (ged : Nat → Nat) (ed : zE) (p1 : Int32) (Q : zE → Prop) (hw : wp_X2_write ed p1 Q) : ZM l D cI yX2_write cX2_write 2 none rmX2_write [.ref (ged 0), .int p1] [(wE cI ged ed)] (fun _ : zE => none) (fun u : zE => [(wE cI ged u)]) (fun u : zE => Q u) := by
  refine z_body [some (.ref (ged 0)), some (.int p1)] (by decide +kernel) rfl (Nat.le_of_ble_eq_true rfl) rfl ?_
  intro p e s m args below meth c A C hin
  unfold wp_X2_write at hw
  refine z_aload_n C dX2_write_0 rfl ?_
  refine z_iload_n C dX2_write_1 rfl ?_
  refine z_callV0 C [(wE cI ged ed)] [] rfl rfl (met_X2_apply l D cI ged ed p1 _ hw) y_X2_apply mw_7_9 dX2_write_2 rfl n_X2_apply rfl (by decide) ⟨rfl, rfl, Nat.le_of_ble_eq_true rfl, Nat.le_of_ble_eq_true rfl⟩ (Nat.le_of_ble_eq_true rfl) (z_pm [0] 1 rfl (by decide) rfl) ?_
  intro u1 hw
  try dsimp only at hw
  refine z_bs [(wE cI ged u1)] [] rfl rfl ?_
  refine z_aload_n C dX2_write_5 rfl ?_
  refine z_get C inlX2 rfl 2 (by decide) mw_3_2 dX2_write_6 0 0 rfl rfl rfl ?_
  refine z_iload_n C dX2_write_9 rfl ?_
  refine z_open 0 [(wEo ged u1), (wN cI (ged 1) (ged 2) (eCopy u1)), (wN cI (ged 3) (ged 4) (eWait u1)), (wN cI (ged 5) (ged 6) (eBacks u1))] [(wEo ged u1), (wN cI (ged 1) (ged 2) (eCopy u1)), (wN cI (ged 3) (ged 4) (eWait u1)), (wN cI (ged 5) (ged 6) (eBacks u1))] rfl rfl rfl ?_
  refine z_callV0 C [(wN cI (ged 3) (ged 4) (eWait u1))] [(wEo ged u1), (wN cI (ged 1) (ged 2) (eCopy u1)), (wN cI (ged 5) (ged 6) (eBacks u1))] rfl rfl (met_X4_add l D cI (ged 3) (ged 4) (eWait u1) p1 _ hw) y_X4_add mw_8_17 dX2_write_10 rfl n_X4_add rfl (by decide) ⟨rfl, rfl, Nat.le_of_ble_eq_true rfl, Nat.le_of_ble_eq_true rfl⟩ (Nat.le_of_ble_eq_true rfl) (z_pm [2, 0, 1, 3] 4 rfl (by decide) rfl) ?_
  intro u2 hw
  try dsimp only at hw
  refine z_bs [(wN cI (ged 3) (ged 4) u2), (wEo ged u1), (wN cI (ged 1) (ged 2) (eCopy u1)), (wN cI (ged 5) (ged 6) (eBacks u1))] [] rfl rfl ?_
  refine z_perm C [(wEo ged u1), (wN cI (ged 1) (ged 2) (eCopy u1)), (wN cI (ged 3) (ged 4) u2), (wN cI (ged 5) (ged 6) (eBacks u1))] (z_pm [1, 2, 0, 3] 4 rfl (by decide) rfl) ?_
  refine z_shut 0 [(wEo ged u1), (wN cI (ged 1) (ged 2) (eCopy u1)), (wN cI (ged 3) (ged 4) u2), (wN cI (ged 5) (ged 6) (eBacks u1))] [(wE cI ged (eSetWait u1 u2))] rfl rfl rfl ?_
  refine z_aload_n C dX2_write_13 rfl ?_
  refine z_dup C dX2_write_14 rfl ?_
  refine z_get C inlX2 rfl 7 (by decide) mw_5_22 dX2_write_15 0 0 rfl rfl rfl ?_
  refine z_iconst C dX2_write_18 1 (by decide) ?_
  refine z_iadd C dX2_write_19 ?_
  refine z_put C inlX2 rfl tyX2 tyX2_ok nmX2 7 (by decide) mw_5_22 rfl rfl rfl rfl dX2_write_20 0 0 rfl rfl (Nat.le_of_ble_eq_true rfl) [(wE cI ged (eSetWait (eSetWr u1 ((eWr u1) + 1)) u2))] rfl ?_
  exact z_vret C rfl ((eSetWait (eSetWr u1 ((eWr u1) + 1)) u2)) rfl hw rfl dX2_write_23
def rmX2_keepBack : Room := { frames := 2, cells := 0, slots := 0, locals := 44 }
def wp_X2_keepBack (ed : zE) (p1 : Int32) (Q : zE → Prop) : Prop := (((f_X4_size (eBacks ed)) < 6 → (wp_X4_add (eBacks ed) p1 (fun u2 => (Q (eSetBacks ed u2))))) ∧ (¬ (f_X4_size (eBacks ed)) < 6 → (wp_X4_removeAt (eBacks ed) 0 (fun u3 => (wp_X4_add u3 p1 (fun u4 => (Q (eSetBacks ed u4))))))))
set_option maxHeartbeats 4000000 in
set_option maxRecDepth 100000 in
theorem met_X2_keepBack (l : Launch) (D : va_G) (cI : ClassId) (ged : Nat → Nat) (ed : zE) (p1 : Int32) (Q : zE → Prop) (hw : wp_X2_keepBack ed p1 Q) : ZM l D cI yX2_keepBack cX2_keepBack 2 none rmX2_keepBack [.ref (ged 0), .int p1] [(wE cI ged ed)] (fun _ : zE => none) (fun u : zE => [(wE cI ged u)]) (fun u : zE => Q u) := by
  refine z_body [some (.ref (ged 0)), some (.int p1)] (by decide +kernel) rfl (Nat.le_of_ble_eq_true rfl) rfl ?_
  intro p e s m args below meth c A C hin
  unfold wp_X2_keepBack at hw
  refine z_aload_n C dX2_keepBack_0 rfl ?_
  refine z_get C inlX2 rfl 3 (by decide) mw_3_3 dX2_keepBack_1 0 0 rfl rfl rfl ?_
  refine z_open 0 [(wEo ged ed), (wN cI (ged 1) (ged 2) (eCopy ed)), (wN cI (ged 3) (ged 4) (eWait ed)), (wN cI (ged 5) (ged 6) (eBacks ed))] [(wEo ged ed), (wN cI (ged 1) (ged 2) (eCopy ed)), (wN cI (ged 3) (ged 4) (eWait ed)), (wN cI (ged 5) (ged 6) (eBacks ed))] rfl rfl rfl ?_
  refine z_callFV C [(wN cI (ged 5) (ged 6) (eBacks ed))] [(wEo ged ed), (wN cI (ged 1) (ged 2) (eCopy ed)), (wN cI (ged 3) (ged 4) (eWait ed))] rfl rfl (met_X4_size l D cI (ged 5) (ged 6) (eBacks ed)) y_X4_size mw_6_21 dX2_keepBack_4 rfl n_X4_size rfl (by decide) ⟨rfl, rfl, Nat.le_of_ble_eq_true rfl, Nat.le_of_ble_eq_true rfl⟩ (Nat.le_of_ble_eq_true rfl) (z_pm [3, 0, 1, 2] 4 rfl (by decide) rfl) ?_
  refine z_shut 0 [(wEo ged ed), (wN cI (ged 1) (ged 2) (eCopy ed)), (wN cI (ged 3) (ged 4) (eWait ed)), (wN cI (ged 5) (ged 6) (eBacks ed))] [(wE cI ged ed)] rfl rfl rfl ?_
  refine z_bipush C dX2_keepBack_7 6 (by decide) ?_
  refine z_icmp_lt C dX2_keepBack_9 20 (by decide) (fun c1 => ?_) (fun c1 => ?_)
  · replace hw := hw.1 c1
    refine z_aload_n C dX2_keepBack_20 rfl ?_
    refine z_get C inlX2 rfl 3 (by decide) mw_3_3 dX2_keepBack_21 0 0 rfl rfl rfl ?_
    refine z_iload_n C dX2_keepBack_24 rfl ?_
    refine z_open 0 [(wEo ged ed), (wN cI (ged 1) (ged 2) (eCopy ed)), (wN cI (ged 3) (ged 4) (eWait ed)), (wN cI (ged 5) (ged 6) (eBacks ed))] [(wEo ged ed), (wN cI (ged 1) (ged 2) (eCopy ed)), (wN cI (ged 3) (ged 4) (eWait ed)), (wN cI (ged 5) (ged 6) (eBacks ed))] rfl rfl rfl ?_
    refine z_callV0 C [(wN cI (ged 5) (ged 6) (eBacks ed))] [(wEo ged ed), (wN cI (ged 1) (ged 2) (eCopy ed)), (wN cI (ged 3) (ged 4) (eWait ed))] rfl rfl (met_X4_add l D cI (ged 5) (ged 6) (eBacks ed) p1 _ hw) y_X4_add mw_8_17 dX2_keepBack_25 rfl n_X4_add rfl (by decide) ⟨rfl, rfl, Nat.le_of_ble_eq_true rfl, Nat.le_of_ble_eq_true rfl⟩ (Nat.le_of_ble_eq_true rfl) (z_pm [3, 0, 1, 2] 4 rfl (by decide) rfl) ?_
    intro u2 hw
    try dsimp only at hw
    refine z_bs [(wN cI (ged 5) (ged 6) u2), (wEo ged ed), (wN cI (ged 1) (ged 2) (eCopy ed)), (wN cI (ged 3) (ged 4) (eWait ed))] [] rfl rfl ?_
    refine z_perm C [(wEo ged ed), (wN cI (ged 1) (ged 2) (eCopy ed)), (wN cI (ged 3) (ged 4) (eWait ed)), (wN cI (ged 5) (ged 6) u2)] (z_pm [1, 2, 3, 0] 4 rfl (by decide) rfl) ?_
    refine z_shut 0 [(wEo ged ed), (wN cI (ged 1) (ged 2) (eCopy ed)), (wN cI (ged 3) (ged 4) (eWait ed)), (wN cI (ged 5) (ged 6) u2)] [(wE cI ged (eSetBacks ed u2))] rfl rfl rfl ?_
    exact z_vret C rfl ((eSetBacks ed u2)) rfl hw rfl dX2_keepBack_28
  · replace hw := hw.2 c1
    refine z_aload_n C dX2_keepBack_12 rfl ?_
    refine z_get C inlX2 rfl 3 (by decide) mw_3_3 dX2_keepBack_13 0 0 rfl rfl rfl ?_
    refine z_iconst C dX2_keepBack_16 0 (by decide) ?_
    refine z_open 0 [(wEo ged ed), (wN cI (ged 1) (ged 2) (eCopy ed)), (wN cI (ged 3) (ged 4) (eWait ed)), (wN cI (ged 5) (ged 6) (eBacks ed))] [(wEo ged ed), (wN cI (ged 1) (ged 2) (eCopy ed)), (wN cI (ged 3) (ged 4) (eWait ed)), (wN cI (ged 5) (ged 6) (eBacks ed))] rfl rfl rfl ?_
    refine z_callV0 C [(wN cI (ged 5) (ged 6) (eBacks ed))] [(wEo ged ed), (wN cI (ged 1) (ged 2) (eCopy ed)), (wN cI (ged 3) (ged 4) (eWait ed))] rfl rfl (met_X4_removeAt l D cI (ged 5) (ged 6) (eBacks ed) 0 _ hw) y_X4_removeAt mw_8_2 dX2_keepBack_17 rfl n_X4_removeAt rfl (by decide) ⟨rfl, rfl, Nat.le_of_ble_eq_true rfl, Nat.le_of_ble_eq_true rfl⟩ (Nat.le_of_ble_eq_true rfl) (z_pm [3, 0, 1, 2] 4 rfl (by decide) rfl) ?_
    intro u3 hw
    try dsimp only at hw
    refine z_bs [(wN cI (ged 5) (ged 6) u3), (wEo ged ed), (wN cI (ged 1) (ged 2) (eCopy ed)), (wN cI (ged 3) (ged 4) (eWait ed))] [] rfl rfl ?_
    refine z_perm C [(wEo ged ed), (wN cI (ged 1) (ged 2) (eCopy ed)), (wN cI (ged 3) (ged 4) (eWait ed)), (wN cI (ged 5) (ged 6) u3)] (z_pm [1, 2, 3, 0] 4 rfl (by decide) rfl) ?_
    refine z_shut 0 [(wEo ged ed), (wN cI (ged 1) (ged 2) (eCopy ed)), (wN cI (ged 3) (ged 4) (eWait ed)), (wN cI (ged 5) (ged 6) u3)] [(wE cI ged (eSetBacks ed u3))] rfl rfl rfl ?_
    refine z_aload_n C dX2_keepBack_20 rfl ?_
    refine z_get C inlX2 rfl 3 (by decide) mw_3_3 dX2_keepBack_21 0 0 rfl rfl rfl ?_
    refine z_iload_n C dX2_keepBack_24 rfl ?_
    refine z_open 0 [(wEo ged (eSetBacks ed u3)), (wN cI (ged 1) (ged 2) (eCopy ed)), (wN cI (ged 3) (ged 4) (eWait ed)), (wN cI (ged 5) (ged 6) u3)] [(wEo ged (eSetBacks ed u3)), (wN cI (ged 1) (ged 2) (eCopy ed)), (wN cI (ged 3) (ged 4) (eWait ed)), (wN cI (ged 5) (ged 6) u3)] rfl rfl rfl ?_
    refine z_callV0 C [(wN cI (ged 5) (ged 6) u3)] [(wEo ged (eSetBacks ed u3)), (wN cI (ged 1) (ged 2) (eCopy ed)), (wN cI (ged 3) (ged 4) (eWait ed))] rfl rfl (met_X4_add l D cI (ged 5) (ged 6) u3 p1 _ hw) y_X4_add mw_8_17 dX2_keepBack_25 rfl n_X4_add rfl (by decide) ⟨rfl, rfl, Nat.le_of_ble_eq_true rfl, Nat.le_of_ble_eq_true rfl⟩ (Nat.le_of_ble_eq_true rfl) (z_pm [3, 0, 1, 2] 4 rfl (by decide) rfl) ?_
    intro u4 hw
    try dsimp only at hw
    refine z_bs [(wN cI (ged 5) (ged 6) u4), (wEo ged (eSetBacks ed u3)), (wN cI (ged 1) (ged 2) (eCopy ed)), (wN cI (ged 3) (ged 4) (eWait ed))] [] rfl rfl ?_
    refine z_perm C [(wEo ged (eSetBacks ed u3)), (wN cI (ged 1) (ged 2) (eCopy ed)), (wN cI (ged 3) (ged 4) (eWait ed)), (wN cI (ged 5) (ged 6) u4)] (z_pm [1, 2, 3, 0] 4 rfl (by decide) rfl) ?_
    refine z_shut 0 [(wEo ged (eSetBacks ed u3)), (wN cI (ged 1) (ged 2) (eCopy ed)), (wN cI (ged 3) (ged 4) (eWait ed)), (wN cI (ged 5) (ged 6) u4)] [(wE cI ged (eSetBacks ed u4))] rfl rfl rfl ?_
    exact z_vret C rfl ((eSetBacks ed u4)) rfl hw rfl dX2_keepBack_28
def rmX2_putIn : Room := { frames := 3, cells := 0, slots := 0, locals := 73 }
def wp_X2_putIn (ed : zE) (p1 : Int32) (p2 : Int32) (Q : Int32 → zE → Prop) : Prop := ((p1 < 0 → (Q (-1) ed)) ∧ (¬ p1 < 0 → (((f_X4_size (eCopy ed)) < p1 → (Q (-1) ed)) ∧ (¬ (f_X4_size (eCopy ed)) < p1 → ((p2 < 0 → (Q (-1) ed)) ∧ (¬ p2 < 0 → ((p2 < 26 → ((30 ≤ (f_X4_size (eCopy ed)) → (Q (-3) ed)) ∧ (¬ 30 ≤ (f_X4_size (eCopy ed)) → (((f_X4_size (eWait ed)) < 6 → (wp_X2_write ed (f_X0_of 1 p1 p2 (eNum ed)) (fun u7 => (wp_X2_keepBack u7 (f_X0_of 2 p1 0 (eNum u7)) (fun u8 => (Q (f_X4_size (eCopy u8)) u8)))))) ∧ (¬ (f_X4_size (eWait ed)) < 6 → (Q (-3) ed)))))) ∧ (¬ p2 < 26 → (Q (-1) ed)))))))))
set_option maxHeartbeats 4000000 in
set_option maxRecDepth 100000 in
theorem met_X2_putIn (l : Launch) (D : va_G) (cI : ClassId) (ged : Nat → Nat) (ed : zE) (p1 : Int32) (p2 : Int32) (Q : Int32 → zE → Prop) (hw : wp_X2_putIn ed p1 p2 Q) : ZM l D cI yX2_putIn cX2_putIn 3 (some .int) rmX2_putIn [.ref (ged 0), .int p1, .int p2] [(wE cI ged ed)] (fun u : Int32 × zE => some (.int u.1)) (fun u : Int32 × zE => [(wE cI ged (u.2))]) (fun u : Int32 × zE => Q u.1 u.2) := by
  refine z_body [some (.ref (ged 0)), some (.int p1), some (.int p2)] (by decide +kernel) rfl (Nat.le_of_ble_eq_true rfl) rfl ?_
  intro p e s m args below meth c A C hin
  unfold wp_X2_putIn at hw
  refine z_iload_n C dX2_putIn_0 rfl ?_
  refine z_if_lt C dX2_putIn_1 25 (by decide) (fun c1 => ?_) (fun c1 => ?_)
  · replace hw := hw.1 c1
    refine z_iconst C dX2_putIn_25 (-1) (by decide) ?_
    exact z_iret C rfl ((-1), ed) rfl hw rfl dX2_putIn_26
  · replace hw := hw.2 c1
    refine z_iload_n C dX2_putIn_4 rfl ?_
    refine z_aload_n C dX2_putIn_5 rfl ?_
    refine z_get C inlX2 rfl 1 (by decide) mw_3_1 dX2_putIn_6 0 0 rfl rfl rfl ?_
    refine z_open 0 [(wEo ged ed), (wN cI (ged 1) (ged 2) (eCopy ed)), (wN cI (ged 3) (ged 4) (eWait ed)), (wN cI (ged 5) (ged 6) (eBacks ed))] [(wEo ged ed), (wN cI (ged 1) (ged 2) (eCopy ed)), (wN cI (ged 3) (ged 4) (eWait ed)), (wN cI (ged 5) (ged 6) (eBacks ed))] rfl rfl rfl ?_
    refine z_callFV C [(wN cI (ged 1) (ged 2) (eCopy ed))] [(wEo ged ed), (wN cI (ged 3) (ged 4) (eWait ed)), (wN cI (ged 5) (ged 6) (eBacks ed))] rfl rfl (met_X4_size l D cI (ged 1) (ged 2) (eCopy ed)) y_X4_size mw_6_21 dX2_putIn_9 rfl n_X4_size rfl (by decide) ⟨rfl, rfl, Nat.le_of_ble_eq_true rfl, Nat.le_of_ble_eq_true rfl⟩ (Nat.le_of_ble_eq_true rfl) (z_pm [1, 0, 2, 3] 4 rfl (by decide) rfl) ?_
    refine z_shut 0 [(wEo ged ed), (wN cI (ged 1) (ged 2) (eCopy ed)), (wN cI (ged 3) (ged 4) (eWait ed)), (wN cI (ged 5) (ged 6) (eBacks ed))] [(wE cI ged ed)] rfl rfl rfl ?_
    refine z_icmp_gt C dX2_putIn_12 25 (by decide) (fun c2 => ?_) (fun c2 => ?_)
    · replace hw := hw.1 c2
      refine z_iconst C dX2_putIn_25 (-1) (by decide) ?_
      exact z_iret C rfl ((-1), ed) rfl hw rfl dX2_putIn_26
    · replace hw := hw.2 c2
      refine z_iload_n C dX2_putIn_15 rfl ?_
      refine z_if_lt C dX2_putIn_16 25 (by decide) (fun c3 => ?_) (fun c3 => ?_)
      · replace hw := hw.1 c3
        refine z_iconst C dX2_putIn_25 (-1) (by decide) ?_
        exact z_iret C rfl ((-1), ed) rfl hw rfl dX2_putIn_26
      · replace hw := hw.2 c3
        refine z_iload_n C dX2_putIn_19 rfl ?_
        refine z_bipush C dX2_putIn_20 26 (by decide) ?_
        refine z_icmp_lt C dX2_putIn_22 27 (by decide) (fun c4 => ?_) (fun c4 => ?_)
        · replace hw := hw.1 c4
          refine z_aload_n C dX2_putIn_27 rfl ?_
          refine z_get C inlX2 rfl 1 (by decide) mw_3_1 dX2_putIn_28 0 0 rfl rfl rfl ?_
          refine z_open 0 [(wEo ged ed), (wN cI (ged 1) (ged 2) (eCopy ed)), (wN cI (ged 3) (ged 4) (eWait ed)), (wN cI (ged 5) (ged 6) (eBacks ed))] [(wEo ged ed), (wN cI (ged 1) (ged 2) (eCopy ed)), (wN cI (ged 3) (ged 4) (eWait ed)), (wN cI (ged 5) (ged 6) (eBacks ed))] rfl rfl rfl ?_
          refine z_callFV C [(wN cI (ged 1) (ged 2) (eCopy ed))] [(wEo ged ed), (wN cI (ged 3) (ged 4) (eWait ed)), (wN cI (ged 5) (ged 6) (eBacks ed))] rfl rfl (met_X4_size l D cI (ged 1) (ged 2) (eCopy ed)) y_X4_size mw_6_21 dX2_putIn_31 rfl n_X4_size rfl (by decide) ⟨rfl, rfl, Nat.le_of_ble_eq_true rfl, Nat.le_of_ble_eq_true rfl⟩ (Nat.le_of_ble_eq_true rfl) (z_pm [1, 0, 2, 3] 4 rfl (by decide) rfl) ?_
          refine z_shut 0 [(wEo ged ed), (wN cI (ged 1) (ged 2) (eCopy ed)), (wN cI (ged 3) (ged 4) (eWait ed)), (wN cI (ged 5) (ged 6) (eBacks ed))] [(wE cI ged ed)] rfl rfl rfl ?_
          refine z_bipush C dX2_putIn_34 30 (by decide) ?_
          refine z_icmp_ge C dX2_putIn_36 51 (by decide) (fun c5 => ?_) (fun c5 => ?_)
          · replace hw := hw.1 c5
            refine z_bipush C dX2_putIn_51 (-3) (by decide) ?_
            exact z_iret C rfl ((-3), ed) rfl hw rfl dX2_putIn_53
          · replace hw := hw.2 c5
            refine z_aload_n C dX2_putIn_39 rfl ?_
            refine z_get C inlX2 rfl 2 (by decide) mw_3_2 dX2_putIn_40 0 0 rfl rfl rfl ?_
            refine z_open 0 [(wEo ged ed), (wN cI (ged 1) (ged 2) (eCopy ed)), (wN cI (ged 3) (ged 4) (eWait ed)), (wN cI (ged 5) (ged 6) (eBacks ed))] [(wEo ged ed), (wN cI (ged 1) (ged 2) (eCopy ed)), (wN cI (ged 3) (ged 4) (eWait ed)), (wN cI (ged 5) (ged 6) (eBacks ed))] rfl rfl rfl ?_
            refine z_callFV C [(wN cI (ged 3) (ged 4) (eWait ed))] [(wEo ged ed), (wN cI (ged 1) (ged 2) (eCopy ed)), (wN cI (ged 5) (ged 6) (eBacks ed))] rfl rfl (met_X4_size l D cI (ged 3) (ged 4) (eWait ed)) y_X4_size mw_6_21 dX2_putIn_43 rfl n_X4_size rfl (by decide) ⟨rfl, rfl, Nat.le_of_ble_eq_true rfl, Nat.le_of_ble_eq_true rfl⟩ (Nat.le_of_ble_eq_true rfl) (z_pm [2, 0, 1, 3] 4 rfl (by decide) rfl) ?_
            refine z_shut 0 [(wEo ged ed), (wN cI (ged 1) (ged 2) (eCopy ed)), (wN cI (ged 3) (ged 4) (eWait ed)), (wN cI (ged 5) (ged 6) (eBacks ed))] [(wE cI ged ed)] rfl rfl rfl ?_
            refine z_bipush C dX2_putIn_46 6 (by decide) ?_
            refine z_icmp_lt C dX2_putIn_48 54 (by decide) (fun c6 => ?_) (fun c6 => ?_)
            · replace hw := hw.1 c6
              refine z_aload_n C dX2_putIn_54 rfl ?_
              refine z_iconst C dX2_putIn_55 1 (by decide) ?_
              refine z_iload_n C dX2_putIn_56 rfl ?_
              refine z_iload_n C dX2_putIn_57 rfl ?_
              refine z_aload_n C dX2_putIn_58 rfl ?_
              refine z_get C inlX2 rfl 0 (by decide) mw_2_23 dX2_putIn_59 0 0 rfl rfl rfl ?_
              refine z_callFS C [] [(wE cI ged ed)] (met_X0_of l D cI 1 p1 p2 (eNum ed)) y_X0_of mw_7_1 dX2_putIn_62 rfl n_X0_of rfl (by decide) ⟨rfl, rfl, Nat.le_of_ble_eq_true rfl, Nat.le_of_ble_eq_true rfl⟩ (Nat.le_of_ble_eq_true rfl) (z_pm [0] 1 rfl (by decide) rfl) ?_
              refine z_callV0 C [(wE cI ged ed)] [] rfl rfl (met_X2_write l D cI ged ed (f_X0_of 1 p1 p2 (eNum ed)) _ hw) y_X2_write mw_7_5 dX2_putIn_65 rfl n_X2_write rfl (by decide) ⟨rfl, rfl, Nat.le_of_ble_eq_true rfl, Nat.le_of_ble_eq_true rfl⟩ (Nat.le_of_ble_eq_true rfl) (z_pm [0] 1 rfl (by decide) rfl) ?_
              intro u7 hw
              try dsimp only at hw
              refine z_bs [(wE cI ged u7)] [] rfl rfl ?_
              refine z_aload_n C dX2_putIn_68 rfl ?_
              refine z_iconst C dX2_putIn_69 2 (by decide) ?_
              refine z_iload_n C dX2_putIn_70 rfl ?_
              refine z_iconst C dX2_putIn_71 0 (by decide) ?_
              refine z_aload_n C dX2_putIn_72 rfl ?_
              refine z_get C inlX2 rfl 0 (by decide) mw_2_23 dX2_putIn_73 0 0 rfl rfl rfl ?_
              refine z_callFS C [] [(wE cI ged u7)] (met_X0_of l D cI 2 p1 0 (eNum u7)) y_X0_of mw_7_1 dX2_putIn_76 rfl n_X0_of rfl (by decide) ⟨rfl, rfl, Nat.le_of_ble_eq_true rfl, Nat.le_of_ble_eq_true rfl⟩ (Nat.le_of_ble_eq_true rfl) (z_pm [0] 1 rfl (by decide) rfl) ?_
              refine z_callV0 C [(wE cI ged u7)] [] rfl rfl (met_X2_keepBack l D cI ged u7 (f_X0_of 2 p1 0 (eNum u7)) _ hw) y_X2_keepBack mw_8_22 dX2_putIn_79 rfl n_X2_keepBack rfl (by decide) ⟨rfl, rfl, Nat.le_of_ble_eq_true rfl, Nat.le_of_ble_eq_true rfl⟩ (Nat.le_of_ble_eq_true rfl) (z_pm [0] 1 rfl (by decide) rfl) ?_
              intro u8 hw
              try dsimp only at hw
              refine z_bs [(wE cI ged u8)] [] rfl rfl ?_
              refine z_aload_n C dX2_putIn_82 rfl ?_
              refine z_get C inlX2 rfl 1 (by decide) mw_3_1 dX2_putIn_83 0 0 rfl rfl rfl ?_
              refine z_open 0 [(wEo ged u8), (wN cI (ged 1) (ged 2) (eCopy u8)), (wN cI (ged 3) (ged 4) (eWait u8)), (wN cI (ged 5) (ged 6) (eBacks u8))] [(wEo ged u8), (wN cI (ged 1) (ged 2) (eCopy u8)), (wN cI (ged 3) (ged 4) (eWait u8)), (wN cI (ged 5) (ged 6) (eBacks u8))] rfl rfl rfl ?_
              refine z_callFV C [(wN cI (ged 1) (ged 2) (eCopy u8))] [(wEo ged u8), (wN cI (ged 3) (ged 4) (eWait u8)), (wN cI (ged 5) (ged 6) (eBacks u8))] rfl rfl (met_X4_size l D cI (ged 1) (ged 2) (eCopy u8)) y_X4_size mw_6_21 dX2_putIn_86 rfl n_X4_size rfl (by decide) ⟨rfl, rfl, Nat.le_of_ble_eq_true rfl, Nat.le_of_ble_eq_true rfl⟩ (Nat.le_of_ble_eq_true rfl) (z_pm [1, 0, 2, 3] 4 rfl (by decide) rfl) ?_
              refine z_shut 0 [(wEo ged u8), (wN cI (ged 1) (ged 2) (eCopy u8)), (wN cI (ged 3) (ged 4) (eWait u8)), (wN cI (ged 5) (ged 6) (eBacks u8))] [(wE cI ged u8)] rfl rfl rfl ?_
              exact z_iret C rfl ((f_X4_size (eCopy u8)), u8) rfl hw rfl dX2_putIn_89
            · replace hw := hw.2 c6
              refine z_bipush C dX2_putIn_51 (-3) (by decide) ?_
              exact z_iret C rfl ((-3), ed) rfl hw rfl dX2_putIn_53
        · replace hw := hw.2 c4
          refine z_iconst C dX2_putIn_25 (-1) (by decide) ?_
          exact z_iret C rfl ((-1), ed) rfl hw rfl dX2_putIn_26
def rmX2_takeOut : Room := { frames := 3, cells := 0, slots := 0, locals := 73 }
def wp_X2_takeOut (ed : zE) (p1 : Int32) (Q : Int32 → zE → Prop) : Prop := ((p1 < 0 → (Q (-1) ed)) ∧ (¬ p1 < 0 → ((p1 < (f_X4_size (eCopy ed)) → (((f_X4_size (eWait ed)) < 6 → (wp_X4_at (eCopy ed) p1 (fun r4 => (wp_X2_write ed (f_X0_of 2 p1 0 (eNum ed)) (fun u5 => (wp_X2_keepBack u5 (f_X0_of 1 p1 r4 (eNum u5)) (fun u6 => (Q r4 u6)))))))) ∧ (¬ (f_X4_size (eWait ed)) < 6 → (Q (-3) ed)))) ∧ (¬ p1 < (f_X4_size (eCopy ed)) → (Q (-1) ed)))))
set_option maxHeartbeats 4000000 in
set_option maxRecDepth 100000 in
theorem met_X2_takeOut (l : Launch) (D : va_G) (cI : ClassId) (ged : Nat → Nat) (ed : zE) (p1 : Int32) (Q : Int32 → zE → Prop) (hw : wp_X2_takeOut ed p1 Q) : ZM l D cI yX2_takeOut cX2_takeOut 3 (some .int) rmX2_takeOut [.ref (ged 0), .int p1] [(wE cI ged ed)] (fun u : Int32 × zE => some (.int u.1)) (fun u : Int32 × zE => [(wE cI ged (u.2))]) (fun u : Int32 × zE => Q u.1 u.2) := by
  refine z_body [some (.ref (ged 0)), some (.int p1), none] (by decide +kernel) rfl (Nat.le_of_ble_eq_true rfl) rfl ?_
  intro p e s m args below meth c A C hin
  unfold wp_X2_takeOut at hw
  refine z_iload_n C dX2_takeOut_0 rfl ?_
  refine z_if_lt C dX2_takeOut_1 15 (by decide) (fun c1 => ?_) (fun c1 => ?_)
  · replace hw := hw.1 c1
    refine z_iconst C dX2_takeOut_15 (-1) (by decide) ?_
    exact z_iret C rfl ((-1), ed) rfl hw rfl dX2_takeOut_16
  · replace hw := hw.2 c1
    refine z_iload_n C dX2_takeOut_4 rfl ?_
    refine z_aload_n C dX2_takeOut_5 rfl ?_
    refine z_get C inlX2 rfl 1 (by decide) mw_3_1 dX2_takeOut_6 0 0 rfl rfl rfl ?_
    refine z_open 0 [(wEo ged ed), (wN cI (ged 1) (ged 2) (eCopy ed)), (wN cI (ged 3) (ged 4) (eWait ed)), (wN cI (ged 5) (ged 6) (eBacks ed))] [(wEo ged ed), (wN cI (ged 1) (ged 2) (eCopy ed)), (wN cI (ged 3) (ged 4) (eWait ed)), (wN cI (ged 5) (ged 6) (eBacks ed))] rfl rfl rfl ?_
    refine z_callFV C [(wN cI (ged 1) (ged 2) (eCopy ed))] [(wEo ged ed), (wN cI (ged 3) (ged 4) (eWait ed)), (wN cI (ged 5) (ged 6) (eBacks ed))] rfl rfl (met_X4_size l D cI (ged 1) (ged 2) (eCopy ed)) y_X4_size mw_6_21 dX2_takeOut_9 rfl n_X4_size rfl (by decide) ⟨rfl, rfl, Nat.le_of_ble_eq_true rfl, Nat.le_of_ble_eq_true rfl⟩ (Nat.le_of_ble_eq_true rfl) (z_pm [1, 0, 2, 3] 4 rfl (by decide) rfl) ?_
    refine z_shut 0 [(wEo ged ed), (wN cI (ged 1) (ged 2) (eCopy ed)), (wN cI (ged 3) (ged 4) (eWait ed)), (wN cI (ged 5) (ged 6) (eBacks ed))] [(wE cI ged ed)] rfl rfl rfl ?_
    refine z_icmp_lt C dX2_takeOut_12 17 (by decide) (fun c2 => ?_) (fun c2 => ?_)
    · replace hw := hw.1 c2
      refine z_aload_n C dX2_takeOut_17 rfl ?_
      refine z_get C inlX2 rfl 2 (by decide) mw_3_2 dX2_takeOut_18 0 0 rfl rfl rfl ?_
      refine z_open 0 [(wEo ged ed), (wN cI (ged 1) (ged 2) (eCopy ed)), (wN cI (ged 3) (ged 4) (eWait ed)), (wN cI (ged 5) (ged 6) (eBacks ed))] [(wEo ged ed), (wN cI (ged 1) (ged 2) (eCopy ed)), (wN cI (ged 3) (ged 4) (eWait ed)), (wN cI (ged 5) (ged 6) (eBacks ed))] rfl rfl rfl ?_
      refine z_callFV C [(wN cI (ged 3) (ged 4) (eWait ed))] [(wEo ged ed), (wN cI (ged 1) (ged 2) (eCopy ed)), (wN cI (ged 5) (ged 6) (eBacks ed))] rfl rfl (met_X4_size l D cI (ged 3) (ged 4) (eWait ed)) y_X4_size mw_6_21 dX2_takeOut_21 rfl n_X4_size rfl (by decide) ⟨rfl, rfl, Nat.le_of_ble_eq_true rfl, Nat.le_of_ble_eq_true rfl⟩ (Nat.le_of_ble_eq_true rfl) (z_pm [2, 0, 1, 3] 4 rfl (by decide) rfl) ?_
      refine z_shut 0 [(wEo ged ed), (wN cI (ged 1) (ged 2) (eCopy ed)), (wN cI (ged 3) (ged 4) (eWait ed)), (wN cI (ged 5) (ged 6) (eBacks ed))] [(wE cI ged ed)] rfl rfl rfl ?_
      refine z_bipush C dX2_takeOut_24 6 (by decide) ?_
      refine z_icmp_lt C dX2_takeOut_26 32 (by decide) (fun c3 => ?_) (fun c3 => ?_)
      · replace hw := hw.1 c3
        refine z_aload_n C dX2_takeOut_32 rfl ?_
        refine z_get C inlX2 rfl 1 (by decide) mw_3_1 dX2_takeOut_33 0 0 rfl rfl rfl ?_
        refine z_iload_n C dX2_takeOut_36 rfl ?_
        refine z_open 0 [(wEo ged ed), (wN cI (ged 1) (ged 2) (eCopy ed)), (wN cI (ged 3) (ged 4) (eWait ed)), (wN cI (ged 5) (ged 6) (eBacks ed))] [(wEo ged ed), (wN cI (ged 1) (ged 2) (eCopy ed)), (wN cI (ged 3) (ged 4) (eWait ed)), (wN cI (ged 5) (ged 6) (eBacks ed))] rfl rfl rfl ?_
        refine z_callV0 C [(wN cI (ged 1) (ged 2) (eCopy ed))] [(wEo ged ed), (wN cI (ged 3) (ged 4) (eWait ed)), (wN cI (ged 5) (ged 6) (eBacks ed))] rfl rfl (met_X4_at l D cI (ged 1) (ged 2) (eCopy ed) p1 _ hw) y_X4_at mw_8_6 dX2_takeOut_37 rfl n_X4_at rfl (by decide) ⟨rfl, rfl, Nat.le_of_ble_eq_true rfl, Nat.le_of_ble_eq_true rfl⟩ (Nat.le_of_ble_eq_true rfl) (z_pm [1, 0, 2, 3] 4 rfl (by decide) rfl) ?_
        intro r4 hw
        try dsimp only at hw
        refine z_bs [(wN cI (ged 1) (ged 2) (eCopy ed)), (wEo ged ed), (wN cI (ged 3) (ged 4) (eWait ed)), (wN cI (ged 5) (ged 6) (eBacks ed))] [.int r4] rfl rfl ?_
        refine z_perm C [(wEo ged ed), (wN cI (ged 1) (ged 2) (eCopy ed)), (wN cI (ged 3) (ged 4) (eWait ed)), (wN cI (ged 5) (ged 6) (eBacks ed))] (z_pm [1, 0, 2, 3] 4 rfl (by decide) rfl) ?_
        refine z_shut 0 [(wEo ged ed), (wN cI (ged 1) (ged 2) (eCopy ed)), (wN cI (ged 3) (ged 4) (eWait ed)), (wN cI (ged 5) (ged 6) (eBacks ed))] [(wE cI ged ed)] rfl rfl rfl ?_
        refine z_istore_n C dX2_takeOut_40 [some (.ref (ged 0)), some (.int p1), some (.int r4)] (by decide) rfl ?_
        refine z_aload_n C dX2_takeOut_41 rfl ?_
        refine z_iconst C dX2_takeOut_42 2 (by decide) ?_
        refine z_iload_n C dX2_takeOut_43 rfl ?_
        refine z_iconst C dX2_takeOut_44 0 (by decide) ?_
        refine z_aload_n C dX2_takeOut_45 rfl ?_
        refine z_get C inlX2 rfl 0 (by decide) mw_2_23 dX2_takeOut_46 0 0 rfl rfl rfl ?_
        refine z_callFS C [] [(wE cI ged ed)] (met_X0_of l D cI 2 p1 0 (eNum ed)) y_X0_of mw_7_1 dX2_takeOut_49 rfl n_X0_of rfl (by decide) ⟨rfl, rfl, Nat.le_of_ble_eq_true rfl, Nat.le_of_ble_eq_true rfl⟩ (Nat.le_of_ble_eq_true rfl) (z_pm [0] 1 rfl (by decide) rfl) ?_
        refine z_callV0 C [(wE cI ged ed)] [] rfl rfl (met_X2_write l D cI ged ed (f_X0_of 2 p1 0 (eNum ed)) _ hw) y_X2_write mw_7_5 dX2_takeOut_52 rfl n_X2_write rfl (by decide) ⟨rfl, rfl, Nat.le_of_ble_eq_true rfl, Nat.le_of_ble_eq_true rfl⟩ (Nat.le_of_ble_eq_true rfl) (z_pm [0] 1 rfl (by decide) rfl) ?_
        intro u5 hw
        try dsimp only at hw
        refine z_bs [(wE cI ged u5)] [] rfl rfl ?_
        refine z_aload_n C dX2_takeOut_55 rfl ?_
        refine z_iconst C dX2_takeOut_56 1 (by decide) ?_
        refine z_iload_n C dX2_takeOut_57 rfl ?_
        refine z_iload_n C dX2_takeOut_58 rfl ?_
        refine z_aload_n C dX2_takeOut_59 rfl ?_
        refine z_get C inlX2 rfl 0 (by decide) mw_2_23 dX2_takeOut_60 0 0 rfl rfl rfl ?_
        refine z_callFS C [] [(wE cI ged u5)] (met_X0_of l D cI 1 p1 r4 (eNum u5)) y_X0_of mw_7_1 dX2_takeOut_63 rfl n_X0_of rfl (by decide) ⟨rfl, rfl, Nat.le_of_ble_eq_true rfl, Nat.le_of_ble_eq_true rfl⟩ (Nat.le_of_ble_eq_true rfl) (z_pm [0] 1 rfl (by decide) rfl) ?_
        refine z_callV0 C [(wE cI ged u5)] [] rfl rfl (met_X2_keepBack l D cI ged u5 (f_X0_of 1 p1 r4 (eNum u5)) _ hw) y_X2_keepBack mw_8_22 dX2_takeOut_66 rfl n_X2_keepBack rfl (by decide) ⟨rfl, rfl, Nat.le_of_ble_eq_true rfl, Nat.le_of_ble_eq_true rfl⟩ (Nat.le_of_ble_eq_true rfl) (z_pm [0] 1 rfl (by decide) rfl) ?_
        intro u6 hw
        try dsimp only at hw
        refine z_bs [(wE cI ged u6)] [] rfl rfl ?_
        refine z_iload_n C dX2_takeOut_69 rfl ?_
        exact z_iret C rfl (r4, u6) rfl hw rfl dX2_takeOut_70
      · replace hw := hw.2 c3
        refine z_bipush C dX2_takeOut_29 (-3) (by decide) ?_
        exact z_iret C rfl ((-3), ed) rfl hw rfl dX2_takeOut_31
    · replace hw := hw.2 c2
      refine z_iconst C dX2_takeOut_15 (-1) (by decide) ?_
      exact z_iret C rfl ((-1), ed) rfl hw rfl dX2_takeOut_16
def rmX2_goBack : Room := { frames := 3, cells := 0, slots := 0, locals := 73 }
def jn_X2_goBack_63 (ed : zE) (v1 : Int32) (v2 : Int32) (v3 : Int32)  (Q : Int32 → zE → Prop)  : Prop := (wp_X4_removeAt (eBacks ed) v1 (fun u7 => ((v3 = 0 → (Q v3 (eSetBacks ed u7))) ∧ (¬ v3 = 0 → (wp_X2_write (eSetBacks ed u7) v2 (fun u9 => (Q v3 u9)))))))
set_option maxHeartbeats 4000000 in
set_option maxRecDepth 100000 in
theorem wk_X2_goBack_63 {p : Program} {l : Launch} {e : Env} {s : State} {m : MethodId} {args : Array Value} {below : List Frame} {meth : Method} {c : Code} {D : va_G} {cI : ClassId} {A : Nat → Prop} (C : ZC p s m args meth c RX2 cX2_goBack 4 (some .int) D cI A) (ged : Nat → Nat) (ed : zE) (v1 : Int32) (v2 : Int32) (v3 : Int32)  (Q : Int32 → zE → Prop)  (hw : jn_X2_goBack_63 ed v1 v2 v3  Q ) : ZZ p l e rmX2_goBack s m args below meth c D A 4 0 0 (MQ below (ZQ D A (fun u : Int32 × zE => some (.int u.1)) (fun u : Int32 × zE => [(wE cI ged (u.2))]) (fun u : Int32 × zE => Q u.1 u.2)) args s rmX2_goBack.cells rmX2_goBack.slots A) [(wE cI ged ed)] 63 [some (.ref (ged 0)), some (.int v1), some (.int v2), some (.int v3)] [] := by
  unfold jn_X2_goBack_63 at hw
  refine z_aload_n C dX2_goBack_63 rfl ?_
  refine z_get C inlX2 rfl 3 (by decide) mw_3_3 dX2_goBack_64 0 0 rfl rfl rfl ?_
  refine z_iload_n C dX2_goBack_67 rfl ?_
  refine z_open 0 [(wEo ged ed), (wN cI (ged 1) (ged 2) (eCopy ed)), (wN cI (ged 3) (ged 4) (eWait ed)), (wN cI (ged 5) (ged 6) (eBacks ed))] [(wEo ged ed), (wN cI (ged 1) (ged 2) (eCopy ed)), (wN cI (ged 3) (ged 4) (eWait ed)), (wN cI (ged 5) (ged 6) (eBacks ed))] rfl rfl rfl ?_
  refine z_callV0 C [(wN cI (ged 5) (ged 6) (eBacks ed))] [(wEo ged ed), (wN cI (ged 1) (ged 2) (eCopy ed)), (wN cI (ged 3) (ged 4) (eWait ed))] rfl rfl (met_X4_removeAt l D cI (ged 5) (ged 6) (eBacks ed) v1 _ hw) y_X4_removeAt mw_8_2 dX2_goBack_68 rfl n_X4_removeAt rfl (by decide) ⟨rfl, rfl, Nat.le_of_ble_eq_true rfl, Nat.le_of_ble_eq_true rfl⟩ (Nat.le_of_ble_eq_true rfl) (z_pm [3, 0, 1, 2] 4 rfl (by decide) rfl) ?_
  intro u7 hw
  try dsimp only at hw
  refine z_bs [(wN cI (ged 5) (ged 6) u7), (wEo ged ed), (wN cI (ged 1) (ged 2) (eCopy ed)), (wN cI (ged 3) (ged 4) (eWait ed))] [] rfl rfl ?_
  refine z_perm C [(wEo ged ed), (wN cI (ged 1) (ged 2) (eCopy ed)), (wN cI (ged 3) (ged 4) (eWait ed)), (wN cI (ged 5) (ged 6) u7)] (z_pm [1, 2, 3, 0] 4 rfl (by decide) rfl) ?_
  refine z_shut 0 [(wEo ged ed), (wN cI (ged 1) (ged 2) (eCopy ed)), (wN cI (ged 3) (ged 4) (eWait ed)), (wN cI (ged 5) (ged 6) u7)] [(wE cI ged (eSetBacks ed u7))] rfl rfl rfl ?_
  refine z_iload_n C dX2_goBack_71 rfl ?_
  refine z_if_eq C dX2_goBack_72 80 (by decide) (fun c8 => ?_) (fun c8 => ?_)
  · replace hw := hw.1 c8
    refine z_iload_n C dX2_goBack_80 rfl ?_
    exact z_iret C rfl (v3, (eSetBacks ed u7)) rfl hw rfl dX2_goBack_81
  · replace hw := hw.2 c8
    refine z_aload_n C dX2_goBack_75 rfl ?_
    refine z_iload_n C dX2_goBack_76 rfl ?_
    refine z_callV0 C [(wE cI ged (eSetBacks ed u7))] [] rfl rfl (met_X2_write l D cI ged (eSetBacks ed u7) v2 _ hw) y_X2_write mw_7_5 dX2_goBack_77 rfl n_X2_write rfl (by decide) ⟨rfl, rfl, Nat.le_of_ble_eq_true rfl, Nat.le_of_ble_eq_true rfl⟩ (Nat.le_of_ble_eq_true rfl) (z_pm [0] 1 rfl (by decide) rfl) ?_
    intro u9 hw
    try dsimp only at hw
    refine z_bs [(wE cI ged u9)] [] rfl rfl ?_
    refine z_iload_n C dX2_goBack_80 rfl ?_
    exact z_iret C rfl (v3, u9) rfl hw rfl dX2_goBack_81
def wp_X2_goBack (ed : zE)  (Q : Int32 → zE → Prop) : Prop := (∀ x1 : Int32, x1 = ((f_X4_size (eBacks ed)) - 1) → ((0 ≤ x1 → (wp_X4_at (eBacks ed) x1 (fun r3 => (∀ x4 : Int32, x4 = (f_X0_kind r3) → ((6 ≤ (f_X4_size (eWait ed)) → (Q (-3) ed)) ∧ (¬ 6 ≤ (f_X4_size (eWait ed)) → ((¬ x4 = 1 → (jn_X2_goBack_63 ed x1 r3 x4  Q )) ∧ (x4 = 1 → (((f_X4_size (eCopy ed)) < 30 → (jn_X2_goBack_63 ed x1 r3 x4  Q )) ∧ (¬ (f_X4_size (eCopy ed)) < 30 → (Q (-3) ed))))))))))) ∧ (¬ 0 ≤ x1 → (Q (-2) ed))))
set_option maxHeartbeats 4000000 in
set_option maxRecDepth 100000 in
theorem met_X2_goBack (l : Launch) (D : va_G) (cI : ClassId) (ged : Nat → Nat) (ed : zE)  (Q : Int32 → zE → Prop) (hw : wp_X2_goBack ed Q) : ZM l D cI yX2_goBack cX2_goBack 4 (some .int) rmX2_goBack [.ref (ged 0)] [(wE cI ged ed)] (fun u : Int32 × zE => some (.int u.1)) (fun u : Int32 × zE => [(wE cI ged (u.2))]) (fun u : Int32 × zE => Q u.1 u.2) := by
  refine z_body [some (.ref (ged 0)), none, none, none] (by decide +kernel) rfl (Nat.le_of_ble_eq_true rfl) rfl ?_
  intro p e s m args below meth c A C hin
  unfold wp_X2_goBack at hw
  refine z_aload_n C dX2_goBack_0 rfl ?_
  refine z_get C inlX2 rfl 3 (by decide) mw_3_3 dX2_goBack_1 0 0 rfl rfl rfl ?_
  refine z_open 0 [(wEo ged ed), (wN cI (ged 1) (ged 2) (eCopy ed)), (wN cI (ged 3) (ged 4) (eWait ed)), (wN cI (ged 5) (ged 6) (eBacks ed))] [(wEo ged ed), (wN cI (ged 1) (ged 2) (eCopy ed)), (wN cI (ged 3) (ged 4) (eWait ed)), (wN cI (ged 5) (ged 6) (eBacks ed))] rfl rfl rfl ?_
  refine z_callFV C [(wN cI (ged 5) (ged 6) (eBacks ed))] [(wEo ged ed), (wN cI (ged 1) (ged 2) (eCopy ed)), (wN cI (ged 3) (ged 4) (eWait ed))] rfl rfl (met_X4_size l D cI (ged 5) (ged 6) (eBacks ed)) y_X4_size mw_6_21 dX2_goBack_4 rfl n_X4_size rfl (by decide) ⟨rfl, rfl, Nat.le_of_ble_eq_true rfl, Nat.le_of_ble_eq_true rfl⟩ (Nat.le_of_ble_eq_true rfl) (z_pm [3, 0, 1, 2] 4 rfl (by decide) rfl) ?_
  refine z_shut 0 [(wEo ged ed), (wN cI (ged 1) (ged 2) (eCopy ed)), (wN cI (ged 3) (ged 4) (eWait ed)), (wN cI (ged 5) (ged 6) (eBacks ed))] [(wE cI ged ed)] rfl rfl rfl ?_
  refine z_iconst C dX2_goBack_7 1 (by decide) ?_
  refine z_isub C dX2_goBack_8 ?_
  refine z_name C (fun x1 ex1 => ?_)
  replace hw := hw x1 ex1
  refine z_istore_n C dX2_goBack_9 [some (.ref (ged 0)), some (.int x1), none, none] (by decide) rfl ?_
  refine z_iload_n C dX2_goBack_10 rfl ?_
  refine z_if_ge C dX2_goBack_11 17 (by decide) (fun c2 => ?_) (fun c2 => ?_)
  · replace hw := hw.1 c2
    refine z_aload_n C dX2_goBack_17 rfl ?_
    refine z_get C inlX2 rfl 3 (by decide) mw_3_3 dX2_goBack_18 0 0 rfl rfl rfl ?_
    refine z_iload_n C dX2_goBack_21 rfl ?_
    refine z_open 0 [(wEo ged ed), (wN cI (ged 1) (ged 2) (eCopy ed)), (wN cI (ged 3) (ged 4) (eWait ed)), (wN cI (ged 5) (ged 6) (eBacks ed))] [(wEo ged ed), (wN cI (ged 1) (ged 2) (eCopy ed)), (wN cI (ged 3) (ged 4) (eWait ed)), (wN cI (ged 5) (ged 6) (eBacks ed))] rfl rfl rfl ?_
    refine z_callV0 C [(wN cI (ged 5) (ged 6) (eBacks ed))] [(wEo ged ed), (wN cI (ged 1) (ged 2) (eCopy ed)), (wN cI (ged 3) (ged 4) (eWait ed))] rfl rfl (met_X4_at l D cI (ged 5) (ged 6) (eBacks ed) x1 _ hw) y_X4_at mw_8_6 dX2_goBack_22 rfl n_X4_at rfl (by decide) ⟨rfl, rfl, Nat.le_of_ble_eq_true rfl, Nat.le_of_ble_eq_true rfl⟩ (Nat.le_of_ble_eq_true rfl) (z_pm [3, 0, 1, 2] 4 rfl (by decide) rfl) ?_
    intro r3 hw
    try dsimp only at hw
    refine z_bs [(wN cI (ged 5) (ged 6) (eBacks ed)), (wEo ged ed), (wN cI (ged 1) (ged 2) (eCopy ed)), (wN cI (ged 3) (ged 4) (eWait ed))] [.int r3] rfl rfl ?_
    refine z_perm C [(wEo ged ed), (wN cI (ged 1) (ged 2) (eCopy ed)), (wN cI (ged 3) (ged 4) (eWait ed)), (wN cI (ged 5) (ged 6) (eBacks ed))] (z_pm [1, 2, 3, 0] 4 rfl (by decide) rfl) ?_
    refine z_shut 0 [(wEo ged ed), (wN cI (ged 1) (ged 2) (eCopy ed)), (wN cI (ged 3) (ged 4) (eWait ed)), (wN cI (ged 5) (ged 6) (eBacks ed))] [(wE cI ged ed)] rfl rfl rfl ?_
    refine z_istore_n C dX2_goBack_25 [some (.ref (ged 0)), some (.int x1), some (.int r3), none] (by decide) rfl ?_
    refine z_iload_n C dX2_goBack_26 rfl ?_
    refine z_callFS C [] [(wE cI ged ed)] (met_X0_kind l D cI r3) y_X0_kind mw_7_16 dX2_goBack_27 rfl n_X0_kind rfl (by decide) ⟨rfl, rfl, Nat.le_of_ble_eq_true rfl, Nat.le_of_ble_eq_true rfl⟩ (Nat.le_of_ble_eq_true rfl) (z_pm [0] 1 rfl (by decide) rfl) ?_
    refine z_name C (fun x4 ex4 => ?_)
    replace hw := hw x4 ex4
    refine z_istore_n C dX2_goBack_30 [some (.ref (ged 0)), some (.int x1), some (.int r3), some (.int x4)] (by decide) rfl ?_
    refine z_aload_n C dX2_goBack_31 rfl ?_
    refine z_get C inlX2 rfl 2 (by decide) mw_3_2 dX2_goBack_32 0 0 rfl rfl rfl ?_
    refine z_open 0 [(wEo ged ed), (wN cI (ged 1) (ged 2) (eCopy ed)), (wN cI (ged 3) (ged 4) (eWait ed)), (wN cI (ged 5) (ged 6) (eBacks ed))] [(wEo ged ed), (wN cI (ged 1) (ged 2) (eCopy ed)), (wN cI (ged 3) (ged 4) (eWait ed)), (wN cI (ged 5) (ged 6) (eBacks ed))] rfl rfl rfl ?_
    refine z_callFV C [(wN cI (ged 3) (ged 4) (eWait ed))] [(wEo ged ed), (wN cI (ged 1) (ged 2) (eCopy ed)), (wN cI (ged 5) (ged 6) (eBacks ed))] rfl rfl (met_X4_size l D cI (ged 3) (ged 4) (eWait ed)) y_X4_size mw_6_21 dX2_goBack_35 rfl n_X4_size rfl (by decide) ⟨rfl, rfl, Nat.le_of_ble_eq_true rfl, Nat.le_of_ble_eq_true rfl⟩ (Nat.le_of_ble_eq_true rfl) (z_pm [2, 0, 1, 3] 4 rfl (by decide) rfl) ?_
    refine z_shut 0 [(wEo ged ed), (wN cI (ged 1) (ged 2) (eCopy ed)), (wN cI (ged 3) (ged 4) (eWait ed)), (wN cI (ged 5) (ged 6) (eBacks ed))] [(wE cI ged ed)] rfl rfl rfl ?_
    refine z_bipush C dX2_goBack_38 6 (by decide) ?_
    refine z_icmp_ge C dX2_goBack_40 60 (by decide) (fun c5 => ?_) (fun c5 => ?_)
    · replace hw := hw.1 c5
      refine z_bipush C dX2_goBack_60 (-3) (by decide) ?_
      exact z_iret C rfl ((-3), ed) rfl hw rfl dX2_goBack_62
    · replace hw := hw.2 c5
      refine z_iload_n C dX2_goBack_43 rfl ?_
      refine z_iconst C dX2_goBack_44 1 (by decide) ?_
      refine z_icmp_ne C dX2_goBack_45 63 (by decide) (fun c6 => ?_) (fun c6 => ?_)
      · replace hw := hw.1 c6
        exact wk_X2_goBack_63 C ged ed x1 r3 x4  _  hw
      · replace hw := hw.2 c6
        refine z_aload_n C dX2_goBack_48 rfl ?_
        refine z_get C inlX2 rfl 1 (by decide) mw_3_1 dX2_goBack_49 0 0 rfl rfl rfl ?_
        refine z_open 0 [(wEo ged ed), (wN cI (ged 1) (ged 2) (eCopy ed)), (wN cI (ged 3) (ged 4) (eWait ed)), (wN cI (ged 5) (ged 6) (eBacks ed))] [(wEo ged ed), (wN cI (ged 1) (ged 2) (eCopy ed)), (wN cI (ged 3) (ged 4) (eWait ed)), (wN cI (ged 5) (ged 6) (eBacks ed))] rfl rfl rfl ?_
        refine z_callFV C [(wN cI (ged 1) (ged 2) (eCopy ed))] [(wEo ged ed), (wN cI (ged 3) (ged 4) (eWait ed)), (wN cI (ged 5) (ged 6) (eBacks ed))] rfl rfl (met_X4_size l D cI (ged 1) (ged 2) (eCopy ed)) y_X4_size mw_6_21 dX2_goBack_52 rfl n_X4_size rfl (by decide) ⟨rfl, rfl, Nat.le_of_ble_eq_true rfl, Nat.le_of_ble_eq_true rfl⟩ (Nat.le_of_ble_eq_true rfl) (z_pm [1, 0, 2, 3] 4 rfl (by decide) rfl) ?_
        refine z_shut 0 [(wEo ged ed), (wN cI (ged 1) (ged 2) (eCopy ed)), (wN cI (ged 3) (ged 4) (eWait ed)), (wN cI (ged 5) (ged 6) (eBacks ed))] [(wE cI ged ed)] rfl rfl rfl ?_
        refine z_bipush C dX2_goBack_55 30 (by decide) ?_
        refine z_icmp_lt C dX2_goBack_57 63 (by decide) (fun c10 => ?_) (fun c10 => ?_)
        · replace hw := hw.1 c10
          exact wk_X2_goBack_63 C ged ed x1 r3 x4  _  hw
        · replace hw := hw.2 c10
          refine z_bipush C dX2_goBack_60 (-3) (by decide) ?_
          exact z_iret C rfl ((-3), ed) rfl hw rfl dX2_goBack_62
  · replace hw := hw.2 c2
    refine z_bipush C dX2_goBack_14 (-2) (by decide) ?_
    exact z_iret C rfl ((-2), ed) rfl hw rfl dX2_goBack_16
def rmX2_setSpot : Room := { frames := 1, cells := 0, slots := 0, locals := 20 }
def wp_X2_setSpot (ed : zE) (p1 : Int32) (Q : Int32 → zE → Prop) : Prop := ((p1 < 0 → (Q (-1) ed)) ∧ (¬ p1 < 0 → ((p1 ≤ (f_X4_size (eCopy ed)) → (∀ x3 : Int32, x3 = (eSpot ed) → (Q x3 (eSetSpot ed p1)))) ∧ (¬ p1 ≤ (f_X4_size (eCopy ed)) → (Q (-1) ed)))))
set_option maxHeartbeats 4000000 in
set_option maxRecDepth 100000 in
theorem met_X2_setSpot (l : Launch) (D : va_G) (cI : ClassId) (ged : Nat → Nat) (ed : zE) (p1 : Int32) (Q : Int32 → zE → Prop) (hw : wp_X2_setSpot ed p1 Q) : ZM l D cI yX2_setSpot cX2_setSpot 3 (some .int) rmX2_setSpot [.ref (ged 0), .int p1] [(wE cI ged ed)] (fun u : Int32 × zE => some (.int u.1)) (fun u : Int32 × zE => [(wE cI ged (u.2))]) (fun u : Int32 × zE => Q u.1 u.2) := by
  refine z_body [some (.ref (ged 0)), some (.int p1), none] (by decide +kernel) rfl (Nat.le_of_ble_eq_true rfl) rfl ?_
  intro p e s m args below meth c A C hin
  unfold wp_X2_setSpot at hw
  refine z_iload_n C dX2_setSpot_0 rfl ?_
  refine z_if_lt C dX2_setSpot_1 15 (by decide) (fun c1 => ?_) (fun c1 => ?_)
  · replace hw := hw.1 c1
    refine z_iconst C dX2_setSpot_15 (-1) (by decide) ?_
    exact z_iret C rfl ((-1), ed) rfl hw rfl dX2_setSpot_16
  · replace hw := hw.2 c1
    refine z_iload_n C dX2_setSpot_4 rfl ?_
    refine z_aload_n C dX2_setSpot_5 rfl ?_
    refine z_get C inlX2 rfl 1 (by decide) mw_3_1 dX2_setSpot_6 0 0 rfl rfl rfl ?_
    refine z_open 0 [(wEo ged ed), (wN cI (ged 1) (ged 2) (eCopy ed)), (wN cI (ged 3) (ged 4) (eWait ed)), (wN cI (ged 5) (ged 6) (eBacks ed))] [(wEo ged ed), (wN cI (ged 1) (ged 2) (eCopy ed)), (wN cI (ged 3) (ged 4) (eWait ed)), (wN cI (ged 5) (ged 6) (eBacks ed))] rfl rfl rfl ?_
    refine z_callFV C [(wN cI (ged 1) (ged 2) (eCopy ed))] [(wEo ged ed), (wN cI (ged 3) (ged 4) (eWait ed)), (wN cI (ged 5) (ged 6) (eBacks ed))] rfl rfl (met_X4_size l D cI (ged 1) (ged 2) (eCopy ed)) y_X4_size mw_6_21 dX2_setSpot_9 rfl n_X4_size rfl (by decide) ⟨rfl, rfl, Nat.le_of_ble_eq_true rfl, Nat.le_of_ble_eq_true rfl⟩ (Nat.le_of_ble_eq_true rfl) (z_pm [1, 0, 2, 3] 4 rfl (by decide) rfl) ?_
    refine z_shut 0 [(wEo ged ed), (wN cI (ged 1) (ged 2) (eCopy ed)), (wN cI (ged 3) (ged 4) (eWait ed)), (wN cI (ged 5) (ged 6) (eBacks ed))] [(wE cI ged ed)] rfl rfl rfl ?_
    refine z_icmp_le C dX2_setSpot_12 17 (by decide) (fun c2 => ?_) (fun c2 => ?_)
    · replace hw := hw.1 c2
      refine z_aload_n C dX2_setSpot_17 rfl ?_
      refine z_get C inlX2 rfl 6 (by decide) mw_5_21 dX2_setSpot_18 0 0 rfl rfl rfl ?_
      refine z_name C (fun x3 ex3 => ?_)
      replace hw := hw x3 ex3
      refine z_istore_n C dX2_setSpot_21 [some (.ref (ged 0)), some (.int p1), some (.int x3)] (by decide) rfl ?_
      refine z_aload_n C dX2_setSpot_22 rfl ?_
      refine z_iload_n C dX2_setSpot_23 rfl ?_
      refine z_put C inlX2 rfl tyX2 tyX2_ok nmX2 6 (by decide) mw_5_21 rfl rfl rfl rfl dX2_setSpot_24 0 0 rfl rfl (Nat.le_of_ble_eq_true rfl) [(wE cI ged (eSetSpot ed p1))] rfl ?_
      refine z_iload_n C dX2_setSpot_27 rfl ?_
      exact z_iret C rfl (x3, (eSetSpot ed p1)) rfl hw rfl dX2_setSpot_28
    · replace hw := hw.2 c2
      refine z_iconst C dX2_setSpot_15 (-1) (by decide) ?_
      exact z_iret C rfl ((-1), ed) rfl hw rfl dX2_setSpot_16
def rmX2_outgoing : Room := { frames := 1, cells := 0, slots := 0, locals := 28 }
def lb_X2_outgoing_14 (ed : zE) (o : zN)   (Q : Int32 → Prop)  (K14 : (Int32) → (Int32) → Prop) (v2 : Int32) (v3 : Int32) : Prop := (((f_X4_size o) ≤ v3 → (Q v2)) ∧ (¬ (f_X4_size o) ≤ v3 → (wp_X4_at o v3 (fun r4 => (∀ x5 : Int32, x5 = (f_X0_reshaped v2 r4) → (K14 x5 (v3 + 1)))))))
set_option maxHeartbeats 4000000 in
set_option maxRecDepth 100000 in
theorem wk_X2_outgoing_14 {p : Program} {l : Launch} {e : Env} {s : State} {m : MethodId} {args : Array Value} {below : List Frame} {meth : Method} {c : Code} {D : va_G} {cI : ClassId} {A : Nat → Prop} (C : ZC p s m args meth c RX2 cX2_outgoing 4 (some .int) D cI A) (ged : Nat → Nat) (ao : Nat) (co : Nat) (ed : zE) (o : zN)   (v2 : Int32) (v3 : Int32) (Q : Int32 → Prop)  (hw : zLoop2 (lb_X2_outgoing_14 ed o   Q ) v2 v3) : ZZ p l e rmX2_outgoing s m args below meth c D A 4 0 0 (MQ below (ZQ D A (fun u : Int32 => some (.int u)) (fun u : Int32 => [(wE cI ged ed), (wN cI ao co o)]) (fun u : Int32 => Q u)) args s rmX2_outgoing.cells rmX2_outgoing.slots A) [(wE cI ged ed), (wN cI ao co o)] 14 [none, some (.ref ao), some (.int v2), some (.int v3)] [] := by
  refine zLoop2_w (fun (v2 : Int32) (v3 : Int32) => ZZ p l e rmX2_outgoing s m args below meth c D A 4 0 0 (MQ below (ZQ D A (fun u : Int32 => some (.int u)) (fun u : Int32 => [(wE cI ged ed), (wN cI ao co o)]) (fun u : Int32 => Q u)) args s rmX2_outgoing.cells rmX2_outgoing.slots A) [(wE cI ged ed), (wN cI ao co o)] 14 [none, some (.ref ao), some (.int v2), some (.int v3)] []) ?_ _ _ hw
  clear hw
  intro K14 hK14 v2 v3 hw
  unfold lb_X2_outgoing_14 at hw
  refine z_iload_n C dX2_outgoing_14 rfl ?_
  refine z_aload_n C dX2_outgoing_15 rfl ?_
  refine z_callFV C [(wN cI ao co o)] [(wE cI ged ed)] rfl rfl (met_X4_size l D cI ao co o) y_X4_size mw_6_21 dX2_outgoing_16 rfl n_X4_size rfl (by decide) ⟨rfl, rfl, Nat.le_of_ble_eq_true rfl, Nat.le_of_ble_eq_true rfl⟩ (Nat.le_of_ble_eq_true rfl) (z_pm [1, 0] 2 rfl (by decide) rfl) ?_
  refine z_icmp_ge C dX2_outgoing_19 38 (by decide) (fun c3 => ?_) (fun c3 => ?_)
  · replace hw := hw.1 c3
    refine z_iload_n C dX2_outgoing_38 rfl ?_
    exact z_iret C rfl (v2) rfl hw rfl dX2_outgoing_39
  · replace hw := hw.2 c3
    refine z_iload_n C dX2_outgoing_22 rfl ?_
    refine z_aload_n C dX2_outgoing_23 rfl ?_
    refine z_iload_n C dX2_outgoing_24 rfl ?_
    refine z_callV0 C [(wN cI ao co o)] [(wE cI ged ed)] rfl rfl (met_X4_at l D cI ao co o v3 _ hw) y_X4_at mw_8_6 dX2_outgoing_25 rfl n_X4_at rfl (by decide) ⟨rfl, rfl, Nat.le_of_ble_eq_true rfl, Nat.le_of_ble_eq_true rfl⟩ (Nat.le_of_ble_eq_true rfl) (z_pm [1, 0] 2 rfl (by decide) rfl) ?_
    intro r4 hw
    try dsimp only at hw
    refine z_bs [(wN cI ao co o), (wE cI ged ed)] [.int r4, .int v2] rfl rfl ?_
    refine z_perm C [(wE cI ged ed), (wN cI ao co o)] (z_pm [1, 0] 2 rfl (by decide) rfl) ?_
    refine z_callFS C [] [(wE cI ged ed), (wN cI ao co o)] (met_X0_reshaped l D cI v2 r4) y_X0_reshaped mw_8_10 dX2_outgoing_28 rfl n_X0_reshaped rfl (by decide) ⟨rfl, rfl, Nat.le_of_ble_eq_true rfl, Nat.le_of_ble_eq_true rfl⟩ (Nat.le_of_ble_eq_true rfl) (z_pm [0, 1] 2 rfl (by decide) rfl) ?_
    refine z_name C (fun x5 ex5 => ?_)
    replace hw := hw x5 ex5
    refine z_istore_n C dX2_outgoing_31 [none, some (.ref ao), some (.int x5), some (.int v3)] (by decide) rfl ?_
    refine z_iinc C dX2_outgoing_32 rfl (v3 + 1) (by rfl) [none, some (.ref ao), some (.int x5), some (.int (v3 + 1))] (by decide) rfl ?_
    refine z_goto C dX2_outgoing_35 14 (by decide) ?_
    exact hK14 _ _ hw
def wp_X2_outgoing (ed : zE) (o : zN)  (Q : Int32 → Prop) : Prop := (wp_X4_at (eWait ed) 0 (fun r1 => (∀ x2 : Int32, x2 = (eHeard ed) → (zLoop2 (lb_X2_outgoing_14 ed o   Q ) r1 x2))))
set_option maxHeartbeats 4000000 in
set_option maxRecDepth 100000 in
theorem met_X2_outgoing (l : Launch) (D : va_G) (cI : ClassId) (ged : Nat → Nat) (ao : Nat) (co : Nat) (ed : zE) (o : zN)  (Q : Int32 → Prop) (hw : wp_X2_outgoing ed o Q) : ZM l D cI yX2_outgoing cX2_outgoing 4 (some .int) rmX2_outgoing [.ref (ged 0), .ref ao] [(wE cI ged ed), (wN cI ao co o)] (fun u : Int32 => some (.int u)) (fun u : Int32 => [(wE cI ged ed), (wN cI ao co o)]) (fun u : Int32 => Q u) := by
  refine z_body [some (.ref (ged 0)), some (.ref ao), none, none] (by decide +kernel) rfl (Nat.le_of_ble_eq_true rfl) rfl ?_
  intro p e s m args below meth c A C hin
  unfold wp_X2_outgoing at hw
  refine z_aload_n C dX2_outgoing_0 rfl ?_
  refine z_get C inlX2 rfl 2 (by decide) mw_3_2 dX2_outgoing_1 0 0 rfl rfl rfl ?_
  refine z_iconst C dX2_outgoing_4 0 (by decide) ?_
  refine z_open 0 [(wEo ged ed), (wN cI (ged 1) (ged 2) (eCopy ed)), (wN cI (ged 3) (ged 4) (eWait ed)), (wN cI (ged 5) (ged 6) (eBacks ed))] [(wEo ged ed), (wN cI (ged 1) (ged 2) (eCopy ed)), (wN cI (ged 3) (ged 4) (eWait ed)), (wN cI (ged 5) (ged 6) (eBacks ed)), (wN cI ao co o)] rfl rfl rfl ?_
  refine z_callV0 C [(wN cI (ged 3) (ged 4) (eWait ed))] [(wEo ged ed), (wN cI (ged 1) (ged 2) (eCopy ed)), (wN cI (ged 5) (ged 6) (eBacks ed)), (wN cI ao co o)] rfl rfl (met_X4_at l D cI (ged 3) (ged 4) (eWait ed) 0 _ hw) y_X4_at mw_8_6 dX2_outgoing_5 rfl n_X4_at rfl (by decide) ⟨rfl, rfl, Nat.le_of_ble_eq_true rfl, Nat.le_of_ble_eq_true rfl⟩ (Nat.le_of_ble_eq_true rfl) (z_pm [2, 0, 1, 3, 4] 5 rfl (by decide) rfl) ?_
  intro r1 hw
  try dsimp only at hw
  refine z_bs [(wN cI (ged 3) (ged 4) (eWait ed)), (wEo ged ed), (wN cI (ged 1) (ged 2) (eCopy ed)), (wN cI (ged 5) (ged 6) (eBacks ed)), (wN cI ao co o)] [.int r1] rfl rfl ?_
  refine z_perm C [(wEo ged ed), (wN cI (ged 1) (ged 2) (eCopy ed)), (wN cI (ged 3) (ged 4) (eWait ed)), (wN cI (ged 5) (ged 6) (eBacks ed)), (wN cI ao co o)] (z_pm [1, 2, 0, 3, 4] 5 rfl (by decide) rfl) ?_
  refine z_shut 0 [(wEo ged ed), (wN cI (ged 1) (ged 2) (eCopy ed)), (wN cI (ged 3) (ged 4) (eWait ed)), (wN cI (ged 5) (ged 6) (eBacks ed))] [(wE cI ged ed), (wN cI ao co o)] rfl rfl rfl ?_
  refine z_istore_n C dX2_outgoing_8 [some (.ref (ged 0)), some (.ref ao), some (.int r1), none] (by decide) rfl ?_
  refine z_aload_n C dX2_outgoing_9 rfl ?_
  refine z_get C inlX2 rfl 5 (by decide) mw_5_20 dX2_outgoing_10 0 0 rfl rfl rfl ?_
  refine z_name C (fun x2 ex2 => ?_)
  replace hw := hw x2 ex2
  refine z_istore_n C dX2_outgoing_13 [some (.ref (ged 0)), some (.ref ao), some (.int r1), some (.int x2)] (by decide) rfl ?_
  refine z_ls C [false, true, true, true] [none, some (.ref ao), some (.int r1), some (.int x2)] rfl ?_
  exact wk_X2_outgoing_14 C ged ao co ed o   r1 x2 _  hw
def rmX2_hearNext : Room := { frames := 2, cells := 0, slots := 0, locals := 52 }
def jn_X2_hearNext_66 (ed : zE) (o : zN) (v2 : Int32) (w0Heard : Int32)  (Q : Int32 → zE → Prop)  : Prop := (wp_X0_passThrough (eWait ed) v2 (fun r4 u5 => (wp_X2_apply (eSetWait (eSetHeard ed w0Heard) u5) r4 (fun u6 => (Q (f_X0_kind r4) u6)))))
set_option maxHeartbeats 4000000 in
set_option maxRecDepth 100000 in
theorem wk_X2_hearNext_66 {p : Program} {l : Launch} {e : Env} {s : State} {m : MethodId} {args : Array Value} {below : List Frame} {meth : Method} {c : Code} {D : va_G} {cI : ClassId} {A : Nat → Prop} (C : ZC p s m args meth c RX2 cX2_hearNext 4 (some .int) D cI A) (ged : Nat → Nat) (ao : Nat) (co : Nat) (ed : zE) (o : zN) (v2 : Int32) (w0Heard : Int32)  (Q : Int32 → zE → Prop)  (hw : jn_X2_hearNext_66 ed o v2 w0Heard  Q ) : ZZ p l e rmX2_hearNext s m args below meth c D A 4 0 0 (MQ below (ZQ D A (fun u : Int32 × zE => some (.int u.1)) (fun u : Int32 × zE => [(wE cI ged (u.2)), (wN cI ao co o)]) (fun u : Int32 × zE => Q u.1 u.2)) args s rmX2_hearNext.cells rmX2_hearNext.slots A) [(wE cI ged (eSetHeard ed w0Heard)), (wN cI ao co o)] 66 [some (.ref (ged 0)), none, some (.int v2), none] [] := by
  unfold jn_X2_hearNext_66 at hw
  refine z_aload_n C dX2_hearNext_66 rfl ?_
  refine z_get C inlX2 rfl 2 (by decide) mw_3_2 dX2_hearNext_67 0 0 rfl rfl rfl ?_
  refine z_iload_n C dX2_hearNext_70 rfl ?_
  refine z_open 0 [(wEo ged (eSetHeard ed w0Heard)), (wN cI (ged 1) (ged 2) (eCopy ed)), (wN cI (ged 3) (ged 4) (eWait ed)), (wN cI (ged 5) (ged 6) (eBacks ed))] [(wEo ged (eSetHeard ed w0Heard)), (wN cI (ged 1) (ged 2) (eCopy ed)), (wN cI (ged 3) (ged 4) (eWait ed)), (wN cI (ged 5) (ged 6) (eBacks ed)), (wN cI ao co o)] rfl rfl rfl ?_
  refine z_callS0 C [(wN cI (ged 3) (ged 4) (eWait ed))] [(wEo ged (eSetHeard ed w0Heard)), (wN cI (ged 1) (ged 2) (eCopy ed)), (wN cI (ged 5) (ged 6) (eBacks ed)), (wN cI ao co o)] (met_X0_passThrough l D cI (ged 3) (ged 4) (eWait ed) v2 _ hw) y_X0_passThrough mw_10_21 dX2_hearNext_71 rfl n_X0_passThrough rfl (by decide) ⟨rfl, rfl, Nat.le_of_ble_eq_true rfl, Nat.le_of_ble_eq_true rfl⟩ (Nat.le_of_ble_eq_true rfl) (z_pm [2, 0, 1, 3, 4] 5 rfl (by decide) rfl) ?_
  intro ⟨r4, u5⟩ hw
  try dsimp only at hw
  refine z_bs [(wN cI (ged 3) (ged 4) u5), (wEo ged (eSetHeard ed w0Heard)), (wN cI (ged 1) (ged 2) (eCopy ed)), (wN cI (ged 5) (ged 6) (eBacks ed)), (wN cI ao co o)] [.int r4] rfl rfl ?_
  refine z_perm C [(wEo ged (eSetHeard ed w0Heard)), (wN cI (ged 1) (ged 2) (eCopy ed)), (wN cI (ged 3) (ged 4) u5), (wN cI (ged 5) (ged 6) (eBacks ed)), (wN cI ao co o)] (z_pm [1, 2, 0, 3, 4] 5 rfl (by decide) rfl) ?_
  refine z_shut 0 [(wEo ged (eSetHeard ed w0Heard)), (wN cI (ged 1) (ged 2) (eCopy ed)), (wN cI (ged 3) (ged 4) u5), (wN cI (ged 5) (ged 6) (eBacks ed))] [(wE cI ged (eSetWait (eSetHeard ed w0Heard) u5)), (wN cI ao co o)] rfl rfl rfl ?_
  refine z_istore_n C dX2_hearNext_74 [some (.ref (ged 0)), none, some (.int v2), some (.int r4)] (by decide) rfl ?_
  refine z_aload_n C dX2_hearNext_75 rfl ?_
  refine z_iload_n C dX2_hearNext_76 rfl ?_
  refine z_callV0 C [(wE cI ged (eSetWait (eSetHeard ed w0Heard) u5))] [(wN cI ao co o)] rfl rfl (met_X2_apply l D cI ged (eSetWait (eSetHeard ed w0Heard) u5) r4 _ hw) y_X2_apply mw_7_9 dX2_hearNext_77 rfl n_X2_apply rfl (by decide) ⟨rfl, rfl, Nat.le_of_ble_eq_true rfl, Nat.le_of_ble_eq_true rfl⟩ (Nat.le_of_ble_eq_true rfl) (z_pm [0, 1] 2 rfl (by decide) rfl) ?_
  intro u6 hw
  try dsimp only at hw
  refine z_bs [(wE cI ged u6), (wN cI ao co o)] [] rfl rfl ?_
  refine z_iload_n C dX2_hearNext_80 rfl ?_
  refine z_callFS C [] [(wE cI ged u6), (wN cI ao co o)] (met_X0_kind l D cI r4) y_X0_kind mw_7_16 dX2_hearNext_81 rfl n_X0_kind rfl (by decide) ⟨rfl, rfl, Nat.le_of_ble_eq_true rfl, Nat.le_of_ble_eq_true rfl⟩ (Nat.le_of_ble_eq_true rfl) (z_pm [0, 1] 2 rfl (by decide) rfl) ?_
  exact z_iret C rfl ((f_X0_kind r4), u6) rfl hw rfl dX2_hearNext_84
def wp_X2_hearNext (ed : zE) (o : zN)  (Q : Int32 → zE → Prop) : Prop := (((eHeard ed) < (f_X4_size o) → (wp_X4_at o (eHeard ed) (fun r2 => (((eUw ed) = 0 → (jn_X2_hearNext_66 ed o r2 ((eHeard ed) + 1)  Q )) ∧ (¬ (eUw ed) = 0 → ((¬ (f_X0_writer r2) = (eNum ed) → (jn_X2_hearNext_66 ed o r2 ((eHeard ed) + 1)  Q )) ∧ ((f_X0_writer r2) = (eNum ed) → (wp_X4_removeAt (eWait ed) 0 (fun u8 => (Q 0 (eSetWait (eSetHeard (eSetUw ed 0) ((eHeard ed) + 1)) u8))))))))))) ∧ (¬ (eHeard ed) < (f_X4_size o) → (Q (-2) ed)))
set_option maxHeartbeats 4000000 in
set_option maxRecDepth 100000 in
theorem met_X2_hearNext (l : Launch) (D : va_G) (cI : ClassId) (ged : Nat → Nat) (ao : Nat) (co : Nat) (ed : zE) (o : zN)  (Q : Int32 → zE → Prop) (hw : wp_X2_hearNext ed o Q) : ZM l D cI yX2_hearNext cX2_hearNext 4 (some .int) rmX2_hearNext [.ref (ged 0), .ref ao] [(wE cI ged ed), (wN cI ao co o)] (fun u : Int32 × zE => some (.int u.1)) (fun u : Int32 × zE => [(wE cI ged (u.2)), (wN cI ao co o)]) (fun u : Int32 × zE => Q u.1 u.2) := by
  refine z_body [some (.ref (ged 0)), some (.ref ao), none, none] (by decide +kernel) rfl (Nat.le_of_ble_eq_true rfl) rfl ?_
  intro p e s m args below meth c A C hin
  unfold wp_X2_hearNext at hw
  refine z_aload_n C dX2_hearNext_0 rfl ?_
  refine z_get C inlX2 rfl 5 (by decide) mw_5_20 dX2_hearNext_1 0 0 rfl rfl rfl ?_
  refine z_aload_n C dX2_hearNext_4 rfl ?_
  refine z_callFV C [(wN cI ao co o)] [(wE cI ged ed)] rfl rfl (met_X4_size l D cI ao co o) y_X4_size mw_6_21 dX2_hearNext_5 rfl n_X4_size rfl (by decide) ⟨rfl, rfl, Nat.le_of_ble_eq_true rfl, Nat.le_of_ble_eq_true rfl⟩ (Nat.le_of_ble_eq_true rfl) (z_pm [1, 0] 2 rfl (by decide) rfl) ?_
  refine z_icmp_lt C dX2_hearNext_8 14 (by decide) (fun c1 => ?_) (fun c1 => ?_)
  · replace hw := hw.1 c1
    refine z_aload_n C dX2_hearNext_14 rfl ?_
    refine z_aload_n C dX2_hearNext_15 rfl ?_
    refine z_get C inlX2 rfl 5 (by decide) mw_5_20 dX2_hearNext_16 0 0 rfl rfl rfl ?_
    refine z_callV0 C [(wN cI ao co o)] [(wE cI ged ed)] rfl rfl (met_X4_at l D cI ao co o (eHeard ed) _ hw) y_X4_at mw_8_6 dX2_hearNext_19 rfl n_X4_at rfl (by decide) ⟨rfl, rfl, Nat.le_of_ble_eq_true rfl, Nat.le_of_ble_eq_true rfl⟩ (Nat.le_of_ble_eq_true rfl) (z_pm [1, 0] 2 rfl (by decide) rfl) ?_
    intro r2 hw
    try dsimp only at hw
    refine z_bs [(wN cI ao co o), (wE cI ged ed)] [.int r2] rfl rfl ?_
    refine z_perm C [(wE cI ged ed), (wN cI ao co o)] (z_pm [1, 0] 2 rfl (by decide) rfl) ?_
    refine z_istore_n C dX2_hearNext_22 [some (.ref (ged 0)), some (.ref ao), some (.int r2), none] (by decide) rfl ?_
    refine z_aload_n C dX2_hearNext_23 rfl ?_
    refine z_dup C dX2_hearNext_24 rfl ?_
    refine z_get C inlX2 rfl 5 (by decide) mw_5_20 dX2_hearNext_25 0 0 rfl rfl rfl ?_
    refine z_iconst C dX2_hearNext_28 1 (by decide) ?_
    refine z_iadd C dX2_hearNext_29 ?_
    refine z_put C inlX2 rfl tyX2 tyX2_ok nmX2 5 (by decide) mw_5_20 rfl rfl rfl rfl dX2_hearNext_30 0 0 rfl rfl (Nat.le_of_ble_eq_true rfl) [(wE cI ged (eSetHeard ed ((eHeard ed) + 1))), (wN cI ao co o)] rfl ?_
    refine z_aload_n C dX2_hearNext_33 rfl ?_
    refine z_get C inlX2 rfl 4 (by decide) mw_5_19 dX2_hearNext_34 0 0 rfl rfl rfl ?_
    refine z_if_eq C dX2_hearNext_37 66 (by decide) (fun c3 => ?_) (fun c3 => ?_)
    · replace hw := hw.1 c3
      refine z_ls C [true, false, true, false] [some (.ref (ged 0)), none, some (.int r2), none] rfl ?_
      exact wk_X2_hearNext_66 C ged ao co ed o r2 ((eHeard ed) + 1)  _  hw
    · replace hw := hw.2 c3
      refine z_iload_n C dX2_hearNext_40 rfl ?_
      refine z_callFS C [] [(wE cI ged (eSetHeard ed ((eHeard ed) + 1))), (wN cI ao co o)] (met_X0_writer l D cI r2) y_X0_writer mw_10_20 dX2_hearNext_41 rfl n_X0_writer rfl (by decide) ⟨rfl, rfl, Nat.le_of_ble_eq_true rfl, Nat.le_of_ble_eq_true rfl⟩ (Nat.le_of_ble_eq_true rfl) (z_pm [0, 1] 2 rfl (by decide) rfl) ?_
      refine z_aload_n C dX2_hearNext_44 rfl ?_
      refine z_get C inlX2 rfl 0 (by decide) mw_2_23 dX2_hearNext_45 0 0 rfl rfl rfl ?_
      refine z_icmp_ne C dX2_hearNext_48 66 (by decide) (fun c7 => ?_) (fun c7 => ?_)
      · replace hw := hw.1 c7
        refine z_ls C [true, false, true, false] [some (.ref (ged 0)), none, some (.int r2), none] rfl ?_
        exact wk_X2_hearNext_66 C ged ao co ed o r2 ((eHeard ed) + 1)  _  hw
      · replace hw := hw.2 c7
        refine z_aload_n C dX2_hearNext_51 rfl ?_
        refine z_get C inlX2 rfl 2 (by decide) mw_3_2 dX2_hearNext_52 0 0 rfl rfl rfl ?_
        refine z_iconst C dX2_hearNext_55 0 (by decide) ?_
        refine z_open 0 [(wEo ged (eSetHeard ed ((eHeard ed) + 1))), (wN cI (ged 1) (ged 2) (eCopy ed)), (wN cI (ged 3) (ged 4) (eWait ed)), (wN cI (ged 5) (ged 6) (eBacks ed))] [(wEo ged (eSetHeard ed ((eHeard ed) + 1))), (wN cI (ged 1) (ged 2) (eCopy ed)), (wN cI (ged 3) (ged 4) (eWait ed)), (wN cI (ged 5) (ged 6) (eBacks ed)), (wN cI ao co o)] rfl rfl rfl ?_
        refine z_callV0 C [(wN cI (ged 3) (ged 4) (eWait ed))] [(wEo ged (eSetHeard ed ((eHeard ed) + 1))), (wN cI (ged 1) (ged 2) (eCopy ed)), (wN cI (ged 5) (ged 6) (eBacks ed)), (wN cI ao co o)] rfl rfl (met_X4_removeAt l D cI (ged 3) (ged 4) (eWait ed) 0 _ hw) y_X4_removeAt mw_8_2 dX2_hearNext_56 rfl n_X4_removeAt rfl (by decide) ⟨rfl, rfl, Nat.le_of_ble_eq_true rfl, Nat.le_of_ble_eq_true rfl⟩ (Nat.le_of_ble_eq_true rfl) (z_pm [2, 0, 1, 3, 4] 5 rfl (by decide) rfl) ?_
        intro u8 hw
        try dsimp only at hw
        refine z_bs [(wN cI (ged 3) (ged 4) u8), (wEo ged (eSetHeard ed ((eHeard ed) + 1))), (wN cI (ged 1) (ged 2) (eCopy ed)), (wN cI (ged 5) (ged 6) (eBacks ed)), (wN cI ao co o)] [] rfl rfl ?_
        refine z_perm C [(wEo ged (eSetHeard ed ((eHeard ed) + 1))), (wN cI (ged 1) (ged 2) (eCopy ed)), (wN cI (ged 3) (ged 4) u8), (wN cI (ged 5) (ged 6) (eBacks ed)), (wN cI ao co o)] (z_pm [1, 2, 0, 3, 4] 5 rfl (by decide) rfl) ?_
        refine z_shut 0 [(wEo ged (eSetHeard ed ((eHeard ed) + 1))), (wN cI (ged 1) (ged 2) (eCopy ed)), (wN cI (ged 3) (ged 4) u8), (wN cI (ged 5) (ged 6) (eBacks ed))] [(wE cI ged (eSetWait (eSetHeard ed ((eHeard ed) + 1)) u8)), (wN cI ao co o)] rfl rfl rfl ?_
        refine z_aload_n C dX2_hearNext_59 rfl ?_
        refine z_iconst C dX2_hearNext_60 0 (by decide) ?_
        refine z_put C inlX2 rfl tyX2 tyX2_ok nmX2 4 (by decide) mw_5_19 rfl rfl (by decide) (by decide) dX2_hearNext_61 0 0 rfl rfl (Nat.le_of_ble_eq_true rfl) [(wE cI ged (eSetWait (eSetHeard (eSetUw ed 0) ((eHeard ed) + 1)) u8)), (wN cI ao co o)] rfl ?_
        refine z_iconst C dX2_hearNext_64 0 (by decide) ?_
        exact z_iret C rfl (0, (eSetWait (eSetHeard (eSetUw ed 0) ((eHeard ed) + 1)) u8)) rfl hw rfl dX2_hearNext_65
  · replace hw := hw.2 c1
    refine z_bipush C dX2_hearNext_11 (-2) (by decide) ?_
    exact z_iret C rfl ((-2), ed) rfl hw rfl dX2_hearNext_13
def rmX2_hearRest : Room := { frames := 3, cells := 0, slots := 0, locals := 75 }
def lb_X2_hearRest_19 (ed : zE) (o : zN) (v2 : Int32)  (Q : Int32 → zE → Prop)  (K19 : (Int32) → (zE) → Prop) (v3 : Int32) (w0 : zE) : Prop := ((v2 ≤ v3 → (Q v2 w0)) ∧ (¬ v2 ≤ v3 → (wp_X2_hearNext w0 o (fun r4 u5 => (K19 (v3 + 1) u5)))))
set_option maxHeartbeats 4000000 in
set_option maxRecDepth 100000 in
theorem wk_X2_hearRest_19 {p : Program} {l : Launch} {e : Env} {s : State} {m : MethodId} {args : Array Value} {below : List Frame} {meth : Method} {c : Code} {D : va_G} {cI : ClassId} {A : Nat → Prop} (C : ZC p s m args meth c RX2 cX2_hearRest 4 (some .int) D cI A) (ged : Nat → Nat) (ao : Nat) (co : Nat) (ed : zE) (o : zN) (v2 : Int32)  (v3 : Int32) (w0 : zE) (Q : Int32 → zE → Prop)  (hw : zLoop2 (lb_X2_hearRest_19 ed o v2  Q ) v3 w0) : ZZ p l e rmX2_hearRest s m args below meth c D A 4 0 0 (MQ below (ZQ D A (fun u : Int32 × zE => some (.int u.1)) (fun u : Int32 × zE => [(wE cI ged (u.2)), (wN cI ao co o)]) (fun u : Int32 × zE => Q u.1 u.2)) args s rmX2_hearRest.cells rmX2_hearRest.slots A) [(wE cI ged w0), (wN cI ao co o)] 19 [some (.ref (ged 0)), some (.ref ao), some (.int v2), some (.int v3)] [] := by
  refine zLoop2_w (fun (v3 : Int32) (w0 : zE) => ZZ p l e rmX2_hearRest s m args below meth c D A 4 0 0 (MQ below (ZQ D A (fun u : Int32 × zE => some (.int u.1)) (fun u : Int32 × zE => [(wE cI ged (u.2)), (wN cI ao co o)]) (fun u : Int32 × zE => Q u.1 u.2)) args s rmX2_hearRest.cells rmX2_hearRest.slots A) [(wE cI ged w0), (wN cI ao co o)] 19 [some (.ref (ged 0)), some (.ref ao), some (.int v2), some (.int v3)] []) ?_ _ _ hw
  clear hw
  intro K19 hK19 v3 w0 hw
  unfold lb_X2_hearRest_19 at hw
  refine z_iload_n C dX2_hearRest_19 rfl ?_
  refine z_iload_n C dX2_hearRest_20 rfl ?_
  refine z_icmp_ge C dX2_hearRest_21 36 (by decide) (fun c3 => ?_) (fun c3 => ?_)
  · replace hw := hw.1 c3
    refine z_iload_n C dX2_hearRest_36 rfl ?_
    exact z_iret C rfl (v2, w0) rfl hw rfl dX2_hearRest_37
  · replace hw := hw.2 c3
    refine z_aload_n C dX2_hearRest_24 rfl ?_
    refine z_aload_n C dX2_hearRest_25 rfl ?_
    refine z_callV0 C [(wE cI ged w0), (wN cI ao co o)] [] rfl rfl (met_X2_hearNext l D cI ged ao co w0 o _ hw) y_X2_hearNext mw_11_8 dX2_hearRest_26 rfl n_X2_hearNext rfl (by decide) ⟨rfl, rfl, Nat.le_of_ble_eq_true rfl, Nat.le_of_ble_eq_true rfl⟩ (Nat.le_of_ble_eq_true rfl) (z_pm [0, 1] 2 rfl (by decide) rfl) ?_
    intro ⟨r4, u5⟩ hw
    try dsimp only at hw
    refine z_bs [(wE cI ged u5), (wN cI ao co o)] [.int r4] rfl rfl ?_
    refine z_pop C dX2_hearRest_29 rfl ?_
    refine z_iinc C dX2_hearRest_30 rfl (v3 + 1) (by rfl) [some (.ref (ged 0)), some (.ref ao), some (.int v2), some (.int (v3 + 1))] (by decide) rfl ?_
    refine z_goto C dX2_hearRest_33 19 (by decide) ?_
    exact hK19 _ _ hw
def wp_X2_hearRest (ed : zE) (o : zN)  (Q : Int32 → zE → Prop) : Prop := (∀ x1 : Int32, x1 = ((f_X4_size o) - (eHeard ed)) → ((0 < x1 → (zLoop2 (lb_X2_hearRest_19 ed o x1  Q ) 0 ed)) ∧ (¬ 0 < x1 → (Q (-2) ed))))
set_option maxHeartbeats 4000000 in
set_option maxRecDepth 100000 in
theorem met_X2_hearRest (l : Launch) (D : va_G) (cI : ClassId) (ged : Nat → Nat) (ao : Nat) (co : Nat) (ed : zE) (o : zN)  (Q : Int32 → zE → Prop) (hw : wp_X2_hearRest ed o Q) : ZM l D cI yX2_hearRest cX2_hearRest 4 (some .int) rmX2_hearRest [.ref (ged 0), .ref ao] [(wE cI ged ed), (wN cI ao co o)] (fun u : Int32 × zE => some (.int u.1)) (fun u : Int32 × zE => [(wE cI ged (u.2)), (wN cI ao co o)]) (fun u : Int32 × zE => Q u.1 u.2) := by
  refine z_body [some (.ref (ged 0)), some (.ref ao), none, none] (by decide +kernel) rfl (Nat.le_of_ble_eq_true rfl) rfl ?_
  intro p e s m args below meth c A C hin
  unfold wp_X2_hearRest at hw
  refine z_aload_n C dX2_hearRest_0 rfl ?_
  refine z_callFV C [(wN cI ao co o)] [(wE cI ged ed)] rfl rfl (met_X4_size l D cI ao co o) y_X4_size mw_6_21 dX2_hearRest_1 rfl n_X4_size rfl (by decide) ⟨rfl, rfl, Nat.le_of_ble_eq_true rfl, Nat.le_of_ble_eq_true rfl⟩ (Nat.le_of_ble_eq_true rfl) (z_pm [1, 0] 2 rfl (by decide) rfl) ?_
  refine z_aload_n C dX2_hearRest_4 rfl ?_
  refine z_get C inlX2 rfl 5 (by decide) mw_5_20 dX2_hearRest_5 0 0 rfl rfl rfl ?_
  refine z_isub C dX2_hearRest_8 ?_
  refine z_name C (fun x1 ex1 => ?_)
  replace hw := hw x1 ex1
  refine z_istore_n C dX2_hearRest_9 [some (.ref (ged 0)), some (.ref ao), some (.int x1), none] (by decide) rfl ?_
  refine z_iload_n C dX2_hearRest_10 rfl ?_
  refine z_if_gt C dX2_hearRest_11 17 (by decide) (fun c2 => ?_) (fun c2 => ?_)
  · replace hw := hw.1 c2
    refine z_iconst C dX2_hearRest_17 0 (by decide) ?_
    refine z_istore_n C dX2_hearRest_18 [some (.ref (ged 0)), some (.ref ao), some (.int x1), some (.int 0)] (by decide) rfl ?_
    exact wk_X2_hearRest_19 C ged ao co ed o x1  0 ed _  hw
  · replace hw := hw.2 c2
    refine z_bipush C dX2_hearRest_14 (-2) (by decide) ?_
    exact z_iret C rfl ((-2), ed) rfl hw rfl dX2_hearRest_16
def rmX2_forget : Room := { frames := 1, cells := 0, slots := 0, locals := 20 }
def wp_X2_forget (ed : zE)  (Q : zE → Prop) : Prop := (wp_X4_empty (eCopy ed) (fun u1 => (wp_X4_empty (eWait ed) (fun u2 => (wp_X4_empty (eBacks ed) (fun u3 => (Q (eSetBacks (eSetWait (eSetCopy (eSetWr (eSetSpot (eSetHeard (eSetUw ed 0) 0) 0) 0) u1) u2) u3))))))))
set_option maxHeartbeats 4000000 in
set_option maxRecDepth 100000 in
theorem met_X2_forget (l : Launch) (D : va_G) (cI : ClassId) (ged : Nat → Nat) (ed : zE)  (Q : zE → Prop) (hw : wp_X2_forget ed Q) : ZM l D cI yX2_forget cX2_forget 1 none rmX2_forget [.ref (ged 0)] [(wE cI ged ed)] (fun _ : zE => none) (fun u : zE => [(wE cI ged u)]) (fun u : zE => Q u) := by
  refine z_body [some (.ref (ged 0))] (by decide +kernel) rfl (Nat.le_of_ble_eq_true rfl) rfl ?_
  intro p e s m args below meth c A C hin
  unfold wp_X2_forget at hw
  refine z_aload_n C dX2_forget_0 rfl ?_
  refine z_get C inlX2 rfl 1 (by decide) mw_3_1 dX2_forget_1 0 0 rfl rfl rfl ?_
  refine z_open 0 [(wEo ged ed), (wN cI (ged 1) (ged 2) (eCopy ed)), (wN cI (ged 3) (ged 4) (eWait ed)), (wN cI (ged 5) (ged 6) (eBacks ed))] [(wEo ged ed), (wN cI (ged 1) (ged 2) (eCopy ed)), (wN cI (ged 3) (ged 4) (eWait ed)), (wN cI (ged 5) (ged 6) (eBacks ed))] rfl rfl rfl ?_
  refine z_callV0 C [(wN cI (ged 1) (ged 2) (eCopy ed))] [(wEo ged ed), (wN cI (ged 3) (ged 4) (eWait ed)), (wN cI (ged 5) (ged 6) (eBacks ed))] rfl rfl (met_X4_empty l D cI (ged 1) (ged 2) (eCopy ed) _ hw) y_X4_empty mw_18_8 dX2_forget_4 rfl n_X4_empty rfl (by decide) ⟨rfl, rfl, Nat.le_of_ble_eq_true rfl, Nat.le_of_ble_eq_true rfl⟩ (Nat.le_of_ble_eq_true rfl) (z_pm [1, 0, 2, 3] 4 rfl (by decide) rfl) ?_
  intro u1 hw
  try dsimp only at hw
  refine z_bs [(wN cI (ged 1) (ged 2) u1), (wEo ged ed), (wN cI (ged 3) (ged 4) (eWait ed)), (wN cI (ged 5) (ged 6) (eBacks ed))] [] rfl rfl ?_
  refine z_perm C [(wEo ged ed), (wN cI (ged 1) (ged 2) u1), (wN cI (ged 3) (ged 4) (eWait ed)), (wN cI (ged 5) (ged 6) (eBacks ed))] (z_pm [1, 0, 2, 3] 4 rfl (by decide) rfl) ?_
  refine z_shut 0 [(wEo ged ed), (wN cI (ged 1) (ged 2) u1), (wN cI (ged 3) (ged 4) (eWait ed)), (wN cI (ged 5) (ged 6) (eBacks ed))] [(wE cI ged (eSetCopy ed u1))] rfl rfl rfl ?_
  refine z_aload_n C dX2_forget_7 rfl ?_
  refine z_get C inlX2 rfl 2 (by decide) mw_3_2 dX2_forget_8 0 0 rfl rfl rfl ?_
  refine z_open 0 [(wEo ged (eSetCopy ed u1)), (wN cI (ged 1) (ged 2) u1), (wN cI (ged 3) (ged 4) (eWait ed)), (wN cI (ged 5) (ged 6) (eBacks ed))] [(wEo ged (eSetCopy ed u1)), (wN cI (ged 1) (ged 2) u1), (wN cI (ged 3) (ged 4) (eWait ed)), (wN cI (ged 5) (ged 6) (eBacks ed))] rfl rfl rfl ?_
  refine z_callV0 C [(wN cI (ged 3) (ged 4) (eWait ed))] [(wEo ged (eSetCopy ed u1)), (wN cI (ged 1) (ged 2) u1), (wN cI (ged 5) (ged 6) (eBacks ed))] rfl rfl (met_X4_empty l D cI (ged 3) (ged 4) (eWait ed) _ hw) y_X4_empty mw_18_8 dX2_forget_11 rfl n_X4_empty rfl (by decide) ⟨rfl, rfl, Nat.le_of_ble_eq_true rfl, Nat.le_of_ble_eq_true rfl⟩ (Nat.le_of_ble_eq_true rfl) (z_pm [2, 0, 1, 3] 4 rfl (by decide) rfl) ?_
  intro u2 hw
  try dsimp only at hw
  refine z_bs [(wN cI (ged 3) (ged 4) u2), (wEo ged (eSetCopy ed u1)), (wN cI (ged 1) (ged 2) u1), (wN cI (ged 5) (ged 6) (eBacks ed))] [] rfl rfl ?_
  refine z_perm C [(wEo ged (eSetCopy ed u1)), (wN cI (ged 1) (ged 2) u1), (wN cI (ged 3) (ged 4) u2), (wN cI (ged 5) (ged 6) (eBacks ed))] (z_pm [1, 2, 0, 3] 4 rfl (by decide) rfl) ?_
  refine z_shut 0 [(wEo ged (eSetCopy ed u1)), (wN cI (ged 1) (ged 2) u1), (wN cI (ged 3) (ged 4) u2), (wN cI (ged 5) (ged 6) (eBacks ed))] [(wE cI ged (eSetWait (eSetCopy ed u1) u2))] rfl rfl rfl ?_
  refine z_aload_n C dX2_forget_14 rfl ?_
  refine z_get C inlX2 rfl 3 (by decide) mw_3_3 dX2_forget_15 0 0 rfl rfl rfl ?_
  refine z_open 0 [(wEo ged (eSetWait (eSetCopy ed u1) u2)), (wN cI (ged 1) (ged 2) u1), (wN cI (ged 3) (ged 4) u2), (wN cI (ged 5) (ged 6) (eBacks ed))] [(wEo ged (eSetWait (eSetCopy ed u1) u2)), (wN cI (ged 1) (ged 2) u1), (wN cI (ged 3) (ged 4) u2), (wN cI (ged 5) (ged 6) (eBacks ed))] rfl rfl rfl ?_
  refine z_callV0 C [(wN cI (ged 5) (ged 6) (eBacks ed))] [(wEo ged (eSetWait (eSetCopy ed u1) u2)), (wN cI (ged 1) (ged 2) u1), (wN cI (ged 3) (ged 4) u2)] rfl rfl (met_X4_empty l D cI (ged 5) (ged 6) (eBacks ed) _ hw) y_X4_empty mw_18_8 dX2_forget_18 rfl n_X4_empty rfl (by decide) ⟨rfl, rfl, Nat.le_of_ble_eq_true rfl, Nat.le_of_ble_eq_true rfl⟩ (Nat.le_of_ble_eq_true rfl) (z_pm [3, 0, 1, 2] 4 rfl (by decide) rfl) ?_
  intro u3 hw
  try dsimp only at hw
  refine z_bs [(wN cI (ged 5) (ged 6) u3), (wEo ged (eSetWait (eSetCopy ed u1) u2)), (wN cI (ged 1) (ged 2) u1), (wN cI (ged 3) (ged 4) u2)] [] rfl rfl ?_
  refine z_perm C [(wEo ged (eSetWait (eSetCopy ed u1) u2)), (wN cI (ged 1) (ged 2) u1), (wN cI (ged 3) (ged 4) u2), (wN cI (ged 5) (ged 6) u3)] (z_pm [1, 2, 3, 0] 4 rfl (by decide) rfl) ?_
  refine z_shut 0 [(wEo ged (eSetWait (eSetCopy ed u1) u2)), (wN cI (ged 1) (ged 2) u1), (wN cI (ged 3) (ged 4) u2), (wN cI (ged 5) (ged 6) u3)] [(wE cI ged (eSetBacks (eSetWait (eSetCopy ed u1) u2) u3))] rfl rfl rfl ?_
  refine z_aload_n C dX2_forget_21 rfl ?_
  refine z_iconst C dX2_forget_22 0 (by decide) ?_
  refine z_put C inlX2 rfl tyX2 tyX2_ok nmX2 4 (by decide) mw_5_19 rfl rfl (by decide) (by decide) dX2_forget_23 0 0 rfl rfl (Nat.le_of_ble_eq_true rfl) [(wE cI ged (eSetBacks (eSetWait (eSetCopy (eSetUw ed 0) u1) u2) u3))] rfl ?_
  refine z_aload_n C dX2_forget_26 rfl ?_
  refine z_iconst C dX2_forget_27 0 (by decide) ?_
  refine z_put C inlX2 rfl tyX2 tyX2_ok nmX2 5 (by decide) mw_5_20 rfl rfl rfl rfl dX2_forget_28 0 0 rfl rfl (Nat.le_of_ble_eq_true rfl) [(wE cI ged (eSetBacks (eSetWait (eSetCopy (eSetHeard (eSetUw ed 0) 0) u1) u2) u3))] rfl ?_
  refine z_aload_n C dX2_forget_31 rfl ?_
  refine z_iconst C dX2_forget_32 0 (by decide) ?_
  refine z_put C inlX2 rfl tyX2 tyX2_ok nmX2 6 (by decide) mw_5_21 rfl rfl rfl rfl dX2_forget_33 0 0 rfl rfl (Nat.le_of_ble_eq_true rfl) [(wE cI ged (eSetBacks (eSetWait (eSetCopy (eSetSpot (eSetHeard (eSetUw ed 0) 0) 0) u1) u2) u3))] rfl ?_
  refine z_aload_n C dX2_forget_36 rfl ?_
  refine z_iconst C dX2_forget_37 0 (by decide) ?_
  refine z_put C inlX2 rfl tyX2 tyX2_ok nmX2 7 (by decide) mw_5_22 rfl rfl rfl rfl dX2_forget_38 0 0 rfl rfl (Nat.le_of_ble_eq_true rfl) [(wE cI ged (eSetBacks (eSetWait (eSetCopy (eSetWr (eSetSpot (eSetHeard (eSetUw ed 0) 0) 0) 0) u1) u2) u3))] rfl ?_
  exact z_vret C rfl ((eSetBacks (eSetWait (eSetCopy (eSetWr (eSetSpot (eSetHeard (eSetUw ed 0) 0) 0) 0) u1) u2) u3)) rfl hw rfl dX2_forget_41
def rmX2_copyEditor : Room := { frames := 2, cells := 0, slots := 0, locals := 47 }
def wp_X2_copyEditor (ed : zE) (o : zE)  (Q : zE → Prop) : Prop := (wp_X4_copyNumbers (eCopy ed) (eCopy o) (fun u1 => (wp_X4_copyNumbers (eWait ed) (eWait o) (fun u2 => (wp_X4_copyNumbers (eBacks ed) (eBacks o) (fun u3 => (zB (eUw o) ∧ (Q (eSetBacks (eSetWait (eSetCopy (eSetWr (eSetSpot (eSetHeard (eSetUw ed (eUw o)) (eHeard o)) (eSpot o)) (eWr o)) u1) u2) u3)))))))))
set_option maxHeartbeats 4000000 in
set_option maxRecDepth 100000 in
theorem met_X2_copyEditor (l : Launch) (D : va_G) (cI : ClassId) (ged : Nat → Nat) (go : Nat → Nat) (ed : zE) (o : zE)  (Q : zE → Prop) (hw : wp_X2_copyEditor ed o Q) : ZM l D cI yX2_copyEditor cX2_copyEditor 2 none rmX2_copyEditor [.ref (ged 0), .ref (go 0)] [(wE cI ged ed), (wE cI go o)] (fun _ : zE => none) (fun u : zE => [(wE cI ged u), (wE cI go o)]) (fun u : zE => Q u) := by
  refine z_body [some (.ref (ged 0)), some (.ref (go 0))] (by decide +kernel) rfl (Nat.le_of_ble_eq_true rfl) rfl ?_
  intro p e s m args below meth c A C hin
  unfold wp_X2_copyEditor at hw
  refine z_aload_n C dX2_copyEditor_0 rfl ?_
  refine z_get C inlX2 rfl 1 (by decide) mw_3_1 dX2_copyEditor_1 0 0 rfl rfl rfl ?_
  refine z_aload_n C dX2_copyEditor_4 rfl ?_
  refine z_get C inlX2 rfl 1 (by decide) mw_3_1 dX2_copyEditor_5 1 0 rfl rfl rfl ?_
  refine z_open 0 [(wEo ged ed), (wN cI (ged 1) (ged 2) (eCopy ed)), (wN cI (ged 3) (ged 4) (eWait ed)), (wN cI (ged 5) (ged 6) (eBacks ed))] [(wEo ged ed), (wN cI (ged 1) (ged 2) (eCopy ed)), (wN cI (ged 3) (ged 4) (eWait ed)), (wN cI (ged 5) (ged 6) (eBacks ed)), (wE cI go o)] rfl rfl rfl ?_
  refine z_open 4 [(wEo go o), (wN cI (go 1) (go 2) (eCopy o)), (wN cI (go 3) (go 4) (eWait o)), (wN cI (go 5) (go 6) (eBacks o))] [(wEo ged ed), (wN cI (ged 1) (ged 2) (eCopy ed)), (wN cI (ged 3) (ged 4) (eWait ed)), (wN cI (ged 5) (ged 6) (eBacks ed)), (wEo go o), (wN cI (go 1) (go 2) (eCopy o)), (wN cI (go 3) (go 4) (eWait o)), (wN cI (go 5) (go 6) (eBacks o))] rfl rfl rfl ?_
  refine z_callV0 C [(wN cI (ged 1) (ged 2) (eCopy ed)), (wN cI (go 1) (go 2) (eCopy o))] [(wEo ged ed), (wN cI (ged 3) (ged 4) (eWait ed)), (wN cI (ged 5) (ged 6) (eBacks ed)), (wEo go o), (wN cI (go 3) (go 4) (eWait o)), (wN cI (go 5) (go 6) (eBacks o))] rfl rfl (met_X4_copyNumbers l D cI (ged 1) (ged 2) (go 1) (go 2) (eCopy ed) (eCopy o) _ hw) y_X4_copyNumbers mw_5_23 dX2_copyEditor_8 rfl n_X4_copyNumbers rfl (by decide) ⟨rfl, rfl, Nat.le_of_ble_eq_true rfl, Nat.le_of_ble_eq_true rfl⟩ (Nat.le_of_ble_eq_true rfl) (z_pm [1, 5, 0, 2, 3, 4, 6, 7] 8 rfl (by decide) rfl) ?_
  intro u1 hw
  try dsimp only at hw
  refine z_bs [(wN cI (ged 1) (ged 2) u1), (wN cI (go 1) (go 2) (eCopy o)), (wEo ged ed), (wN cI (ged 3) (ged 4) (eWait ed)), (wN cI (ged 5) (ged 6) (eBacks ed)), (wEo go o), (wN cI (go 3) (go 4) (eWait o)), (wN cI (go 5) (go 6) (eBacks o))] [] rfl rfl ?_
  refine z_perm C [(wEo ged ed), (wN cI (ged 1) (ged 2) u1), (wN cI (ged 3) (ged 4) (eWait ed)), (wN cI (ged 5) (ged 6) (eBacks ed)), (wEo go o), (wN cI (go 1) (go 2) (eCopy o)), (wN cI (go 3) (go 4) (eWait o)), (wN cI (go 5) (go 6) (eBacks o))] (z_pm [2, 0, 3, 4, 5, 1, 6, 7] 8 rfl (by decide) rfl) ?_
  refine z_shut 4 [(wEo go o), (wN cI (go 1) (go 2) (eCopy o)), (wN cI (go 3) (go 4) (eWait o)), (wN cI (go 5) (go 6) (eBacks o))] [(wEo ged ed), (wN cI (ged 1) (ged 2) u1), (wN cI (ged 3) (ged 4) (eWait ed)), (wN cI (ged 5) (ged 6) (eBacks ed)), (wE cI go o)] rfl rfl rfl ?_
  refine z_shut 0 [(wEo ged ed), (wN cI (ged 1) (ged 2) u1), (wN cI (ged 3) (ged 4) (eWait ed)), (wN cI (ged 5) (ged 6) (eBacks ed))] [(wE cI ged (eSetCopy ed u1)), (wE cI go o)] rfl rfl rfl ?_
  refine z_aload_n C dX2_copyEditor_11 rfl ?_
  refine z_get C inlX2 rfl 2 (by decide) mw_3_2 dX2_copyEditor_12 0 0 rfl rfl rfl ?_
  refine z_aload_n C dX2_copyEditor_15 rfl ?_
  refine z_get C inlX2 rfl 2 (by decide) mw_3_2 dX2_copyEditor_16 1 0 rfl rfl rfl ?_
  refine z_open 0 [(wEo ged (eSetCopy ed u1)), (wN cI (ged 1) (ged 2) u1), (wN cI (ged 3) (ged 4) (eWait ed)), (wN cI (ged 5) (ged 6) (eBacks ed))] [(wEo ged (eSetCopy ed u1)), (wN cI (ged 1) (ged 2) u1), (wN cI (ged 3) (ged 4) (eWait ed)), (wN cI (ged 5) (ged 6) (eBacks ed)), (wE cI go o)] rfl rfl rfl ?_
  refine z_open 4 [(wEo go o), (wN cI (go 1) (go 2) (eCopy o)), (wN cI (go 3) (go 4) (eWait o)), (wN cI (go 5) (go 6) (eBacks o))] [(wEo ged (eSetCopy ed u1)), (wN cI (ged 1) (ged 2) u1), (wN cI (ged 3) (ged 4) (eWait ed)), (wN cI (ged 5) (ged 6) (eBacks ed)), (wEo go o), (wN cI (go 1) (go 2) (eCopy o)), (wN cI (go 3) (go 4) (eWait o)), (wN cI (go 5) (go 6) (eBacks o))] rfl rfl rfl ?_
  refine z_callV0 C [(wN cI (ged 3) (ged 4) (eWait ed)), (wN cI (go 3) (go 4) (eWait o))] [(wEo ged (eSetCopy ed u1)), (wN cI (ged 1) (ged 2) u1), (wN cI (ged 5) (ged 6) (eBacks ed)), (wEo go o), (wN cI (go 1) (go 2) (eCopy o)), (wN cI (go 5) (go 6) (eBacks o))] rfl rfl (met_X4_copyNumbers l D cI (ged 3) (ged 4) (go 3) (go 4) (eWait ed) (eWait o) _ hw) y_X4_copyNumbers mw_5_23 dX2_copyEditor_19 rfl n_X4_copyNumbers rfl (by decide) ⟨rfl, rfl, Nat.le_of_ble_eq_true rfl, Nat.le_of_ble_eq_true rfl⟩ (Nat.le_of_ble_eq_true rfl) (z_pm [2, 6, 0, 1, 3, 4, 5, 7] 8 rfl (by decide) rfl) ?_
  intro u2 hw
  try dsimp only at hw
  refine z_bs [(wN cI (ged 3) (ged 4) u2), (wN cI (go 3) (go 4) (eWait o)), (wEo ged (eSetCopy ed u1)), (wN cI (ged 1) (ged 2) u1), (wN cI (ged 5) (ged 6) (eBacks ed)), (wEo go o), (wN cI (go 1) (go 2) (eCopy o)), (wN cI (go 5) (go 6) (eBacks o))] [] rfl rfl ?_
  refine z_perm C [(wEo ged (eSetCopy ed u1)), (wN cI (ged 1) (ged 2) u1), (wN cI (ged 3) (ged 4) u2), (wN cI (ged 5) (ged 6) (eBacks ed)), (wEo go o), (wN cI (go 1) (go 2) (eCopy o)), (wN cI (go 3) (go 4) (eWait o)), (wN cI (go 5) (go 6) (eBacks o))] (z_pm [2, 3, 0, 4, 5, 6, 1, 7] 8 rfl (by decide) rfl) ?_
  refine z_shut 4 [(wEo go o), (wN cI (go 1) (go 2) (eCopy o)), (wN cI (go 3) (go 4) (eWait o)), (wN cI (go 5) (go 6) (eBacks o))] [(wEo ged (eSetCopy ed u1)), (wN cI (ged 1) (ged 2) u1), (wN cI (ged 3) (ged 4) u2), (wN cI (ged 5) (ged 6) (eBacks ed)), (wE cI go o)] rfl rfl rfl ?_
  refine z_shut 0 [(wEo ged (eSetCopy ed u1)), (wN cI (ged 1) (ged 2) u1), (wN cI (ged 3) (ged 4) u2), (wN cI (ged 5) (ged 6) (eBacks ed))] [(wE cI ged (eSetWait (eSetCopy ed u1) u2)), (wE cI go o)] rfl rfl rfl ?_
  refine z_aload_n C dX2_copyEditor_22 rfl ?_
  refine z_get C inlX2 rfl 3 (by decide) mw_3_3 dX2_copyEditor_23 0 0 rfl rfl rfl ?_
  refine z_aload_n C dX2_copyEditor_26 rfl ?_
  refine z_get C inlX2 rfl 3 (by decide) mw_3_3 dX2_copyEditor_27 1 0 rfl rfl rfl ?_
  refine z_open 0 [(wEo ged (eSetWait (eSetCopy ed u1) u2)), (wN cI (ged 1) (ged 2) u1), (wN cI (ged 3) (ged 4) u2), (wN cI (ged 5) (ged 6) (eBacks ed))] [(wEo ged (eSetWait (eSetCopy ed u1) u2)), (wN cI (ged 1) (ged 2) u1), (wN cI (ged 3) (ged 4) u2), (wN cI (ged 5) (ged 6) (eBacks ed)), (wE cI go o)] rfl rfl rfl ?_
  refine z_open 4 [(wEo go o), (wN cI (go 1) (go 2) (eCopy o)), (wN cI (go 3) (go 4) (eWait o)), (wN cI (go 5) (go 6) (eBacks o))] [(wEo ged (eSetWait (eSetCopy ed u1) u2)), (wN cI (ged 1) (ged 2) u1), (wN cI (ged 3) (ged 4) u2), (wN cI (ged 5) (ged 6) (eBacks ed)), (wEo go o), (wN cI (go 1) (go 2) (eCopy o)), (wN cI (go 3) (go 4) (eWait o)), (wN cI (go 5) (go 6) (eBacks o))] rfl rfl rfl ?_
  refine z_callV0 C [(wN cI (ged 5) (ged 6) (eBacks ed)), (wN cI (go 5) (go 6) (eBacks o))] [(wEo ged (eSetWait (eSetCopy ed u1) u2)), (wN cI (ged 1) (ged 2) u1), (wN cI (ged 3) (ged 4) u2), (wEo go o), (wN cI (go 1) (go 2) (eCopy o)), (wN cI (go 3) (go 4) (eWait o))] rfl rfl (met_X4_copyNumbers l D cI (ged 5) (ged 6) (go 5) (go 6) (eBacks ed) (eBacks o) _ hw) y_X4_copyNumbers mw_5_23 dX2_copyEditor_30 rfl n_X4_copyNumbers rfl (by decide) ⟨rfl, rfl, Nat.le_of_ble_eq_true rfl, Nat.le_of_ble_eq_true rfl⟩ (Nat.le_of_ble_eq_true rfl) (z_pm [3, 7, 0, 1, 2, 4, 5, 6] 8 rfl (by decide) rfl) ?_
  intro u3 hw
  try dsimp only at hw
  refine z_bs [(wN cI (ged 5) (ged 6) u3), (wN cI (go 5) (go 6) (eBacks o)), (wEo ged (eSetWait (eSetCopy ed u1) u2)), (wN cI (ged 1) (ged 2) u1), (wN cI (ged 3) (ged 4) u2), (wEo go o), (wN cI (go 1) (go 2) (eCopy o)), (wN cI (go 3) (go 4) (eWait o))] [] rfl rfl ?_
  refine z_perm C [(wEo ged (eSetWait (eSetCopy ed u1) u2)), (wN cI (ged 1) (ged 2) u1), (wN cI (ged 3) (ged 4) u2), (wN cI (ged 5) (ged 6) u3), (wEo go o), (wN cI (go 1) (go 2) (eCopy o)), (wN cI (go 3) (go 4) (eWait o)), (wN cI (go 5) (go 6) (eBacks o))] (z_pm [2, 3, 4, 0, 5, 6, 7, 1] 8 rfl (by decide) rfl) ?_
  refine z_shut 4 [(wEo go o), (wN cI (go 1) (go 2) (eCopy o)), (wN cI (go 3) (go 4) (eWait o)), (wN cI (go 5) (go 6) (eBacks o))] [(wEo ged (eSetWait (eSetCopy ed u1) u2)), (wN cI (ged 1) (ged 2) u1), (wN cI (ged 3) (ged 4) u2), (wN cI (ged 5) (ged 6) u3), (wE cI go o)] rfl rfl rfl ?_
  refine z_shut 0 [(wEo ged (eSetWait (eSetCopy ed u1) u2)), (wN cI (ged 1) (ged 2) u1), (wN cI (ged 3) (ged 4) u2), (wN cI (ged 5) (ged 6) u3)] [(wE cI ged (eSetBacks (eSetWait (eSetCopy ed u1) u2) u3)), (wE cI go o)] rfl rfl rfl ?_
  refine z_aload_n C dX2_copyEditor_33 rfl ?_
  refine z_aload_n C dX2_copyEditor_34 rfl ?_
  refine z_get C inlX2 rfl 4 (by decide) mw_5_19 dX2_copyEditor_35 1 0 rfl rfl rfl ?_
  have hb38 := hw.1
  replace hw := hw.2
  refine z_put C inlX2 rfl tyX2 tyX2_ok nmX2 4 (by decide) mw_5_19 rfl rfl hb38.1 hb38.2 dX2_copyEditor_38 0 0 rfl rfl (Nat.le_of_ble_eq_true rfl) [(wE cI ged (eSetBacks (eSetWait (eSetCopy (eSetUw ed (eUw o)) u1) u2) u3)), (wE cI go o)] rfl ?_
  refine z_aload_n C dX2_copyEditor_41 rfl ?_
  refine z_aload_n C dX2_copyEditor_42 rfl ?_
  refine z_get C inlX2 rfl 5 (by decide) mw_5_20 dX2_copyEditor_43 1 0 rfl rfl rfl ?_
  refine z_put C inlX2 rfl tyX2 tyX2_ok nmX2 5 (by decide) mw_5_20 rfl rfl rfl rfl dX2_copyEditor_46 0 0 rfl rfl (Nat.le_of_ble_eq_true rfl) [(wE cI ged (eSetBacks (eSetWait (eSetCopy (eSetHeard (eSetUw ed (eUw o)) (eHeard o)) u1) u2) u3)), (wE cI go o)] rfl ?_
  refine z_aload_n C dX2_copyEditor_49 rfl ?_
  refine z_aload_n C dX2_copyEditor_50 rfl ?_
  refine z_get C inlX2 rfl 6 (by decide) mw_5_21 dX2_copyEditor_51 1 0 rfl rfl rfl ?_
  refine z_put C inlX2 rfl tyX2 tyX2_ok nmX2 6 (by decide) mw_5_21 rfl rfl rfl rfl dX2_copyEditor_54 0 0 rfl rfl (Nat.le_of_ble_eq_true rfl) [(wE cI ged (eSetBacks (eSetWait (eSetCopy (eSetSpot (eSetHeard (eSetUw ed (eUw o)) (eHeard o)) (eSpot o)) u1) u2) u3)), (wE cI go o)] rfl ?_
  refine z_aload_n C dX2_copyEditor_57 rfl ?_
  refine z_aload_n C dX2_copyEditor_58 rfl ?_
  refine z_get C inlX2 rfl 7 (by decide) mw_5_22 dX2_copyEditor_59 1 0 rfl rfl rfl ?_
  refine z_put C inlX2 rfl tyX2 tyX2_ok nmX2 7 (by decide) mw_5_22 rfl rfl rfl rfl dX2_copyEditor_62 0 0 rfl rfl (Nat.le_of_ble_eq_true rfl) [(wE cI ged (eSetBacks (eSetWait (eSetCopy (eSetWr (eSetSpot (eSetHeard (eSetUw ed (eUw o)) (eHeard o)) (eSpot o)) (eWr o)) u1) u2) u3)), (wE cI go o)] rfl ?_
  exact z_vret C rfl ((eSetBacks (eSetWait (eSetCopy (eSetWr (eSetSpot (eSetHeard (eSetUw ed (eUw o)) (eHeard o)) (eSpot o)) (eWr o)) u1) u2) u3)) rfl hw rfl dX2_copyEditor_65
end
section
/-! printed by wip/whole/gen.py: what each method does, and that the machine does it -/
def rmX6_isNoEditor : Room := { frames := 0, cells := 0, slots := 0, locals := 0 }
def f_X6_isNoEditor  (p1 : Int32) : Int32 := (if p1 < 0 then 1 else (if p1 < 3 then 0 else 1))
set_option maxHeartbeats 4000000 in
set_option maxRecDepth 100000 in
theorem met_X6_isNoEditor (l : Launch) (D : va_G) (cI : ClassId)   (p1 : Int32) : ZM l D cI yX6_isNoEditor cX6_isNoEditor 1 (some .boolean) rmX6_isNoEditor [.int p1] [] (fun _ : Unit => some (.int (f_X6_isNoEditor p1))) (fun _ : Unit => []) (fun _ : Unit => True) := by
  refine z_body [some (.int p1)] (by decide +kernel) rfl (Nat.le_of_ble_eq_true rfl) rfl ?_
  intro p e s m args below meth c A C hin
  refine z_iload_n C dX6_isNoEditor_0 rfl ?_
  refine z_if_lt C dX6_isNoEditor_1 9 (by decide) (fun c1 => ?_) (fun c1 => ?_)
  · refine z_iconst C dX6_isNoEditor_9 1 (by decide) ?_
    refine z_goto C dX6_isNoEditor_10 14 (by decide) ?_
    exact z_zret C rfl (by decide) () (by rw [f_X6_isNoEditor, if_pos c1]) trivial rfl dX6_isNoEditor_14
  · refine z_iload_n C dX6_isNoEditor_4 rfl ?_
    refine z_iconst C dX6_isNoEditor_5 3 (by decide) ?_
    refine z_icmp_lt C dX6_isNoEditor_6 13 (by decide) (fun c2 => ?_) (fun c2 => ?_)
    · refine z_iconst C dX6_isNoEditor_13 0 (by decide) ?_
      exact z_zret C rfl (by decide) () (by rw [f_X6_isNoEditor, if_neg c1, if_pos c2]) trivial rfl dX6_isNoEditor_14
    · refine z_iconst C dX6_isNoEditor_9 1 (by decide) ?_
      refine z_goto C dX6_isNoEditor_10 14 (by decide) ?_
      exact z_zret C rfl (by decide) () (by rw [f_X6_isNoEditor, if_neg c1, if_neg c2]) trivial rfl dX6_isNoEditor_14
def rmX5_editor : Room := { frames := 0, cells := 0, slots := 0, locals := 0 }
set_option maxHeartbeats 4000000 in
set_option maxRecDepth 100000 in
theorem met_X5_editor (l : Launch) (D : va_G) (cI : ClassId) (gt : Nat → Nat) (t : zT) (p1 : Int32) : ZM l D cI yX5_editor cX5_editor 2 (some (.object "ReshapedTexts$Editor")) rmX5_editor [.ref (gt 0), .int p1] [(wS cI gt t)] (fun _ : Unit => some (.ref ((gE gt (ixE p1)) 0))) (fun _ : Unit => [(wS cI gt t)]) (fun _ : Unit => True) := by
  refine z_body [some (.ref (gt 0)), some (.int p1)] (by decide +kernel) rfl (Nat.le_of_ble_eq_true rfl) rfl ?_
  intro p e s m args below meth c A C hin
  refine z_iload_n C dX5_editor_0 rfl ?_
  refine z_if_ne C dX5_editor_1 9 (by decide) (fun c1 => ?_) (fun c1 => ?_)
  · refine z_iload_n C dX5_editor_9 rfl ?_
    refine z_iconst C dX5_editor_10 1 (by decide) ?_
    refine z_icmp_ne C dX5_editor_11 21 (by decide) (fun c2 => ?_) (fun c2 => ?_)
    · refine z_aload_n C dX5_editor_21 rfl ?_
      refine z_get C inlX5 rfl 2 (by decide) mw_2_12 dX5_editor_22 0 0 rfl rfl rfl ?_
      exact z_aret C rfl () (by rw [show ixE p1 = 2 by unfold ixE; rw [if_neg c1, if_neg c2]]; rfl) trivial rfl dX5_editor_25
    · refine z_aload_n C dX5_editor_14 rfl ?_
      refine z_get C inlX5 rfl 1 (by decide) mw_2_11 dX5_editor_15 0 0 rfl rfl rfl ?_
      refine z_goto C dX5_editor_18 25 (by decide) ?_
      exact z_aret C rfl () (by rw [show ixE p1 = 1 by unfold ixE; rw [if_neg c1, if_pos c2]]; rfl) trivial rfl dX5_editor_25
  · refine z_aload_n C dX5_editor_4 rfl ?_
    refine z_get C inlX5 rfl 0 (by decide) mw_2_10 dX5_editor_5 0 0 rfl rfl rfl ?_
    exact z_aret C rfl () (by rw [show ixE p1 = 0 by unfold ixE; rw [if_pos c1]]; rfl) trivial rfl dX5_editor_8
def rmX5_append : Room := { frames := 2, cells := 0, slots := 0, locals := 51 }
def jn_X5_append_75 (k : Nat) (t : zT) (v2 : Int32) (w0Text : zN) (w0Wrs : zN)  (Q : zT → Prop)  : Prop := (wp_X4_add (tLog t) v2 (fun u6 => (Q (tSetWrs (tSetText (tSetLog (tSetEds t (va_up (tEds t) k (eSetUw (tEd (tSetWrs (tSetText (tSetLog t u6) w0Text) w0Wrs) k) 1))) u6) w0Text) w0Wrs))))
set_option maxHeartbeats 4000000 in
set_option maxRecDepth 100000 in
theorem wk_X5_append_75 {p : Program} {l : Launch} {e : Env} {s : State} {m : MethodId} {args : Array Value} {below : List Frame} {meth : Method} {c : Code} {D : va_G} {cI : ClassId} {A : Nat → Prop} (C : ZC p s m args meth c RX5 cX5_append 5 none D cI A) (gt : Nat → Nat) (k : Nat) (t : zT) (v2 : Int32) (w0Text : zN) (w0Wrs : zN)  (hk : k < 3) (Q : zT → Prop)  (hw : jn_X5_append_75 k t v2 w0Text w0Wrs  Q ) : ZZ p l e rmX5_append s m args below meth c D A 5 0 0 (MQ below (ZQ D A (fun _ : zT => none) (fun u : zT => [(wS cI gt u)]) (fun u : zT => Q u)) args s rmX5_append.cells rmX5_append.slots A) [(wS cI gt (tSetWrs (tSetText t w0Text) w0Wrs))] 75 [some (.ref (gt 0)), some (.ref ((gE gt k) 0)), some (.int v2), none, none] [] := by
  unfold jn_X5_append_75 at hw
  refine z_aload_n C dX5_append_75 rfl ?_
  refine z_get C inlX5 rfl 3 (by decide) mw_2_16 dX5_append_76 0 0 rfl rfl rfl ?_
  refine z_iload_n C dX5_append_79 rfl ?_
  refine z_open 0 [(wSo gt), (wE cI (gE gt 0) (tEd (tSetWrs (tSetText t w0Text) w0Wrs) 0)), (wE cI (gE gt 1) (tEd (tSetWrs (tSetText t w0Text) w0Wrs) 1)), (wE cI (gE gt 2) (tEd (tSetWrs (tSetText t w0Text) w0Wrs) 2)), (wN cI (gt 22) (gt 23) (tLog t)), (wN cI (gt 24) (gt 25) w0Text), (wN cI (gt 26) (gt 27) w0Wrs)] [(wSo gt), (wE cI (gE gt 0) (tEd (tSetWrs (tSetText t w0Text) w0Wrs) 0)), (wE cI (gE gt 1) (tEd (tSetWrs (tSetText t w0Text) w0Wrs) 1)), (wE cI (gE gt 2) (tEd (tSetWrs (tSetText t w0Text) w0Wrs) 2)), (wN cI (gt 22) (gt 23) (tLog t)), (wN cI (gt 24) (gt 25) w0Text), (wN cI (gt 26) (gt 27) w0Wrs)] rfl rfl rfl ?_
  refine z_callV0 C [(wN cI (gt 22) (gt 23) (tLog t))] [(wSo gt), (wE cI (gE gt 0) (tEd (tSetWrs (tSetText t w0Text) w0Wrs) 0)), (wE cI (gE gt 1) (tEd (tSetWrs (tSetText t w0Text) w0Wrs) 1)), (wE cI (gE gt 2) (tEd (tSetWrs (tSetText t w0Text) w0Wrs) 2)), (wN cI (gt 24) (gt 25) w0Text), (wN cI (gt 26) (gt 27) w0Wrs)] rfl rfl (met_X4_add l D cI (gt 22) (gt 23) (tLog t) v2 _ hw) y_X4_add mw_10_15 dX5_append_80 rfl n_X4_add rfl (by decide) ⟨rfl, rfl, Nat.le_of_ble_eq_true rfl, Nat.le_of_ble_eq_true rfl⟩ (Nat.le_of_ble_eq_true rfl) (z_pm [4, 0, 1, 2, 3, 5, 6] 7 rfl (by decide) rfl) ?_
  intro u6 hw
  try dsimp only at hw
  refine z_bs [(wN cI (gt 22) (gt 23) u6), (wSo gt), (wE cI (gE gt 0) (tEd (tSetWrs (tSetText t w0Text) w0Wrs) 0)), (wE cI (gE gt 1) (tEd (tSetWrs (tSetText t w0Text) w0Wrs) 1)), (wE cI (gE gt 2) (tEd (tSetWrs (tSetText t w0Text) w0Wrs) 2)), (wN cI (gt 24) (gt 25) w0Text), (wN cI (gt 26) (gt 27) w0Wrs)] [] rfl rfl ?_
  refine z_perm C [(wSo gt), (wE cI (gE gt 0) (tEd (tSetWrs (tSetText t w0Text) w0Wrs) 0)), (wE cI (gE gt 1) (tEd (tSetWrs (tSetText t w0Text) w0Wrs) 1)), (wE cI (gE gt 2) (tEd (tSetWrs (tSetText t w0Text) w0Wrs) 2)), (wN cI (gt 22) (gt 23) u6), (wN cI (gt 24) (gt 25) w0Text), (wN cI (gt 26) (gt 27) w0Wrs)] (z_pm [1, 2, 3, 4, 0, 5, 6] 7 rfl (by decide) rfl) ?_
  refine z_shut 0 [(wSo gt), (wE cI (gE gt 0) (tEd (tSetWrs (tSetText t w0Text) w0Wrs) 0)), (wE cI (gE gt 1) (tEd (tSetWrs (tSetText t w0Text) w0Wrs) 1)), (wE cI (gE gt 2) (tEd (tSetWrs (tSetText t w0Text) w0Wrs) 2)), (wN cI (gt 22) (gt 23) u6), (wN cI (gt 24) (gt 25) w0Text), (wN cI (gt 26) (gt 27) w0Wrs)] [(wS cI gt (tSetWrs (tSetText (tSetLog t u6) w0Text) w0Wrs))] rfl rfl rfl ?_
  refine z_aload_n C dX5_append_83 rfl ?_
  refine z_iconst C dX5_append_84 1 (by decide) ?_
  refine z_focus 0 hk [(wF cI gt (tSetWrs (tSetText (tSetLog t u6) w0Text) w0Wrs) k (tEd (tSetWrs (tSetText (tSetLog t u6) w0Text) w0Wrs) k))] rfl rfl ?_
  refine z_putN C inlX2 rfl tyX2 tyX2_ok nmX2 4 (by decide) (List.mem_of_getElem? (i := 16) rfl) rfl rfl (by decide) (by decide) dX5_append_85 0 1 rfl rfl (Nat.le_of_ble_eq_true rfl) [(wF cI gt (tSetWrs (tSetText (tSetLog t u6) w0Text) w0Wrs) k (eSetUw (tEd (tSetWrs (tSetText (tSetLog t u6) w0Text) w0Wrs) k) 1))] rfl ?_
  refine z_unfocus 0 hk (tSetWrs (tSetText (tSetLog (tSetEds t (va_up (tEds t) k (eSetUw (tEd (tSetWrs (tSetText (tSetLog t u6) w0Text) w0Wrs) k) 1))) u6) w0Text) w0Wrs) [(wS cI gt (tSetWrs (tSetText (tSetLog (tSetEds t (va_up (tEds t) k (eSetUw (tEd (tSetWrs (tSetText (tSetLog t u6) w0Text) w0Wrs) k) 1))) u6) w0Text) w0Wrs))] rfl rfl rfl ?_
  exact z_vret C rfl ((tSetWrs (tSetText (tSetLog (tSetEds t (va_up (tEds t) k (eSetUw (tEd (tSetWrs (tSetText (tSetLog t u6) w0Text) w0Wrs) k) 1))) u6) w0Text) w0Wrs)) rfl hw rfl dX5_append_88
def wp_X5_append (k : Nat) (t : zT)  (Q : zT → Prop) : Prop := (wp_X2_outgoing (tEd t k) (tLog t) (fun r1 => (∀ x2 : Int32, x2 = (f_X0_place r1) → (∀ x3 : Int32, x3 = (f_X0_kind r1) → ((¬ x3 = 1 → ((¬ x3 = 2 → (jn_X5_append_75 k t r1 (tText t) (tWrs t)  Q )) ∧ (x3 = 2 → (wp_X4_removeAt (tText t) x2 (fun u7 => (wp_X4_removeAt (tWrs t) x2 (fun u8 => (jn_X5_append_75 k t r1 u7 u8  Q )))))))) ∧ (x3 = 1 → (wp_X4_addAt (tText t) x2 (f_X0_sign r1) (fun u9 => (wp_X4_addAt (tWrs t) x2 (f_X0_writer r1) (fun u10 => (jn_X5_append_75 k t r1 u9 u10  Q )))))))))))
set_option maxHeartbeats 4000000 in
set_option maxRecDepth 100000 in
theorem met_X5_append (l : Launch) (D : va_G) (cI : ClassId) (gt : Nat → Nat) (k : Nat) (t : zT)  (hk : k < 3) (Q : zT → Prop) (hw : wp_X5_append k t Q) : ZM l D cI yX5_append cX5_append 5 none rmX5_append [.ref (gt 0), .ref ((gE gt k) 0)] [(wS cI gt t)] (fun _ : zT => none) (fun u : zT => [(wS cI gt u)]) (fun u : zT => Q u) := by
  refine z_body [some (.ref (gt 0)), some (.ref ((gE gt k) 0)), none, none, none] (by decide +kernel) rfl (Nat.le_of_ble_eq_true rfl) rfl ?_
  intro p e s m args below meth c A C hin
  unfold wp_X5_append at hw
  refine z_aload_n C dX5_append_0 rfl ?_
  refine z_aload_n C dX5_append_1 rfl ?_
  refine z_get C inlX5 rfl 3 (by decide) mw_2_16 dX5_append_2 0 0 rfl rfl rfl ?_
  refine z_focus 0 hk [(wF cI gt t k (tEd t k))] rfl rfl ?_
  refine z_open 0 [(wSo gt), (wE cI (gE gt k) (tEd t k)), (wN cI (gt 22) (gt 23) (tLog t)), (wN cI (gt 24) (gt 25) (tText t)), (wN cI (gt 26) (gt 27) (tWrs t)), (wR cI gt t k)] [(wSo gt), (wE cI (gE gt k) (tEd t k)), (wN cI (gt 22) (gt 23) (tLog t)), (wN cI (gt 24) (gt 25) (tText t)), (wN cI (gt 26) (gt 27) (tWrs t)), (wR cI gt t k)] rfl rfl rfl ?_
  refine z_callV0 C [(wE cI (gE gt k) (tEd t k)), (wN cI (gt 22) (gt 23) (tLog t))] [(wSo gt), (wN cI (gt 24) (gt 25) (tText t)), (wN cI (gt 26) (gt 27) (tWrs t)), (wR cI gt t k)] rfl rfl (met_X2_outgoing l D cI (gE gt k) (gt 22) (gt 23) (tEd t k) (tLog t) _ hw) y_X2_outgoing mw_10_3 dX5_append_5 rfl n_X2_outgoing rfl (by decide) ⟨rfl, rfl, Nat.le_of_ble_eq_true rfl, Nat.le_of_ble_eq_true rfl⟩ (Nat.le_of_ble_eq_true rfl) (z_pm [1, 2, 0, 3, 4, 5] 6 rfl (by decide) rfl) ?_
  intro r1 hw
  try dsimp only at hw
  refine z_bs [(wE cI (gE gt k) (tEd t k)), (wN cI (gt 22) (gt 23) (tLog t)), (wSo gt), (wN cI (gt 24) (gt 25) (tText t)), (wN cI (gt 26) (gt 27) (tWrs t)), (wR cI gt t k)] [.int r1] rfl rfl ?_
  refine z_perm C [(wSo gt), (wE cI (gE gt k) (tEd t k)), (wN cI (gt 22) (gt 23) (tLog t)), (wN cI (gt 24) (gt 25) (tText t)), (wN cI (gt 26) (gt 27) (tWrs t)), (wR cI gt t k)] (z_pm [2, 0, 1, 3, 4, 5] 6 rfl (by decide) rfl) ?_
  refine z_shut 0 [(wSo gt), (wE cI (gE gt k) (tEd t k)), (wN cI (gt 22) (gt 23) (tLog t)), (wN cI (gt 24) (gt 25) (tText t)), (wN cI (gt 26) (gt 27) (tWrs t)), (wR cI gt t k)] [(wF cI gt t k (tEd t k))] rfl rfl rfl ?_
  refine z_istore_n C dX5_append_8 [some (.ref (gt 0)), some (.ref ((gE gt k) 0)), some (.int r1), none, none] (by decide) rfl ?_
  refine z_iload_n C dX5_append_9 rfl ?_
  refine z_callFS C [] [(wF cI gt t k (tEd t k))] (met_X0_place l D cI r1) y_X0_place mw_10_7 dX5_append_10 rfl n_X0_place rfl (by decide) ⟨rfl, rfl, Nat.le_of_ble_eq_true rfl, Nat.le_of_ble_eq_true rfl⟩ (Nat.le_of_ble_eq_true rfl) (z_pm [0] 1 rfl (by decide) rfl) ?_
  refine z_name C (fun x2 ex2 => ?_)
  replace hw := hw x2 ex2
  refine z_istore_n C dX5_append_13 [some (.ref (gt 0)), some (.ref ((gE gt k) 0)), some (.int r1), some (.int x2), none] (by decide) rfl ?_
  refine z_iload_n C dX5_append_14 rfl ?_
  refine z_callFS C [] [(wF cI gt t k (tEd t k))] (met_X0_kind l D cI r1) y_X0_kind mw_10_8 dX5_append_15 rfl n_X0_kind rfl (by decide) ⟨rfl, rfl, Nat.le_of_ble_eq_true rfl, Nat.le_of_ble_eq_true rfl⟩ (Nat.le_of_ble_eq_true rfl) (z_pm [0] 1 rfl (by decide) rfl) ?_
  refine z_name C (fun x3 ex3 => ?_)
  replace hw := hw x3 ex3
  refine z_istore C dX5_append_18 [some (.ref (gt 0)), some (.ref ((gE gt k) 0)), some (.int r1), some (.int x2), some (.int x3)] (by decide) rfl ?_
  refine z_iload C dX5_append_20 rfl ?_
  refine z_iconst C dX5_append_22 1 (by decide) ?_
  refine z_icmp_ne C dX5_append_23 53 (by decide) (fun c4 => ?_) (fun c4 => ?_)
  · replace hw := hw.1 c4
    refine z_iload C dX5_append_53 rfl ?_
    refine z_iconst C dX5_append_55 2 (by decide) ?_
    refine z_icmp_ne C dX5_append_56 75 (by decide) (fun c5 => ?_) (fun c5 => ?_)
    · replace hw := hw.1 c5
      refine z_unfocus 0 hk t [(wS cI gt t)] (tSetEd_same _ _) rfl rfl ?_
      refine z_ls C [true, true, true, false, false] [some (.ref (gt 0)), some (.ref ((gE gt k) 0)), some (.int r1), none, none] rfl ?_
      exact wk_X5_append_75 C gt k t r1 (tText t) (tWrs t)  hk _  hw
    · replace hw := hw.2 c5
      refine z_aload_n C dX5_append_59 rfl ?_
      refine z_get C inlX5 rfl 4 (by decide) mw_2_17 dX5_append_60 0 0 rfl rfl rfl ?_
      refine z_iload_n C dX5_append_63 rfl ?_
      refine z_open 0 [(wSo gt), (wE cI (gE gt k) (tEd t k)), (wN cI (gt 22) (gt 23) (tLog t)), (wN cI (gt 24) (gt 25) (tText t)), (wN cI (gt 26) (gt 27) (tWrs t)), (wR cI gt t k)] [(wSo gt), (wE cI (gE gt k) (tEd t k)), (wN cI (gt 22) (gt 23) (tLog t)), (wN cI (gt 24) (gt 25) (tText t)), (wN cI (gt 26) (gt 27) (tWrs t)), (wR cI gt t k)] rfl rfl rfl ?_
      refine z_callV0 C [(wN cI (gt 24) (gt 25) (tText t))] [(wSo gt), (wE cI (gE gt k) (tEd t k)), (wN cI (gt 22) (gt 23) (tLog t)), (wN cI (gt 26) (gt 27) (tWrs t)), (wR cI gt t k)] rfl rfl (met_X4_removeAt l D cI (gt 24) (gt 25) (tText t) x2 _ hw) y_X4_removeAt mw_10_14 dX5_append_64 rfl n_X4_removeAt rfl (by decide) ⟨rfl, rfl, Nat.le_of_ble_eq_true rfl, Nat.le_of_ble_eq_true rfl⟩ (Nat.le_of_ble_eq_true rfl) (z_pm [3, 0, 1, 2, 4, 5] 6 rfl (by decide) rfl) ?_
      intro u7 hw
      try dsimp only at hw
      refine z_bs [(wN cI (gt 24) (gt 25) u7), (wSo gt), (wE cI (gE gt k) (tEd t k)), (wN cI (gt 22) (gt 23) (tLog t)), (wN cI (gt 26) (gt 27) (tWrs t)), (wR cI gt t k)] [] rfl rfl ?_
      refine z_perm C [(wSo gt), (wE cI (gE gt k) (tEd t k)), (wN cI (gt 22) (gt 23) (tLog t)), (wN cI (gt 24) (gt 25) u7), (wN cI (gt 26) (gt 27) (tWrs t)), (wR cI gt t k)] (z_pm [1, 2, 3, 0, 4, 5] 6 rfl (by decide) rfl) ?_
      refine z_shut 0 [(wSo gt), (wE cI (gE gt k) (tEd t k)), (wN cI (gt 22) (gt 23) (tLog t)), (wN cI (gt 24) (gt 25) u7), (wN cI (gt 26) (gt 27) (tWrs t)), (wR cI gt t k)] [(wF cI gt (tSetText t u7) k (tEd t k))] rfl rfl rfl ?_
      refine z_aload_n C dX5_append_67 rfl ?_
      refine z_get C inlX5 rfl 5 (by decide) mw_2_18 dX5_append_68 0 0 rfl rfl rfl ?_
      refine z_iload_n C dX5_append_71 rfl ?_
      refine z_open 0 [(wSo gt), (wE cI (gE gt k) (tEd t k)), (wN cI (gt 22) (gt 23) (tLog t)), (wN cI (gt 24) (gt 25) u7), (wN cI (gt 26) (gt 27) (tWrs t)), (wR cI gt (tSetText t u7) k)] [(wSo gt), (wE cI (gE gt k) (tEd t k)), (wN cI (gt 22) (gt 23) (tLog t)), (wN cI (gt 24) (gt 25) u7), (wN cI (gt 26) (gt 27) (tWrs t)), (wR cI gt (tSetText t u7) k)] rfl rfl rfl ?_
      refine z_callV0 C [(wN cI (gt 26) (gt 27) (tWrs t))] [(wSo gt), (wE cI (gE gt k) (tEd t k)), (wN cI (gt 22) (gt 23) (tLog t)), (wN cI (gt 24) (gt 25) u7), (wR cI gt (tSetText t u7) k)] rfl rfl (met_X4_removeAt l D cI (gt 26) (gt 27) (tWrs t) x2 _ hw) y_X4_removeAt mw_10_14 dX5_append_72 rfl n_X4_removeAt rfl (by decide) ⟨rfl, rfl, Nat.le_of_ble_eq_true rfl, Nat.le_of_ble_eq_true rfl⟩ (Nat.le_of_ble_eq_true rfl) (z_pm [4, 0, 1, 2, 3, 5] 6 rfl (by decide) rfl) ?_
      intro u8 hw
      try dsimp only at hw
      refine z_bs [(wN cI (gt 26) (gt 27) u8), (wSo gt), (wE cI (gE gt k) (tEd t k)), (wN cI (gt 22) (gt 23) (tLog t)), (wN cI (gt 24) (gt 25) u7), (wR cI gt (tSetText t u7) k)] [] rfl rfl ?_
      refine z_perm C [(wSo gt), (wE cI (gE gt k) (tEd t k)), (wN cI (gt 22) (gt 23) (tLog t)), (wN cI (gt 24) (gt 25) u7), (wN cI (gt 26) (gt 27) u8), (wR cI gt (tSetText t u7) k)] (z_pm [1, 2, 3, 4, 0, 5] 6 rfl (by decide) rfl) ?_
      refine z_shut 0 [(wSo gt), (wE cI (gE gt k) (tEd t k)), (wN cI (gt 22) (gt 23) (tLog t)), (wN cI (gt 24) (gt 25) u7), (wN cI (gt 26) (gt 27) u8), (wR cI gt (tSetText t u7) k)] [(wF cI gt (tSetWrs (tSetText t u7) u8) k (tEd t k))] rfl rfl rfl ?_
      refine z_unfocus 0 hk (tSetWrs (tSetText t u7) u8) [(wS cI gt (tSetWrs (tSetText t u7) u8))] (tSetEd_same _ _) rfl rfl ?_
      refine z_ls C [true, true, true, false, false] [some (.ref (gt 0)), some (.ref ((gE gt k) 0)), some (.int r1), none, none] rfl ?_
      exact wk_X5_append_75 C gt k t r1 u7 u8  hk _  hw
  · replace hw := hw.2 c4
    refine z_aload_n C dX5_append_26 rfl ?_
    refine z_get C inlX5 rfl 4 (by decide) mw_2_17 dX5_append_27 0 0 rfl rfl rfl ?_
    refine z_iload_n C dX5_append_30 rfl ?_
    refine z_iload_n C dX5_append_31 rfl ?_
    refine z_callFS C [] [(wF cI gt t k (tEd t k))] (met_X0_sign l D cI r1) y_X0_sign mw_10_9 dX5_append_32 rfl n_X0_sign rfl (by decide) ⟨rfl, rfl, Nat.le_of_ble_eq_true rfl, Nat.le_of_ble_eq_true rfl⟩ (Nat.le_of_ble_eq_true rfl) (z_pm [0] 1 rfl (by decide) rfl) ?_
    refine z_open 0 [(wSo gt), (wE cI (gE gt k) (tEd t k)), (wN cI (gt 22) (gt 23) (tLog t)), (wN cI (gt 24) (gt 25) (tText t)), (wN cI (gt 26) (gt 27) (tWrs t)), (wR cI gt t k)] [(wSo gt), (wE cI (gE gt k) (tEd t k)), (wN cI (gt 22) (gt 23) (tLog t)), (wN cI (gt 24) (gt 25) (tText t)), (wN cI (gt 26) (gt 27) (tWrs t)), (wR cI gt t k)] rfl rfl rfl ?_
    refine z_callV0 C [(wN cI (gt 24) (gt 25) (tText t))] [(wSo gt), (wE cI (gE gt k) (tEd t k)), (wN cI (gt 22) (gt 23) (tLog t)), (wN cI (gt 26) (gt 27) (tWrs t)), (wR cI gt t k)] rfl rfl (met_X4_addAt l D cI (gt 24) (gt 25) (tText t) x2 (f_X0_sign r1) _ hw) y_X4_addAt mw_10_10 dX5_append_35 rfl n_X4_addAt rfl (by decide) ⟨rfl, rfl, Nat.le_of_ble_eq_true rfl, Nat.le_of_ble_eq_true rfl⟩ (Nat.le_of_ble_eq_true rfl) (z_pm [3, 0, 1, 2, 4, 5] 6 rfl (by decide) rfl) ?_
    intro u9 hw
    try dsimp only at hw
    refine z_bs [(wN cI (gt 24) (gt 25) u9), (wSo gt), (wE cI (gE gt k) (tEd t k)), (wN cI (gt 22) (gt 23) (tLog t)), (wN cI (gt 26) (gt 27) (tWrs t)), (wR cI gt t k)] [] rfl rfl ?_
    refine z_perm C [(wSo gt), (wE cI (gE gt k) (tEd t k)), (wN cI (gt 22) (gt 23) (tLog t)), (wN cI (gt 24) (gt 25) u9), (wN cI (gt 26) (gt 27) (tWrs t)), (wR cI gt t k)] (z_pm [1, 2, 3, 0, 4, 5] 6 rfl (by decide) rfl) ?_
    refine z_shut 0 [(wSo gt), (wE cI (gE gt k) (tEd t k)), (wN cI (gt 22) (gt 23) (tLog t)), (wN cI (gt 24) (gt 25) u9), (wN cI (gt 26) (gt 27) (tWrs t)), (wR cI gt t k)] [(wF cI gt (tSetText t u9) k (tEd t k))] rfl rfl rfl ?_
    refine z_aload_n C dX5_append_38 rfl ?_
    refine z_get C inlX5 rfl 5 (by decide) mw_2_18 dX5_append_39 0 0 rfl rfl rfl ?_
    refine z_iload_n C dX5_append_42 rfl ?_
    refine z_iload_n C dX5_append_43 rfl ?_
    refine z_callFS C [] [(wF cI gt (tSetText t u9) k (tEd t k))] (met_X0_writer l D cI r1) y_X0_writer mw_10_11 dX5_append_44 rfl n_X0_writer rfl (by decide) ⟨rfl, rfl, Nat.le_of_ble_eq_true rfl, Nat.le_of_ble_eq_true rfl⟩ (Nat.le_of_ble_eq_true rfl) (z_pm [0] 1 rfl (by decide) rfl) ?_
    refine z_open 0 [(wSo gt), (wE cI (gE gt k) (tEd t k)), (wN cI (gt 22) (gt 23) (tLog t)), (wN cI (gt 24) (gt 25) u9), (wN cI (gt 26) (gt 27) (tWrs t)), (wR cI gt (tSetText t u9) k)] [(wSo gt), (wE cI (gE gt k) (tEd t k)), (wN cI (gt 22) (gt 23) (tLog t)), (wN cI (gt 24) (gt 25) u9), (wN cI (gt 26) (gt 27) (tWrs t)), (wR cI gt (tSetText t u9) k)] rfl rfl rfl ?_
    refine z_callV0 C [(wN cI (gt 26) (gt 27) (tWrs t))] [(wSo gt), (wE cI (gE gt k) (tEd t k)), (wN cI (gt 22) (gt 23) (tLog t)), (wN cI (gt 24) (gt 25) u9), (wR cI gt (tSetText t u9) k)] rfl rfl (met_X4_addAt l D cI (gt 26) (gt 27) (tWrs t) x2 (f_X0_writer r1) _ hw) y_X4_addAt mw_10_10 dX5_append_47 rfl n_X4_addAt rfl (by decide) ⟨rfl, rfl, Nat.le_of_ble_eq_true rfl, Nat.le_of_ble_eq_true rfl⟩ (Nat.le_of_ble_eq_true rfl) (z_pm [4, 0, 1, 2, 3, 5] 6 rfl (by decide) rfl) ?_
    intro u10 hw
    try dsimp only at hw
    refine z_bs [(wN cI (gt 26) (gt 27) u10), (wSo gt), (wE cI (gE gt k) (tEd t k)), (wN cI (gt 22) (gt 23) (tLog t)), (wN cI (gt 24) (gt 25) u9), (wR cI gt (tSetText t u9) k)] [] rfl rfl ?_
    refine z_perm C [(wSo gt), (wE cI (gE gt k) (tEd t k)), (wN cI (gt 22) (gt 23) (tLog t)), (wN cI (gt 24) (gt 25) u9), (wN cI (gt 26) (gt 27) u10), (wR cI gt (tSetText t u9) k)] (z_pm [1, 2, 3, 4, 0, 5] 6 rfl (by decide) rfl) ?_
    refine z_shut 0 [(wSo gt), (wE cI (gE gt k) (tEd t k)), (wN cI (gt 22) (gt 23) (tLog t)), (wN cI (gt 24) (gt 25) u9), (wN cI (gt 26) (gt 27) u10), (wR cI gt (tSetText t u9) k)] [(wF cI gt (tSetWrs (tSetText t u9) u10) k (tEd t k))] rfl rfl rfl ?_
    refine z_goto C dX5_append_50 75 (by decide) ?_
    refine z_unfocus 0 hk (tSetWrs (tSetText t u9) u10) [(wS cI gt (tSetWrs (tSetText t u9) u10))] (tSetEd_same _ _) rfl rfl ?_
    refine z_ls C [true, true, true, false, false] [some (.ref (gt 0)), some (.ref ((gE gt k) 0)), some (.int r1), none, none] rfl ?_
    exact wk_X5_append_75 C gt k t r1 u9 u10  hk _  hw
def rmX5_pass : Room := { frames := 3, cells := 0, slots := 0, locals := 75 }
def wp_X5_pass (k : Nat) (t : zT)  (Q : Int32 → zT → Prop) : Prop := ((¬ (f_X2_canSend (tEd t k)) = 0 → (((f_X4_size (tLog t)) < 60 → (wp_X5_append k t (fun u3 => (Q (f_X4_size (tLog u3)) u3)))) ∧ (¬ (f_X4_size (tLog t)) < 60 → (Q (-3) t)))) ∧ ((f_X2_canSend (tEd t k)) = 0 → (Q (-2) t)))
set_option maxHeartbeats 4000000 in
set_option maxRecDepth 100000 in
theorem met_X5_pass (l : Launch) (D : va_G) (cI : ClassId) (gt : Nat → Nat) (k : Nat) (t : zT)  (hk : k < 3) (Q : Int32 → zT → Prop) (hw : wp_X5_pass k t Q) : ZM l D cI yX5_pass cX5_pass 2 (some .int) rmX5_pass [.ref (gt 0), .ref ((gE gt k) 0)] [(wS cI gt t)] (fun u : Int32 × zT => some (.int u.1)) (fun u : Int32 × zT => [(wS cI gt (u.2))]) (fun u : Int32 × zT => Q u.1 u.2) := by
  refine z_body [some (.ref (gt 0)), some (.ref ((gE gt k) 0))] (by decide +kernel) rfl (Nat.le_of_ble_eq_true rfl) rfl ?_
  intro p e s m args below meth c A C hin
  unfold wp_X5_pass at hw
  refine z_aload_n C dX5_pass_0 rfl ?_
  refine z_focus 0 hk [(wF cI gt t k (tEd t k))] rfl rfl ?_
  refine z_open 0 [(wSo gt), (wE cI (gE gt k) (tEd t k)), (wN cI (gt 22) (gt 23) (tLog t)), (wN cI (gt 24) (gt 25) (tText t)), (wN cI (gt 26) (gt 27) (tWrs t)), (wR cI gt t k)] [(wSo gt), (wE cI (gE gt k) (tEd t k)), (wN cI (gt 22) (gt 23) (tLog t)), (wN cI (gt 24) (gt 25) (tText t)), (wN cI (gt 26) (gt 27) (tWrs t)), (wR cI gt t k)] rfl rfl rfl ?_
  refine z_callFV C [(wE cI (gE gt k) (tEd t k))] [(wSo gt), (wN cI (gt 22) (gt 23) (tLog t)), (wN cI (gt 24) (gt 25) (tText t)), (wN cI (gt 26) (gt 27) (tWrs t)), (wR cI gt t k)] rfl rfl (met_X2_canSend l D cI (gE gt k) (tEd t k)) y_X2_canSend mw_9_18 dX5_pass_1 rfl n_X2_canSend rfl (by decide) ⟨rfl, rfl, Nat.le_of_ble_eq_true rfl, Nat.le_of_ble_eq_true rfl⟩ (Nat.le_of_ble_eq_true rfl) (z_pm [1, 0, 2, 3, 4, 5] 6 rfl (by decide) rfl) ?_
  refine z_shut 0 [(wSo gt), (wE cI (gE gt k) (tEd t k)), (wN cI (gt 22) (gt 23) (tLog t)), (wN cI (gt 24) (gt 25) (tText t)), (wN cI (gt 26) (gt 27) (tWrs t)), (wR cI gt t k)] [(wF cI gt t k (tEd t k))] rfl rfl rfl ?_
  refine z_if_ne C dX5_pass_4 10 (by decide) (fun c1 => ?_) (fun c1 => ?_)
  · replace hw := hw.1 c1
    refine z_aload_n C dX5_pass_10 rfl ?_
    refine z_get C inlX5 rfl 3 (by decide) mw_2_16 dX5_pass_11 0 0 rfl rfl rfl ?_
    refine z_open 0 [(wSo gt), (wE cI (gE gt k) (tEd t k)), (wN cI (gt 22) (gt 23) (tLog t)), (wN cI (gt 24) (gt 25) (tText t)), (wN cI (gt 26) (gt 27) (tWrs t)), (wR cI gt t k)] [(wSo gt), (wE cI (gE gt k) (tEd t k)), (wN cI (gt 22) (gt 23) (tLog t)), (wN cI (gt 24) (gt 25) (tText t)), (wN cI (gt 26) (gt 27) (tWrs t)), (wR cI gt t k)] rfl rfl rfl ?_
    refine z_callFV C [(wN cI (gt 22) (gt 23) (tLog t))] [(wSo gt), (wE cI (gE gt k) (tEd t k)), (wN cI (gt 24) (gt 25) (tText t)), (wN cI (gt 26) (gt 27) (tWrs t)), (wR cI gt t k)] rfl rfl (met_X4_size l D cI (gt 22) (gt 23) (tLog t)) y_X4_size mw_9_22 dX5_pass_14 rfl n_X4_size rfl (by decide) ⟨rfl, rfl, Nat.le_of_ble_eq_true rfl, Nat.le_of_ble_eq_true rfl⟩ (Nat.le_of_ble_eq_true rfl) (z_pm [2, 0, 1, 3, 4, 5] 6 rfl (by decide) rfl) ?_
    refine z_shut 0 [(wSo gt), (wE cI (gE gt k) (tEd t k)), (wN cI (gt 22) (gt 23) (tLog t)), (wN cI (gt 24) (gt 25) (tText t)), (wN cI (gt 26) (gt 27) (tWrs t)), (wR cI gt t k)] [(wF cI gt t k (tEd t k))] rfl rfl rfl ?_
    refine z_bipush C dX5_pass_17 60 (by decide) ?_
    refine z_icmp_lt C dX5_pass_19 25 (by decide) (fun c2 => ?_) (fun c2 => ?_)
    · replace hw := hw.1 c2
      refine z_aload_n C dX5_pass_25 rfl ?_
      refine z_aload_n C dX5_pass_26 rfl ?_
      refine z_unfocus 0 hk t [(wS cI gt t)] (tSetEd_same _ _) rfl rfl ?_
      refine z_callV0 C [(wS cI gt t)] [] rfl rfl (met_X5_append l D cI gt k t hk _ hw) y_X5_append mw_9_23 dX5_pass_27 rfl n_X5_append rfl (by decide) ⟨rfl, rfl, Nat.le_of_ble_eq_true rfl, Nat.le_of_ble_eq_true rfl⟩ (Nat.le_of_ble_eq_true rfl) (z_pm [0] 1 rfl (by decide) rfl) ?_
      intro u3 hw
      try dsimp only at hw
      refine z_bs [(wS cI gt u3)] [] rfl rfl ?_
      refine z_aload_n C dX5_pass_30 rfl ?_
      refine z_get C inlX5 rfl 3 (by decide) mw_2_16 dX5_pass_31 0 0 rfl rfl rfl ?_
      refine z_open 0 [(wSo gt), (wE cI (gE gt 0) (tEd u3 0)), (wE cI (gE gt 1) (tEd u3 1)), (wE cI (gE gt 2) (tEd u3 2)), (wN cI (gt 22) (gt 23) (tLog u3)), (wN cI (gt 24) (gt 25) (tText u3)), (wN cI (gt 26) (gt 27) (tWrs u3))] [(wSo gt), (wE cI (gE gt 0) (tEd u3 0)), (wE cI (gE gt 1) (tEd u3 1)), (wE cI (gE gt 2) (tEd u3 2)), (wN cI (gt 22) (gt 23) (tLog u3)), (wN cI (gt 24) (gt 25) (tText u3)), (wN cI (gt 26) (gt 27) (tWrs u3))] rfl rfl rfl ?_
      refine z_callFV C [(wN cI (gt 22) (gt 23) (tLog u3))] [(wSo gt), (wE cI (gE gt 0) (tEd u3 0)), (wE cI (gE gt 1) (tEd u3 1)), (wE cI (gE gt 2) (tEd u3 2)), (wN cI (gt 24) (gt 25) (tText u3)), (wN cI (gt 26) (gt 27) (tWrs u3))] rfl rfl (met_X4_size l D cI (gt 22) (gt 23) (tLog u3)) y_X4_size mw_9_22 dX5_pass_34 rfl n_X4_size rfl (by decide) ⟨rfl, rfl, Nat.le_of_ble_eq_true rfl, Nat.le_of_ble_eq_true rfl⟩ (Nat.le_of_ble_eq_true rfl) (z_pm [4, 0, 1, 2, 3, 5, 6] 7 rfl (by decide) rfl) ?_
      refine z_shut 0 [(wSo gt), (wE cI (gE gt 0) (tEd u3 0)), (wE cI (gE gt 1) (tEd u3 1)), (wE cI (gE gt 2) (tEd u3 2)), (wN cI (gt 22) (gt 23) (tLog u3)), (wN cI (gt 24) (gt 25) (tText u3)), (wN cI (gt 26) (gt 27) (tWrs u3))] [(wS cI gt u3)] rfl rfl rfl ?_
      exact z_iret C rfl ((f_X4_size (tLog u3)), u3) rfl hw rfl dX5_pass_37
    · replace hw := hw.2 c2
      refine z_bipush C dX5_pass_22 (-3) (by decide) ?_
      refine z_unfocus 0 hk t [(wS cI gt t)] (tSetEd_same _ _) rfl rfl ?_
      exact z_iret C rfl ((-3), t) rfl hw rfl dX5_pass_24
  · replace hw := hw.2 c1
    refine z_bipush C dX5_pass_7 (-2) (by decide) ?_
    refine z_unfocus 0 hk t [(wS cI gt t)] (tSetEd_same _ _) rfl rfl ?_
    exact z_iret C rfl ((-2), t) rfl hw rfl dX5_pass_9
def rmX5_answer : Room := { frames := 4, cells := 0, slots := 0, locals := 98 }
def wp_X5_answer (t : zT) (p1 : Int32) (p2 : Int32) (p3 : Int32) (p4 : Int32) (Q : Int32 → zT → Prop) : Prop := (((f_X6_isNoEditor p2) = 0 → ((p1 = 77 → (wp_X2_setSpot (tEd t (ixE p2)) p3 (fun r3 u4 => (Q r3 (tSetEds t (va_up (tEds t) (ixE p2) u4)))))) ∧ (¬ p1 = 77 → ((p1 = 98 → (wp_X2_goBack (tEd t (ixE p2)) (fun r6 u7 => (Q r6 (tSetEds t (va_up (tEds t) (ixE p2) u7)))))) ∧ (¬ p1 = 98 → ((p1 = 100 → (wp_X2_takeOut (tEd t (ixE p2)) p3 (fun r9 u10 => (Q r9 (tSetEds t (va_up (tEds t) (ixE p2) u10)))))) ∧ (¬ p1 = 100 → ((p1 = 104 → (wp_X2_hearNext (tEd t (ixE p2)) (tLog t) (fun r12 u13 => (Q r12 (tSetEds t (va_up (tEds t) (ixE p2) u13)))))) ∧ (¬ p1 = 104 → ((p1 = 105 → (wp_X2_putIn (tEd t (ixE p2)) p3 p4 (fun r15 u16 => (Q r15 (tSetEds t (va_up (tEds t) (ixE p2) u16)))))) ∧ (¬ p1 = 105 → ((p1 = 115 → (wp_X5_pass (ixE p2) t (fun r18 u19 => (Q r18 u19)))) ∧ (¬ p1 = 115 → (wp_X2_hearRest (tEd t (ixE p2)) (tLog t) (fun r20 u21 => (Q r20 (tSetEds t (va_up (tEds t) (ixE p2) u21)))))))))))))))))) ∧ (¬ (f_X6_isNoEditor p2) = 0 → (Q (-1) t)))
set_option maxHeartbeats 4000000 in
set_option maxRecDepth 100000 in
theorem met_X5_answer (l : Launch) (D : va_G) (cI : ClassId) (gt : Nat → Nat) (t : zT) (p1 : Int32) (p2 : Int32) (p3 : Int32) (p4 : Int32) (Q : Int32 → zT → Prop) (hw : wp_X5_answer t p1 p2 p3 p4 Q) : ZM l D cI yX5_answer cX5_answer 6 (some .int) rmX5_answer [.ref (gt 0), .int p1, .int p2, .int p3, .int p4] [(wS cI gt t)] (fun u : Int32 × zT => some (.int u.1)) (fun u : Int32 × zT => [(wS cI gt (u.2))]) (fun u : Int32 × zT => Q u.1 u.2) := by
  refine z_body [some (.ref (gt 0)), some (.int p1), some (.int p2), some (.int p3), some (.int p4), none] (by decide +kernel) rfl (Nat.le_of_ble_eq_true rfl) rfl ?_
  intro p e s m args below meth c A C hin
  unfold wp_X5_answer at hw
  refine z_iload_n C dX5_answer_0 rfl ?_
  refine z_callFSN C [] [(wS cI gt t)] (met_X6_isNoEditor l D cI p2) y_X6_isNoEditor (List.mem_of_getElem? (i := 19) rfl) dX5_answer_1 rfl n_X6_isNoEditor rfl (by decide) ⟨rfl, rfl, Nat.le_of_ble_eq_true rfl, Nat.le_of_ble_eq_true rfl⟩ (Nat.le_of_ble_eq_true rfl) (z_pm [0] 1 rfl (by decide) rfl) ?_
  refine z_if_eq C dX5_answer_4 9 (by decide) (fun c1 => ?_) (fun c1 => ?_)
  · replace hw := hw.1 c1
    refine z_aload_n C dX5_answer_9 rfl ?_
    refine z_iload_n C dX5_answer_10 rfl ?_
    refine z_callFV C [(wS cI gt t)] [] rfl rfl (met_X5_editor l D cI gt t p2) y_X5_editor mw_6_13 dX5_answer_11 rfl n_X5_editor rfl (by decide) ⟨rfl, rfl, Nat.le_of_ble_eq_true rfl, Nat.le_of_ble_eq_true rfl⟩ (Nat.le_of_ble_eq_true rfl) (z_pm [0] 1 rfl (by decide) rfl) ?_
    refine z_astore C dX5_answer_14 [some (.ref (gt 0)), some (.int p1), some (.int p2), some (.int p3), some (.int p4), some (.ref ((gE gt (ixE p2)) 0))] (by decide) rfl ?_
    refine z_iload_n C dX5_answer_16 rfl ?_
    by_cases c2 : p1 = 77
    · refine z_lookupAt C dX5_answer_17 (by decide) 77 c2 81 (by decide) 98 (by decide) ?_
      replace hw := hw.1 c2
      refine z_aload C dX5_answer_98 rfl ?_
      refine z_iload_n C dX5_answer_100 rfl ?_
      refine z_focus 0 (ixE_lt _) [(wF cI gt t (ixE p2) (tEd t (ixE p2)))] rfl rfl ?_
      refine z_open 0 [(wSo gt), (wE cI (gE gt (ixE p2)) (tEd t (ixE p2))), (wN cI (gt 22) (gt 23) (tLog t)), (wN cI (gt 24) (gt 25) (tText t)), (wN cI (gt 26) (gt 27) (tWrs t)), (wR cI gt t (ixE p2))] [(wSo gt), (wE cI (gE gt (ixE p2)) (tEd t (ixE p2))), (wN cI (gt 22) (gt 23) (tLog t)), (wN cI (gt 24) (gt 25) (tText t)), (wN cI (gt 26) (gt 27) (tWrs t)), (wR cI gt t (ixE p2))] rfl rfl rfl ?_
      refine z_callV0 C [(wE cI (gE gt (ixE p2)) (tEd t (ixE p2)))] [(wSo gt), (wN cI (gt 22) (gt 23) (tLog t)), (wN cI (gt 24) (gt 25) (tText t)), (wN cI (gt 26) (gt 27) (tWrs t)), (wR cI gt t (ixE p2))] rfl rfl (met_X2_setSpot l D cI (gE gt (ixE p2)) (tEd t (ixE p2)) p3 _ hw) y_X2_setSpot mw_9_10 dX5_answer_101 rfl n_X2_setSpot rfl (by decide) ⟨rfl, rfl, Nat.le_of_ble_eq_true rfl, Nat.le_of_ble_eq_true rfl⟩ (Nat.le_of_ble_eq_true rfl) (z_pm [1, 0, 2, 3, 4, 5] 6 rfl (by decide) rfl) ?_
      intro ⟨r3, u4⟩ hw
      try dsimp only at hw
      refine z_bs [(wE cI (gE gt (ixE p2)) u4), (wSo gt), (wN cI (gt 22) (gt 23) (tLog t)), (wN cI (gt 24) (gt 25) (tText t)), (wN cI (gt 26) (gt 27) (tWrs t)), (wR cI gt t (ixE p2))] [.int r3] rfl rfl ?_
      refine z_perm C [(wSo gt), (wE cI (gE gt (ixE p2)) u4), (wN cI (gt 22) (gt 23) (tLog t)), (wN cI (gt 24) (gt 25) (tText t)), (wN cI (gt 26) (gt 27) (tWrs t)), (wR cI gt t (ixE p2))] (z_pm [1, 0, 2, 3, 4, 5] 6 rfl (by decide) rfl) ?_
      refine z_shut 0 [(wSo gt), (wE cI (gE gt (ixE p2)) u4), (wN cI (gt 22) (gt 23) (tLog t)), (wN cI (gt 24) (gt 25) (tText t)), (wN cI (gt 26) (gt 27) (tWrs t)), (wR cI gt t (ixE p2))] [(wF cI gt t (ixE p2) u4)] rfl rfl rfl ?_
      refine z_unfocus 0 (ixE_lt _) (tSetEds t (va_up (tEds t) (ixE p2) u4)) [(wS cI gt (tSetEds t (va_up (tEds t) (ixE p2) u4)))] rfl rfl rfl ?_
      exact z_iret C rfl (r3, (tSetEds t (va_up (tEds t) (ixE p2) u4))) rfl hw rfl dX5_answer_104
    replace hw := hw.2 c2
    by_cases c5 : p1 = 98
    · refine z_lookupAt C dX5_answer_17 (by decide) 98 c5 75 (by decide) 92 (by decide) ?_
      replace hw := hw.1 c5
      refine z_aload C dX5_answer_92 rfl ?_
      refine z_focus 0 (ixE_lt _) [(wF cI gt t (ixE p2) (tEd t (ixE p2)))] rfl rfl ?_
      refine z_open 0 [(wSo gt), (wE cI (gE gt (ixE p2)) (tEd t (ixE p2))), (wN cI (gt 22) (gt 23) (tLog t)), (wN cI (gt 24) (gt 25) (tText t)), (wN cI (gt 26) (gt 27) (tWrs t)), (wR cI gt t (ixE p2))] [(wSo gt), (wE cI (gE gt (ixE p2)) (tEd t (ixE p2))), (wN cI (gt 22) (gt 23) (tLog t)), (wN cI (gt 24) (gt 25) (tText t)), (wN cI (gt 26) (gt 27) (tWrs t)), (wR cI gt t (ixE p2))] rfl rfl rfl ?_
      refine z_callV0 C [(wE cI (gE gt (ixE p2)) (tEd t (ixE p2)))] [(wSo gt), (wN cI (gt 22) (gt 23) (tLog t)), (wN cI (gt 24) (gt 25) (tText t)), (wN cI (gt 26) (gt 27) (tWrs t)), (wR cI gt t (ixE p2))] rfl rfl (met_X2_goBack l D cI (gE gt (ixE p2)) (tEd t (ixE p2)) _ hw) y_X2_goBack mw_9_6 dX5_answer_94 rfl n_X2_goBack rfl (by decide) ⟨rfl, rfl, Nat.le_of_ble_eq_true rfl, Nat.le_of_ble_eq_true rfl⟩ (Nat.le_of_ble_eq_true rfl) (z_pm [1, 0, 2, 3, 4, 5] 6 rfl (by decide) rfl) ?_
      intro ⟨r6, u7⟩ hw
      try dsimp only at hw
      refine z_bs [(wE cI (gE gt (ixE p2)) u7), (wSo gt), (wN cI (gt 22) (gt 23) (tLog t)), (wN cI (gt 24) (gt 25) (tText t)), (wN cI (gt 26) (gt 27) (tWrs t)), (wR cI gt t (ixE p2))] [.int r6] rfl rfl ?_
      refine z_perm C [(wSo gt), (wE cI (gE gt (ixE p2)) u7), (wN cI (gt 22) (gt 23) (tLog t)), (wN cI (gt 24) (gt 25) (tText t)), (wN cI (gt 26) (gt 27) (tWrs t)), (wR cI gt t (ixE p2))] (z_pm [1, 0, 2, 3, 4, 5] 6 rfl (by decide) rfl) ?_
      refine z_shut 0 [(wSo gt), (wE cI (gE gt (ixE p2)) u7), (wN cI (gt 22) (gt 23) (tLog t)), (wN cI (gt 24) (gt 25) (tText t)), (wN cI (gt 26) (gt 27) (tWrs t)), (wR cI gt t (ixE p2))] [(wF cI gt t (ixE p2) u7)] rfl rfl rfl ?_
      refine z_unfocus 0 (ixE_lt _) (tSetEds t (va_up (tEds t) (ixE p2) u7)) [(wS cI gt (tSetEds t (va_up (tEds t) (ixE p2) u7)))] rfl rfl rfl ?_
      exact z_iret C rfl (r6, (tSetEds t (va_up (tEds t) (ixE p2) u7))) rfl hw rfl dX5_answer_97
    replace hw := hw.2 c5
    by_cases c8 : p1 = 100
    · refine z_lookupAt C dX5_answer_17 (by decide) 100 c8 68 (by decide) 85 (by decide) ?_
      replace hw := hw.1 c8
      refine z_aload C dX5_answer_85 rfl ?_
      refine z_iload_n C dX5_answer_87 rfl ?_
      refine z_focus 0 (ixE_lt _) [(wF cI gt t (ixE p2) (tEd t (ixE p2)))] rfl rfl ?_
      refine z_open 0 [(wSo gt), (wE cI (gE gt (ixE p2)) (tEd t (ixE p2))), (wN cI (gt 22) (gt 23) (tLog t)), (wN cI (gt 24) (gt 25) (tText t)), (wN cI (gt 26) (gt 27) (tWrs t)), (wR cI gt t (ixE p2))] [(wSo gt), (wE cI (gE gt (ixE p2)) (tEd t (ixE p2))), (wN cI (gt 22) (gt 23) (tLog t)), (wN cI (gt 24) (gt 25) (tText t)), (wN cI (gt 26) (gt 27) (tWrs t)), (wR cI gt t (ixE p2))] rfl rfl rfl ?_
      refine z_callV0 C [(wE cI (gE gt (ixE p2)) (tEd t (ixE p2)))] [(wSo gt), (wN cI (gt 22) (gt 23) (tLog t)), (wN cI (gt 24) (gt 25) (tText t)), (wN cI (gt 26) (gt 27) (tWrs t)), (wR cI gt t (ixE p2))] rfl rfl (met_X2_takeOut l D cI (gE gt (ixE p2)) (tEd t (ixE p2)) p3 _ hw) y_X2_takeOut mw_9_2 dX5_answer_88 rfl n_X2_takeOut rfl (by decide) ⟨rfl, rfl, Nat.le_of_ble_eq_true rfl, Nat.le_of_ble_eq_true rfl⟩ (Nat.le_of_ble_eq_true rfl) (z_pm [1, 0, 2, 3, 4, 5] 6 rfl (by decide) rfl) ?_
      intro ⟨r9, u10⟩ hw
      try dsimp only at hw
      refine z_bs [(wE cI (gE gt (ixE p2)) u10), (wSo gt), (wN cI (gt 22) (gt 23) (tLog t)), (wN cI (gt 24) (gt 25) (tText t)), (wN cI (gt 26) (gt 27) (tWrs t)), (wR cI gt t (ixE p2))] [.int r9] rfl rfl ?_
      refine z_perm C [(wSo gt), (wE cI (gE gt (ixE p2)) u10), (wN cI (gt 22) (gt 23) (tLog t)), (wN cI (gt 24) (gt 25) (tText t)), (wN cI (gt 26) (gt 27) (tWrs t)), (wR cI gt t (ixE p2))] (z_pm [1, 0, 2, 3, 4, 5] 6 rfl (by decide) rfl) ?_
      refine z_shut 0 [(wSo gt), (wE cI (gE gt (ixE p2)) u10), (wN cI (gt 22) (gt 23) (tLog t)), (wN cI (gt 24) (gt 25) (tText t)), (wN cI (gt 26) (gt 27) (tWrs t)), (wR cI gt t (ixE p2))] [(wF cI gt t (ixE p2) u10)] rfl rfl rfl ?_
      refine z_unfocus 0 (ixE_lt _) (tSetEds t (va_up (tEds t) (ixE p2) u10)) [(wS cI gt (tSetEds t (va_up (tEds t) (ixE p2) u10)))] rfl rfl rfl ?_
      exact z_iret C rfl (r9, (tSetEds t (va_up (tEds t) (ixE p2) u10))) rfl hw rfl dX5_answer_91
    replace hw := hw.2 c8
    by_cases c11 : p1 = 104
    · refine z_lookupAt C dX5_answer_17 (by decide) 104 c11 95 (by decide) 112 (by decide) ?_
      replace hw := hw.1 c11
      refine z_aload C dX5_answer_112 rfl ?_
      refine z_aload_n C dX5_answer_114 rfl ?_
      refine z_get C inlX5 rfl 3 (by decide) mw_2_16 dX5_answer_115 0 0 rfl rfl rfl ?_
      refine z_focus 0 (ixE_lt _) [(wF cI gt t (ixE p2) (tEd t (ixE p2)))] rfl rfl ?_
      refine z_open 0 [(wSo gt), (wE cI (gE gt (ixE p2)) (tEd t (ixE p2))), (wN cI (gt 22) (gt 23) (tLog t)), (wN cI (gt 24) (gt 25) (tText t)), (wN cI (gt 26) (gt 27) (tWrs t)), (wR cI gt t (ixE p2))] [(wSo gt), (wE cI (gE gt (ixE p2)) (tEd t (ixE p2))), (wN cI (gt 22) (gt 23) (tLog t)), (wN cI (gt 24) (gt 25) (tText t)), (wN cI (gt 26) (gt 27) (tWrs t)), (wR cI gt t (ixE p2))] rfl rfl rfl ?_
      refine z_callV0 C [(wE cI (gE gt (ixE p2)) (tEd t (ixE p2))), (wN cI (gt 22) (gt 23) (tLog t))] [(wSo gt), (wN cI (gt 24) (gt 25) (tText t)), (wN cI (gt 26) (gt 27) (tWrs t)), (wR cI gt t (ixE p2))] rfl rfl (met_X2_hearNext l D cI (gE gt (ixE p2)) (gt 22) (gt 23) (tEd t (ixE p2)) (tLog t) _ hw) y_X2_hearNext mw_10_16 dX5_answer_118 rfl n_X2_hearNext rfl (by decide) ⟨rfl, rfl, Nat.le_of_ble_eq_true rfl, Nat.le_of_ble_eq_true rfl⟩ (Nat.le_of_ble_eq_true rfl) (z_pm [1, 2, 0, 3, 4, 5] 6 rfl (by decide) rfl) ?_
      intro ⟨r12, u13⟩ hw
      try dsimp only at hw
      refine z_bs [(wE cI (gE gt (ixE p2)) u13), (wN cI (gt 22) (gt 23) (tLog t)), (wSo gt), (wN cI (gt 24) (gt 25) (tText t)), (wN cI (gt 26) (gt 27) (tWrs t)), (wR cI gt t (ixE p2))] [.int r12] rfl rfl ?_
      refine z_perm C [(wSo gt), (wE cI (gE gt (ixE p2)) u13), (wN cI (gt 22) (gt 23) (tLog t)), (wN cI (gt 24) (gt 25) (tText t)), (wN cI (gt 26) (gt 27) (tWrs t)), (wR cI gt t (ixE p2))] (z_pm [2, 0, 1, 3, 4, 5] 6 rfl (by decide) rfl) ?_
      refine z_shut 0 [(wSo gt), (wE cI (gE gt (ixE p2)) u13), (wN cI (gt 22) (gt 23) (tLog t)), (wN cI (gt 24) (gt 25) (tText t)), (wN cI (gt 26) (gt 27) (tWrs t)), (wR cI gt t (ixE p2))] [(wF cI gt t (ixE p2) u13)] rfl rfl rfl ?_
      refine z_unfocus 0 (ixE_lt _) (tSetEds t (va_up (tEds t) (ixE p2) u13)) [(wS cI gt (tSetEds t (va_up (tEds t) (ixE p2) u13)))] rfl rfl rfl ?_
      exact z_iret C rfl (r12, (tSetEds t (va_up (tEds t) (ixE p2) u13))) rfl hw rfl dX5_answer_121
    replace hw := hw.2 c11
    by_cases c14 : p1 = 105
    · refine z_lookupAt C dX5_answer_17 (by decide) 105 c14 59 (by decide) 76 (by decide) ?_
      replace hw := hw.1 c14
      refine z_aload C dX5_answer_76 rfl ?_
      refine z_iload_n C dX5_answer_78 rfl ?_
      refine z_iload C dX5_answer_79 rfl ?_
      refine z_focus 0 (ixE_lt _) [(wF cI gt t (ixE p2) (tEd t (ixE p2)))] rfl rfl ?_
      refine z_open 0 [(wSo gt), (wE cI (gE gt (ixE p2)) (tEd t (ixE p2))), (wN cI (gt 22) (gt 23) (tLog t)), (wN cI (gt 24) (gt 25) (tText t)), (wN cI (gt 26) (gt 27) (tWrs t)), (wR cI gt t (ixE p2))] [(wSo gt), (wE cI (gE gt (ixE p2)) (tEd t (ixE p2))), (wN cI (gt 22) (gt 23) (tLog t)), (wN cI (gt 24) (gt 25) (tText t)), (wN cI (gt 26) (gt 27) (tWrs t)), (wR cI gt t (ixE p2))] rfl rfl rfl ?_
      refine z_callV0 C [(wE cI (gE gt (ixE p2)) (tEd t (ixE p2)))] [(wSo gt), (wN cI (gt 22) (gt 23) (tLog t)), (wN cI (gt 24) (gt 25) (tText t)), (wN cI (gt 26) (gt 27) (tWrs t)), (wR cI gt t (ixE p2))] rfl rfl (met_X2_putIn l D cI (gE gt (ixE p2)) (tEd t (ixE p2)) p3 p4 _ hw) y_X2_putIn mw_6_17 dX5_answer_81 rfl n_X2_putIn rfl (by decide) ⟨rfl, rfl, Nat.le_of_ble_eq_true rfl, Nat.le_of_ble_eq_true rfl⟩ (Nat.le_of_ble_eq_true rfl) (z_pm [1, 0, 2, 3, 4, 5] 6 rfl (by decide) rfl) ?_
      intro ⟨r15, u16⟩ hw
      try dsimp only at hw
      refine z_bs [(wE cI (gE gt (ixE p2)) u16), (wSo gt), (wN cI (gt 22) (gt 23) (tLog t)), (wN cI (gt 24) (gt 25) (tText t)), (wN cI (gt 26) (gt 27) (tWrs t)), (wR cI gt t (ixE p2))] [.int r15] rfl rfl ?_
      refine z_perm C [(wSo gt), (wE cI (gE gt (ixE p2)) u16), (wN cI (gt 22) (gt 23) (tLog t)), (wN cI (gt 24) (gt 25) (tText t)), (wN cI (gt 26) (gt 27) (tWrs t)), (wR cI gt t (ixE p2))] (z_pm [1, 0, 2, 3, 4, 5] 6 rfl (by decide) rfl) ?_
      refine z_shut 0 [(wSo gt), (wE cI (gE gt (ixE p2)) u16), (wN cI (gt 22) (gt 23) (tLog t)), (wN cI (gt 24) (gt 25) (tText t)), (wN cI (gt 26) (gt 27) (tWrs t)), (wR cI gt t (ixE p2))] [(wF cI gt t (ixE p2) u16)] rfl rfl rfl ?_
      refine z_unfocus 0 (ixE_lt _) (tSetEds t (va_up (tEds t) (ixE p2) u16)) [(wS cI gt (tSetEds t (va_up (tEds t) (ixE p2) u16)))] rfl rfl rfl ?_
      exact z_iret C rfl (r15, (tSetEds t (va_up (tEds t) (ixE p2) u16))) rfl hw rfl dX5_answer_84
    replace hw := hw.2 c14
    by_cases c17 : p1 = 115
    · refine z_lookupAt C dX5_answer_17 (by decide) 115 c17 88 (by decide) 105 (by decide) ?_
      replace hw := hw.1 c17
      refine z_aload_n C dX5_answer_105 rfl ?_
      refine z_aload C dX5_answer_106 rfl ?_
      refine z_callV0 C [(wS cI gt t)] [] rfl rfl (met_X5_pass l D cI gt (ixE p2) t (ixE_lt _) _ hw) y_X5_pass mw_9_14 dX5_answer_108 rfl n_X5_pass rfl (by decide) ⟨rfl, rfl, Nat.le_of_ble_eq_true rfl, Nat.le_of_ble_eq_true rfl⟩ (Nat.le_of_ble_eq_true rfl) (z_pm [0] 1 rfl (by decide) rfl) ?_
      intro ⟨r18, u19⟩ hw
      try dsimp only at hw
      refine z_bs [(wS cI gt u19)] [.int r18] rfl rfl ?_
      exact z_iret C rfl (r18, u19) rfl hw rfl dX5_answer_111
    replace hw := hw.2 c17
    refine z_lookup C dX5_answer_17 (by decide) 105 ((lv_osw c2 rfl).trans ((lv_osw c5 rfl).trans ((lv_osw c8 rfl).trans ((lv_osw c11 rfl).trans ((lv_osw c14 rfl).trans ((lv_osw c17 rfl).trans rfl)))))) 122 (by decide) ?_
    refine z_aload C dX5_answer_122 rfl ?_
    refine z_aload_n C dX5_answer_124 rfl ?_
    refine z_get C inlX5 rfl 3 (by decide) mw_2_16 dX5_answer_125 0 0 rfl rfl rfl ?_
    refine z_focus 0 (ixE_lt _) [(wF cI gt t (ixE p2) (tEd t (ixE p2)))] rfl rfl ?_
    refine z_open 0 [(wSo gt), (wE cI (gE gt (ixE p2)) (tEd t (ixE p2))), (wN cI (gt 22) (gt 23) (tLog t)), (wN cI (gt 24) (gt 25) (tText t)), (wN cI (gt 26) (gt 27) (tWrs t)), (wR cI gt t (ixE p2))] [(wSo gt), (wE cI (gE gt (ixE p2)) (tEd t (ixE p2))), (wN cI (gt 22) (gt 23) (tLog t)), (wN cI (gt 24) (gt 25) (tText t)), (wN cI (gt 26) (gt 27) (tWrs t)), (wR cI gt t (ixE p2))] rfl rfl rfl ?_
    refine z_callV0 C [(wE cI (gE gt (ixE p2)) (tEd t (ixE p2))), (wN cI (gt 22) (gt 23) (tLog t))] [(wSo gt), (wN cI (gt 24) (gt 25) (tText t)), (wN cI (gt 26) (gt 27) (tWrs t)), (wR cI gt t (ixE p2))] rfl rfl (met_X2_hearRest l D cI (gE gt (ixE p2)) (gt 22) (gt 23) (tEd t (ixE p2)) (tLog t) _ hw) y_X2_hearRest mw_11_4 dX5_answer_128 rfl n_X2_hearRest rfl (by decide) ⟨rfl, rfl, Nat.le_of_ble_eq_true rfl, Nat.le_of_ble_eq_true rfl⟩ (Nat.le_of_ble_eq_true rfl) (z_pm [1, 2, 0, 3, 4, 5] 6 rfl (by decide) rfl) ?_
    intro ⟨r20, u21⟩ hw
    try dsimp only at hw
    refine z_bs [(wE cI (gE gt (ixE p2)) u21), (wN cI (gt 22) (gt 23) (tLog t)), (wSo gt), (wN cI (gt 24) (gt 25) (tText t)), (wN cI (gt 26) (gt 27) (tWrs t)), (wR cI gt t (ixE p2))] [.int r20] rfl rfl ?_
    refine z_perm C [(wSo gt), (wE cI (gE gt (ixE p2)) u21), (wN cI (gt 22) (gt 23) (tLog t)), (wN cI (gt 24) (gt 25) (tText t)), (wN cI (gt 26) (gt 27) (tWrs t)), (wR cI gt t (ixE p2))] (z_pm [2, 0, 1, 3, 4, 5] 6 rfl (by decide) rfl) ?_
    refine z_shut 0 [(wSo gt), (wE cI (gE gt (ixE p2)) u21), (wN cI (gt 22) (gt 23) (tLog t)), (wN cI (gt 24) (gt 25) (tText t)), (wN cI (gt 26) (gt 27) (tWrs t)), (wR cI gt t (ixE p2))] [(wF cI gt t (ixE p2) u21)] rfl rfl rfl ?_
    refine z_unfocus 0 (ixE_lt _) (tSetEds t (va_up (tEds t) (ixE p2) u21)) [(wS cI gt (tSetEds t (va_up (tEds t) (ixE p2) u21)))] rfl rfl rfl ?_
    exact z_iret C rfl (r20, (tSetEds t (va_up (tEds t) (ixE p2) u21))) rfl hw rfl dX5_answer_131
  · replace hw := hw.2 c1
    refine z_iconst C dX5_answer_7 (-1) (by decide) ?_
    exact z_iret C rfl ((-1), t) rfl hw rfl dX5_answer_8
def rmX5_nothingsInLog : Room := { frames := 1, cells := 0, slots := 0, locals := 21 }
def lb_X5_nothingsInLog_4 (t : zT)   (Q : Int32 → Prop)  (K4 : (Int32) → (Int32) → Prop) (v1 : Int32) (v2 : Int32) : Prop := (((f_X4_size (tLog t)) ≤ v2 → (Q v1)) ∧ (¬ (f_X4_size (tLog t)) ≤ v2 → (wp_X4_at (tLog t) v2 (fun r2 => ((¬ (f_X0_kind r2) = 0 → (∀ x4 : Int32, x4 = (v1 + 0) → (K4 x4 (v2 + 1)))) ∧ ((f_X0_kind r2) = 0 → (∀ x5 : Int32, x5 = (v1 + 1) → (K4 x5 (v2 + 1)))))))))
set_option maxHeartbeats 4000000 in
set_option maxRecDepth 100000 in
theorem wk_X5_nothingsInLog_4 {p : Program} {l : Launch} {e : Env} {s : State} {m : MethodId} {args : Array Value} {below : List Frame} {meth : Method} {c : Code} {D : va_G} {cI : ClassId} {A : Nat → Prop} (C : ZC p s m args meth c RX5 cX5_nothingsInLog 3 (some .int) D cI A) (gt : Nat → Nat) (t : zT)   (v1 : Int32) (v2 : Int32) (Q : Int32 → Prop)  (hw : zLoop2 (lb_X5_nothingsInLog_4 t   Q ) v1 v2) : ZZ p l e rmX5_nothingsInLog s m args below meth c D A 3 0 0 (MQ below (ZQ D A (fun u : Int32 => some (.int u)) (fun u : Int32 => [(wS cI gt t)]) (fun u : Int32 => Q u)) args s rmX5_nothingsInLog.cells rmX5_nothingsInLog.slots A) [(wS cI gt t)] 4 [some (.ref (gt 0)), some (.int v1), some (.int v2)] [] := by
  refine zLoop2_w (fun (v1 : Int32) (v2 : Int32) => ZZ p l e rmX5_nothingsInLog s m args below meth c D A 3 0 0 (MQ below (ZQ D A (fun u : Int32 => some (.int u)) (fun u : Int32 => [(wS cI gt t)]) (fun u : Int32 => Q u)) args s rmX5_nothingsInLog.cells rmX5_nothingsInLog.slots A) [(wS cI gt t)] 4 [some (.ref (gt 0)), some (.int v1), some (.int v2)] []) ?_ _ _ hw
  clear hw
  intro K4 hK4 v1 v2 hw
  unfold lb_X5_nothingsInLog_4 at hw
  refine z_iload_n C dX5_nothingsInLog_4 rfl ?_
  refine z_aload_n C dX5_nothingsInLog_5 rfl ?_
  refine z_get C inlX5 rfl 3 (by decide) mw_2_16 dX5_nothingsInLog_6 0 0 rfl rfl rfl ?_
  refine z_open 0 [(wSo gt), (wE cI (gE gt 0) (tEd t 0)), (wE cI (gE gt 1) (tEd t 1)), (wE cI (gE gt 2) (tEd t 2)), (wN cI (gt 22) (gt 23) (tLog t)), (wN cI (gt 24) (gt 25) (tText t)), (wN cI (gt 26) (gt 27) (tWrs t))] [(wSo gt), (wE cI (gE gt 0) (tEd t 0)), (wE cI (gE gt 1) (tEd t 1)), (wE cI (gE gt 2) (tEd t 2)), (wN cI (gt 22) (gt 23) (tLog t)), (wN cI (gt 24) (gt 25) (tText t)), (wN cI (gt 26) (gt 27) (tWrs t))] rfl rfl rfl ?_
  refine z_callFV C [(wN cI (gt 22) (gt 23) (tLog t))] [(wSo gt), (wE cI (gE gt 0) (tEd t 0)), (wE cI (gE gt 1) (tEd t 1)), (wE cI (gE gt 2) (tEd t 2)), (wN cI (gt 24) (gt 25) (tText t)), (wN cI (gt 26) (gt 27) (tWrs t))] rfl rfl (met_X4_size l D cI (gt 22) (gt 23) (tLog t)) y_X4_size mw_9_22 dX5_nothingsInLog_9 rfl n_X4_size rfl (by decide) ⟨rfl, rfl, Nat.le_of_ble_eq_true rfl, Nat.le_of_ble_eq_true rfl⟩ (Nat.le_of_ble_eq_true rfl) (z_pm [4, 0, 1, 2, 3, 5, 6] 7 rfl (by decide) rfl) ?_
  refine z_shut 0 [(wSo gt), (wE cI (gE gt 0) (tEd t 0)), (wE cI (gE gt 1) (tEd t 1)), (wE cI (gE gt 2) (tEd t 2)), (wN cI (gt 22) (gt 23) (tLog t)), (wN cI (gt 24) (gt 25) (tText t)), (wN cI (gt 26) (gt 27) (tWrs t))] [(wS cI gt t)] rfl rfl rfl ?_
  refine z_icmp_ge C dX5_nothingsInLog_12 43 (by decide) (fun c1 => ?_) (fun c1 => ?_)
  · replace hw := hw.1 c1
    refine z_iload_n C dX5_nothingsInLog_43 rfl ?_
    exact z_iret C rfl (v1) rfl hw rfl dX5_nothingsInLog_44
  · replace hw := hw.2 c1
    refine z_iload_n C dX5_nothingsInLog_15 rfl ?_
    refine z_aload_n C dX5_nothingsInLog_16 rfl ?_
    refine z_get C inlX5 rfl 3 (by decide) mw_2_16 dX5_nothingsInLog_17 0 0 rfl rfl rfl ?_
    refine z_iload_n C dX5_nothingsInLog_20 rfl ?_
    refine z_open 0 [(wSo gt), (wE cI (gE gt 0) (tEd t 0)), (wE cI (gE gt 1) (tEd t 1)), (wE cI (gE gt 2) (tEd t 2)), (wN cI (gt 22) (gt 23) (tLog t)), (wN cI (gt 24) (gt 25) (tText t)), (wN cI (gt 26) (gt 27) (tWrs t))] [(wSo gt), (wE cI (gE gt 0) (tEd t 0)), (wE cI (gE gt 1) (tEd t 1)), (wE cI (gE gt 2) (tEd t 2)), (wN cI (gt 22) (gt 23) (tLog t)), (wN cI (gt 24) (gt 25) (tText t)), (wN cI (gt 26) (gt 27) (tWrs t))] rfl rfl rfl ?_
    refine z_callV0 C [(wN cI (gt 22) (gt 23) (tLog t))] [(wSo gt), (wE cI (gE gt 0) (tEd t 0)), (wE cI (gE gt 1) (tEd t 1)), (wE cI (gE gt 2) (tEd t 2)), (wN cI (gt 24) (gt 25) (tText t)), (wN cI (gt 26) (gt 27) (tWrs t))] rfl rfl (met_X4_at l D cI (gt 22) (gt 23) (tLog t) v2 _ hw) y_X4_at mw_21_23 dX5_nothingsInLog_21 rfl n_X4_at rfl (by decide) ⟨rfl, rfl, Nat.le_of_ble_eq_true rfl, Nat.le_of_ble_eq_true rfl⟩ (Nat.le_of_ble_eq_true rfl) (z_pm [4, 0, 1, 2, 3, 5, 6] 7 rfl (by decide) rfl) ?_
    intro r2 hw
    try dsimp only at hw
    refine z_bs [(wN cI (gt 22) (gt 23) (tLog t)), (wSo gt), (wE cI (gE gt 0) (tEd t 0)), (wE cI (gE gt 1) (tEd t 1)), (wE cI (gE gt 2) (tEd t 2)), (wN cI (gt 24) (gt 25) (tText t)), (wN cI (gt 26) (gt 27) (tWrs t))] [.int r2, .int v1] rfl rfl ?_
    refine z_perm C [(wSo gt), (wE cI (gE gt 0) (tEd t 0)), (wE cI (gE gt 1) (tEd t 1)), (wE cI (gE gt 2) (tEd t 2)), (wN cI (gt 22) (gt 23) (tLog t)), (wN cI (gt 24) (gt 25) (tText t)), (wN cI (gt 26) (gt 27) (tWrs t))] (z_pm [1, 2, 3, 4, 0, 5, 6] 7 rfl (by decide) rfl) ?_
    refine z_shut 0 [(wSo gt), (wE cI (gE gt 0) (tEd t 0)), (wE cI (gE gt 1) (tEd t 1)), (wE cI (gE gt 2) (tEd t 2)), (wN cI (gt 22) (gt 23) (tLog t)), (wN cI (gt 24) (gt 25) (tText t)), (wN cI (gt 26) (gt 27) (tWrs t))] [(wS cI gt t)] rfl rfl rfl ?_
    refine z_callFS C [] [(wS cI gt t)] (met_X0_kind l D cI r2) y_X0_kind mw_10_8 dX5_nothingsInLog_24 rfl n_X0_kind rfl (by decide) ⟨rfl, rfl, Nat.le_of_ble_eq_true rfl, Nat.le_of_ble_eq_true rfl⟩ (Nat.le_of_ble_eq_true rfl) (z_pm [0] 1 rfl (by decide) rfl) ?_
    refine z_if_ne C dX5_nothingsInLog_27 34 (by decide) (fun c3 => ?_) (fun c3 => ?_)
    · replace hw := hw.1 c3
      refine z_iconst C dX5_nothingsInLog_34 0 (by decide) ?_
      refine z_iadd C dX5_nothingsInLog_35 ?_
      refine z_name C (fun x4 ex4 => ?_)
      replace hw := hw x4 ex4
      refine z_istore_n C dX5_nothingsInLog_36 [some (.ref (gt 0)), some (.int x4), some (.int v2)] (by decide) rfl ?_
      refine z_iinc C dX5_nothingsInLog_37 rfl (v2 + 1) (by rfl) [some (.ref (gt 0)), some (.int x4), some (.int (v2 + 1))] (by decide) rfl ?_
      refine z_goto C dX5_nothingsInLog_40 4 (by decide) ?_
      exact hK4 _ _ hw
    · replace hw := hw.2 c3
      refine z_iconst C dX5_nothingsInLog_30 1 (by decide) ?_
      refine z_goto C dX5_nothingsInLog_31 35 (by decide) ?_
      refine z_iadd C dX5_nothingsInLog_35 ?_
      refine z_name C (fun x5 ex5 => ?_)
      replace hw := hw x5 ex5
      refine z_istore_n C dX5_nothingsInLog_36 [some (.ref (gt 0)), some (.int x5), some (.int v2)] (by decide) rfl ?_
      refine z_iinc C dX5_nothingsInLog_37 rfl (v2 + 1) (by rfl) [some (.ref (gt 0)), some (.int x5), some (.int (v2 + 1))] (by decide) rfl ?_
      refine z_goto C dX5_nothingsInLog_40 4 (by decide) ?_
      exact hK4 _ _ hw
def wp_X5_nothingsInLog (t : zT)  (Q : Int32 → Prop) : Prop := (zLoop2 (lb_X5_nothingsInLog_4 t   Q ) 0 0)
set_option maxHeartbeats 4000000 in
set_option maxRecDepth 100000 in
theorem met_X5_nothingsInLog (l : Launch) (D : va_G) (cI : ClassId) (gt : Nat → Nat) (t : zT)  (Q : Int32 → Prop) (hw : wp_X5_nothingsInLog t Q) : ZM l D cI yX5_nothingsInLog cX5_nothingsInLog 3 (some .int) rmX5_nothingsInLog [.ref (gt 0)] [(wS cI gt t)] (fun u : Int32 => some (.int u)) (fun u : Int32 => [(wS cI gt t)]) (fun u : Int32 => Q u) := by
  refine z_body [some (.ref (gt 0)), none, none] (by decide +kernel) rfl (Nat.le_of_ble_eq_true rfl) rfl ?_
  intro p e s m args below meth c A C hin
  unfold wp_X5_nothingsInLog at hw
  refine z_iconst C dX5_nothingsInLog_0 0 (by decide) ?_
  refine z_istore_n C dX5_nothingsInLog_1 [some (.ref (gt 0)), some (.int 0), none] (by decide) rfl ?_
  refine z_iconst C dX5_nothingsInLog_2 0 (by decide) ?_
  refine z_istore_n C dX5_nothingsInLog_3 [some (.ref (gt 0)), some (.int 0), some (.int 0)] (by decide) rfl ?_
  exact wk_X5_nothingsInLog_4 C gt t   0 0 _  hw
def rmX5_waitingOfAll : Room := { frames := 1, cells := 0, slots := 0, locals := 20 }
def f_X5_waitingOfAll (t : zT)  : Int32 := (((f_X4_size (eWait (tEd t 0))) + (f_X4_size (eWait (tEd t 1)))) + (f_X4_size (eWait (tEd t 2))))
set_option maxHeartbeats 4000000 in
set_option maxRecDepth 100000 in
theorem met_X5_waitingOfAll (l : Launch) (D : va_G) (cI : ClassId) (gt : Nat → Nat) (t : zT)  : ZM l D cI yX5_waitingOfAll cX5_waitingOfAll 1 (some .int) rmX5_waitingOfAll [.ref (gt 0)] [(wS cI gt t)] (fun _ : Unit => some (.int (f_X5_waitingOfAll t))) (fun _ : Unit => [(wS cI gt t)]) (fun _ : Unit => True) := by
  refine z_body [some (.ref (gt 0))] (by decide +kernel) rfl (Nat.le_of_ble_eq_true rfl) rfl ?_
  intro p e s m args below meth c A C hin
  refine z_aload_n C dX5_waitingOfAll_0 rfl ?_
  refine z_get C inlX5 rfl 0 (by decide) mw_2_10 dX5_waitingOfAll_1 0 0 rfl rfl rfl ?_
  refine z_getN C inlX2 rfl 2 (by decide) (List.mem_of_getElem? (i := 17) rfl) dX5_waitingOfAll_4 0 1 rfl rfl rfl ?_
  refine z_open 0 [(wSo gt), (wE cI (gE gt 0) (tEd t 0)), (wE cI (gE gt 1) (tEd t 1)), (wE cI (gE gt 2) (tEd t 2)), (wN cI (gt 22) (gt 23) (tLog t)), (wN cI (gt 24) (gt 25) (tText t)), (wN cI (gt 26) (gt 27) (tWrs t))] [(wSo gt), (wE cI (gE gt 0) (tEd t 0)), (wE cI (gE gt 1) (tEd t 1)), (wE cI (gE gt 2) (tEd t 2)), (wN cI (gt 22) (gt 23) (tLog t)), (wN cI (gt 24) (gt 25) (tText t)), (wN cI (gt 26) (gt 27) (tWrs t))] rfl rfl rfl ?_
  refine z_open 1 [(wEo (gE gt 0) (tEd t 0)), (wN cI (gt 2) (gt 3) (eCopy (tEd t 0))), (wN cI (gt 4) (gt 5) (eWait (tEd t 0))), (wN cI (gt 6) (gt 7) (eBacks (tEd t 0)))] [(wSo gt), (wEo (gE gt 0) (tEd t 0)), (wN cI (gt 2) (gt 3) (eCopy (tEd t 0))), (wN cI (gt 4) (gt 5) (eWait (tEd t 0))), (wN cI (gt 6) (gt 7) (eBacks (tEd t 0))), (wE cI (gE gt 1) (tEd t 1)), (wE cI (gE gt 2) (tEd t 2)), (wN cI (gt 22) (gt 23) (tLog t)), (wN cI (gt 24) (gt 25) (tText t)), (wN cI (gt 26) (gt 27) (tWrs t))] rfl rfl rfl ?_
  refine z_callFV C [(wN cI (gt 4) (gt 5) (eWait (tEd t 0)))] [(wSo gt), (wEo (gE gt 0) (tEd t 0)), (wN cI (gt 2) (gt 3) (eCopy (tEd t 0))), (wN cI (gt 6) (gt 7) (eBacks (tEd t 0))), (wE cI (gE gt 1) (tEd t 1)), (wE cI (gE gt 2) (tEd t 2)), (wN cI (gt 22) (gt 23) (tLog t)), (wN cI (gt 24) (gt 25) (tText t)), (wN cI (gt 26) (gt 27) (tWrs t))] rfl rfl (met_X4_size l D cI (gt 4) (gt 5) (eWait (tEd t 0))) y_X4_size mw_9_22 dX5_waitingOfAll_7 rfl n_X4_size rfl (by decide) ⟨rfl, rfl, Nat.le_of_ble_eq_true rfl, Nat.le_of_ble_eq_true rfl⟩ (Nat.le_of_ble_eq_true rfl) (z_pm [3, 0, 1, 2, 4, 5, 6, 7, 8, 9] 10 rfl (by decide) rfl) ?_
  refine z_shut 1 [(wEo (gE gt 0) (tEd t 0)), (wN cI (gt 2) (gt 3) (eCopy (tEd t 0))), (wN cI (gt 4) (gt 5) (eWait (tEd t 0))), (wN cI (gt 6) (gt 7) (eBacks (tEd t 0)))] [(wSo gt), (wE cI (gE gt 0) (tEd t 0)), (wE cI (gE gt 1) (tEd t 1)), (wE cI (gE gt 2) (tEd t 2)), (wN cI (gt 22) (gt 23) (tLog t)), (wN cI (gt 24) (gt 25) (tText t)), (wN cI (gt 26) (gt 27) (tWrs t))] rfl rfl rfl ?_
  refine z_shut 0 [(wSo gt), (wE cI (gE gt 0) (tEd t 0)), (wE cI (gE gt 1) (tEd t 1)), (wE cI (gE gt 2) (tEd t 2)), (wN cI (gt 22) (gt 23) (tLog t)), (wN cI (gt 24) (gt 25) (tText t)), (wN cI (gt 26) (gt 27) (tWrs t))] [(wS cI gt t)] rfl rfl rfl ?_
  refine z_aload_n C dX5_waitingOfAll_10 rfl ?_
  refine z_get C inlX5 rfl 1 (by decide) mw_2_11 dX5_waitingOfAll_11 0 0 rfl rfl rfl ?_
  refine z_getN C inlX2 rfl 2 (by decide) (List.mem_of_getElem? (i := 17) rfl) dX5_waitingOfAll_14 0 8 rfl rfl rfl ?_
  refine z_open 0 [(wSo gt), (wE cI (gE gt 0) (tEd t 0)), (wE cI (gE gt 1) (tEd t 1)), (wE cI (gE gt 2) (tEd t 2)), (wN cI (gt 22) (gt 23) (tLog t)), (wN cI (gt 24) (gt 25) (tText t)), (wN cI (gt 26) (gt 27) (tWrs t))] [(wSo gt), (wE cI (gE gt 0) (tEd t 0)), (wE cI (gE gt 1) (tEd t 1)), (wE cI (gE gt 2) (tEd t 2)), (wN cI (gt 22) (gt 23) (tLog t)), (wN cI (gt 24) (gt 25) (tText t)), (wN cI (gt 26) (gt 27) (tWrs t))] rfl rfl rfl ?_
  refine z_open 2 [(wEo (gE gt 1) (tEd t 1)), (wN cI (gt 9) (gt 10) (eCopy (tEd t 1))), (wN cI (gt 11) (gt 12) (eWait (tEd t 1))), (wN cI (gt 13) (gt 14) (eBacks (tEd t 1)))] [(wSo gt), (wE cI (gE gt 0) (tEd t 0)), (wEo (gE gt 1) (tEd t 1)), (wN cI (gt 9) (gt 10) (eCopy (tEd t 1))), (wN cI (gt 11) (gt 12) (eWait (tEd t 1))), (wN cI (gt 13) (gt 14) (eBacks (tEd t 1))), (wE cI (gE gt 2) (tEd t 2)), (wN cI (gt 22) (gt 23) (tLog t)), (wN cI (gt 24) (gt 25) (tText t)), (wN cI (gt 26) (gt 27) (tWrs t))] rfl rfl rfl ?_
  refine z_callFV C [(wN cI (gt 11) (gt 12) (eWait (tEd t 1)))] [(wSo gt), (wE cI (gE gt 0) (tEd t 0)), (wEo (gE gt 1) (tEd t 1)), (wN cI (gt 9) (gt 10) (eCopy (tEd t 1))), (wN cI (gt 13) (gt 14) (eBacks (tEd t 1))), (wE cI (gE gt 2) (tEd t 2)), (wN cI (gt 22) (gt 23) (tLog t)), (wN cI (gt 24) (gt 25) (tText t)), (wN cI (gt 26) (gt 27) (tWrs t))] rfl rfl (met_X4_size l D cI (gt 11) (gt 12) (eWait (tEd t 1))) y_X4_size mw_9_22 dX5_waitingOfAll_17 rfl n_X4_size rfl (by decide) ⟨rfl, rfl, Nat.le_of_ble_eq_true rfl, Nat.le_of_ble_eq_true rfl⟩ (Nat.le_of_ble_eq_true rfl) (z_pm [4, 0, 1, 2, 3, 5, 6, 7, 8, 9] 10 rfl (by decide) rfl) ?_
  refine z_shut 2 [(wEo (gE gt 1) (tEd t 1)), (wN cI (gt 9) (gt 10) (eCopy (tEd t 1))), (wN cI (gt 11) (gt 12) (eWait (tEd t 1))), (wN cI (gt 13) (gt 14) (eBacks (tEd t 1)))] [(wSo gt), (wE cI (gE gt 0) (tEd t 0)), (wE cI (gE gt 1) (tEd t 1)), (wE cI (gE gt 2) (tEd t 2)), (wN cI (gt 22) (gt 23) (tLog t)), (wN cI (gt 24) (gt 25) (tText t)), (wN cI (gt 26) (gt 27) (tWrs t))] rfl rfl rfl ?_
  refine z_shut 0 [(wSo gt), (wE cI (gE gt 0) (tEd t 0)), (wE cI (gE gt 1) (tEd t 1)), (wE cI (gE gt 2) (tEd t 2)), (wN cI (gt 22) (gt 23) (tLog t)), (wN cI (gt 24) (gt 25) (tText t)), (wN cI (gt 26) (gt 27) (tWrs t))] [(wS cI gt t)] rfl rfl rfl ?_
  refine z_iadd C dX5_waitingOfAll_20 ?_
  refine z_aload_n C dX5_waitingOfAll_21 rfl ?_
  refine z_get C inlX5 rfl 2 (by decide) mw_2_12 dX5_waitingOfAll_22 0 0 rfl rfl rfl ?_
  refine z_getN C inlX2 rfl 2 (by decide) (List.mem_of_getElem? (i := 17) rfl) dX5_waitingOfAll_25 0 15 rfl rfl rfl ?_
  refine z_open 0 [(wSo gt), (wE cI (gE gt 0) (tEd t 0)), (wE cI (gE gt 1) (tEd t 1)), (wE cI (gE gt 2) (tEd t 2)), (wN cI (gt 22) (gt 23) (tLog t)), (wN cI (gt 24) (gt 25) (tText t)), (wN cI (gt 26) (gt 27) (tWrs t))] [(wSo gt), (wE cI (gE gt 0) (tEd t 0)), (wE cI (gE gt 1) (tEd t 1)), (wE cI (gE gt 2) (tEd t 2)), (wN cI (gt 22) (gt 23) (tLog t)), (wN cI (gt 24) (gt 25) (tText t)), (wN cI (gt 26) (gt 27) (tWrs t))] rfl rfl rfl ?_
  refine z_open 3 [(wEo (gE gt 2) (tEd t 2)), (wN cI (gt 16) (gt 17) (eCopy (tEd t 2))), (wN cI (gt 18) (gt 19) (eWait (tEd t 2))), (wN cI (gt 20) (gt 21) (eBacks (tEd t 2)))] [(wSo gt), (wE cI (gE gt 0) (tEd t 0)), (wE cI (gE gt 1) (tEd t 1)), (wEo (gE gt 2) (tEd t 2)), (wN cI (gt 16) (gt 17) (eCopy (tEd t 2))), (wN cI (gt 18) (gt 19) (eWait (tEd t 2))), (wN cI (gt 20) (gt 21) (eBacks (tEd t 2))), (wN cI (gt 22) (gt 23) (tLog t)), (wN cI (gt 24) (gt 25) (tText t)), (wN cI (gt 26) (gt 27) (tWrs t))] rfl rfl rfl ?_
  refine z_callFV C [(wN cI (gt 18) (gt 19) (eWait (tEd t 2)))] [(wSo gt), (wE cI (gE gt 0) (tEd t 0)), (wE cI (gE gt 1) (tEd t 1)), (wEo (gE gt 2) (tEd t 2)), (wN cI (gt 16) (gt 17) (eCopy (tEd t 2))), (wN cI (gt 20) (gt 21) (eBacks (tEd t 2))), (wN cI (gt 22) (gt 23) (tLog t)), (wN cI (gt 24) (gt 25) (tText t)), (wN cI (gt 26) (gt 27) (tWrs t))] rfl rfl (met_X4_size l D cI (gt 18) (gt 19) (eWait (tEd t 2))) y_X4_size mw_9_22 dX5_waitingOfAll_28 rfl n_X4_size rfl (by decide) ⟨rfl, rfl, Nat.le_of_ble_eq_true rfl, Nat.le_of_ble_eq_true rfl⟩ (Nat.le_of_ble_eq_true rfl) (z_pm [5, 0, 1, 2, 3, 4, 6, 7, 8, 9] 10 rfl (by decide) rfl) ?_
  refine z_shut 3 [(wEo (gE gt 2) (tEd t 2)), (wN cI (gt 16) (gt 17) (eCopy (tEd t 2))), (wN cI (gt 18) (gt 19) (eWait (tEd t 2))), (wN cI (gt 20) (gt 21) (eBacks (tEd t 2)))] [(wSo gt), (wE cI (gE gt 0) (tEd t 0)), (wE cI (gE gt 1) (tEd t 1)), (wE cI (gE gt 2) (tEd t 2)), (wN cI (gt 22) (gt 23) (tLog t)), (wN cI (gt 24) (gt 25) (tText t)), (wN cI (gt 26) (gt 27) (tWrs t))] rfl rfl rfl ?_
  refine z_shut 0 [(wSo gt), (wE cI (gE gt 0) (tEd t 0)), (wE cI (gE gt 1) (tEd t 1)), (wE cI (gE gt 2) (tEd t 2)), (wN cI (gt 22) (gt 23) (tLog t)), (wN cI (gt 24) (gt 25) (tText t)), (wN cI (gt 26) (gt 27) (tWrs t))] [(wS cI gt t)] rfl rfl rfl ?_
  refine z_iadd C dX5_waitingOfAll_31 ?_
  exact z_iret C rfl () (by rw [f_X5_waitingOfAll]) trivial rfl dX5_waitingOfAll_32
def rmX5_settledEditors : Room := { frames := 2, cells := 0, slots := 0, locals := 41 }
def lb_X5_settledEditors_4 (t : zT)   (Q : Int32 → Prop)  (K4 : (Int32) → (Int32) → Prop) (v1 : Int32) (v2 : Int32) : Prop := ((3 ≤ v2 → (Q v1)) ∧ (¬ 3 ≤ v2 → (((f_X2_isSettled (tEd t (ixE v2)) (tLog t)) = 0 → (∀ x3 : Int32, x3 = (v1 + 0) → (K4 x3 (v2 + 1)))) ∧ (¬ (f_X2_isSettled (tEd t (ixE v2)) (tLog t)) = 0 → (∀ x4 : Int32, x4 = (v1 + 1) → (K4 x4 (v2 + 1)))))))
set_option maxHeartbeats 4000000 in
set_option maxRecDepth 100000 in
theorem wk_X5_settledEditors_4 {p : Program} {l : Launch} {e : Env} {s : State} {m : MethodId} {args : Array Value} {below : List Frame} {meth : Method} {c : Code} {D : va_G} {cI : ClassId} {A : Nat → Prop} (C : ZC p s m args meth c RX5 cX5_settledEditors 3 (some .int) D cI A) (gt : Nat → Nat) (t : zT)   (v1 : Int32) (v2 : Int32) (Q : Int32 → Prop)  (hw : zLoop2 (lb_X5_settledEditors_4 t   Q ) v1 v2) : ZZ p l e rmX5_settledEditors s m args below meth c D A 3 0 0 (MQ below (ZQ D A (fun u : Int32 => some (.int u)) (fun u : Int32 => [(wS cI gt t)]) (fun u : Int32 => Q u)) args s rmX5_settledEditors.cells rmX5_settledEditors.slots A) [(wS cI gt t)] 4 [some (.ref (gt 0)), some (.int v1), some (.int v2)] [] := by
  refine zLoop2_w (fun (v1 : Int32) (v2 : Int32) => ZZ p l e rmX5_settledEditors s m args below meth c D A 3 0 0 (MQ below (ZQ D A (fun u : Int32 => some (.int u)) (fun u : Int32 => [(wS cI gt t)]) (fun u : Int32 => Q u)) args s rmX5_settledEditors.cells rmX5_settledEditors.slots A) [(wS cI gt t)] 4 [some (.ref (gt 0)), some (.int v1), some (.int v2)] []) ?_ _ _ hw
  clear hw
  intro K4 hK4 v1 v2 hw
  unfold lb_X5_settledEditors_4 at hw
  refine z_iload_n C dX5_settledEditors_4 rfl ?_
  refine z_iconst C dX5_settledEditors_5 3 (by decide) ?_
  refine z_icmp_ge C dX5_settledEditors_6 38 (by decide) (fun c1 => ?_) (fun c1 => ?_)
  · replace hw := hw.1 c1
    refine z_iload_n C dX5_settledEditors_38 rfl ?_
    exact z_iret C rfl (v1) rfl hw rfl dX5_settledEditors_39
  · replace hw := hw.2 c1
    refine z_iload_n C dX5_settledEditors_9 rfl ?_
    refine z_aload_n C dX5_settledEditors_10 rfl ?_
    refine z_iload_n C dX5_settledEditors_11 rfl ?_
    refine z_callFV C [(wS cI gt t)] [] rfl rfl (met_X5_editor l D cI gt t v2) y_X5_editor mw_6_13 dX5_settledEditors_12 rfl n_X5_editor rfl (by decide) ⟨rfl, rfl, Nat.le_of_ble_eq_true rfl, Nat.le_of_ble_eq_true rfl⟩ (Nat.le_of_ble_eq_true rfl) (z_pm [0] 1 rfl (by decide) rfl) ?_
    refine z_aload_n C dX5_settledEditors_15 rfl ?_
    refine z_get C inlX5 rfl 3 (by decide) mw_2_16 dX5_settledEditors_16 0 0 rfl rfl rfl ?_
    refine z_focus 0 (ixE_lt _) [(wF cI gt t (ixE v2) (tEd t (ixE v2)))] rfl rfl ?_
    refine z_open 0 [(wSo gt), (wE cI (gE gt (ixE v2)) (tEd t (ixE v2))), (wN cI (gt 22) (gt 23) (tLog t)), (wN cI (gt 24) (gt 25) (tText t)), (wN cI (gt 26) (gt 27) (tWrs t)), (wR cI gt t (ixE v2))] [(wSo gt), (wE cI (gE gt (ixE v2)) (tEd t (ixE v2))), (wN cI (gt 22) (gt 23) (tLog t)), (wN cI (gt 24) (gt 25) (tText t)), (wN cI (gt 26) (gt 27) (tWrs t)), (wR cI gt t (ixE v2))] rfl rfl rfl ?_
    refine z_callFV C [(wE cI (gE gt (ixE v2)) (tEd t (ixE v2))), (wN cI (gt 22) (gt 23) (tLog t))] [(wSo gt), (wN cI (gt 24) (gt 25) (tText t)), (wN cI (gt 26) (gt 27) (tWrs t)), (wR cI gt t (ixE v2))] rfl rfl (met_X2_isSettled l D cI (gE gt (ixE v2)) (gt 22) (gt 23) (tEd t (ixE v2)) (tLog t)) y_X2_isSettled mw_22_8 dX5_settledEditors_19 rfl n_X2_isSettled rfl (by decide) ⟨rfl, rfl, Nat.le_of_ble_eq_true rfl, Nat.le_of_ble_eq_true rfl⟩ (Nat.le_of_ble_eq_true rfl) (z_pm [1, 2, 0, 3, 4, 5] 6 rfl (by decide) rfl) ?_
    refine z_shut 0 [(wSo gt), (wE cI (gE gt (ixE v2)) (tEd t (ixE v2))), (wN cI (gt 22) (gt 23) (tLog t)), (wN cI (gt 24) (gt 25) (tText t)), (wN cI (gt 26) (gt 27) (tWrs t)), (wR cI gt t (ixE v2))] [(wF cI gt t (ixE v2) (tEd t (ixE v2)))] rfl rfl rfl ?_
    refine z_if_eq C dX5_settledEditors_22 29 (by decide) (fun c2 => ?_) (fun c2 => ?_)
    · replace hw := hw.1 c2
      refine z_iconst C dX5_settledEditors_29 0 (by decide) ?_
      refine z_iadd C dX5_settledEditors_30 ?_
      refine z_name C (fun x3 ex3 => ?_)
      replace hw := hw x3 ex3
      refine z_istore_n C dX5_settledEditors_31 [some (.ref (gt 0)), some (.int x3), some (.int v2)] (by decide) rfl ?_
      refine z_iinc C dX5_settledEditors_32 rfl (v2 + 1) (by rfl) [some (.ref (gt 0)), some (.int x3), some (.int (v2 + 1))] (by decide) rfl ?_
      refine z_goto C dX5_settledEditors_35 4 (by decide) ?_
      refine z_unfocus 0 (ixE_lt _) t [(wS cI gt t)] (tSetEd_same _ _) rfl rfl ?_
      exact hK4 _ _ hw
    · replace hw := hw.2 c2
      refine z_iconst C dX5_settledEditors_25 1 (by decide) ?_
      refine z_goto C dX5_settledEditors_26 30 (by decide) ?_
      refine z_iadd C dX5_settledEditors_30 ?_
      refine z_name C (fun x4 ex4 => ?_)
      replace hw := hw x4 ex4
      refine z_istore_n C dX5_settledEditors_31 [some (.ref (gt 0)), some (.int x4), some (.int v2)] (by decide) rfl ?_
      refine z_iinc C dX5_settledEditors_32 rfl (v2 + 1) (by rfl) [some (.ref (gt 0)), some (.int x4), some (.int (v2 + 1))] (by decide) rfl ?_
      refine z_goto C dX5_settledEditors_35 4 (by decide) ?_
      refine z_unfocus 0 (ixE_lt _) t [(wS cI gt t)] (tSetEd_same _ _) rfl rfl ?_
      exact hK4 _ _ hw
def wp_X5_settledEditors (t : zT)  (Q : Int32 → Prop) : Prop := (zLoop2 (lb_X5_settledEditors_4 t   Q ) 0 0)
set_option maxHeartbeats 4000000 in
set_option maxRecDepth 100000 in
theorem met_X5_settledEditors (l : Launch) (D : va_G) (cI : ClassId) (gt : Nat → Nat) (t : zT)  (Q : Int32 → Prop) (hw : wp_X5_settledEditors t Q) : ZM l D cI yX5_settledEditors cX5_settledEditors 3 (some .int) rmX5_settledEditors [.ref (gt 0)] [(wS cI gt t)] (fun u : Int32 => some (.int u)) (fun u : Int32 => [(wS cI gt t)]) (fun u : Int32 => Q u) := by
  refine z_body [some (.ref (gt 0)), none, none] (by decide +kernel) rfl (Nat.le_of_ble_eq_true rfl) rfl ?_
  intro p e s m args below meth c A C hin
  unfold wp_X5_settledEditors at hw
  refine z_iconst C dX5_settledEditors_0 0 (by decide) ?_
  refine z_istore_n C dX5_settledEditors_1 [some (.ref (gt 0)), some (.int 0), none] (by decide) rfl ?_
  refine z_iconst C dX5_settledEditors_2 0 (by decide) ?_
  refine z_istore_n C dX5_settledEditors_3 [some (.ref (gt 0)), some (.int 0), some (.int 0)] (by decide) rfl ?_
  exact wk_X5_settledEditors_4 C gt t   0 0 _  hw
def rmX5_isOneText : Room := { frames := 2, cells := 0, slots := 0, locals := 43 }
def wp_X5_isOneText (t : zT)  (Q : Int32 → Prop) : Prop := (wp_X4_isSameAs (eCopy (tEd t 0)) (tText t) (fun r1 => ((r1 = 0 → (Q 0)) ∧ (¬ r1 = 0 → (wp_X4_isSameAs (eCopy (tEd t 1)) (tText t) (fun r3 => ((r3 = 0 → (Q 0)) ∧ (¬ r3 = 0 → (wp_X4_isSameAs (eCopy (tEd t 2)) (tText t) (fun r5 => ((r5 = 0 → (Q 0)) ∧ (¬ r5 = 0 → (Q 1)))))))))))))
set_option maxHeartbeats 4000000 in
set_option maxRecDepth 100000 in
theorem met_X5_isOneText (l : Launch) (D : va_G) (cI : ClassId) (gt : Nat → Nat) (t : zT)  (Q : Int32 → Prop) (hw : wp_X5_isOneText t Q) : ZM l D cI yX5_isOneText cX5_isOneText 1 (some .boolean) rmX5_isOneText [.ref (gt 0)] [(wS cI gt t)] (fun u : Int32 => some (.int u)) (fun u : Int32 => [(wS cI gt t)]) (fun u : Int32 => Q u) := by
  refine z_body [some (.ref (gt 0))] (by decide +kernel) rfl (Nat.le_of_ble_eq_true rfl) rfl ?_
  intro p e s m args below meth c A C hin
  unfold wp_X5_isOneText at hw
  refine z_aload_n C dX5_isOneText_0 rfl ?_
  refine z_get C inlX5 rfl 0 (by decide) mw_2_10 dX5_isOneText_1 0 0 rfl rfl rfl ?_
  refine z_getN C inlX2 rfl 1 (by decide) (List.mem_of_getElem? (i := 18) rfl) dX5_isOneText_4 0 1 rfl rfl rfl ?_
  refine z_aload_n C dX5_isOneText_7 rfl ?_
  refine z_get C inlX5 rfl 4 (by decide) mw_2_17 dX5_isOneText_8 0 0 rfl rfl rfl ?_
  refine z_open 0 [(wSo gt), (wE cI (gE gt 0) (tEd t 0)), (wE cI (gE gt 1) (tEd t 1)), (wE cI (gE gt 2) (tEd t 2)), (wN cI (gt 22) (gt 23) (tLog t)), (wN cI (gt 24) (gt 25) (tText t)), (wN cI (gt 26) (gt 27) (tWrs t))] [(wSo gt), (wE cI (gE gt 0) (tEd t 0)), (wE cI (gE gt 1) (tEd t 1)), (wE cI (gE gt 2) (tEd t 2)), (wN cI (gt 22) (gt 23) (tLog t)), (wN cI (gt 24) (gt 25) (tText t)), (wN cI (gt 26) (gt 27) (tWrs t))] rfl rfl rfl ?_
  refine z_open 1 [(wEo (gE gt 0) (tEd t 0)), (wN cI (gt 2) (gt 3) (eCopy (tEd t 0))), (wN cI (gt 4) (gt 5) (eWait (tEd t 0))), (wN cI (gt 6) (gt 7) (eBacks (tEd t 0)))] [(wSo gt), (wEo (gE gt 0) (tEd t 0)), (wN cI (gt 2) (gt 3) (eCopy (tEd t 0))), (wN cI (gt 4) (gt 5) (eWait (tEd t 0))), (wN cI (gt 6) (gt 7) (eBacks (tEd t 0))), (wE cI (gE gt 1) (tEd t 1)), (wE cI (gE gt 2) (tEd t 2)), (wN cI (gt 22) (gt 23) (tLog t)), (wN cI (gt 24) (gt 25) (tText t)), (wN cI (gt 26) (gt 27) (tWrs t))] rfl rfl rfl ?_
  refine z_callV0 C [(wN cI (gt 2) (gt 3) (eCopy (tEd t 0))), (wN cI (gt 24) (gt 25) (tText t))] [(wSo gt), (wEo (gE gt 0) (tEd t 0)), (wN cI (gt 4) (gt 5) (eWait (tEd t 0))), (wN cI (gt 6) (gt 7) (eBacks (tEd t 0))), (wE cI (gE gt 1) (tEd t 1)), (wE cI (gE gt 2) (tEd t 2)), (wN cI (gt 22) (gt 23) (tLog t)), (wN cI (gt 26) (gt 27) (tWrs t))] rfl rfl (met_X4_isSameAs l D cI (gt 2) (gt 3) (gt 24) (gt 25) (eCopy (tEd t 0)) (tText t) _ hw) y_X4_isSameAs mw_24_7 dX5_isOneText_11 rfl n_X4_isSameAs rfl (by decide) ⟨rfl, rfl, Nat.le_of_ble_eq_true rfl, Nat.le_of_ble_eq_true rfl⟩ (Nat.le_of_ble_eq_true rfl) (z_pm [2, 8, 0, 1, 3, 4, 5, 6, 7, 9] 10 rfl (by decide) rfl) ?_
  intro r1 hw
  try dsimp only at hw
  refine z_bs [(wN cI (gt 2) (gt 3) (eCopy (tEd t 0))), (wN cI (gt 24) (gt 25) (tText t)), (wSo gt), (wEo (gE gt 0) (tEd t 0)), (wN cI (gt 4) (gt 5) (eWait (tEd t 0))), (wN cI (gt 6) (gt 7) (eBacks (tEd t 0))), (wE cI (gE gt 1) (tEd t 1)), (wE cI (gE gt 2) (tEd t 2)), (wN cI (gt 22) (gt 23) (tLog t)), (wN cI (gt 26) (gt 27) (tWrs t))] [.int r1] rfl rfl ?_
  refine z_perm C [(wSo gt), (wEo (gE gt 0) (tEd t 0)), (wN cI (gt 2) (gt 3) (eCopy (tEd t 0))), (wN cI (gt 4) (gt 5) (eWait (tEd t 0))), (wN cI (gt 6) (gt 7) (eBacks (tEd t 0))), (wE cI (gE gt 1) (tEd t 1)), (wE cI (gE gt 2) (tEd t 2)), (wN cI (gt 22) (gt 23) (tLog t)), (wN cI (gt 24) (gt 25) (tText t)), (wN cI (gt 26) (gt 27) (tWrs t))] (z_pm [2, 3, 0, 4, 5, 6, 7, 8, 1, 9] 10 rfl (by decide) rfl) ?_
  refine z_shut 1 [(wEo (gE gt 0) (tEd t 0)), (wN cI (gt 2) (gt 3) (eCopy (tEd t 0))), (wN cI (gt 4) (gt 5) (eWait (tEd t 0))), (wN cI (gt 6) (gt 7) (eBacks (tEd t 0)))] [(wSo gt), (wE cI (gE gt 0) (tEd t 0)), (wE cI (gE gt 1) (tEd t 1)), (wE cI (gE gt 2) (tEd t 2)), (wN cI (gt 22) (gt 23) (tLog t)), (wN cI (gt 24) (gt 25) (tText t)), (wN cI (gt 26) (gt 27) (tWrs t))] rfl rfl rfl ?_
  refine z_shut 0 [(wSo gt), (wE cI (gE gt 0) (tEd t 0)), (wE cI (gE gt 1) (tEd t 1)), (wE cI (gE gt 2) (tEd t 2)), (wN cI (gt 22) (gt 23) (tLog t)), (wN cI (gt 24) (gt 25) (tText t)), (wN cI (gt 26) (gt 27) (tWrs t))] [(wS cI gt t)] rfl rfl rfl ?_
  refine z_if_eq C dX5_isOneText_14 55 (by decide) (fun c2 => ?_) (fun c2 => ?_)
  · replace hw := hw.1 c2
    refine z_iconst C dX5_isOneText_55 0 (by decide) ?_
    exact z_zret C rfl (by decide) (0 : Int32) rfl hw rfl dX5_isOneText_56
  · replace hw := hw.2 c2
    refine z_aload_n C dX5_isOneText_17 rfl ?_
    refine z_get C inlX5 rfl 1 (by decide) mw_2_11 dX5_isOneText_18 0 0 rfl rfl rfl ?_
    refine z_getN C inlX2 rfl 1 (by decide) (List.mem_of_getElem? (i := 18) rfl) dX5_isOneText_21 0 8 rfl rfl rfl ?_
    refine z_aload_n C dX5_isOneText_24 rfl ?_
    refine z_get C inlX5 rfl 4 (by decide) mw_2_17 dX5_isOneText_25 0 0 rfl rfl rfl ?_
    refine z_open 0 [(wSo gt), (wE cI (gE gt 0) (tEd t 0)), (wE cI (gE gt 1) (tEd t 1)), (wE cI (gE gt 2) (tEd t 2)), (wN cI (gt 22) (gt 23) (tLog t)), (wN cI (gt 24) (gt 25) (tText t)), (wN cI (gt 26) (gt 27) (tWrs t))] [(wSo gt), (wE cI (gE gt 0) (tEd t 0)), (wE cI (gE gt 1) (tEd t 1)), (wE cI (gE gt 2) (tEd t 2)), (wN cI (gt 22) (gt 23) (tLog t)), (wN cI (gt 24) (gt 25) (tText t)), (wN cI (gt 26) (gt 27) (tWrs t))] rfl rfl rfl ?_
    refine z_open 2 [(wEo (gE gt 1) (tEd t 1)), (wN cI (gt 9) (gt 10) (eCopy (tEd t 1))), (wN cI (gt 11) (gt 12) (eWait (tEd t 1))), (wN cI (gt 13) (gt 14) (eBacks (tEd t 1)))] [(wSo gt), (wE cI (gE gt 0) (tEd t 0)), (wEo (gE gt 1) (tEd t 1)), (wN cI (gt 9) (gt 10) (eCopy (tEd t 1))), (wN cI (gt 11) (gt 12) (eWait (tEd t 1))), (wN cI (gt 13) (gt 14) (eBacks (tEd t 1))), (wE cI (gE gt 2) (tEd t 2)), (wN cI (gt 22) (gt 23) (tLog t)), (wN cI (gt 24) (gt 25) (tText t)), (wN cI (gt 26) (gt 27) (tWrs t))] rfl rfl rfl ?_
    refine z_callV0 C [(wN cI (gt 9) (gt 10) (eCopy (tEd t 1))), (wN cI (gt 24) (gt 25) (tText t))] [(wSo gt), (wE cI (gE gt 0) (tEd t 0)), (wEo (gE gt 1) (tEd t 1)), (wN cI (gt 11) (gt 12) (eWait (tEd t 1))), (wN cI (gt 13) (gt 14) (eBacks (tEd t 1))), (wE cI (gE gt 2) (tEd t 2)), (wN cI (gt 22) (gt 23) (tLog t)), (wN cI (gt 26) (gt 27) (tWrs t))] rfl rfl (met_X4_isSameAs l D cI (gt 9) (gt 10) (gt 24) (gt 25) (eCopy (tEd t 1)) (tText t) _ hw) y_X4_isSameAs mw_24_7 dX5_isOneText_28 rfl n_X4_isSameAs rfl (by decide) ⟨rfl, rfl, Nat.le_of_ble_eq_true rfl, Nat.le_of_ble_eq_true rfl⟩ (Nat.le_of_ble_eq_true rfl) (z_pm [3, 8, 0, 1, 2, 4, 5, 6, 7, 9] 10 rfl (by decide) rfl) ?_
    intro r3 hw
    try dsimp only at hw
    refine z_bs [(wN cI (gt 9) (gt 10) (eCopy (tEd t 1))), (wN cI (gt 24) (gt 25) (tText t)), (wSo gt), (wE cI (gE gt 0) (tEd t 0)), (wEo (gE gt 1) (tEd t 1)), (wN cI (gt 11) (gt 12) (eWait (tEd t 1))), (wN cI (gt 13) (gt 14) (eBacks (tEd t 1))), (wE cI (gE gt 2) (tEd t 2)), (wN cI (gt 22) (gt 23) (tLog t)), (wN cI (gt 26) (gt 27) (tWrs t))] [.int r3] rfl rfl ?_
    refine z_perm C [(wSo gt), (wE cI (gE gt 0) (tEd t 0)), (wEo (gE gt 1) (tEd t 1)), (wN cI (gt 9) (gt 10) (eCopy (tEd t 1))), (wN cI (gt 11) (gt 12) (eWait (tEd t 1))), (wN cI (gt 13) (gt 14) (eBacks (tEd t 1))), (wE cI (gE gt 2) (tEd t 2)), (wN cI (gt 22) (gt 23) (tLog t)), (wN cI (gt 24) (gt 25) (tText t)), (wN cI (gt 26) (gt 27) (tWrs t))] (z_pm [2, 3, 4, 0, 5, 6, 7, 8, 1, 9] 10 rfl (by decide) rfl) ?_
    refine z_shut 2 [(wEo (gE gt 1) (tEd t 1)), (wN cI (gt 9) (gt 10) (eCopy (tEd t 1))), (wN cI (gt 11) (gt 12) (eWait (tEd t 1))), (wN cI (gt 13) (gt 14) (eBacks (tEd t 1)))] [(wSo gt), (wE cI (gE gt 0) (tEd t 0)), (wE cI (gE gt 1) (tEd t 1)), (wE cI (gE gt 2) (tEd t 2)), (wN cI (gt 22) (gt 23) (tLog t)), (wN cI (gt 24) (gt 25) (tText t)), (wN cI (gt 26) (gt 27) (tWrs t))] rfl rfl rfl ?_
    refine z_shut 0 [(wSo gt), (wE cI (gE gt 0) (tEd t 0)), (wE cI (gE gt 1) (tEd t 1)), (wE cI (gE gt 2) (tEd t 2)), (wN cI (gt 22) (gt 23) (tLog t)), (wN cI (gt 24) (gt 25) (tText t)), (wN cI (gt 26) (gt 27) (tWrs t))] [(wS cI gt t)] rfl rfl rfl ?_
    refine z_if_eq C dX5_isOneText_31 55 (by decide) (fun c4 => ?_) (fun c4 => ?_)
    · replace hw := hw.1 c4
      refine z_iconst C dX5_isOneText_55 0 (by decide) ?_
      exact z_zret C rfl (by decide) (0 : Int32) rfl hw rfl dX5_isOneText_56
    · replace hw := hw.2 c4
      refine z_aload_n C dX5_isOneText_34 rfl ?_
      refine z_get C inlX5 rfl 2 (by decide) mw_2_12 dX5_isOneText_35 0 0 rfl rfl rfl ?_
      refine z_getN C inlX2 rfl 1 (by decide) (List.mem_of_getElem? (i := 18) rfl) dX5_isOneText_38 0 15 rfl rfl rfl ?_
      refine z_aload_n C dX5_isOneText_41 rfl ?_
      refine z_get C inlX5 rfl 4 (by decide) mw_2_17 dX5_isOneText_42 0 0 rfl rfl rfl ?_
      refine z_open 0 [(wSo gt), (wE cI (gE gt 0) (tEd t 0)), (wE cI (gE gt 1) (tEd t 1)), (wE cI (gE gt 2) (tEd t 2)), (wN cI (gt 22) (gt 23) (tLog t)), (wN cI (gt 24) (gt 25) (tText t)), (wN cI (gt 26) (gt 27) (tWrs t))] [(wSo gt), (wE cI (gE gt 0) (tEd t 0)), (wE cI (gE gt 1) (tEd t 1)), (wE cI (gE gt 2) (tEd t 2)), (wN cI (gt 22) (gt 23) (tLog t)), (wN cI (gt 24) (gt 25) (tText t)), (wN cI (gt 26) (gt 27) (tWrs t))] rfl rfl rfl ?_
      refine z_open 3 [(wEo (gE gt 2) (tEd t 2)), (wN cI (gt 16) (gt 17) (eCopy (tEd t 2))), (wN cI (gt 18) (gt 19) (eWait (tEd t 2))), (wN cI (gt 20) (gt 21) (eBacks (tEd t 2)))] [(wSo gt), (wE cI (gE gt 0) (tEd t 0)), (wE cI (gE gt 1) (tEd t 1)), (wEo (gE gt 2) (tEd t 2)), (wN cI (gt 16) (gt 17) (eCopy (tEd t 2))), (wN cI (gt 18) (gt 19) (eWait (tEd t 2))), (wN cI (gt 20) (gt 21) (eBacks (tEd t 2))), (wN cI (gt 22) (gt 23) (tLog t)), (wN cI (gt 24) (gt 25) (tText t)), (wN cI (gt 26) (gt 27) (tWrs t))] rfl rfl rfl ?_
      refine z_callV0 C [(wN cI (gt 16) (gt 17) (eCopy (tEd t 2))), (wN cI (gt 24) (gt 25) (tText t))] [(wSo gt), (wE cI (gE gt 0) (tEd t 0)), (wE cI (gE gt 1) (tEd t 1)), (wEo (gE gt 2) (tEd t 2)), (wN cI (gt 18) (gt 19) (eWait (tEd t 2))), (wN cI (gt 20) (gt 21) (eBacks (tEd t 2))), (wN cI (gt 22) (gt 23) (tLog t)), (wN cI (gt 26) (gt 27) (tWrs t))] rfl rfl (met_X4_isSameAs l D cI (gt 16) (gt 17) (gt 24) (gt 25) (eCopy (tEd t 2)) (tText t) _ hw) y_X4_isSameAs mw_24_7 dX5_isOneText_45 rfl n_X4_isSameAs rfl (by decide) ⟨rfl, rfl, Nat.le_of_ble_eq_true rfl, Nat.le_of_ble_eq_true rfl⟩ (Nat.le_of_ble_eq_true rfl) (z_pm [4, 8, 0, 1, 2, 3, 5, 6, 7, 9] 10 rfl (by decide) rfl) ?_
      intro r5 hw
      try dsimp only at hw
      refine z_bs [(wN cI (gt 16) (gt 17) (eCopy (tEd t 2))), (wN cI (gt 24) (gt 25) (tText t)), (wSo gt), (wE cI (gE gt 0) (tEd t 0)), (wE cI (gE gt 1) (tEd t 1)), (wEo (gE gt 2) (tEd t 2)), (wN cI (gt 18) (gt 19) (eWait (tEd t 2))), (wN cI (gt 20) (gt 21) (eBacks (tEd t 2))), (wN cI (gt 22) (gt 23) (tLog t)), (wN cI (gt 26) (gt 27) (tWrs t))] [.int r5] rfl rfl ?_
      refine z_perm C [(wSo gt), (wE cI (gE gt 0) (tEd t 0)), (wE cI (gE gt 1) (tEd t 1)), (wEo (gE gt 2) (tEd t 2)), (wN cI (gt 16) (gt 17) (eCopy (tEd t 2))), (wN cI (gt 18) (gt 19) (eWait (tEd t 2))), (wN cI (gt 20) (gt 21) (eBacks (tEd t 2))), (wN cI (gt 22) (gt 23) (tLog t)), (wN cI (gt 24) (gt 25) (tText t)), (wN cI (gt 26) (gt 27) (tWrs t))] (z_pm [2, 3, 4, 5, 0, 6, 7, 8, 1, 9] 10 rfl (by decide) rfl) ?_
      refine z_shut 3 [(wEo (gE gt 2) (tEd t 2)), (wN cI (gt 16) (gt 17) (eCopy (tEd t 2))), (wN cI (gt 18) (gt 19) (eWait (tEd t 2))), (wN cI (gt 20) (gt 21) (eBacks (tEd t 2)))] [(wSo gt), (wE cI (gE gt 0) (tEd t 0)), (wE cI (gE gt 1) (tEd t 1)), (wE cI (gE gt 2) (tEd t 2)), (wN cI (gt 22) (gt 23) (tLog t)), (wN cI (gt 24) (gt 25) (tText t)), (wN cI (gt 26) (gt 27) (tWrs t))] rfl rfl rfl ?_
      refine z_shut 0 [(wSo gt), (wE cI (gE gt 0) (tEd t 0)), (wE cI (gE gt 1) (tEd t 1)), (wE cI (gE gt 2) (tEd t 2)), (wN cI (gt 22) (gt 23) (tLog t)), (wN cI (gt 24) (gt 25) (tText t)), (wN cI (gt 26) (gt 27) (tWrs t))] [(wS cI gt t)] rfl rfl rfl ?_
      refine z_if_eq C dX5_isOneText_48 55 (by decide) (fun c6 => ?_) (fun c6 => ?_)
      · replace hw := hw.1 c6
        refine z_iconst C dX5_isOneText_55 0 (by decide) ?_
        exact z_zret C rfl (by decide) (0 : Int32) rfl hw rfl dX5_isOneText_56
      · replace hw := hw.2 c6
        refine z_iconst C dX5_isOneText_51 1 (by decide) ?_
        refine z_goto C dX5_isOneText_52 56 (by decide) ?_
        exact z_zret C rfl (by decide) (1 : Int32) rfl hw rfl dX5_isOneText_56
def rmX5_begin : Room := { frames := 2, cells := 0, slots := 0, locals := 40 }
def wp_X5_begin (t : zT)  (Q : zT → Prop) : Prop := (wp_X2_forget (tEd t 0) (fun u1 => (wp_X2_forget (tEd (tSetEds t (z3 u1 (tEd t 1) (tEd t 2))) 1) (fun u2 => (wp_X2_forget (tEd (tSetEds t (z3 (tEd (tSetEds t (z3 u1 (tEd t 1) (tEd t 2))) 0) u2 (tEd (tSetEds t (z3 u1 (tEd t 1) (tEd t 2))) 2))) 2) (fun u3 => (wp_X4_empty (tLog t) (fun u4 => (wp_X4_empty (tText t) (fun u5 => (wp_X4_empty (tWrs t) (fun u6 => (Q (tSetWrs (tSetText (tSetLog (tSetEds t (z3 (tEd (tSetEds t (z3 (tEd (tSetEds t (z3 u1 (tEd t 1) (tEd t 2))) 0) u2 (tEd (tSetEds t (z3 u1 (tEd t 1) (tEd t 2))) 2))) 0) (tEd (tSetEds t (z3 (tEd (tSetEds t (z3 u1 (tEd t 1) (tEd t 2))) 0) u2 (tEd (tSetEds t (z3 u1 (tEd t 1) (tEd t 2))) 2))) 1) u3)) u4) u5) u6))))))))))))))
set_option maxHeartbeats 4000000 in
set_option maxRecDepth 100000 in
theorem met_X5_begin (l : Launch) (D : va_G) (cI : ClassId) (gt : Nat → Nat) (t : zT)  (Q : zT → Prop) (hw : wp_X5_begin t Q) : ZM l D cI yX5_begin cX5_begin 1 none rmX5_begin [.ref (gt 0)] [(wS cI gt t)] (fun _ : zT => none) (fun u : zT => [(wS cI gt u)]) (fun u : zT => Q u) := by
  refine z_body [some (.ref (gt 0))] (by decide +kernel) rfl (Nat.le_of_ble_eq_true rfl) rfl ?_
  intro p e s m args below meth c A C hin
  unfold wp_X5_begin at hw
  refine z_aload_n C dX5_begin_0 rfl ?_
  refine z_get C inlX5 rfl 0 (by decide) mw_2_10 dX5_begin_1 0 0 rfl rfl rfl ?_
  refine z_open 0 [(wSo gt), (wE cI (gE gt 0) (tEd t 0)), (wE cI (gE gt 1) (tEd t 1)), (wE cI (gE gt 2) (tEd t 2)), (wN cI (gt 22) (gt 23) (tLog t)), (wN cI (gt 24) (gt 25) (tText t)), (wN cI (gt 26) (gt 27) (tWrs t))] [(wSo gt), (wE cI (gE gt 0) (tEd t 0)), (wE cI (gE gt 1) (tEd t 1)), (wE cI (gE gt 2) (tEd t 2)), (wN cI (gt 22) (gt 23) (tLog t)), (wN cI (gt 24) (gt 25) (tText t)), (wN cI (gt 26) (gt 27) (tWrs t))] rfl rfl rfl ?_
  refine z_callV0 C [(wE cI (gE gt 0) (tEd t 0))] [(wSo gt), (wE cI (gE gt 1) (tEd t 1)), (wE cI (gE gt 2) (tEd t 2)), (wN cI (gt 22) (gt 23) (tLog t)), (wN cI (gt 24) (gt 25) (tText t)), (wN cI (gt 26) (gt 27) (tWrs t))] rfl rfl (met_X2_forget l D cI (gE gt 0) (tEd t 0) _ hw) y_X2_forget mw_18_4 dX5_begin_4 rfl n_X2_forget rfl (by decide) ⟨rfl, rfl, Nat.le_of_ble_eq_true rfl, Nat.le_of_ble_eq_true rfl⟩ (Nat.le_of_ble_eq_true rfl) (z_pm [1, 0, 2, 3, 4, 5, 6] 7 rfl (by decide) rfl) ?_
  intro u1 hw
  try dsimp only at hw
  refine z_bs [(wE cI (gE gt 0) u1), (wSo gt), (wE cI (gE gt 1) (tEd t 1)), (wE cI (gE gt 2) (tEd t 2)), (wN cI (gt 22) (gt 23) (tLog t)), (wN cI (gt 24) (gt 25) (tText t)), (wN cI (gt 26) (gt 27) (tWrs t))] [] rfl rfl ?_
  refine z_perm C [(wSo gt), (wE cI (gE gt 0) u1), (wE cI (gE gt 1) (tEd t 1)), (wE cI (gE gt 2) (tEd t 2)), (wN cI (gt 22) (gt 23) (tLog t)), (wN cI (gt 24) (gt 25) (tText t)), (wN cI (gt 26) (gt 27) (tWrs t))] (z_pm [1, 0, 2, 3, 4, 5, 6] 7 rfl (by decide) rfl) ?_
  refine z_shut 0 [(wSo gt), (wE cI (gE gt 0) u1), (wE cI (gE gt 1) (tEd t 1)), (wE cI (gE gt 2) (tEd t 2)), (wN cI (gt 22) (gt 23) (tLog t)), (wN cI (gt 24) (gt 25) (tText t)), (wN cI (gt 26) (gt 27) (tWrs t))] [(wS cI gt (tSetEds t (z3 u1 (tEd t 1) (tEd t 2))))] rfl rfl rfl ?_
  refine z_aload_n C dX5_begin_7 rfl ?_
  refine z_get C inlX5 rfl 1 (by decide) mw_2_11 dX5_begin_8 0 0 rfl rfl rfl ?_
  refine z_open 0 [(wSo gt), (wE cI (gE gt 0) (tEd (tSetEds t (z3 u1 (tEd t 1) (tEd t 2))) 0)), (wE cI (gE gt 1) (tEd (tSetEds t (z3 u1 (tEd t 1) (tEd t 2))) 1)), (wE cI (gE gt 2) (tEd (tSetEds t (z3 u1 (tEd t 1) (tEd t 2))) 2)), (wN cI (gt 22) (gt 23) (tLog t)), (wN cI (gt 24) (gt 25) (tText t)), (wN cI (gt 26) (gt 27) (tWrs t))] [(wSo gt), (wE cI (gE gt 0) (tEd (tSetEds t (z3 u1 (tEd t 1) (tEd t 2))) 0)), (wE cI (gE gt 1) (tEd (tSetEds t (z3 u1 (tEd t 1) (tEd t 2))) 1)), (wE cI (gE gt 2) (tEd (tSetEds t (z3 u1 (tEd t 1) (tEd t 2))) 2)), (wN cI (gt 22) (gt 23) (tLog t)), (wN cI (gt 24) (gt 25) (tText t)), (wN cI (gt 26) (gt 27) (tWrs t))] rfl rfl rfl ?_
  refine z_callV0 C [(wE cI (gE gt 1) (tEd (tSetEds t (z3 u1 (tEd t 1) (tEd t 2))) 1))] [(wSo gt), (wE cI (gE gt 0) (tEd (tSetEds t (z3 u1 (tEd t 1) (tEd t 2))) 0)), (wE cI (gE gt 2) (tEd (tSetEds t (z3 u1 (tEd t 1) (tEd t 2))) 2)), (wN cI (gt 22) (gt 23) (tLog t)), (wN cI (gt 24) (gt 25) (tText t)), (wN cI (gt 26) (gt 27) (tWrs t))] rfl rfl (met_X2_forget l D cI (gE gt 1) (tEd (tSetEds t (z3 u1 (tEd t 1) (tEd t 2))) 1) _ hw) y_X2_forget mw_18_4 dX5_begin_11 rfl n_X2_forget rfl (by decide) ⟨rfl, rfl, Nat.le_of_ble_eq_true rfl, Nat.le_of_ble_eq_true rfl⟩ (Nat.le_of_ble_eq_true rfl) (z_pm [2, 0, 1, 3, 4, 5, 6] 7 rfl (by decide) rfl) ?_
  intro u2 hw
  try dsimp only at hw
  refine z_bs [(wE cI (gE gt 1) u2), (wSo gt), (wE cI (gE gt 0) (tEd (tSetEds t (z3 u1 (tEd t 1) (tEd t 2))) 0)), (wE cI (gE gt 2) (tEd (tSetEds t (z3 u1 (tEd t 1) (tEd t 2))) 2)), (wN cI (gt 22) (gt 23) (tLog t)), (wN cI (gt 24) (gt 25) (tText t)), (wN cI (gt 26) (gt 27) (tWrs t))] [] rfl rfl ?_
  refine z_perm C [(wSo gt), (wE cI (gE gt 0) (tEd (tSetEds t (z3 u1 (tEd t 1) (tEd t 2))) 0)), (wE cI (gE gt 1) u2), (wE cI (gE gt 2) (tEd (tSetEds t (z3 u1 (tEd t 1) (tEd t 2))) 2)), (wN cI (gt 22) (gt 23) (tLog t)), (wN cI (gt 24) (gt 25) (tText t)), (wN cI (gt 26) (gt 27) (tWrs t))] (z_pm [1, 2, 0, 3, 4, 5, 6] 7 rfl (by decide) rfl) ?_
  refine z_shut 0 [(wSo gt), (wE cI (gE gt 0) (tEd (tSetEds t (z3 u1 (tEd t 1) (tEd t 2))) 0)), (wE cI (gE gt 1) u2), (wE cI (gE gt 2) (tEd (tSetEds t (z3 u1 (tEd t 1) (tEd t 2))) 2)), (wN cI (gt 22) (gt 23) (tLog t)), (wN cI (gt 24) (gt 25) (tText t)), (wN cI (gt 26) (gt 27) (tWrs t))] [(wS cI gt (tSetEds t (z3 (tEd (tSetEds t (z3 u1 (tEd t 1) (tEd t 2))) 0) u2 (tEd (tSetEds t (z3 u1 (tEd t 1) (tEd t 2))) 2))))] rfl rfl rfl ?_
  refine z_aload_n C dX5_begin_14 rfl ?_
  refine z_get C inlX5 rfl 2 (by decide) mw_2_12 dX5_begin_15 0 0 rfl rfl rfl ?_
  refine z_open 0 [(wSo gt), (wE cI (gE gt 0) (tEd (tSetEds t (z3 (tEd (tSetEds t (z3 u1 (tEd t 1) (tEd t 2))) 0) u2 (tEd (tSetEds t (z3 u1 (tEd t 1) (tEd t 2))) 2))) 0)), (wE cI (gE gt 1) (tEd (tSetEds t (z3 (tEd (tSetEds t (z3 u1 (tEd t 1) (tEd t 2))) 0) u2 (tEd (tSetEds t (z3 u1 (tEd t 1) (tEd t 2))) 2))) 1)), (wE cI (gE gt 2) (tEd (tSetEds t (z3 (tEd (tSetEds t (z3 u1 (tEd t 1) (tEd t 2))) 0) u2 (tEd (tSetEds t (z3 u1 (tEd t 1) (tEd t 2))) 2))) 2)), (wN cI (gt 22) (gt 23) (tLog t)), (wN cI (gt 24) (gt 25) (tText t)), (wN cI (gt 26) (gt 27) (tWrs t))] [(wSo gt), (wE cI (gE gt 0) (tEd (tSetEds t (z3 (tEd (tSetEds t (z3 u1 (tEd t 1) (tEd t 2))) 0) u2 (tEd (tSetEds t (z3 u1 (tEd t 1) (tEd t 2))) 2))) 0)), (wE cI (gE gt 1) (tEd (tSetEds t (z3 (tEd (tSetEds t (z3 u1 (tEd t 1) (tEd t 2))) 0) u2 (tEd (tSetEds t (z3 u1 (tEd t 1) (tEd t 2))) 2))) 1)), (wE cI (gE gt 2) (tEd (tSetEds t (z3 (tEd (tSetEds t (z3 u1 (tEd t 1) (tEd t 2))) 0) u2 (tEd (tSetEds t (z3 u1 (tEd t 1) (tEd t 2))) 2))) 2)), (wN cI (gt 22) (gt 23) (tLog t)), (wN cI (gt 24) (gt 25) (tText t)), (wN cI (gt 26) (gt 27) (tWrs t))] rfl rfl rfl ?_
  refine z_callV0 C [(wE cI (gE gt 2) (tEd (tSetEds t (z3 (tEd (tSetEds t (z3 u1 (tEd t 1) (tEd t 2))) 0) u2 (tEd (tSetEds t (z3 u1 (tEd t 1) (tEd t 2))) 2))) 2))] [(wSo gt), (wE cI (gE gt 0) (tEd (tSetEds t (z3 (tEd (tSetEds t (z3 u1 (tEd t 1) (tEd t 2))) 0) u2 (tEd (tSetEds t (z3 u1 (tEd t 1) (tEd t 2))) 2))) 0)), (wE cI (gE gt 1) (tEd (tSetEds t (z3 (tEd (tSetEds t (z3 u1 (tEd t 1) (tEd t 2))) 0) u2 (tEd (tSetEds t (z3 u1 (tEd t 1) (tEd t 2))) 2))) 1)), (wN cI (gt 22) (gt 23) (tLog t)), (wN cI (gt 24) (gt 25) (tText t)), (wN cI (gt 26) (gt 27) (tWrs t))] rfl rfl (met_X2_forget l D cI (gE gt 2) (tEd (tSetEds t (z3 (tEd (tSetEds t (z3 u1 (tEd t 1) (tEd t 2))) 0) u2 (tEd (tSetEds t (z3 u1 (tEd t 1) (tEd t 2))) 2))) 2) _ hw) y_X2_forget mw_18_4 dX5_begin_18 rfl n_X2_forget rfl (by decide) ⟨rfl, rfl, Nat.le_of_ble_eq_true rfl, Nat.le_of_ble_eq_true rfl⟩ (Nat.le_of_ble_eq_true rfl) (z_pm [3, 0, 1, 2, 4, 5, 6] 7 rfl (by decide) rfl) ?_
  intro u3 hw
  try dsimp only at hw
  refine z_bs [(wE cI (gE gt 2) u3), (wSo gt), (wE cI (gE gt 0) (tEd (tSetEds t (z3 (tEd (tSetEds t (z3 u1 (tEd t 1) (tEd t 2))) 0) u2 (tEd (tSetEds t (z3 u1 (tEd t 1) (tEd t 2))) 2))) 0)), (wE cI (gE gt 1) (tEd (tSetEds t (z3 (tEd (tSetEds t (z3 u1 (tEd t 1) (tEd t 2))) 0) u2 (tEd (tSetEds t (z3 u1 (tEd t 1) (tEd t 2))) 2))) 1)), (wN cI (gt 22) (gt 23) (tLog t)), (wN cI (gt 24) (gt 25) (tText t)), (wN cI (gt 26) (gt 27) (tWrs t))] [] rfl rfl ?_
  refine z_perm C [(wSo gt), (wE cI (gE gt 0) (tEd (tSetEds t (z3 (tEd (tSetEds t (z3 u1 (tEd t 1) (tEd t 2))) 0) u2 (tEd (tSetEds t (z3 u1 (tEd t 1) (tEd t 2))) 2))) 0)), (wE cI (gE gt 1) (tEd (tSetEds t (z3 (tEd (tSetEds t (z3 u1 (tEd t 1) (tEd t 2))) 0) u2 (tEd (tSetEds t (z3 u1 (tEd t 1) (tEd t 2))) 2))) 1)), (wE cI (gE gt 2) u3), (wN cI (gt 22) (gt 23) (tLog t)), (wN cI (gt 24) (gt 25) (tText t)), (wN cI (gt 26) (gt 27) (tWrs t))] (z_pm [1, 2, 3, 0, 4, 5, 6] 7 rfl (by decide) rfl) ?_
  refine z_shut 0 [(wSo gt), (wE cI (gE gt 0) (tEd (tSetEds t (z3 (tEd (tSetEds t (z3 u1 (tEd t 1) (tEd t 2))) 0) u2 (tEd (tSetEds t (z3 u1 (tEd t 1) (tEd t 2))) 2))) 0)), (wE cI (gE gt 1) (tEd (tSetEds t (z3 (tEd (tSetEds t (z3 u1 (tEd t 1) (tEd t 2))) 0) u2 (tEd (tSetEds t (z3 u1 (tEd t 1) (tEd t 2))) 2))) 1)), (wE cI (gE gt 2) u3), (wN cI (gt 22) (gt 23) (tLog t)), (wN cI (gt 24) (gt 25) (tText t)), (wN cI (gt 26) (gt 27) (tWrs t))] [(wS cI gt (tSetEds t (z3 (tEd (tSetEds t (z3 (tEd (tSetEds t (z3 u1 (tEd t 1) (tEd t 2))) 0) u2 (tEd (tSetEds t (z3 u1 (tEd t 1) (tEd t 2))) 2))) 0) (tEd (tSetEds t (z3 (tEd (tSetEds t (z3 u1 (tEd t 1) (tEd t 2))) 0) u2 (tEd (tSetEds t (z3 u1 (tEd t 1) (tEd t 2))) 2))) 1) u3)))] rfl rfl rfl ?_
  refine z_aload_n C dX5_begin_21 rfl ?_
  refine z_get C inlX5 rfl 3 (by decide) mw_2_16 dX5_begin_22 0 0 rfl rfl rfl ?_
  refine z_open 0 [(wSo gt), (wE cI (gE gt 0) (tEd (tSetEds t (z3 (tEd (tSetEds t (z3 (tEd (tSetEds t (z3 u1 (tEd t 1) (tEd t 2))) 0) u2 (tEd (tSetEds t (z3 u1 (tEd t 1) (tEd t 2))) 2))) 0) (tEd (tSetEds t (z3 (tEd (tSetEds t (z3 u1 (tEd t 1) (tEd t 2))) 0) u2 (tEd (tSetEds t (z3 u1 (tEd t 1) (tEd t 2))) 2))) 1) u3)) 0)), (wE cI (gE gt 1) (tEd (tSetEds t (z3 (tEd (tSetEds t (z3 (tEd (tSetEds t (z3 u1 (tEd t 1) (tEd t 2))) 0) u2 (tEd (tSetEds t (z3 u1 (tEd t 1) (tEd t 2))) 2))) 0) (tEd (tSetEds t (z3 (tEd (tSetEds t (z3 u1 (tEd t 1) (tEd t 2))) 0) u2 (tEd (tSetEds t (z3 u1 (tEd t 1) (tEd t 2))) 2))) 1) u3)) 1)), (wE cI (gE gt 2) (tEd (tSetEds t (z3 (tEd (tSetEds t (z3 (tEd (tSetEds t (z3 u1 (tEd t 1) (tEd t 2))) 0) u2 (tEd (tSetEds t (z3 u1 (tEd t 1) (tEd t 2))) 2))) 0) (tEd (tSetEds t (z3 (tEd (tSetEds t (z3 u1 (tEd t 1) (tEd t 2))) 0) u2 (tEd (tSetEds t (z3 u1 (tEd t 1) (tEd t 2))) 2))) 1) u3)) 2)), (wN cI (gt 22) (gt 23) (tLog t)), (wN cI (gt 24) (gt 25) (tText t)), (wN cI (gt 26) (gt 27) (tWrs t))] [(wSo gt), (wE cI (gE gt 0) (tEd (tSetEds t (z3 (tEd (tSetEds t (z3 (tEd (tSetEds t (z3 u1 (tEd t 1) (tEd t 2))) 0) u2 (tEd (tSetEds t (z3 u1 (tEd t 1) (tEd t 2))) 2))) 0) (tEd (tSetEds t (z3 (tEd (tSetEds t (z3 u1 (tEd t 1) (tEd t 2))) 0) u2 (tEd (tSetEds t (z3 u1 (tEd t 1) (tEd t 2))) 2))) 1) u3)) 0)), (wE cI (gE gt 1) (tEd (tSetEds t (z3 (tEd (tSetEds t (z3 (tEd (tSetEds t (z3 u1 (tEd t 1) (tEd t 2))) 0) u2 (tEd (tSetEds t (z3 u1 (tEd t 1) (tEd t 2))) 2))) 0) (tEd (tSetEds t (z3 (tEd (tSetEds t (z3 u1 (tEd t 1) (tEd t 2))) 0) u2 (tEd (tSetEds t (z3 u1 (tEd t 1) (tEd t 2))) 2))) 1) u3)) 1)), (wE cI (gE gt 2) (tEd (tSetEds t (z3 (tEd (tSetEds t (z3 (tEd (tSetEds t (z3 u1 (tEd t 1) (tEd t 2))) 0) u2 (tEd (tSetEds t (z3 u1 (tEd t 1) (tEd t 2))) 2))) 0) (tEd (tSetEds t (z3 (tEd (tSetEds t (z3 u1 (tEd t 1) (tEd t 2))) 0) u2 (tEd (tSetEds t (z3 u1 (tEd t 1) (tEd t 2))) 2))) 1) u3)) 2)), (wN cI (gt 22) (gt 23) (tLog t)), (wN cI (gt 24) (gt 25) (tText t)), (wN cI (gt 26) (gt 27) (tWrs t))] rfl rfl rfl ?_
  refine z_callV0 C [(wN cI (gt 22) (gt 23) (tLog t))] [(wSo gt), (wE cI (gE gt 0) (tEd (tSetEds t (z3 (tEd (tSetEds t (z3 (tEd (tSetEds t (z3 u1 (tEd t 1) (tEd t 2))) 0) u2 (tEd (tSetEds t (z3 u1 (tEd t 1) (tEd t 2))) 2))) 0) (tEd (tSetEds t (z3 (tEd (tSetEds t (z3 u1 (tEd t 1) (tEd t 2))) 0) u2 (tEd (tSetEds t (z3 u1 (tEd t 1) (tEd t 2))) 2))) 1) u3)) 0)), (wE cI (gE gt 1) (tEd (tSetEds t (z3 (tEd (tSetEds t (z3 (tEd (tSetEds t (z3 u1 (tEd t 1) (tEd t 2))) 0) u2 (tEd (tSetEds t (z3 u1 (tEd t 1) (tEd t 2))) 2))) 0) (tEd (tSetEds t (z3 (tEd (tSetEds t (z3 u1 (tEd t 1) (tEd t 2))) 0) u2 (tEd (tSetEds t (z3 u1 (tEd t 1) (tEd t 2))) 2))) 1) u3)) 1)), (wE cI (gE gt 2) (tEd (tSetEds t (z3 (tEd (tSetEds t (z3 (tEd (tSetEds t (z3 u1 (tEd t 1) (tEd t 2))) 0) u2 (tEd (tSetEds t (z3 u1 (tEd t 1) (tEd t 2))) 2))) 0) (tEd (tSetEds t (z3 (tEd (tSetEds t (z3 u1 (tEd t 1) (tEd t 2))) 0) u2 (tEd (tSetEds t (z3 u1 (tEd t 1) (tEd t 2))) 2))) 1) u3)) 2)), (wN cI (gt 24) (gt 25) (tText t)), (wN cI (gt 26) (gt 27) (tWrs t))] rfl rfl (met_X4_empty l D cI (gt 22) (gt 23) (tLog t) _ hw) y_X4_empty mw_18_12 dX5_begin_25 rfl n_X4_empty rfl (by decide) ⟨rfl, rfl, Nat.le_of_ble_eq_true rfl, Nat.le_of_ble_eq_true rfl⟩ (Nat.le_of_ble_eq_true rfl) (z_pm [4, 0, 1, 2, 3, 5, 6] 7 rfl (by decide) rfl) ?_
  intro u4 hw
  try dsimp only at hw
  refine z_bs [(wN cI (gt 22) (gt 23) u4), (wSo gt), (wE cI (gE gt 0) (tEd (tSetEds t (z3 (tEd (tSetEds t (z3 (tEd (tSetEds t (z3 u1 (tEd t 1) (tEd t 2))) 0) u2 (tEd (tSetEds t (z3 u1 (tEd t 1) (tEd t 2))) 2))) 0) (tEd (tSetEds t (z3 (tEd (tSetEds t (z3 u1 (tEd t 1) (tEd t 2))) 0) u2 (tEd (tSetEds t (z3 u1 (tEd t 1) (tEd t 2))) 2))) 1) u3)) 0)), (wE cI (gE gt 1) (tEd (tSetEds t (z3 (tEd (tSetEds t (z3 (tEd (tSetEds t (z3 u1 (tEd t 1) (tEd t 2))) 0) u2 (tEd (tSetEds t (z3 u1 (tEd t 1) (tEd t 2))) 2))) 0) (tEd (tSetEds t (z3 (tEd (tSetEds t (z3 u1 (tEd t 1) (tEd t 2))) 0) u2 (tEd (tSetEds t (z3 u1 (tEd t 1) (tEd t 2))) 2))) 1) u3)) 1)), (wE cI (gE gt 2) (tEd (tSetEds t (z3 (tEd (tSetEds t (z3 (tEd (tSetEds t (z3 u1 (tEd t 1) (tEd t 2))) 0) u2 (tEd (tSetEds t (z3 u1 (tEd t 1) (tEd t 2))) 2))) 0) (tEd (tSetEds t (z3 (tEd (tSetEds t (z3 u1 (tEd t 1) (tEd t 2))) 0) u2 (tEd (tSetEds t (z3 u1 (tEd t 1) (tEd t 2))) 2))) 1) u3)) 2)), (wN cI (gt 24) (gt 25) (tText t)), (wN cI (gt 26) (gt 27) (tWrs t))] [] rfl rfl ?_
  refine z_perm C [(wSo gt), (wE cI (gE gt 0) (tEd (tSetEds t (z3 (tEd (tSetEds t (z3 (tEd (tSetEds t (z3 u1 (tEd t 1) (tEd t 2))) 0) u2 (tEd (tSetEds t (z3 u1 (tEd t 1) (tEd t 2))) 2))) 0) (tEd (tSetEds t (z3 (tEd (tSetEds t (z3 u1 (tEd t 1) (tEd t 2))) 0) u2 (tEd (tSetEds t (z3 u1 (tEd t 1) (tEd t 2))) 2))) 1) u3)) 0)), (wE cI (gE gt 1) (tEd (tSetEds t (z3 (tEd (tSetEds t (z3 (tEd (tSetEds t (z3 u1 (tEd t 1) (tEd t 2))) 0) u2 (tEd (tSetEds t (z3 u1 (tEd t 1) (tEd t 2))) 2))) 0) (tEd (tSetEds t (z3 (tEd (tSetEds t (z3 u1 (tEd t 1) (tEd t 2))) 0) u2 (tEd (tSetEds t (z3 u1 (tEd t 1) (tEd t 2))) 2))) 1) u3)) 1)), (wE cI (gE gt 2) (tEd (tSetEds t (z3 (tEd (tSetEds t (z3 (tEd (tSetEds t (z3 u1 (tEd t 1) (tEd t 2))) 0) u2 (tEd (tSetEds t (z3 u1 (tEd t 1) (tEd t 2))) 2))) 0) (tEd (tSetEds t (z3 (tEd (tSetEds t (z3 u1 (tEd t 1) (tEd t 2))) 0) u2 (tEd (tSetEds t (z3 u1 (tEd t 1) (tEd t 2))) 2))) 1) u3)) 2)), (wN cI (gt 22) (gt 23) u4), (wN cI (gt 24) (gt 25) (tText t)), (wN cI (gt 26) (gt 27) (tWrs t))] (z_pm [1, 2, 3, 4, 0, 5, 6] 7 rfl (by decide) rfl) ?_
  refine z_shut 0 [(wSo gt), (wE cI (gE gt 0) (tEd (tSetEds t (z3 (tEd (tSetEds t (z3 (tEd (tSetEds t (z3 u1 (tEd t 1) (tEd t 2))) 0) u2 (tEd (tSetEds t (z3 u1 (tEd t 1) (tEd t 2))) 2))) 0) (tEd (tSetEds t (z3 (tEd (tSetEds t (z3 u1 (tEd t 1) (tEd t 2))) 0) u2 (tEd (tSetEds t (z3 u1 (tEd t 1) (tEd t 2))) 2))) 1) u3)) 0)), (wE cI (gE gt 1) (tEd (tSetEds t (z3 (tEd (tSetEds t (z3 (tEd (tSetEds t (z3 u1 (tEd t 1) (tEd t 2))) 0) u2 (tEd (tSetEds t (z3 u1 (tEd t 1) (tEd t 2))) 2))) 0) (tEd (tSetEds t (z3 (tEd (tSetEds t (z3 u1 (tEd t 1) (tEd t 2))) 0) u2 (tEd (tSetEds t (z3 u1 (tEd t 1) (tEd t 2))) 2))) 1) u3)) 1)), (wE cI (gE gt 2) (tEd (tSetEds t (z3 (tEd (tSetEds t (z3 (tEd (tSetEds t (z3 u1 (tEd t 1) (tEd t 2))) 0) u2 (tEd (tSetEds t (z3 u1 (tEd t 1) (tEd t 2))) 2))) 0) (tEd (tSetEds t (z3 (tEd (tSetEds t (z3 u1 (tEd t 1) (tEd t 2))) 0) u2 (tEd (tSetEds t (z3 u1 (tEd t 1) (tEd t 2))) 2))) 1) u3)) 2)), (wN cI (gt 22) (gt 23) u4), (wN cI (gt 24) (gt 25) (tText t)), (wN cI (gt 26) (gt 27) (tWrs t))] [(wS cI gt (tSetLog (tSetEds t (z3 (tEd (tSetEds t (z3 (tEd (tSetEds t (z3 u1 (tEd t 1) (tEd t 2))) 0) u2 (tEd (tSetEds t (z3 u1 (tEd t 1) (tEd t 2))) 2))) 0) (tEd (tSetEds t (z3 (tEd (tSetEds t (z3 u1 (tEd t 1) (tEd t 2))) 0) u2 (tEd (tSetEds t (z3 u1 (tEd t 1) (tEd t 2))) 2))) 1) u3)) u4))] rfl rfl rfl ?_
  refine z_aload_n C dX5_begin_28 rfl ?_
  refine z_get C inlX5 rfl 4 (by decide) mw_2_17 dX5_begin_29 0 0 rfl rfl rfl ?_
  refine z_open 0 [(wSo gt), (wE cI (gE gt 0) (tEd (tSetLog (tSetEds t (z3 (tEd (tSetEds t (z3 (tEd (tSetEds t (z3 u1 (tEd t 1) (tEd t 2))) 0) u2 (tEd (tSetEds t (z3 u1 (tEd t 1) (tEd t 2))) 2))) 0) (tEd (tSetEds t (z3 (tEd (tSetEds t (z3 u1 (tEd t 1) (tEd t 2))) 0) u2 (tEd (tSetEds t (z3 u1 (tEd t 1) (tEd t 2))) 2))) 1) u3)) u4) 0)), (wE cI (gE gt 1) (tEd (tSetLog (tSetEds t (z3 (tEd (tSetEds t (z3 (tEd (tSetEds t (z3 u1 (tEd t 1) (tEd t 2))) 0) u2 (tEd (tSetEds t (z3 u1 (tEd t 1) (tEd t 2))) 2))) 0) (tEd (tSetEds t (z3 (tEd (tSetEds t (z3 u1 (tEd t 1) (tEd t 2))) 0) u2 (tEd (tSetEds t (z3 u1 (tEd t 1) (tEd t 2))) 2))) 1) u3)) u4) 1)), (wE cI (gE gt 2) (tEd (tSetLog (tSetEds t (z3 (tEd (tSetEds t (z3 (tEd (tSetEds t (z3 u1 (tEd t 1) (tEd t 2))) 0) u2 (tEd (tSetEds t (z3 u1 (tEd t 1) (tEd t 2))) 2))) 0) (tEd (tSetEds t (z3 (tEd (tSetEds t (z3 u1 (tEd t 1) (tEd t 2))) 0) u2 (tEd (tSetEds t (z3 u1 (tEd t 1) (tEd t 2))) 2))) 1) u3)) u4) 2)), (wN cI (gt 22) (gt 23) u4), (wN cI (gt 24) (gt 25) (tText t)), (wN cI (gt 26) (gt 27) (tWrs t))] [(wSo gt), (wE cI (gE gt 0) (tEd (tSetLog (tSetEds t (z3 (tEd (tSetEds t (z3 (tEd (tSetEds t (z3 u1 (tEd t 1) (tEd t 2))) 0) u2 (tEd (tSetEds t (z3 u1 (tEd t 1) (tEd t 2))) 2))) 0) (tEd (tSetEds t (z3 (tEd (tSetEds t (z3 u1 (tEd t 1) (tEd t 2))) 0) u2 (tEd (tSetEds t (z3 u1 (tEd t 1) (tEd t 2))) 2))) 1) u3)) u4) 0)), (wE cI (gE gt 1) (tEd (tSetLog (tSetEds t (z3 (tEd (tSetEds t (z3 (tEd (tSetEds t (z3 u1 (tEd t 1) (tEd t 2))) 0) u2 (tEd (tSetEds t (z3 u1 (tEd t 1) (tEd t 2))) 2))) 0) (tEd (tSetEds t (z3 (tEd (tSetEds t (z3 u1 (tEd t 1) (tEd t 2))) 0) u2 (tEd (tSetEds t (z3 u1 (tEd t 1) (tEd t 2))) 2))) 1) u3)) u4) 1)), (wE cI (gE gt 2) (tEd (tSetLog (tSetEds t (z3 (tEd (tSetEds t (z3 (tEd (tSetEds t (z3 u1 (tEd t 1) (tEd t 2))) 0) u2 (tEd (tSetEds t (z3 u1 (tEd t 1) (tEd t 2))) 2))) 0) (tEd (tSetEds t (z3 (tEd (tSetEds t (z3 u1 (tEd t 1) (tEd t 2))) 0) u2 (tEd (tSetEds t (z3 u1 (tEd t 1) (tEd t 2))) 2))) 1) u3)) u4) 2)), (wN cI (gt 22) (gt 23) u4), (wN cI (gt 24) (gt 25) (tText t)), (wN cI (gt 26) (gt 27) (tWrs t))] rfl rfl rfl ?_
  refine z_callV0 C [(wN cI (gt 24) (gt 25) (tText t))] [(wSo gt), (wE cI (gE gt 0) (tEd (tSetLog (tSetEds t (z3 (tEd (tSetEds t (z3 (tEd (tSetEds t (z3 u1 (tEd t 1) (tEd t 2))) 0) u2 (tEd (tSetEds t (z3 u1 (tEd t 1) (tEd t 2))) 2))) 0) (tEd (tSetEds t (z3 (tEd (tSetEds t (z3 u1 (tEd t 1) (tEd t 2))) 0) u2 (tEd (tSetEds t (z3 u1 (tEd t 1) (tEd t 2))) 2))) 1) u3)) u4) 0)), (wE cI (gE gt 1) (tEd (tSetLog (tSetEds t (z3 (tEd (tSetEds t (z3 (tEd (tSetEds t (z3 u1 (tEd t 1) (tEd t 2))) 0) u2 (tEd (tSetEds t (z3 u1 (tEd t 1) (tEd t 2))) 2))) 0) (tEd (tSetEds t (z3 (tEd (tSetEds t (z3 u1 (tEd t 1) (tEd t 2))) 0) u2 (tEd (tSetEds t (z3 u1 (tEd t 1) (tEd t 2))) 2))) 1) u3)) u4) 1)), (wE cI (gE gt 2) (tEd (tSetLog (tSetEds t (z3 (tEd (tSetEds t (z3 (tEd (tSetEds t (z3 u1 (tEd t 1) (tEd t 2))) 0) u2 (tEd (tSetEds t (z3 u1 (tEd t 1) (tEd t 2))) 2))) 0) (tEd (tSetEds t (z3 (tEd (tSetEds t (z3 u1 (tEd t 1) (tEd t 2))) 0) u2 (tEd (tSetEds t (z3 u1 (tEd t 1) (tEd t 2))) 2))) 1) u3)) u4) 2)), (wN cI (gt 22) (gt 23) u4), (wN cI (gt 26) (gt 27) (tWrs t))] rfl rfl (met_X4_empty l D cI (gt 24) (gt 25) (tText t) _ hw) y_X4_empty mw_18_12 dX5_begin_32 rfl n_X4_empty rfl (by decide) ⟨rfl, rfl, Nat.le_of_ble_eq_true rfl, Nat.le_of_ble_eq_true rfl⟩ (Nat.le_of_ble_eq_true rfl) (z_pm [5, 0, 1, 2, 3, 4, 6] 7 rfl (by decide) rfl) ?_
  intro u5 hw
  try dsimp only at hw
  refine z_bs [(wN cI (gt 24) (gt 25) u5), (wSo gt), (wE cI (gE gt 0) (tEd (tSetLog (tSetEds t (z3 (tEd (tSetEds t (z3 (tEd (tSetEds t (z3 u1 (tEd t 1) (tEd t 2))) 0) u2 (tEd (tSetEds t (z3 u1 (tEd t 1) (tEd t 2))) 2))) 0) (tEd (tSetEds t (z3 (tEd (tSetEds t (z3 u1 (tEd t 1) (tEd t 2))) 0) u2 (tEd (tSetEds t (z3 u1 (tEd t 1) (tEd t 2))) 2))) 1) u3)) u4) 0)), (wE cI (gE gt 1) (tEd (tSetLog (tSetEds t (z3 (tEd (tSetEds t (z3 (tEd (tSetEds t (z3 u1 (tEd t 1) (tEd t 2))) 0) u2 (tEd (tSetEds t (z3 u1 (tEd t 1) (tEd t 2))) 2))) 0) (tEd (tSetEds t (z3 (tEd (tSetEds t (z3 u1 (tEd t 1) (tEd t 2))) 0) u2 (tEd (tSetEds t (z3 u1 (tEd t 1) (tEd t 2))) 2))) 1) u3)) u4) 1)), (wE cI (gE gt 2) (tEd (tSetLog (tSetEds t (z3 (tEd (tSetEds t (z3 (tEd (tSetEds t (z3 u1 (tEd t 1) (tEd t 2))) 0) u2 (tEd (tSetEds t (z3 u1 (tEd t 1) (tEd t 2))) 2))) 0) (tEd (tSetEds t (z3 (tEd (tSetEds t (z3 u1 (tEd t 1) (tEd t 2))) 0) u2 (tEd (tSetEds t (z3 u1 (tEd t 1) (tEd t 2))) 2))) 1) u3)) u4) 2)), (wN cI (gt 22) (gt 23) u4), (wN cI (gt 26) (gt 27) (tWrs t))] [] rfl rfl ?_
  refine z_perm C [(wSo gt), (wE cI (gE gt 0) (tEd (tSetLog (tSetEds t (z3 (tEd (tSetEds t (z3 (tEd (tSetEds t (z3 u1 (tEd t 1) (tEd t 2))) 0) u2 (tEd (tSetEds t (z3 u1 (tEd t 1) (tEd t 2))) 2))) 0) (tEd (tSetEds t (z3 (tEd (tSetEds t (z3 u1 (tEd t 1) (tEd t 2))) 0) u2 (tEd (tSetEds t (z3 u1 (tEd t 1) (tEd t 2))) 2))) 1) u3)) u4) 0)), (wE cI (gE gt 1) (tEd (tSetLog (tSetEds t (z3 (tEd (tSetEds t (z3 (tEd (tSetEds t (z3 u1 (tEd t 1) (tEd t 2))) 0) u2 (tEd (tSetEds t (z3 u1 (tEd t 1) (tEd t 2))) 2))) 0) (tEd (tSetEds t (z3 (tEd (tSetEds t (z3 u1 (tEd t 1) (tEd t 2))) 0) u2 (tEd (tSetEds t (z3 u1 (tEd t 1) (tEd t 2))) 2))) 1) u3)) u4) 1)), (wE cI (gE gt 2) (tEd (tSetLog (tSetEds t (z3 (tEd (tSetEds t (z3 (tEd (tSetEds t (z3 u1 (tEd t 1) (tEd t 2))) 0) u2 (tEd (tSetEds t (z3 u1 (tEd t 1) (tEd t 2))) 2))) 0) (tEd (tSetEds t (z3 (tEd (tSetEds t (z3 u1 (tEd t 1) (tEd t 2))) 0) u2 (tEd (tSetEds t (z3 u1 (tEd t 1) (tEd t 2))) 2))) 1) u3)) u4) 2)), (wN cI (gt 22) (gt 23) u4), (wN cI (gt 24) (gt 25) u5), (wN cI (gt 26) (gt 27) (tWrs t))] (z_pm [1, 2, 3, 4, 5, 0, 6] 7 rfl (by decide) rfl) ?_
  refine z_shut 0 [(wSo gt), (wE cI (gE gt 0) (tEd (tSetLog (tSetEds t (z3 (tEd (tSetEds t (z3 (tEd (tSetEds t (z3 u1 (tEd t 1) (tEd t 2))) 0) u2 (tEd (tSetEds t (z3 u1 (tEd t 1) (tEd t 2))) 2))) 0) (tEd (tSetEds t (z3 (tEd (tSetEds t (z3 u1 (tEd t 1) (tEd t 2))) 0) u2 (tEd (tSetEds t (z3 u1 (tEd t 1) (tEd t 2))) 2))) 1) u3)) u4) 0)), (wE cI (gE gt 1) (tEd (tSetLog (tSetEds t (z3 (tEd (tSetEds t (z3 (tEd (tSetEds t (z3 u1 (tEd t 1) (tEd t 2))) 0) u2 (tEd (tSetEds t (z3 u1 (tEd t 1) (tEd t 2))) 2))) 0) (tEd (tSetEds t (z3 (tEd (tSetEds t (z3 u1 (tEd t 1) (tEd t 2))) 0) u2 (tEd (tSetEds t (z3 u1 (tEd t 1) (tEd t 2))) 2))) 1) u3)) u4) 1)), (wE cI (gE gt 2) (tEd (tSetLog (tSetEds t (z3 (tEd (tSetEds t (z3 (tEd (tSetEds t (z3 u1 (tEd t 1) (tEd t 2))) 0) u2 (tEd (tSetEds t (z3 u1 (tEd t 1) (tEd t 2))) 2))) 0) (tEd (tSetEds t (z3 (tEd (tSetEds t (z3 u1 (tEd t 1) (tEd t 2))) 0) u2 (tEd (tSetEds t (z3 u1 (tEd t 1) (tEd t 2))) 2))) 1) u3)) u4) 2)), (wN cI (gt 22) (gt 23) u4), (wN cI (gt 24) (gt 25) u5), (wN cI (gt 26) (gt 27) (tWrs t))] [(wS cI gt (tSetText (tSetLog (tSetEds t (z3 (tEd (tSetEds t (z3 (tEd (tSetEds t (z3 u1 (tEd t 1) (tEd t 2))) 0) u2 (tEd (tSetEds t (z3 u1 (tEd t 1) (tEd t 2))) 2))) 0) (tEd (tSetEds t (z3 (tEd (tSetEds t (z3 u1 (tEd t 1) (tEd t 2))) 0) u2 (tEd (tSetEds t (z3 u1 (tEd t 1) (tEd t 2))) 2))) 1) u3)) u4) u5))] rfl rfl rfl ?_
  refine z_aload_n C dX5_begin_35 rfl ?_
  refine z_get C inlX5 rfl 5 (by decide) mw_2_18 dX5_begin_36 0 0 rfl rfl rfl ?_
  refine z_open 0 [(wSo gt), (wE cI (gE gt 0) (tEd (tSetText (tSetLog (tSetEds t (z3 (tEd (tSetEds t (z3 (tEd (tSetEds t (z3 u1 (tEd t 1) (tEd t 2))) 0) u2 (tEd (tSetEds t (z3 u1 (tEd t 1) (tEd t 2))) 2))) 0) (tEd (tSetEds t (z3 (tEd (tSetEds t (z3 u1 (tEd t 1) (tEd t 2))) 0) u2 (tEd (tSetEds t (z3 u1 (tEd t 1) (tEd t 2))) 2))) 1) u3)) u4) u5) 0)), (wE cI (gE gt 1) (tEd (tSetText (tSetLog (tSetEds t (z3 (tEd (tSetEds t (z3 (tEd (tSetEds t (z3 u1 (tEd t 1) (tEd t 2))) 0) u2 (tEd (tSetEds t (z3 u1 (tEd t 1) (tEd t 2))) 2))) 0) (tEd (tSetEds t (z3 (tEd (tSetEds t (z3 u1 (tEd t 1) (tEd t 2))) 0) u2 (tEd (tSetEds t (z3 u1 (tEd t 1) (tEd t 2))) 2))) 1) u3)) u4) u5) 1)), (wE cI (gE gt 2) (tEd (tSetText (tSetLog (tSetEds t (z3 (tEd (tSetEds t (z3 (tEd (tSetEds t (z3 u1 (tEd t 1) (tEd t 2))) 0) u2 (tEd (tSetEds t (z3 u1 (tEd t 1) (tEd t 2))) 2))) 0) (tEd (tSetEds t (z3 (tEd (tSetEds t (z3 u1 (tEd t 1) (tEd t 2))) 0) u2 (tEd (tSetEds t (z3 u1 (tEd t 1) (tEd t 2))) 2))) 1) u3)) u4) u5) 2)), (wN cI (gt 22) (gt 23) u4), (wN cI (gt 24) (gt 25) u5), (wN cI (gt 26) (gt 27) (tWrs t))] [(wSo gt), (wE cI (gE gt 0) (tEd (tSetText (tSetLog (tSetEds t (z3 (tEd (tSetEds t (z3 (tEd (tSetEds t (z3 u1 (tEd t 1) (tEd t 2))) 0) u2 (tEd (tSetEds t (z3 u1 (tEd t 1) (tEd t 2))) 2))) 0) (tEd (tSetEds t (z3 (tEd (tSetEds t (z3 u1 (tEd t 1) (tEd t 2))) 0) u2 (tEd (tSetEds t (z3 u1 (tEd t 1) (tEd t 2))) 2))) 1) u3)) u4) u5) 0)), (wE cI (gE gt 1) (tEd (tSetText (tSetLog (tSetEds t (z3 (tEd (tSetEds t (z3 (tEd (tSetEds t (z3 u1 (tEd t 1) (tEd t 2))) 0) u2 (tEd (tSetEds t (z3 u1 (tEd t 1) (tEd t 2))) 2))) 0) (tEd (tSetEds t (z3 (tEd (tSetEds t (z3 u1 (tEd t 1) (tEd t 2))) 0) u2 (tEd (tSetEds t (z3 u1 (tEd t 1) (tEd t 2))) 2))) 1) u3)) u4) u5) 1)), (wE cI (gE gt 2) (tEd (tSetText (tSetLog (tSetEds t (z3 (tEd (tSetEds t (z3 (tEd (tSetEds t (z3 u1 (tEd t 1) (tEd t 2))) 0) u2 (tEd (tSetEds t (z3 u1 (tEd t 1) (tEd t 2))) 2))) 0) (tEd (tSetEds t (z3 (tEd (tSetEds t (z3 u1 (tEd t 1) (tEd t 2))) 0) u2 (tEd (tSetEds t (z3 u1 (tEd t 1) (tEd t 2))) 2))) 1) u3)) u4) u5) 2)), (wN cI (gt 22) (gt 23) u4), (wN cI (gt 24) (gt 25) u5), (wN cI (gt 26) (gt 27) (tWrs t))] rfl rfl rfl ?_
  refine z_callV0 C [(wN cI (gt 26) (gt 27) (tWrs t))] [(wSo gt), (wE cI (gE gt 0) (tEd (tSetText (tSetLog (tSetEds t (z3 (tEd (tSetEds t (z3 (tEd (tSetEds t (z3 u1 (tEd t 1) (tEd t 2))) 0) u2 (tEd (tSetEds t (z3 u1 (tEd t 1) (tEd t 2))) 2))) 0) (tEd (tSetEds t (z3 (tEd (tSetEds t (z3 u1 (tEd t 1) (tEd t 2))) 0) u2 (tEd (tSetEds t (z3 u1 (tEd t 1) (tEd t 2))) 2))) 1) u3)) u4) u5) 0)), (wE cI (gE gt 1) (tEd (tSetText (tSetLog (tSetEds t (z3 (tEd (tSetEds t (z3 (tEd (tSetEds t (z3 u1 (tEd t 1) (tEd t 2))) 0) u2 (tEd (tSetEds t (z3 u1 (tEd t 1) (tEd t 2))) 2))) 0) (tEd (tSetEds t (z3 (tEd (tSetEds t (z3 u1 (tEd t 1) (tEd t 2))) 0) u2 (tEd (tSetEds t (z3 u1 (tEd t 1) (tEd t 2))) 2))) 1) u3)) u4) u5) 1)), (wE cI (gE gt 2) (tEd (tSetText (tSetLog (tSetEds t (z3 (tEd (tSetEds t (z3 (tEd (tSetEds t (z3 u1 (tEd t 1) (tEd t 2))) 0) u2 (tEd (tSetEds t (z3 u1 (tEd t 1) (tEd t 2))) 2))) 0) (tEd (tSetEds t (z3 (tEd (tSetEds t (z3 u1 (tEd t 1) (tEd t 2))) 0) u2 (tEd (tSetEds t (z3 u1 (tEd t 1) (tEd t 2))) 2))) 1) u3)) u4) u5) 2)), (wN cI (gt 22) (gt 23) u4), (wN cI (gt 24) (gt 25) u5)] rfl rfl (met_X4_empty l D cI (gt 26) (gt 27) (tWrs t) _ hw) y_X4_empty mw_18_12 dX5_begin_39 rfl n_X4_empty rfl (by decide) ⟨rfl, rfl, Nat.le_of_ble_eq_true rfl, Nat.le_of_ble_eq_true rfl⟩ (Nat.le_of_ble_eq_true rfl) (z_pm [6, 0, 1, 2, 3, 4, 5] 7 rfl (by decide) rfl) ?_
  intro u6 hw
  try dsimp only at hw
  refine z_bs [(wN cI (gt 26) (gt 27) u6), (wSo gt), (wE cI (gE gt 0) (tEd (tSetText (tSetLog (tSetEds t (z3 (tEd (tSetEds t (z3 (tEd (tSetEds t (z3 u1 (tEd t 1) (tEd t 2))) 0) u2 (tEd (tSetEds t (z3 u1 (tEd t 1) (tEd t 2))) 2))) 0) (tEd (tSetEds t (z3 (tEd (tSetEds t (z3 u1 (tEd t 1) (tEd t 2))) 0) u2 (tEd (tSetEds t (z3 u1 (tEd t 1) (tEd t 2))) 2))) 1) u3)) u4) u5) 0)), (wE cI (gE gt 1) (tEd (tSetText (tSetLog (tSetEds t (z3 (tEd (tSetEds t (z3 (tEd (tSetEds t (z3 u1 (tEd t 1) (tEd t 2))) 0) u2 (tEd (tSetEds t (z3 u1 (tEd t 1) (tEd t 2))) 2))) 0) (tEd (tSetEds t (z3 (tEd (tSetEds t (z3 u1 (tEd t 1) (tEd t 2))) 0) u2 (tEd (tSetEds t (z3 u1 (tEd t 1) (tEd t 2))) 2))) 1) u3)) u4) u5) 1)), (wE cI (gE gt 2) (tEd (tSetText (tSetLog (tSetEds t (z3 (tEd (tSetEds t (z3 (tEd (tSetEds t (z3 u1 (tEd t 1) (tEd t 2))) 0) u2 (tEd (tSetEds t (z3 u1 (tEd t 1) (tEd t 2))) 2))) 0) (tEd (tSetEds t (z3 (tEd (tSetEds t (z3 u1 (tEd t 1) (tEd t 2))) 0) u2 (tEd (tSetEds t (z3 u1 (tEd t 1) (tEd t 2))) 2))) 1) u3)) u4) u5) 2)), (wN cI (gt 22) (gt 23) u4), (wN cI (gt 24) (gt 25) u5)] [] rfl rfl ?_
  refine z_perm C [(wSo gt), (wE cI (gE gt 0) (tEd (tSetText (tSetLog (tSetEds t (z3 (tEd (tSetEds t (z3 (tEd (tSetEds t (z3 u1 (tEd t 1) (tEd t 2))) 0) u2 (tEd (tSetEds t (z3 u1 (tEd t 1) (tEd t 2))) 2))) 0) (tEd (tSetEds t (z3 (tEd (tSetEds t (z3 u1 (tEd t 1) (tEd t 2))) 0) u2 (tEd (tSetEds t (z3 u1 (tEd t 1) (tEd t 2))) 2))) 1) u3)) u4) u5) 0)), (wE cI (gE gt 1) (tEd (tSetText (tSetLog (tSetEds t (z3 (tEd (tSetEds t (z3 (tEd (tSetEds t (z3 u1 (tEd t 1) (tEd t 2))) 0) u2 (tEd (tSetEds t (z3 u1 (tEd t 1) (tEd t 2))) 2))) 0) (tEd (tSetEds t (z3 (tEd (tSetEds t (z3 u1 (tEd t 1) (tEd t 2))) 0) u2 (tEd (tSetEds t (z3 u1 (tEd t 1) (tEd t 2))) 2))) 1) u3)) u4) u5) 1)), (wE cI (gE gt 2) (tEd (tSetText (tSetLog (tSetEds t (z3 (tEd (tSetEds t (z3 (tEd (tSetEds t (z3 u1 (tEd t 1) (tEd t 2))) 0) u2 (tEd (tSetEds t (z3 u1 (tEd t 1) (tEd t 2))) 2))) 0) (tEd (tSetEds t (z3 (tEd (tSetEds t (z3 u1 (tEd t 1) (tEd t 2))) 0) u2 (tEd (tSetEds t (z3 u1 (tEd t 1) (tEd t 2))) 2))) 1) u3)) u4) u5) 2)), (wN cI (gt 22) (gt 23) u4), (wN cI (gt 24) (gt 25) u5), (wN cI (gt 26) (gt 27) u6)] (z_pm [1, 2, 3, 4, 5, 6, 0] 7 rfl (by decide) rfl) ?_
  refine z_shut 0 [(wSo gt), (wE cI (gE gt 0) (tEd (tSetText (tSetLog (tSetEds t (z3 (tEd (tSetEds t (z3 (tEd (tSetEds t (z3 u1 (tEd t 1) (tEd t 2))) 0) u2 (tEd (tSetEds t (z3 u1 (tEd t 1) (tEd t 2))) 2))) 0) (tEd (tSetEds t (z3 (tEd (tSetEds t (z3 u1 (tEd t 1) (tEd t 2))) 0) u2 (tEd (tSetEds t (z3 u1 (tEd t 1) (tEd t 2))) 2))) 1) u3)) u4) u5) 0)), (wE cI (gE gt 1) (tEd (tSetText (tSetLog (tSetEds t (z3 (tEd (tSetEds t (z3 (tEd (tSetEds t (z3 u1 (tEd t 1) (tEd t 2))) 0) u2 (tEd (tSetEds t (z3 u1 (tEd t 1) (tEd t 2))) 2))) 0) (tEd (tSetEds t (z3 (tEd (tSetEds t (z3 u1 (tEd t 1) (tEd t 2))) 0) u2 (tEd (tSetEds t (z3 u1 (tEd t 1) (tEd t 2))) 2))) 1) u3)) u4) u5) 1)), (wE cI (gE gt 2) (tEd (tSetText (tSetLog (tSetEds t (z3 (tEd (tSetEds t (z3 (tEd (tSetEds t (z3 u1 (tEd t 1) (tEd t 2))) 0) u2 (tEd (tSetEds t (z3 u1 (tEd t 1) (tEd t 2))) 2))) 0) (tEd (tSetEds t (z3 (tEd (tSetEds t (z3 u1 (tEd t 1) (tEd t 2))) 0) u2 (tEd (tSetEds t (z3 u1 (tEd t 1) (tEd t 2))) 2))) 1) u3)) u4) u5) 2)), (wN cI (gt 22) (gt 23) u4), (wN cI (gt 24) (gt 25) u5), (wN cI (gt 26) (gt 27) u6)] [(wS cI gt (tSetWrs (tSetText (tSetLog (tSetEds t (z3 (tEd (tSetEds t (z3 (tEd (tSetEds t (z3 u1 (tEd t 1) (tEd t 2))) 0) u2 (tEd (tSetEds t (z3 u1 (tEd t 1) (tEd t 2))) 2))) 0) (tEd (tSetEds t (z3 (tEd (tSetEds t (z3 u1 (tEd t 1) (tEd t 2))) 0) u2 (tEd (tSetEds t (z3 u1 (tEd t 1) (tEd t 2))) 2))) 1) u3)) u4) u5) u6))] rfl rfl rfl ?_
  exact z_vret C rfl ((tSetWrs (tSetText (tSetLog (tSetEds t (z3 (tEd (tSetEds t (z3 (tEd (tSetEds t (z3 u1 (tEd t 1) (tEd t 2))) 0) u2 (tEd (tSetEds t (z3 u1 (tEd t 1) (tEd t 2))) 2))) 0) (tEd (tSetEds t (z3 (tEd (tSetEds t (z3 u1 (tEd t 1) (tEd t 2))) 0) u2 (tEd (tSetEds t (z3 u1 (tEd t 1) (tEd t 2))) 2))) 1) u3)) u4) u5) u6)) rfl hw rfl dX5_begin_42
def rmX5_copyState : Room := { frames := 3, cells := 0, slots := 0, locals := 68 }
def wp_X5_copyState (t : zT) (o : zT)  (Q : zT → Prop) : Prop := (wp_X2_copyEditor (tEd t 0) (tEd o 0) (fun u1 => (wp_X2_copyEditor (tEd (tSetEds t (z3 u1 (tEd t 1) (tEd t 2))) 1) (tEd o 1) (fun u2 => (wp_X2_copyEditor (tEd (tSetEds t (z3 (tEd (tSetEds t (z3 u1 (tEd t 1) (tEd t 2))) 0) u2 (tEd (tSetEds t (z3 u1 (tEd t 1) (tEd t 2))) 2))) 2) (tEd o 2) (fun u3 => (wp_X4_copyNumbers (tLog t) (tLog o) (fun u4 => (wp_X4_copyNumbers (tText t) (tText o) (fun u5 => (wp_X4_copyNumbers (tWrs t) (tWrs o) (fun u6 => (Q (tSetWrs (tSetText (tSetLog (tSetEds t (z3 (tEd (tSetEds t (z3 (tEd (tSetEds t (z3 u1 (tEd t 1) (tEd t 2))) 0) u2 (tEd (tSetEds t (z3 u1 (tEd t 1) (tEd t 2))) 2))) 0) (tEd (tSetEds t (z3 (tEd (tSetEds t (z3 u1 (tEd t 1) (tEd t 2))) 0) u2 (tEd (tSetEds t (z3 u1 (tEd t 1) (tEd t 2))) 2))) 1) u3)) u4) u5) u6))))))))))))))
set_option maxHeartbeats 4000000 in
set_option maxRecDepth 100000 in
theorem met_X5_copyState (l : Launch) (D : va_G) (cI : ClassId) (gt : Nat → Nat) (go : Nat → Nat) (t : zT) (o : zT)  (Q : zT → Prop) (hw : wp_X5_copyState t o Q) : ZM l D cI yX5_copyState cX5_copyState 2 none rmX5_copyState [.ref (gt 0), .ref (go 0)] [(wS cI gt t), (wS cI go o)] (fun _ : zT => none) (fun u : zT => [(wS cI gt u), (wS cI go o)]) (fun u : zT => Q u) := by
  refine z_body [some (.ref (gt 0)), some (.ref (go 0))] (by decide +kernel) rfl (Nat.le_of_ble_eq_true rfl) rfl ?_
  intro p e s m args below meth c A C hin
  unfold wp_X5_copyState at hw
  refine z_aload_n C dX5_copyState_0 rfl ?_
  refine z_get C inlX5 rfl 0 (by decide) mw_2_10 dX5_copyState_1 0 0 rfl rfl rfl ?_
  refine z_aload_n C dX5_copyState_4 rfl ?_
  refine z_get C inlX5 rfl 0 (by decide) mw_2_10 dX5_copyState_5 1 0 rfl rfl rfl ?_
  refine z_open 0 [(wSo gt), (wE cI (gE gt 0) (tEd t 0)), (wE cI (gE gt 1) (tEd t 1)), (wE cI (gE gt 2) (tEd t 2)), (wN cI (gt 22) (gt 23) (tLog t)), (wN cI (gt 24) (gt 25) (tText t)), (wN cI (gt 26) (gt 27) (tWrs t))] [(wSo gt), (wE cI (gE gt 0) (tEd t 0)), (wE cI (gE gt 1) (tEd t 1)), (wE cI (gE gt 2) (tEd t 2)), (wN cI (gt 22) (gt 23) (tLog t)), (wN cI (gt 24) (gt 25) (tText t)), (wN cI (gt 26) (gt 27) (tWrs t)), (wS cI go o)] rfl rfl rfl ?_
  refine z_open 7 [(wSo go), (wE cI (gE go 0) (tEd o 0)), (wE cI (gE go 1) (tEd o 1)), (wE cI (gE go 2) (tEd o 2)), (wN cI (go 22) (go 23) (tLog o)), (wN cI (go 24) (go 25) (tText o)), (wN cI (go 26) (go 27) (tWrs o))] [(wSo gt), (wE cI (gE gt 0) (tEd t 0)), (wE cI (gE gt 1) (tEd t 1)), (wE cI (gE gt 2) (tEd t 2)), (wN cI (gt 22) (gt 23) (tLog t)), (wN cI (gt 24) (gt 25) (tText t)), (wN cI (gt 26) (gt 27) (tWrs t)), (wSo go), (wE cI (gE go 0) (tEd o 0)), (wE cI (gE go 1) (tEd o 1)), (wE cI (gE go 2) (tEd o 2)), (wN cI (go 22) (go 23) (tLog o)), (wN cI (go 24) (go 25) (tText o)), (wN cI (go 26) (go 27) (tWrs o))] rfl rfl rfl ?_
  refine z_callV0 C [(wE cI (gE gt 0) (tEd t 0)), (wE cI (gE go 0) (tEd o 0))] [(wSo gt), (wE cI (gE gt 1) (tEd t 1)), (wE cI (gE gt 2) (tEd t 2)), (wN cI (gt 22) (gt 23) (tLog t)), (wN cI (gt 24) (gt 25) (tText t)), (wN cI (gt 26) (gt 27) (tWrs t)), (wSo go), (wE cI (gE go 1) (tEd o 1)), (wE cI (gE go 2) (tEd o 2)), (wN cI (go 22) (go 23) (tLog o)), (wN cI (go 24) (go 25) (tText o)), (wN cI (go 26) (go 27) (tWrs o))] rfl rfl (met_X2_copyEditor l D cI (gE gt 0) (gE go 0) (tEd t 0) (tEd o 0) _ hw) y_X2_copyEditor mw_5_15 dX5_copyState_8 rfl n_X2_copyEditor rfl (by decide) ⟨rfl, rfl, Nat.le_of_ble_eq_true rfl, Nat.le_of_ble_eq_true rfl⟩ (Nat.le_of_ble_eq_true rfl) (z_pm [1, 8, 0, 2, 3, 4, 5, 6, 7, 9, 10, 11, 12, 13] 14 rfl (by decide) rfl) ?_
  intro u1 hw
  try dsimp only at hw
  refine z_bs [(wE cI (gE gt 0) u1), (wE cI (gE go 0) (tEd o 0)), (wSo gt), (wE cI (gE gt 1) (tEd t 1)), (wE cI (gE gt 2) (tEd t 2)), (wN cI (gt 22) (gt 23) (tLog t)), (wN cI (gt 24) (gt 25) (tText t)), (wN cI (gt 26) (gt 27) (tWrs t)), (wSo go), (wE cI (gE go 1) (tEd o 1)), (wE cI (gE go 2) (tEd o 2)), (wN cI (go 22) (go 23) (tLog o)), (wN cI (go 24) (go 25) (tText o)), (wN cI (go 26) (go 27) (tWrs o))] [] rfl rfl ?_
  refine z_perm C [(wSo gt), (wE cI (gE gt 0) u1), (wE cI (gE gt 1) (tEd t 1)), (wE cI (gE gt 2) (tEd t 2)), (wN cI (gt 22) (gt 23) (tLog t)), (wN cI (gt 24) (gt 25) (tText t)), (wN cI (gt 26) (gt 27) (tWrs t)), (wSo go), (wE cI (gE go 0) (tEd o 0)), (wE cI (gE go 1) (tEd o 1)), (wE cI (gE go 2) (tEd o 2)), (wN cI (go 22) (go 23) (tLog o)), (wN cI (go 24) (go 25) (tText o)), (wN cI (go 26) (go 27) (tWrs o))] (z_pm [2, 0, 3, 4, 5, 6, 7, 8, 1, 9, 10, 11, 12, 13] 14 rfl (by decide) rfl) ?_
  refine z_shut 7 [(wSo go), (wE cI (gE go 0) (tEd o 0)), (wE cI (gE go 1) (tEd o 1)), (wE cI (gE go 2) (tEd o 2)), (wN cI (go 22) (go 23) (tLog o)), (wN cI (go 24) (go 25) (tText o)), (wN cI (go 26) (go 27) (tWrs o))] [(wSo gt), (wE cI (gE gt 0) u1), (wE cI (gE gt 1) (tEd t 1)), (wE cI (gE gt 2) (tEd t 2)), (wN cI (gt 22) (gt 23) (tLog t)), (wN cI (gt 24) (gt 25) (tText t)), (wN cI (gt 26) (gt 27) (tWrs t)), (wS cI go o)] rfl rfl rfl ?_
  refine z_shut 0 [(wSo gt), (wE cI (gE gt 0) u1), (wE cI (gE gt 1) (tEd t 1)), (wE cI (gE gt 2) (tEd t 2)), (wN cI (gt 22) (gt 23) (tLog t)), (wN cI (gt 24) (gt 25) (tText t)), (wN cI (gt 26) (gt 27) (tWrs t))] [(wS cI gt (tSetEds t (z3 u1 (tEd t 1) (tEd t 2)))), (wS cI go o)] rfl rfl rfl ?_
  refine z_aload_n C dX5_copyState_11 rfl ?_
  refine z_get C inlX5 rfl 1 (by decide) mw_2_11 dX5_copyState_12 0 0 rfl rfl rfl ?_
  refine z_aload_n C dX5_copyState_15 rfl ?_
  refine z_get C inlX5 rfl 1 (by decide) mw_2_11 dX5_copyState_16 1 0 rfl rfl rfl ?_
  refine z_open 0 [(wSo gt), (wE cI (gE gt 0) (tEd (tSetEds t (z3 u1 (tEd t 1) (tEd t 2))) 0)), (wE cI (gE gt 1) (tEd (tSetEds t (z3 u1 (tEd t 1) (tEd t 2))) 1)), (wE cI (gE gt 2) (tEd (tSetEds t (z3 u1 (tEd t 1) (tEd t 2))) 2)), (wN cI (gt 22) (gt 23) (tLog t)), (wN cI (gt 24) (gt 25) (tText t)), (wN cI (gt 26) (gt 27) (tWrs t))] [(wSo gt), (wE cI (gE gt 0) (tEd (tSetEds t (z3 u1 (tEd t 1) (tEd t 2))) 0)), (wE cI (gE gt 1) (tEd (tSetEds t (z3 u1 (tEd t 1) (tEd t 2))) 1)), (wE cI (gE gt 2) (tEd (tSetEds t (z3 u1 (tEd t 1) (tEd t 2))) 2)), (wN cI (gt 22) (gt 23) (tLog t)), (wN cI (gt 24) (gt 25) (tText t)), (wN cI (gt 26) (gt 27) (tWrs t)), (wS cI go o)] rfl rfl rfl ?_
  refine z_open 7 [(wSo go), (wE cI (gE go 0) (tEd o 0)), (wE cI (gE go 1) (tEd o 1)), (wE cI (gE go 2) (tEd o 2)), (wN cI (go 22) (go 23) (tLog o)), (wN cI (go 24) (go 25) (tText o)), (wN cI (go 26) (go 27) (tWrs o))] [(wSo gt), (wE cI (gE gt 0) (tEd (tSetEds t (z3 u1 (tEd t 1) (tEd t 2))) 0)), (wE cI (gE gt 1) (tEd (tSetEds t (z3 u1 (tEd t 1) (tEd t 2))) 1)), (wE cI (gE gt 2) (tEd (tSetEds t (z3 u1 (tEd t 1) (tEd t 2))) 2)), (wN cI (gt 22) (gt 23) (tLog t)), (wN cI (gt 24) (gt 25) (tText t)), (wN cI (gt 26) (gt 27) (tWrs t)), (wSo go), (wE cI (gE go 0) (tEd o 0)), (wE cI (gE go 1) (tEd o 1)), (wE cI (gE go 2) (tEd o 2)), (wN cI (go 22) (go 23) (tLog o)), (wN cI (go 24) (go 25) (tText o)), (wN cI (go 26) (go 27) (tWrs o))] rfl rfl rfl ?_
  refine z_callV0 C [(wE cI (gE gt 1) (tEd (tSetEds t (z3 u1 (tEd t 1) (tEd t 2))) 1)), (wE cI (gE go 1) (tEd o 1))] [(wSo gt), (wE cI (gE gt 0) (tEd (tSetEds t (z3 u1 (tEd t 1) (tEd t 2))) 0)), (wE cI (gE gt 2) (tEd (tSetEds t (z3 u1 (tEd t 1) (tEd t 2))) 2)), (wN cI (gt 22) (gt 23) (tLog t)), (wN cI (gt 24) (gt 25) (tText t)), (wN cI (gt 26) (gt 27) (tWrs t)), (wSo go), (wE cI (gE go 0) (tEd o 0)), (wE cI (gE go 2) (tEd o 2)), (wN cI (go 22) (go 23) (tLog o)), (wN cI (go 24) (go 25) (tText o)), (wN cI (go 26) (go 27) (tWrs o))] rfl rfl (met_X2_copyEditor l D cI (gE gt 1) (gE go 1) (tEd (tSetEds t (z3 u1 (tEd t 1) (tEd t 2))) 1) (tEd o 1) _ hw) y_X2_copyEditor mw_5_15 dX5_copyState_19 rfl n_X2_copyEditor rfl (by decide) ⟨rfl, rfl, Nat.le_of_ble_eq_true rfl, Nat.le_of_ble_eq_true rfl⟩ (Nat.le_of_ble_eq_true rfl) (z_pm [2, 9, 0, 1, 3, 4, 5, 6, 7, 8, 10, 11, 12, 13] 14 rfl (by decide) rfl) ?_
  intro u2 hw
  try dsimp only at hw
  refine z_bs [(wE cI (gE gt 1) u2), (wE cI (gE go 1) (tEd o 1)), (wSo gt), (wE cI (gE gt 0) (tEd (tSetEds t (z3 u1 (tEd t 1) (tEd t 2))) 0)), (wE cI (gE gt 2) (tEd (tSetEds t (z3 u1 (tEd t 1) (tEd t 2))) 2)), (wN cI (gt 22) (gt 23) (tLog t)), (wN cI (gt 24) (gt 25) (tText t)), (wN cI (gt 26) (gt 27) (tWrs t)), (wSo go), (wE cI (gE go 0) (tEd o 0)), (wE cI (gE go 2) (tEd o 2)), (wN cI (go 22) (go 23) (tLog o)), (wN cI (go 24) (go 25) (tText o)), (wN cI (go 26) (go 27) (tWrs o))] [] rfl rfl ?_
  refine z_perm C [(wSo gt), (wE cI (gE gt 0) (tEd (tSetEds t (z3 u1 (tEd t 1) (tEd t 2))) 0)), (wE cI (gE gt 1) u2), (wE cI (gE gt 2) (tEd (tSetEds t (z3 u1 (tEd t 1) (tEd t 2))) 2)), (wN cI (gt 22) (gt 23) (tLog t)), (wN cI (gt 24) (gt 25) (tText t)), (wN cI (gt 26) (gt 27) (tWrs t)), (wSo go), (wE cI (gE go 0) (tEd o 0)), (wE cI (gE go 1) (tEd o 1)), (wE cI (gE go 2) (tEd o 2)), (wN cI (go 22) (go 23) (tLog o)), (wN cI (go 24) (go 25) (tText o)), (wN cI (go 26) (go 27) (tWrs o))] (z_pm [2, 3, 0, 4, 5, 6, 7, 8, 9, 1, 10, 11, 12, 13] 14 rfl (by decide) rfl) ?_
  refine z_shut 7 [(wSo go), (wE cI (gE go 0) (tEd o 0)), (wE cI (gE go 1) (tEd o 1)), (wE cI (gE go 2) (tEd o 2)), (wN cI (go 22) (go 23) (tLog o)), (wN cI (go 24) (go 25) (tText o)), (wN cI (go 26) (go 27) (tWrs o))] [(wSo gt), (wE cI (gE gt 0) (tEd (tSetEds t (z3 u1 (tEd t 1) (tEd t 2))) 0)), (wE cI (gE gt 1) u2), (wE cI (gE gt 2) (tEd (tSetEds t (z3 u1 (tEd t 1) (tEd t 2))) 2)), (wN cI (gt 22) (gt 23) (tLog t)), (wN cI (gt 24) (gt 25) (tText t)), (wN cI (gt 26) (gt 27) (tWrs t)), (wS cI go o)] rfl rfl rfl ?_
  refine z_shut 0 [(wSo gt), (wE cI (gE gt 0) (tEd (tSetEds t (z3 u1 (tEd t 1) (tEd t 2))) 0)), (wE cI (gE gt 1) u2), (wE cI (gE gt 2) (tEd (tSetEds t (z3 u1 (tEd t 1) (tEd t 2))) 2)), (wN cI (gt 22) (gt 23) (tLog t)), (wN cI (gt 24) (gt 25) (tText t)), (wN cI (gt 26) (gt 27) (tWrs t))] [(wS cI gt (tSetEds t (z3 (tEd (tSetEds t (z3 u1 (tEd t 1) (tEd t 2))) 0) u2 (tEd (tSetEds t (z3 u1 (tEd t 1) (tEd t 2))) 2)))), (wS cI go o)] rfl rfl rfl ?_
  refine z_aload_n C dX5_copyState_22 rfl ?_
  refine z_get C inlX5 rfl 2 (by decide) mw_2_12 dX5_copyState_23 0 0 rfl rfl rfl ?_
  refine z_aload_n C dX5_copyState_26 rfl ?_
  refine z_get C inlX5 rfl 2 (by decide) mw_2_12 dX5_copyState_27 1 0 rfl rfl rfl ?_
  refine z_open 0 [(wSo gt), (wE cI (gE gt 0) (tEd (tSetEds t (z3 (tEd (tSetEds t (z3 u1 (tEd t 1) (tEd t 2))) 0) u2 (tEd (tSetEds t (z3 u1 (tEd t 1) (tEd t 2))) 2))) 0)), (wE cI (gE gt 1) (tEd (tSetEds t (z3 (tEd (tSetEds t (z3 u1 (tEd t 1) (tEd t 2))) 0) u2 (tEd (tSetEds t (z3 u1 (tEd t 1) (tEd t 2))) 2))) 1)), (wE cI (gE gt 2) (tEd (tSetEds t (z3 (tEd (tSetEds t (z3 u1 (tEd t 1) (tEd t 2))) 0) u2 (tEd (tSetEds t (z3 u1 (tEd t 1) (tEd t 2))) 2))) 2)), (wN cI (gt 22) (gt 23) (tLog t)), (wN cI (gt 24) (gt 25) (tText t)), (wN cI (gt 26) (gt 27) (tWrs t))] [(wSo gt), (wE cI (gE gt 0) (tEd (tSetEds t (z3 (tEd (tSetEds t (z3 u1 (tEd t 1) (tEd t 2))) 0) u2 (tEd (tSetEds t (z3 u1 (tEd t 1) (tEd t 2))) 2))) 0)), (wE cI (gE gt 1) (tEd (tSetEds t (z3 (tEd (tSetEds t (z3 u1 (tEd t 1) (tEd t 2))) 0) u2 (tEd (tSetEds t (z3 u1 (tEd t 1) (tEd t 2))) 2))) 1)), (wE cI (gE gt 2) (tEd (tSetEds t (z3 (tEd (tSetEds t (z3 u1 (tEd t 1) (tEd t 2))) 0) u2 (tEd (tSetEds t (z3 u1 (tEd t 1) (tEd t 2))) 2))) 2)), (wN cI (gt 22) (gt 23) (tLog t)), (wN cI (gt 24) (gt 25) (tText t)), (wN cI (gt 26) (gt 27) (tWrs t)), (wS cI go o)] rfl rfl rfl ?_
  refine z_open 7 [(wSo go), (wE cI (gE go 0) (tEd o 0)), (wE cI (gE go 1) (tEd o 1)), (wE cI (gE go 2) (tEd o 2)), (wN cI (go 22) (go 23) (tLog o)), (wN cI (go 24) (go 25) (tText o)), (wN cI (go 26) (go 27) (tWrs o))] [(wSo gt), (wE cI (gE gt 0) (tEd (tSetEds t (z3 (tEd (tSetEds t (z3 u1 (tEd t 1) (tEd t 2))) 0) u2 (tEd (tSetEds t (z3 u1 (tEd t 1) (tEd t 2))) 2))) 0)), (wE cI (gE gt 1) (tEd (tSetEds t (z3 (tEd (tSetEds t (z3 u1 (tEd t 1) (tEd t 2))) 0) u2 (tEd (tSetEds t (z3 u1 (tEd t 1) (tEd t 2))) 2))) 1)), (wE cI (gE gt 2) (tEd (tSetEds t (z3 (tEd (tSetEds t (z3 u1 (tEd t 1) (tEd t 2))) 0) u2 (tEd (tSetEds t (z3 u1 (tEd t 1) (tEd t 2))) 2))) 2)), (wN cI (gt 22) (gt 23) (tLog t)), (wN cI (gt 24) (gt 25) (tText t)), (wN cI (gt 26) (gt 27) (tWrs t)), (wSo go), (wE cI (gE go 0) (tEd o 0)), (wE cI (gE go 1) (tEd o 1)), (wE cI (gE go 2) (tEd o 2)), (wN cI (go 22) (go 23) (tLog o)), (wN cI (go 24) (go 25) (tText o)), (wN cI (go 26) (go 27) (tWrs o))] rfl rfl rfl ?_
  refine z_callV0 C [(wE cI (gE gt 2) (tEd (tSetEds t (z3 (tEd (tSetEds t (z3 u1 (tEd t 1) (tEd t 2))) 0) u2 (tEd (tSetEds t (z3 u1 (tEd t 1) (tEd t 2))) 2))) 2)), (wE cI (gE go 2) (tEd o 2))] [(wSo gt), (wE cI (gE gt 0) (tEd (tSetEds t (z3 (tEd (tSetEds t (z3 u1 (tEd t 1) (tEd t 2))) 0) u2 (tEd (tSetEds t (z3 u1 (tEd t 1) (tEd t 2))) 2))) 0)), (wE cI (gE gt 1) (tEd (tSetEds t (z3 (tEd (tSetEds t (z3 u1 (tEd t 1) (tEd t 2))) 0) u2 (tEd (tSetEds t (z3 u1 (tEd t 1) (tEd t 2))) 2))) 1)), (wN cI (gt 22) (gt 23) (tLog t)), (wN cI (gt 24) (gt 25) (tText t)), (wN cI (gt 26) (gt 27) (tWrs t)), (wSo go), (wE cI (gE go 0) (tEd o 0)), (wE cI (gE go 1) (tEd o 1)), (wN cI (go 22) (go 23) (tLog o)), (wN cI (go 24) (go 25) (tText o)), (wN cI (go 26) (go 27) (tWrs o))] rfl rfl (met_X2_copyEditor l D cI (gE gt 2) (gE go 2) (tEd (tSetEds t (z3 (tEd (tSetEds t (z3 u1 (tEd t 1) (tEd t 2))) 0) u2 (tEd (tSetEds t (z3 u1 (tEd t 1) (tEd t 2))) 2))) 2) (tEd o 2) _ hw) y_X2_copyEditor mw_5_15 dX5_copyState_30 rfl n_X2_copyEditor rfl (by decide) ⟨rfl, rfl, Nat.le_of_ble_eq_true rfl, Nat.le_of_ble_eq_true rfl⟩ (Nat.le_of_ble_eq_true rfl) (z_pm [3, 10, 0, 1, 2, 4, 5, 6, 7, 8, 9, 11, 12, 13] 14 rfl (by decide) rfl) ?_
  intro u3 hw
  try dsimp only at hw
  refine z_bs [(wE cI (gE gt 2) u3), (wE cI (gE go 2) (tEd o 2)), (wSo gt), (wE cI (gE gt 0) (tEd (tSetEds t (z3 (tEd (tSetEds t (z3 u1 (tEd t 1) (tEd t 2))) 0) u2 (tEd (tSetEds t (z3 u1 (tEd t 1) (tEd t 2))) 2))) 0)), (wE cI (gE gt 1) (tEd (tSetEds t (z3 (tEd (tSetEds t (z3 u1 (tEd t 1) (tEd t 2))) 0) u2 (tEd (tSetEds t (z3 u1 (tEd t 1) (tEd t 2))) 2))) 1)), (wN cI (gt 22) (gt 23) (tLog t)), (wN cI (gt 24) (gt 25) (tText t)), (wN cI (gt 26) (gt 27) (tWrs t)), (wSo go), (wE cI (gE go 0) (tEd o 0)), (wE cI (gE go 1) (tEd o 1)), (wN cI (go 22) (go 23) (tLog o)), (wN cI (go 24) (go 25) (tText o)), (wN cI (go 26) (go 27) (tWrs o))] [] rfl rfl ?_
  refine z_perm C [(wSo gt), (wE cI (gE gt 0) (tEd (tSetEds t (z3 (tEd (tSetEds t (z3 u1 (tEd t 1) (tEd t 2))) 0) u2 (tEd (tSetEds t (z3 u1 (tEd t 1) (tEd t 2))) 2))) 0)), (wE cI (gE gt 1) (tEd (tSetEds t (z3 (tEd (tSetEds t (z3 u1 (tEd t 1) (tEd t 2))) 0) u2 (tEd (tSetEds t (z3 u1 (tEd t 1) (tEd t 2))) 2))) 1)), (wE cI (gE gt 2) u3), (wN cI (gt 22) (gt 23) (tLog t)), (wN cI (gt 24) (gt 25) (tText t)), (wN cI (gt 26) (gt 27) (tWrs t)), (wSo go), (wE cI (gE go 0) (tEd o 0)), (wE cI (gE go 1) (tEd o 1)), (wE cI (gE go 2) (tEd o 2)), (wN cI (go 22) (go 23) (tLog o)), (wN cI (go 24) (go 25) (tText o)), (wN cI (go 26) (go 27) (tWrs o))] (z_pm [2, 3, 4, 0, 5, 6, 7, 8, 9, 10, 1, 11, 12, 13] 14 rfl (by decide) rfl) ?_
  refine z_shut 7 [(wSo go), (wE cI (gE go 0) (tEd o 0)), (wE cI (gE go 1) (tEd o 1)), (wE cI (gE go 2) (tEd o 2)), (wN cI (go 22) (go 23) (tLog o)), (wN cI (go 24) (go 25) (tText o)), (wN cI (go 26) (go 27) (tWrs o))] [(wSo gt), (wE cI (gE gt 0) (tEd (tSetEds t (z3 (tEd (tSetEds t (z3 u1 (tEd t 1) (tEd t 2))) 0) u2 (tEd (tSetEds t (z3 u1 (tEd t 1) (tEd t 2))) 2))) 0)), (wE cI (gE gt 1) (tEd (tSetEds t (z3 (tEd (tSetEds t (z3 u1 (tEd t 1) (tEd t 2))) 0) u2 (tEd (tSetEds t (z3 u1 (tEd t 1) (tEd t 2))) 2))) 1)), (wE cI (gE gt 2) u3), (wN cI (gt 22) (gt 23) (tLog t)), (wN cI (gt 24) (gt 25) (tText t)), (wN cI (gt 26) (gt 27) (tWrs t)), (wS cI go o)] rfl rfl rfl ?_
  refine z_shut 0 [(wSo gt), (wE cI (gE gt 0) (tEd (tSetEds t (z3 (tEd (tSetEds t (z3 u1 (tEd t 1) (tEd t 2))) 0) u2 (tEd (tSetEds t (z3 u1 (tEd t 1) (tEd t 2))) 2))) 0)), (wE cI (gE gt 1) (tEd (tSetEds t (z3 (tEd (tSetEds t (z3 u1 (tEd t 1) (tEd t 2))) 0) u2 (tEd (tSetEds t (z3 u1 (tEd t 1) (tEd t 2))) 2))) 1)), (wE cI (gE gt 2) u3), (wN cI (gt 22) (gt 23) (tLog t)), (wN cI (gt 24) (gt 25) (tText t)), (wN cI (gt 26) (gt 27) (tWrs t))] [(wS cI gt (tSetEds t (z3 (tEd (tSetEds t (z3 (tEd (tSetEds t (z3 u1 (tEd t 1) (tEd t 2))) 0) u2 (tEd (tSetEds t (z3 u1 (tEd t 1) (tEd t 2))) 2))) 0) (tEd (tSetEds t (z3 (tEd (tSetEds t (z3 u1 (tEd t 1) (tEd t 2))) 0) u2 (tEd (tSetEds t (z3 u1 (tEd t 1) (tEd t 2))) 2))) 1) u3))), (wS cI go o)] rfl rfl rfl ?_
  refine z_aload_n C dX5_copyState_33 rfl ?_
  refine z_get C inlX5 rfl 3 (by decide) mw_2_16 dX5_copyState_34 0 0 rfl rfl rfl ?_
  refine z_aload_n C dX5_copyState_37 rfl ?_
  refine z_get C inlX5 rfl 3 (by decide) mw_2_16 dX5_copyState_38 1 0 rfl rfl rfl ?_
  refine z_open 0 [(wSo gt), (wE cI (gE gt 0) (tEd (tSetEds t (z3 (tEd (tSetEds t (z3 (tEd (tSetEds t (z3 u1 (tEd t 1) (tEd t 2))) 0) u2 (tEd (tSetEds t (z3 u1 (tEd t 1) (tEd t 2))) 2))) 0) (tEd (tSetEds t (z3 (tEd (tSetEds t (z3 u1 (tEd t 1) (tEd t 2))) 0) u2 (tEd (tSetEds t (z3 u1 (tEd t 1) (tEd t 2))) 2))) 1) u3)) 0)), (wE cI (gE gt 1) (tEd (tSetEds t (z3 (tEd (tSetEds t (z3 (tEd (tSetEds t (z3 u1 (tEd t 1) (tEd t 2))) 0) u2 (tEd (tSetEds t (z3 u1 (tEd t 1) (tEd t 2))) 2))) 0) (tEd (tSetEds t (z3 (tEd (tSetEds t (z3 u1 (tEd t 1) (tEd t 2))) 0) u2 (tEd (tSetEds t (z3 u1 (tEd t 1) (tEd t 2))) 2))) 1) u3)) 1)), (wE cI (gE gt 2) (tEd (tSetEds t (z3 (tEd (tSetEds t (z3 (tEd (tSetEds t (z3 u1 (tEd t 1) (tEd t 2))) 0) u2 (tEd (tSetEds t (z3 u1 (tEd t 1) (tEd t 2))) 2))) 0) (tEd (tSetEds t (z3 (tEd (tSetEds t (z3 u1 (tEd t 1) (tEd t 2))) 0) u2 (tEd (tSetEds t (z3 u1 (tEd t 1) (tEd t 2))) 2))) 1) u3)) 2)), (wN cI (gt 22) (gt 23) (tLog t)), (wN cI (gt 24) (gt 25) (tText t)), (wN cI (gt 26) (gt 27) (tWrs t))] [(wSo gt), (wE cI (gE gt 0) (tEd (tSetEds t (z3 (tEd (tSetEds t (z3 (tEd (tSetEds t (z3 u1 (tEd t 1) (tEd t 2))) 0) u2 (tEd (tSetEds t (z3 u1 (tEd t 1) (tEd t 2))) 2))) 0) (tEd (tSetEds t (z3 (tEd (tSetEds t (z3 u1 (tEd t 1) (tEd t 2))) 0) u2 (tEd (tSetEds t (z3 u1 (tEd t 1) (tEd t 2))) 2))) 1) u3)) 0)), (wE cI (gE gt 1) (tEd (tSetEds t (z3 (tEd (tSetEds t (z3 (tEd (tSetEds t (z3 u1 (tEd t 1) (tEd t 2))) 0) u2 (tEd (tSetEds t (z3 u1 (tEd t 1) (tEd t 2))) 2))) 0) (tEd (tSetEds t (z3 (tEd (tSetEds t (z3 u1 (tEd t 1) (tEd t 2))) 0) u2 (tEd (tSetEds t (z3 u1 (tEd t 1) (tEd t 2))) 2))) 1) u3)) 1)), (wE cI (gE gt 2) (tEd (tSetEds t (z3 (tEd (tSetEds t (z3 (tEd (tSetEds t (z3 u1 (tEd t 1) (tEd t 2))) 0) u2 (tEd (tSetEds t (z3 u1 (tEd t 1) (tEd t 2))) 2))) 0) (tEd (tSetEds t (z3 (tEd (tSetEds t (z3 u1 (tEd t 1) (tEd t 2))) 0) u2 (tEd (tSetEds t (z3 u1 (tEd t 1) (tEd t 2))) 2))) 1) u3)) 2)), (wN cI (gt 22) (gt 23) (tLog t)), (wN cI (gt 24) (gt 25) (tText t)), (wN cI (gt 26) (gt 27) (tWrs t)), (wS cI go o)] rfl rfl rfl ?_
  refine z_open 7 [(wSo go), (wE cI (gE go 0) (tEd o 0)), (wE cI (gE go 1) (tEd o 1)), (wE cI (gE go 2) (tEd o 2)), (wN cI (go 22) (go 23) (tLog o)), (wN cI (go 24) (go 25) (tText o)), (wN cI (go 26) (go 27) (tWrs o))] [(wSo gt), (wE cI (gE gt 0) (tEd (tSetEds t (z3 (tEd (tSetEds t (z3 (tEd (tSetEds t (z3 u1 (tEd t 1) (tEd t 2))) 0) u2 (tEd (tSetEds t (z3 u1 (tEd t 1) (tEd t 2))) 2))) 0) (tEd (tSetEds t (z3 (tEd (tSetEds t (z3 u1 (tEd t 1) (tEd t 2))) 0) u2 (tEd (tSetEds t (z3 u1 (tEd t 1) (tEd t 2))) 2))) 1) u3)) 0)), (wE cI (gE gt 1) (tEd (tSetEds t (z3 (tEd (tSetEds t (z3 (tEd (tSetEds t (z3 u1 (tEd t 1) (tEd t 2))) 0) u2 (tEd (tSetEds t (z3 u1 (tEd t 1) (tEd t 2))) 2))) 0) (tEd (tSetEds t (z3 (tEd (tSetEds t (z3 u1 (tEd t 1) (tEd t 2))) 0) u2 (tEd (tSetEds t (z3 u1 (tEd t 1) (tEd t 2))) 2))) 1) u3)) 1)), (wE cI (gE gt 2) (tEd (tSetEds t (z3 (tEd (tSetEds t (z3 (tEd (tSetEds t (z3 u1 (tEd t 1) (tEd t 2))) 0) u2 (tEd (tSetEds t (z3 u1 (tEd t 1) (tEd t 2))) 2))) 0) (tEd (tSetEds t (z3 (tEd (tSetEds t (z3 u1 (tEd t 1) (tEd t 2))) 0) u2 (tEd (tSetEds t (z3 u1 (tEd t 1) (tEd t 2))) 2))) 1) u3)) 2)), (wN cI (gt 22) (gt 23) (tLog t)), (wN cI (gt 24) (gt 25) (tText t)), (wN cI (gt 26) (gt 27) (tWrs t)), (wSo go), (wE cI (gE go 0) (tEd o 0)), (wE cI (gE go 1) (tEd o 1)), (wE cI (gE go 2) (tEd o 2)), (wN cI (go 22) (go 23) (tLog o)), (wN cI (go 24) (go 25) (tText o)), (wN cI (go 26) (go 27) (tWrs o))] rfl rfl rfl ?_
  refine z_callV0 C [(wN cI (gt 22) (gt 23) (tLog t)), (wN cI (go 22) (go 23) (tLog o))] [(wSo gt), (wE cI (gE gt 0) (tEd (tSetEds t (z3 (tEd (tSetEds t (z3 (tEd (tSetEds t (z3 u1 (tEd t 1) (tEd t 2))) 0) u2 (tEd (tSetEds t (z3 u1 (tEd t 1) (tEd t 2))) 2))) 0) (tEd (tSetEds t (z3 (tEd (tSetEds t (z3 u1 (tEd t 1) (tEd t 2))) 0) u2 (tEd (tSetEds t (z3 u1 (tEd t 1) (tEd t 2))) 2))) 1) u3)) 0)), (wE cI (gE gt 1) (tEd (tSetEds t (z3 (tEd (tSetEds t (z3 (tEd (tSetEds t (z3 u1 (tEd t 1) (tEd t 2))) 0) u2 (tEd (tSetEds t (z3 u1 (tEd t 1) (tEd t 2))) 2))) 0) (tEd (tSetEds t (z3 (tEd (tSetEds t (z3 u1 (tEd t 1) (tEd t 2))) 0) u2 (tEd (tSetEds t (z3 u1 (tEd t 1) (tEd t 2))) 2))) 1) u3)) 1)), (wE cI (gE gt 2) (tEd (tSetEds t (z3 (tEd (tSetEds t (z3 (tEd (tSetEds t (z3 u1 (tEd t 1) (tEd t 2))) 0) u2 (tEd (tSetEds t (z3 u1 (tEd t 1) (tEd t 2))) 2))) 0) (tEd (tSetEds t (z3 (tEd (tSetEds t (z3 u1 (tEd t 1) (tEd t 2))) 0) u2 (tEd (tSetEds t (z3 u1 (tEd t 1) (tEd t 2))) 2))) 1) u3)) 2)), (wN cI (gt 24) (gt 25) (tText t)), (wN cI (gt 26) (gt 27) (tWrs t)), (wSo go), (wE cI (gE go 0) (tEd o 0)), (wE cI (gE go 1) (tEd o 1)), (wE cI (gE go 2) (tEd o 2)), (wN cI (go 24) (go 25) (tText o)), (wN cI (go 26) (go 27) (tWrs o))] rfl rfl (met_X4_copyNumbers l D cI (gt 22) (gt 23) (go 22) (go 23) (tLog t) (tLog o) _ hw) y_X4_copyNumbers mw_6_6 dX5_copyState_41 rfl n_X4_copyNumbers rfl (by decide) ⟨rfl, rfl, Nat.le_of_ble_eq_true rfl, Nat.le_of_ble_eq_true rfl⟩ (Nat.le_of_ble_eq_true rfl) (z_pm [4, 11, 0, 1, 2, 3, 5, 6, 7, 8, 9, 10, 12, 13] 14 rfl (by decide) rfl) ?_
  intro u4 hw
  try dsimp only at hw
  refine z_bs [(wN cI (gt 22) (gt 23) u4), (wN cI (go 22) (go 23) (tLog o)), (wSo gt), (wE cI (gE gt 0) (tEd (tSetEds t (z3 (tEd (tSetEds t (z3 (tEd (tSetEds t (z3 u1 (tEd t 1) (tEd t 2))) 0) u2 (tEd (tSetEds t (z3 u1 (tEd t 1) (tEd t 2))) 2))) 0) (tEd (tSetEds t (z3 (tEd (tSetEds t (z3 u1 (tEd t 1) (tEd t 2))) 0) u2 (tEd (tSetEds t (z3 u1 (tEd t 1) (tEd t 2))) 2))) 1) u3)) 0)), (wE cI (gE gt 1) (tEd (tSetEds t (z3 (tEd (tSetEds t (z3 (tEd (tSetEds t (z3 u1 (tEd t 1) (tEd t 2))) 0) u2 (tEd (tSetEds t (z3 u1 (tEd t 1) (tEd t 2))) 2))) 0) (tEd (tSetEds t (z3 (tEd (tSetEds t (z3 u1 (tEd t 1) (tEd t 2))) 0) u2 (tEd (tSetEds t (z3 u1 (tEd t 1) (tEd t 2))) 2))) 1) u3)) 1)), (wE cI (gE gt 2) (tEd (tSetEds t (z3 (tEd (tSetEds t (z3 (tEd (tSetEds t (z3 u1 (tEd t 1) (tEd t 2))) 0) u2 (tEd (tSetEds t (z3 u1 (tEd t 1) (tEd t 2))) 2))) 0) (tEd (tSetEds t (z3 (tEd (tSetEds t (z3 u1 (tEd t 1) (tEd t 2))) 0) u2 (tEd (tSetEds t (z3 u1 (tEd t 1) (tEd t 2))) 2))) 1) u3)) 2)), (wN cI (gt 24) (gt 25) (tText t)), (wN cI (gt 26) (gt 27) (tWrs t)), (wSo go), (wE cI (gE go 0) (tEd o 0)), (wE cI (gE go 1) (tEd o 1)), (wE cI (gE go 2) (tEd o 2)), (wN cI (go 24) (go 25) (tText o)), (wN cI (go 26) (go 27) (tWrs o))] [] rfl rfl ?_
  refine z_perm C [(wSo gt), (wE cI (gE gt 0) (tEd (tSetEds t (z3 (tEd (tSetEds t (z3 (tEd (tSetEds t (z3 u1 (tEd t 1) (tEd t 2))) 0) u2 (tEd (tSetEds t (z3 u1 (tEd t 1) (tEd t 2))) 2))) 0) (tEd (tSetEds t (z3 (tEd (tSetEds t (z3 u1 (tEd t 1) (tEd t 2))) 0) u2 (tEd (tSetEds t (z3 u1 (tEd t 1) (tEd t 2))) 2))) 1) u3)) 0)), (wE cI (gE gt 1) (tEd (tSetEds t (z3 (tEd (tSetEds t (z3 (tEd (tSetEds t (z3 u1 (tEd t 1) (tEd t 2))) 0) u2 (tEd (tSetEds t (z3 u1 (tEd t 1) (tEd t 2))) 2))) 0) (tEd (tSetEds t (z3 (tEd (tSetEds t (z3 u1 (tEd t 1) (tEd t 2))) 0) u2 (tEd (tSetEds t (z3 u1 (tEd t 1) (tEd t 2))) 2))) 1) u3)) 1)), (wE cI (gE gt 2) (tEd (tSetEds t (z3 (tEd (tSetEds t (z3 (tEd (tSetEds t (z3 u1 (tEd t 1) (tEd t 2))) 0) u2 (tEd (tSetEds t (z3 u1 (tEd t 1) (tEd t 2))) 2))) 0) (tEd (tSetEds t (z3 (tEd (tSetEds t (z3 u1 (tEd t 1) (tEd t 2))) 0) u2 (tEd (tSetEds t (z3 u1 (tEd t 1) (tEd t 2))) 2))) 1) u3)) 2)), (wN cI (gt 22) (gt 23) u4), (wN cI (gt 24) (gt 25) (tText t)), (wN cI (gt 26) (gt 27) (tWrs t)), (wSo go), (wE cI (gE go 0) (tEd o 0)), (wE cI (gE go 1) (tEd o 1)), (wE cI (gE go 2) (tEd o 2)), (wN cI (go 22) (go 23) (tLog o)), (wN cI (go 24) (go 25) (tText o)), (wN cI (go 26) (go 27) (tWrs o))] (z_pm [2, 3, 4, 5, 0, 6, 7, 8, 9, 10, 11, 1, 12, 13] 14 rfl (by decide) rfl) ?_
  refine z_shut 7 [(wSo go), (wE cI (gE go 0) (tEd o 0)), (wE cI (gE go 1) (tEd o 1)), (wE cI (gE go 2) (tEd o 2)), (wN cI (go 22) (go 23) (tLog o)), (wN cI (go 24) (go 25) (tText o)), (wN cI (go 26) (go 27) (tWrs o))] [(wSo gt), (wE cI (gE gt 0) (tEd (tSetEds t (z3 (tEd (tSetEds t (z3 (tEd (tSetEds t (z3 u1 (tEd t 1) (tEd t 2))) 0) u2 (tEd (tSetEds t (z3 u1 (tEd t 1) (tEd t 2))) 2))) 0) (tEd (tSetEds t (z3 (tEd (tSetEds t (z3 u1 (tEd t 1) (tEd t 2))) 0) u2 (tEd (tSetEds t (z3 u1 (tEd t 1) (tEd t 2))) 2))) 1) u3)) 0)), (wE cI (gE gt 1) (tEd (tSetEds t (z3 (tEd (tSetEds t (z3 (tEd (tSetEds t (z3 u1 (tEd t 1) (tEd t 2))) 0) u2 (tEd (tSetEds t (z3 u1 (tEd t 1) (tEd t 2))) 2))) 0) (tEd (tSetEds t (z3 (tEd (tSetEds t (z3 u1 (tEd t 1) (tEd t 2))) 0) u2 (tEd (tSetEds t (z3 u1 (tEd t 1) (tEd t 2))) 2))) 1) u3)) 1)), (wE cI (gE gt 2) (tEd (tSetEds t (z3 (tEd (tSetEds t (z3 (tEd (tSetEds t (z3 u1 (tEd t 1) (tEd t 2))) 0) u2 (tEd (tSetEds t (z3 u1 (tEd t 1) (tEd t 2))) 2))) 0) (tEd (tSetEds t (z3 (tEd (tSetEds t (z3 u1 (tEd t 1) (tEd t 2))) 0) u2 (tEd (tSetEds t (z3 u1 (tEd t 1) (tEd t 2))) 2))) 1) u3)) 2)), (wN cI (gt 22) (gt 23) u4), (wN cI (gt 24) (gt 25) (tText t)), (wN cI (gt 26) (gt 27) (tWrs t)), (wS cI go o)] rfl rfl rfl ?_
  refine z_shut 0 [(wSo gt), (wE cI (gE gt 0) (tEd (tSetEds t (z3 (tEd (tSetEds t (z3 (tEd (tSetEds t (z3 u1 (tEd t 1) (tEd t 2))) 0) u2 (tEd (tSetEds t (z3 u1 (tEd t 1) (tEd t 2))) 2))) 0) (tEd (tSetEds t (z3 (tEd (tSetEds t (z3 u1 (tEd t 1) (tEd t 2))) 0) u2 (tEd (tSetEds t (z3 u1 (tEd t 1) (tEd t 2))) 2))) 1) u3)) 0)), (wE cI (gE gt 1) (tEd (tSetEds t (z3 (tEd (tSetEds t (z3 (tEd (tSetEds t (z3 u1 (tEd t 1) (tEd t 2))) 0) u2 (tEd (tSetEds t (z3 u1 (tEd t 1) (tEd t 2))) 2))) 0) (tEd (tSetEds t (z3 (tEd (tSetEds t (z3 u1 (tEd t 1) (tEd t 2))) 0) u2 (tEd (tSetEds t (z3 u1 (tEd t 1) (tEd t 2))) 2))) 1) u3)) 1)), (wE cI (gE gt 2) (tEd (tSetEds t (z3 (tEd (tSetEds t (z3 (tEd (tSetEds t (z3 u1 (tEd t 1) (tEd t 2))) 0) u2 (tEd (tSetEds t (z3 u1 (tEd t 1) (tEd t 2))) 2))) 0) (tEd (tSetEds t (z3 (tEd (tSetEds t (z3 u1 (tEd t 1) (tEd t 2))) 0) u2 (tEd (tSetEds t (z3 u1 (tEd t 1) (tEd t 2))) 2))) 1) u3)) 2)), (wN cI (gt 22) (gt 23) u4), (wN cI (gt 24) (gt 25) (tText t)), (wN cI (gt 26) (gt 27) (tWrs t))] [(wS cI gt (tSetLog (tSetEds t (z3 (tEd (tSetEds t (z3 (tEd (tSetEds t (z3 u1 (tEd t 1) (tEd t 2))) 0) u2 (tEd (tSetEds t (z3 u1 (tEd t 1) (tEd t 2))) 2))) 0) (tEd (tSetEds t (z3 (tEd (tSetEds t (z3 u1 (tEd t 1) (tEd t 2))) 0) u2 (tEd (tSetEds t (z3 u1 (tEd t 1) (tEd t 2))) 2))) 1) u3)) u4)), (wS cI go o)] rfl rfl rfl ?_
  refine z_aload_n C dX5_copyState_44 rfl ?_
  refine z_get C inlX5 rfl 4 (by decide) mw_2_17 dX5_copyState_45 0 0 rfl rfl rfl ?_
  refine z_aload_n C dX5_copyState_48 rfl ?_
  refine z_get C inlX5 rfl 4 (by decide) mw_2_17 dX5_copyState_49 1 0 rfl rfl rfl ?_
  refine z_open 0 [(wSo gt), (wE cI (gE gt 0) (tEd (tSetLog (tSetEds t (z3 (tEd (tSetEds t (z3 (tEd (tSetEds t (z3 u1 (tEd t 1) (tEd t 2))) 0) u2 (tEd (tSetEds t (z3 u1 (tEd t 1) (tEd t 2))) 2))) 0) (tEd (tSetEds t (z3 (tEd (tSetEds t (z3 u1 (tEd t 1) (tEd t 2))) 0) u2 (tEd (tSetEds t (z3 u1 (tEd t 1) (tEd t 2))) 2))) 1) u3)) u4) 0)), (wE cI (gE gt 1) (tEd (tSetLog (tSetEds t (z3 (tEd (tSetEds t (z3 (tEd (tSetEds t (z3 u1 (tEd t 1) (tEd t 2))) 0) u2 (tEd (tSetEds t (z3 u1 (tEd t 1) (tEd t 2))) 2))) 0) (tEd (tSetEds t (z3 (tEd (tSetEds t (z3 u1 (tEd t 1) (tEd t 2))) 0) u2 (tEd (tSetEds t (z3 u1 (tEd t 1) (tEd t 2))) 2))) 1) u3)) u4) 1)), (wE cI (gE gt 2) (tEd (tSetLog (tSetEds t (z3 (tEd (tSetEds t (z3 (tEd (tSetEds t (z3 u1 (tEd t 1) (tEd t 2))) 0) u2 (tEd (tSetEds t (z3 u1 (tEd t 1) (tEd t 2))) 2))) 0) (tEd (tSetEds t (z3 (tEd (tSetEds t (z3 u1 (tEd t 1) (tEd t 2))) 0) u2 (tEd (tSetEds t (z3 u1 (tEd t 1) (tEd t 2))) 2))) 1) u3)) u4) 2)), (wN cI (gt 22) (gt 23) u4), (wN cI (gt 24) (gt 25) (tText t)), (wN cI (gt 26) (gt 27) (tWrs t))] [(wSo gt), (wE cI (gE gt 0) (tEd (tSetLog (tSetEds t (z3 (tEd (tSetEds t (z3 (tEd (tSetEds t (z3 u1 (tEd t 1) (tEd t 2))) 0) u2 (tEd (tSetEds t (z3 u1 (tEd t 1) (tEd t 2))) 2))) 0) (tEd (tSetEds t (z3 (tEd (tSetEds t (z3 u1 (tEd t 1) (tEd t 2))) 0) u2 (tEd (tSetEds t (z3 u1 (tEd t 1) (tEd t 2))) 2))) 1) u3)) u4) 0)), (wE cI (gE gt 1) (tEd (tSetLog (tSetEds t (z3 (tEd (tSetEds t (z3 (tEd (tSetEds t (z3 u1 (tEd t 1) (tEd t 2))) 0) u2 (tEd (tSetEds t (z3 u1 (tEd t 1) (tEd t 2))) 2))) 0) (tEd (tSetEds t (z3 (tEd (tSetEds t (z3 u1 (tEd t 1) (tEd t 2))) 0) u2 (tEd (tSetEds t (z3 u1 (tEd t 1) (tEd t 2))) 2))) 1) u3)) u4) 1)), (wE cI (gE gt 2) (tEd (tSetLog (tSetEds t (z3 (tEd (tSetEds t (z3 (tEd (tSetEds t (z3 u1 (tEd t 1) (tEd t 2))) 0) u2 (tEd (tSetEds t (z3 u1 (tEd t 1) (tEd t 2))) 2))) 0) (tEd (tSetEds t (z3 (tEd (tSetEds t (z3 u1 (tEd t 1) (tEd t 2))) 0) u2 (tEd (tSetEds t (z3 u1 (tEd t 1) (tEd t 2))) 2))) 1) u3)) u4) 2)), (wN cI (gt 22) (gt 23) u4), (wN cI (gt 24) (gt 25) (tText t)), (wN cI (gt 26) (gt 27) (tWrs t)), (wS cI go o)] rfl rfl rfl ?_
  refine z_open 7 [(wSo go), (wE cI (gE go 0) (tEd o 0)), (wE cI (gE go 1) (tEd o 1)), (wE cI (gE go 2) (tEd o 2)), (wN cI (go 22) (go 23) (tLog o)), (wN cI (go 24) (go 25) (tText o)), (wN cI (go 26) (go 27) (tWrs o))] [(wSo gt), (wE cI (gE gt 0) (tEd (tSetLog (tSetEds t (z3 (tEd (tSetEds t (z3 (tEd (tSetEds t (z3 u1 (tEd t 1) (tEd t 2))) 0) u2 (tEd (tSetEds t (z3 u1 (tEd t 1) (tEd t 2))) 2))) 0) (tEd (tSetEds t (z3 (tEd (tSetEds t (z3 u1 (tEd t 1) (tEd t 2))) 0) u2 (tEd (tSetEds t (z3 u1 (tEd t 1) (tEd t 2))) 2))) 1) u3)) u4) 0)), (wE cI (gE gt 1) (tEd (tSetLog (tSetEds t (z3 (tEd (tSetEds t (z3 (tEd (tSetEds t (z3 u1 (tEd t 1) (tEd t 2))) 0) u2 (tEd (tSetEds t (z3 u1 (tEd t 1) (tEd t 2))) 2))) 0) (tEd (tSetEds t (z3 (tEd (tSetEds t (z3 u1 (tEd t 1) (tEd t 2))) 0) u2 (tEd (tSetEds t (z3 u1 (tEd t 1) (tEd t 2))) 2))) 1) u3)) u4) 1)), (wE cI (gE gt 2) (tEd (tSetLog (tSetEds t (z3 (tEd (tSetEds t (z3 (tEd (tSetEds t (z3 u1 (tEd t 1) (tEd t 2))) 0) u2 (tEd (tSetEds t (z3 u1 (tEd t 1) (tEd t 2))) 2))) 0) (tEd (tSetEds t (z3 (tEd (tSetEds t (z3 u1 (tEd t 1) (tEd t 2))) 0) u2 (tEd (tSetEds t (z3 u1 (tEd t 1) (tEd t 2))) 2))) 1) u3)) u4) 2)), (wN cI (gt 22) (gt 23) u4), (wN cI (gt 24) (gt 25) (tText t)), (wN cI (gt 26) (gt 27) (tWrs t)), (wSo go), (wE cI (gE go 0) (tEd o 0)), (wE cI (gE go 1) (tEd o 1)), (wE cI (gE go 2) (tEd o 2)), (wN cI (go 22) (go 23) (tLog o)), (wN cI (go 24) (go 25) (tText o)), (wN cI (go 26) (go 27) (tWrs o))] rfl rfl rfl ?_
  refine z_callV0 C [(wN cI (gt 24) (gt 25) (tText t)), (wN cI (go 24) (go 25) (tText o))] [(wSo gt), (wE cI (gE gt 0) (tEd (tSetLog (tSetEds t (z3 (tEd (tSetEds t (z3 (tEd (tSetEds t (z3 u1 (tEd t 1) (tEd t 2))) 0) u2 (tEd (tSetEds t (z3 u1 (tEd t 1) (tEd t 2))) 2))) 0) (tEd (tSetEds t (z3 (tEd (tSetEds t (z3 u1 (tEd t 1) (tEd t 2))) 0) u2 (tEd (tSetEds t (z3 u1 (tEd t 1) (tEd t 2))) 2))) 1) u3)) u4) 0)), (wE cI (gE gt 1) (tEd (tSetLog (tSetEds t (z3 (tEd (tSetEds t (z3 (tEd (tSetEds t (z3 u1 (tEd t 1) (tEd t 2))) 0) u2 (tEd (tSetEds t (z3 u1 (tEd t 1) (tEd t 2))) 2))) 0) (tEd (tSetEds t (z3 (tEd (tSetEds t (z3 u1 (tEd t 1) (tEd t 2))) 0) u2 (tEd (tSetEds t (z3 u1 (tEd t 1) (tEd t 2))) 2))) 1) u3)) u4) 1)), (wE cI (gE gt 2) (tEd (tSetLog (tSetEds t (z3 (tEd (tSetEds t (z3 (tEd (tSetEds t (z3 u1 (tEd t 1) (tEd t 2))) 0) u2 (tEd (tSetEds t (z3 u1 (tEd t 1) (tEd t 2))) 2))) 0) (tEd (tSetEds t (z3 (tEd (tSetEds t (z3 u1 (tEd t 1) (tEd t 2))) 0) u2 (tEd (tSetEds t (z3 u1 (tEd t 1) (tEd t 2))) 2))) 1) u3)) u4) 2)), (wN cI (gt 22) (gt 23) u4), (wN cI (gt 26) (gt 27) (tWrs t)), (wSo go), (wE cI (gE go 0) (tEd o 0)), (wE cI (gE go 1) (tEd o 1)), (wE cI (gE go 2) (tEd o 2)), (wN cI (go 22) (go 23) (tLog o)), (wN cI (go 26) (go 27) (tWrs o))] rfl rfl (met_X4_copyNumbers l D cI (gt 24) (gt 25) (go 24) (go 25) (tText t) (tText o) _ hw) y_X4_copyNumbers mw_6_6 dX5_copyState_52 rfl n_X4_copyNumbers rfl (by decide) ⟨rfl, rfl, Nat.le_of_ble_eq_true rfl, Nat.le_of_ble_eq_true rfl⟩ (Nat.le_of_ble_eq_true rfl) (z_pm [5, 12, 0, 1, 2, 3, 4, 6, 7, 8, 9, 10, 11, 13] 14 rfl (by decide) rfl) ?_
  intro u5 hw
  try dsimp only at hw
  refine z_bs [(wN cI (gt 24) (gt 25) u5), (wN cI (go 24) (go 25) (tText o)), (wSo gt), (wE cI (gE gt 0) (tEd (tSetLog (tSetEds t (z3 (tEd (tSetEds t (z3 (tEd (tSetEds t (z3 u1 (tEd t 1) (tEd t 2))) 0) u2 (tEd (tSetEds t (z3 u1 (tEd t 1) (tEd t 2))) 2))) 0) (tEd (tSetEds t (z3 (tEd (tSetEds t (z3 u1 (tEd t 1) (tEd t 2))) 0) u2 (tEd (tSetEds t (z3 u1 (tEd t 1) (tEd t 2))) 2))) 1) u3)) u4) 0)), (wE cI (gE gt 1) (tEd (tSetLog (tSetEds t (z3 (tEd (tSetEds t (z3 (tEd (tSetEds t (z3 u1 (tEd t 1) (tEd t 2))) 0) u2 (tEd (tSetEds t (z3 u1 (tEd t 1) (tEd t 2))) 2))) 0) (tEd (tSetEds t (z3 (tEd (tSetEds t (z3 u1 (tEd t 1) (tEd t 2))) 0) u2 (tEd (tSetEds t (z3 u1 (tEd t 1) (tEd t 2))) 2))) 1) u3)) u4) 1)), (wE cI (gE gt 2) (tEd (tSetLog (tSetEds t (z3 (tEd (tSetEds t (z3 (tEd (tSetEds t (z3 u1 (tEd t 1) (tEd t 2))) 0) u2 (tEd (tSetEds t (z3 u1 (tEd t 1) (tEd t 2))) 2))) 0) (tEd (tSetEds t (z3 (tEd (tSetEds t (z3 u1 (tEd t 1) (tEd t 2))) 0) u2 (tEd (tSetEds t (z3 u1 (tEd t 1) (tEd t 2))) 2))) 1) u3)) u4) 2)), (wN cI (gt 22) (gt 23) u4), (wN cI (gt 26) (gt 27) (tWrs t)), (wSo go), (wE cI (gE go 0) (tEd o 0)), (wE cI (gE go 1) (tEd o 1)), (wE cI (gE go 2) (tEd o 2)), (wN cI (go 22) (go 23) (tLog o)), (wN cI (go 26) (go 27) (tWrs o))] [] rfl rfl ?_
  refine z_perm C [(wSo gt), (wE cI (gE gt 0) (tEd (tSetLog (tSetEds t (z3 (tEd (tSetEds t (z3 (tEd (tSetEds t (z3 u1 (tEd t 1) (tEd t 2))) 0) u2 (tEd (tSetEds t (z3 u1 (tEd t 1) (tEd t 2))) 2))) 0) (tEd (tSetEds t (z3 (tEd (tSetEds t (z3 u1 (tEd t 1) (tEd t 2))) 0) u2 (tEd (tSetEds t (z3 u1 (tEd t 1) (tEd t 2))) 2))) 1) u3)) u4) 0)), (wE cI (gE gt 1) (tEd (tSetLog (tSetEds t (z3 (tEd (tSetEds t (z3 (tEd (tSetEds t (z3 u1 (tEd t 1) (tEd t 2))) 0) u2 (tEd (tSetEds t (z3 u1 (tEd t 1) (tEd t 2))) 2))) 0) (tEd (tSetEds t (z3 (tEd (tSetEds t (z3 u1 (tEd t 1) (tEd t 2))) 0) u2 (tEd (tSetEds t (z3 u1 (tEd t 1) (tEd t 2))) 2))) 1) u3)) u4) 1)), (wE cI (gE gt 2) (tEd (tSetLog (tSetEds t (z3 (tEd (tSetEds t (z3 (tEd (tSetEds t (z3 u1 (tEd t 1) (tEd t 2))) 0) u2 (tEd (tSetEds t (z3 u1 (tEd t 1) (tEd t 2))) 2))) 0) (tEd (tSetEds t (z3 (tEd (tSetEds t (z3 u1 (tEd t 1) (tEd t 2))) 0) u2 (tEd (tSetEds t (z3 u1 (tEd t 1) (tEd t 2))) 2))) 1) u3)) u4) 2)), (wN cI (gt 22) (gt 23) u4), (wN cI (gt 24) (gt 25) u5), (wN cI (gt 26) (gt 27) (tWrs t)), (wSo go), (wE cI (gE go 0) (tEd o 0)), (wE cI (gE go 1) (tEd o 1)), (wE cI (gE go 2) (tEd o 2)), (wN cI (go 22) (go 23) (tLog o)), (wN cI (go 24) (go 25) (tText o)), (wN cI (go 26) (go 27) (tWrs o))] (z_pm [2, 3, 4, 5, 6, 0, 7, 8, 9, 10, 11, 12, 1, 13] 14 rfl (by decide) rfl) ?_
  refine z_shut 7 [(wSo go), (wE cI (gE go 0) (tEd o 0)), (wE cI (gE go 1) (tEd o 1)), (wE cI (gE go 2) (tEd o 2)), (wN cI (go 22) (go 23) (tLog o)), (wN cI (go 24) (go 25) (tText o)), (wN cI (go 26) (go 27) (tWrs o))] [(wSo gt), (wE cI (gE gt 0) (tEd (tSetLog (tSetEds t (z3 (tEd (tSetEds t (z3 (tEd (tSetEds t (z3 u1 (tEd t 1) (tEd t 2))) 0) u2 (tEd (tSetEds t (z3 u1 (tEd t 1) (tEd t 2))) 2))) 0) (tEd (tSetEds t (z3 (tEd (tSetEds t (z3 u1 (tEd t 1) (tEd t 2))) 0) u2 (tEd (tSetEds t (z3 u1 (tEd t 1) (tEd t 2))) 2))) 1) u3)) u4) 0)), (wE cI (gE gt 1) (tEd (tSetLog (tSetEds t (z3 (tEd (tSetEds t (z3 (tEd (tSetEds t (z3 u1 (tEd t 1) (tEd t 2))) 0) u2 (tEd (tSetEds t (z3 u1 (tEd t 1) (tEd t 2))) 2))) 0) (tEd (tSetEds t (z3 (tEd (tSetEds t (z3 u1 (tEd t 1) (tEd t 2))) 0) u2 (tEd (tSetEds t (z3 u1 (tEd t 1) (tEd t 2))) 2))) 1) u3)) u4) 1)), (wE cI (gE gt 2) (tEd (tSetLog (tSetEds t (z3 (tEd (tSetEds t (z3 (tEd (tSetEds t (z3 u1 (tEd t 1) (tEd t 2))) 0) u2 (tEd (tSetEds t (z3 u1 (tEd t 1) (tEd t 2))) 2))) 0) (tEd (tSetEds t (z3 (tEd (tSetEds t (z3 u1 (tEd t 1) (tEd t 2))) 0) u2 (tEd (tSetEds t (z3 u1 (tEd t 1) (tEd t 2))) 2))) 1) u3)) u4) 2)), (wN cI (gt 22) (gt 23) u4), (wN cI (gt 24) (gt 25) u5), (wN cI (gt 26) (gt 27) (tWrs t)), (wS cI go o)] rfl rfl rfl ?_
  refine z_shut 0 [(wSo gt), (wE cI (gE gt 0) (tEd (tSetLog (tSetEds t (z3 (tEd (tSetEds t (z3 (tEd (tSetEds t (z3 u1 (tEd t 1) (tEd t 2))) 0) u2 (tEd (tSetEds t (z3 u1 (tEd t 1) (tEd t 2))) 2))) 0) (tEd (tSetEds t (z3 (tEd (tSetEds t (z3 u1 (tEd t 1) (tEd t 2))) 0) u2 (tEd (tSetEds t (z3 u1 (tEd t 1) (tEd t 2))) 2))) 1) u3)) u4) 0)), (wE cI (gE gt 1) (tEd (tSetLog (tSetEds t (z3 (tEd (tSetEds t (z3 (tEd (tSetEds t (z3 u1 (tEd t 1) (tEd t 2))) 0) u2 (tEd (tSetEds t (z3 u1 (tEd t 1) (tEd t 2))) 2))) 0) (tEd (tSetEds t (z3 (tEd (tSetEds t (z3 u1 (tEd t 1) (tEd t 2))) 0) u2 (tEd (tSetEds t (z3 u1 (tEd t 1) (tEd t 2))) 2))) 1) u3)) u4) 1)), (wE cI (gE gt 2) (tEd (tSetLog (tSetEds t (z3 (tEd (tSetEds t (z3 (tEd (tSetEds t (z3 u1 (tEd t 1) (tEd t 2))) 0) u2 (tEd (tSetEds t (z3 u1 (tEd t 1) (tEd t 2))) 2))) 0) (tEd (tSetEds t (z3 (tEd (tSetEds t (z3 u1 (tEd t 1) (tEd t 2))) 0) u2 (tEd (tSetEds t (z3 u1 (tEd t 1) (tEd t 2))) 2))) 1) u3)) u4) 2)), (wN cI (gt 22) (gt 23) u4), (wN cI (gt 24) (gt 25) u5), (wN cI (gt 26) (gt 27) (tWrs t))] [(wS cI gt (tSetText (tSetLog (tSetEds t (z3 (tEd (tSetEds t (z3 (tEd (tSetEds t (z3 u1 (tEd t 1) (tEd t 2))) 0) u2 (tEd (tSetEds t (z3 u1 (tEd t 1) (tEd t 2))) 2))) 0) (tEd (tSetEds t (z3 (tEd (tSetEds t (z3 u1 (tEd t 1) (tEd t 2))) 0) u2 (tEd (tSetEds t (z3 u1 (tEd t 1) (tEd t 2))) 2))) 1) u3)) u4) u5)), (wS cI go o)] rfl rfl rfl ?_
  refine z_aload_n C dX5_copyState_55 rfl ?_
  refine z_get C inlX5 rfl 5 (by decide) mw_2_18 dX5_copyState_56 0 0 rfl rfl rfl ?_
  refine z_aload_n C dX5_copyState_59 rfl ?_
  refine z_get C inlX5 rfl 5 (by decide) mw_2_18 dX5_copyState_60 1 0 rfl rfl rfl ?_
  refine z_open 0 [(wSo gt), (wE cI (gE gt 0) (tEd (tSetText (tSetLog (tSetEds t (z3 (tEd (tSetEds t (z3 (tEd (tSetEds t (z3 u1 (tEd t 1) (tEd t 2))) 0) u2 (tEd (tSetEds t (z3 u1 (tEd t 1) (tEd t 2))) 2))) 0) (tEd (tSetEds t (z3 (tEd (tSetEds t (z3 u1 (tEd t 1) (tEd t 2))) 0) u2 (tEd (tSetEds t (z3 u1 (tEd t 1) (tEd t 2))) 2))) 1) u3)) u4) u5) 0)), (wE cI (gE gt 1) (tEd (tSetText (tSetLog (tSetEds t (z3 (tEd (tSetEds t (z3 (tEd (tSetEds t (z3 u1 (tEd t 1) (tEd t 2))) 0) u2 (tEd (tSetEds t (z3 u1 (tEd t 1) (tEd t 2))) 2))) 0) (tEd (tSetEds t (z3 (tEd (tSetEds t (z3 u1 (tEd t 1) (tEd t 2))) 0) u2 (tEd (tSetEds t (z3 u1 (tEd t 1) (tEd t 2))) 2))) 1) u3)) u4) u5) 1)), (wE cI (gE gt 2) (tEd (tSetText (tSetLog (tSetEds t (z3 (tEd (tSetEds t (z3 (tEd (tSetEds t (z3 u1 (tEd t 1) (tEd t 2))) 0) u2 (tEd (tSetEds t (z3 u1 (tEd t 1) (tEd t 2))) 2))) 0) (tEd (tSetEds t (z3 (tEd (tSetEds t (z3 u1 (tEd t 1) (tEd t 2))) 0) u2 (tEd (tSetEds t (z3 u1 (tEd t 1) (tEd t 2))) 2))) 1) u3)) u4) u5) 2)), (wN cI (gt 22) (gt 23) u4), (wN cI (gt 24) (gt 25) u5), (wN cI (gt 26) (gt 27) (tWrs t))] [(wSo gt), (wE cI (gE gt 0) (tEd (tSetText (tSetLog (tSetEds t (z3 (tEd (tSetEds t (z3 (tEd (tSetEds t (z3 u1 (tEd t 1) (tEd t 2))) 0) u2 (tEd (tSetEds t (z3 u1 (tEd t 1) (tEd t 2))) 2))) 0) (tEd (tSetEds t (z3 (tEd (tSetEds t (z3 u1 (tEd t 1) (tEd t 2))) 0) u2 (tEd (tSetEds t (z3 u1 (tEd t 1) (tEd t 2))) 2))) 1) u3)) u4) u5) 0)), (wE cI (gE gt 1) (tEd (tSetText (tSetLog (tSetEds t (z3 (tEd (tSetEds t (z3 (tEd (tSetEds t (z3 u1 (tEd t 1) (tEd t 2))) 0) u2 (tEd (tSetEds t (z3 u1 (tEd t 1) (tEd t 2))) 2))) 0) (tEd (tSetEds t (z3 (tEd (tSetEds t (z3 u1 (tEd t 1) (tEd t 2))) 0) u2 (tEd (tSetEds t (z3 u1 (tEd t 1) (tEd t 2))) 2))) 1) u3)) u4) u5) 1)), (wE cI (gE gt 2) (tEd (tSetText (tSetLog (tSetEds t (z3 (tEd (tSetEds t (z3 (tEd (tSetEds t (z3 u1 (tEd t 1) (tEd t 2))) 0) u2 (tEd (tSetEds t (z3 u1 (tEd t 1) (tEd t 2))) 2))) 0) (tEd (tSetEds t (z3 (tEd (tSetEds t (z3 u1 (tEd t 1) (tEd t 2))) 0) u2 (tEd (tSetEds t (z3 u1 (tEd t 1) (tEd t 2))) 2))) 1) u3)) u4) u5) 2)), (wN cI (gt 22) (gt 23) u4), (wN cI (gt 24) (gt 25) u5), (wN cI (gt 26) (gt 27) (tWrs t)), (wS cI go o)] rfl rfl rfl ?_
  refine z_open 7 [(wSo go), (wE cI (gE go 0) (tEd o 0)), (wE cI (gE go 1) (tEd o 1)), (wE cI (gE go 2) (tEd o 2)), (wN cI (go 22) (go 23) (tLog o)), (wN cI (go 24) (go 25) (tText o)), (wN cI (go 26) (go 27) (tWrs o))] [(wSo gt), (wE cI (gE gt 0) (tEd (tSetText (tSetLog (tSetEds t (z3 (tEd (tSetEds t (z3 (tEd (tSetEds t (z3 u1 (tEd t 1) (tEd t 2))) 0) u2 (tEd (tSetEds t (z3 u1 (tEd t 1) (tEd t 2))) 2))) 0) (tEd (tSetEds t (z3 (tEd (tSetEds t (z3 u1 (tEd t 1) (tEd t 2))) 0) u2 (tEd (tSetEds t (z3 u1 (tEd t 1) (tEd t 2))) 2))) 1) u3)) u4) u5) 0)), (wE cI (gE gt 1) (tEd (tSetText (tSetLog (tSetEds t (z3 (tEd (tSetEds t (z3 (tEd (tSetEds t (z3 u1 (tEd t 1) (tEd t 2))) 0) u2 (tEd (tSetEds t (z3 u1 (tEd t 1) (tEd t 2))) 2))) 0) (tEd (tSetEds t (z3 (tEd (tSetEds t (z3 u1 (tEd t 1) (tEd t 2))) 0) u2 (tEd (tSetEds t (z3 u1 (tEd t 1) (tEd t 2))) 2))) 1) u3)) u4) u5) 1)), (wE cI (gE gt 2) (tEd (tSetText (tSetLog (tSetEds t (z3 (tEd (tSetEds t (z3 (tEd (tSetEds t (z3 u1 (tEd t 1) (tEd t 2))) 0) u2 (tEd (tSetEds t (z3 u1 (tEd t 1) (tEd t 2))) 2))) 0) (tEd (tSetEds t (z3 (tEd (tSetEds t (z3 u1 (tEd t 1) (tEd t 2))) 0) u2 (tEd (tSetEds t (z3 u1 (tEd t 1) (tEd t 2))) 2))) 1) u3)) u4) u5) 2)), (wN cI (gt 22) (gt 23) u4), (wN cI (gt 24) (gt 25) u5), (wN cI (gt 26) (gt 27) (tWrs t)), (wSo go), (wE cI (gE go 0) (tEd o 0)), (wE cI (gE go 1) (tEd o 1)), (wE cI (gE go 2) (tEd o 2)), (wN cI (go 22) (go 23) (tLog o)), (wN cI (go 24) (go 25) (tText o)), (wN cI (go 26) (go 27) (tWrs o))] rfl rfl rfl ?_
  refine z_callV0 C [(wN cI (gt 26) (gt 27) (tWrs t)), (wN cI (go 26) (go 27) (tWrs o))] [(wSo gt), (wE cI (gE gt 0) (tEd (tSetText (tSetLog (tSetEds t (z3 (tEd (tSetEds t (z3 (tEd (tSetEds t (z3 u1 (tEd t 1) (tEd t 2))) 0) u2 (tEd (tSetEds t (z3 u1 (tEd t 1) (tEd t 2))) 2))) 0) (tEd (tSetEds t (z3 (tEd (tSetEds t (z3 u1 (tEd t 1) (tEd t 2))) 0) u2 (tEd (tSetEds t (z3 u1 (tEd t 1) (tEd t 2))) 2))) 1) u3)) u4) u5) 0)), (wE cI (gE gt 1) (tEd (tSetText (tSetLog (tSetEds t (z3 (tEd (tSetEds t (z3 (tEd (tSetEds t (z3 u1 (tEd t 1) (tEd t 2))) 0) u2 (tEd (tSetEds t (z3 u1 (tEd t 1) (tEd t 2))) 2))) 0) (tEd (tSetEds t (z3 (tEd (tSetEds t (z3 u1 (tEd t 1) (tEd t 2))) 0) u2 (tEd (tSetEds t (z3 u1 (tEd t 1) (tEd t 2))) 2))) 1) u3)) u4) u5) 1)), (wE cI (gE gt 2) (tEd (tSetText (tSetLog (tSetEds t (z3 (tEd (tSetEds t (z3 (tEd (tSetEds t (z3 u1 (tEd t 1) (tEd t 2))) 0) u2 (tEd (tSetEds t (z3 u1 (tEd t 1) (tEd t 2))) 2))) 0) (tEd (tSetEds t (z3 (tEd (tSetEds t (z3 u1 (tEd t 1) (tEd t 2))) 0) u2 (tEd (tSetEds t (z3 u1 (tEd t 1) (tEd t 2))) 2))) 1) u3)) u4) u5) 2)), (wN cI (gt 22) (gt 23) u4), (wN cI (gt 24) (gt 25) u5), (wSo go), (wE cI (gE go 0) (tEd o 0)), (wE cI (gE go 1) (tEd o 1)), (wE cI (gE go 2) (tEd o 2)), (wN cI (go 22) (go 23) (tLog o)), (wN cI (go 24) (go 25) (tText o))] rfl rfl (met_X4_copyNumbers l D cI (gt 26) (gt 27) (go 26) (go 27) (tWrs t) (tWrs o) _ hw) y_X4_copyNumbers mw_6_6 dX5_copyState_63 rfl n_X4_copyNumbers rfl (by decide) ⟨rfl, rfl, Nat.le_of_ble_eq_true rfl, Nat.le_of_ble_eq_true rfl⟩ (Nat.le_of_ble_eq_true rfl) (z_pm [6, 13, 0, 1, 2, 3, 4, 5, 7, 8, 9, 10, 11, 12] 14 rfl (by decide) rfl) ?_
  intro u6 hw
  try dsimp only at hw
  refine z_bs [(wN cI (gt 26) (gt 27) u6), (wN cI (go 26) (go 27) (tWrs o)), (wSo gt), (wE cI (gE gt 0) (tEd (tSetText (tSetLog (tSetEds t (z3 (tEd (tSetEds t (z3 (tEd (tSetEds t (z3 u1 (tEd t 1) (tEd t 2))) 0) u2 (tEd (tSetEds t (z3 u1 (tEd t 1) (tEd t 2))) 2))) 0) (tEd (tSetEds t (z3 (tEd (tSetEds t (z3 u1 (tEd t 1) (tEd t 2))) 0) u2 (tEd (tSetEds t (z3 u1 (tEd t 1) (tEd t 2))) 2))) 1) u3)) u4) u5) 0)), (wE cI (gE gt 1) (tEd (tSetText (tSetLog (tSetEds t (z3 (tEd (tSetEds t (z3 (tEd (tSetEds t (z3 u1 (tEd t 1) (tEd t 2))) 0) u2 (tEd (tSetEds t (z3 u1 (tEd t 1) (tEd t 2))) 2))) 0) (tEd (tSetEds t (z3 (tEd (tSetEds t (z3 u1 (tEd t 1) (tEd t 2))) 0) u2 (tEd (tSetEds t (z3 u1 (tEd t 1) (tEd t 2))) 2))) 1) u3)) u4) u5) 1)), (wE cI (gE gt 2) (tEd (tSetText (tSetLog (tSetEds t (z3 (tEd (tSetEds t (z3 (tEd (tSetEds t (z3 u1 (tEd t 1) (tEd t 2))) 0) u2 (tEd (tSetEds t (z3 u1 (tEd t 1) (tEd t 2))) 2))) 0) (tEd (tSetEds t (z3 (tEd (tSetEds t (z3 u1 (tEd t 1) (tEd t 2))) 0) u2 (tEd (tSetEds t (z3 u1 (tEd t 1) (tEd t 2))) 2))) 1) u3)) u4) u5) 2)), (wN cI (gt 22) (gt 23) u4), (wN cI (gt 24) (gt 25) u5), (wSo go), (wE cI (gE go 0) (tEd o 0)), (wE cI (gE go 1) (tEd o 1)), (wE cI (gE go 2) (tEd o 2)), (wN cI (go 22) (go 23) (tLog o)), (wN cI (go 24) (go 25) (tText o))] [] rfl rfl ?_
  refine z_perm C [(wSo gt), (wE cI (gE gt 0) (tEd (tSetText (tSetLog (tSetEds t (z3 (tEd (tSetEds t (z3 (tEd (tSetEds t (z3 u1 (tEd t 1) (tEd t 2))) 0) u2 (tEd (tSetEds t (z3 u1 (tEd t 1) (tEd t 2))) 2))) 0) (tEd (tSetEds t (z3 (tEd (tSetEds t (z3 u1 (tEd t 1) (tEd t 2))) 0) u2 (tEd (tSetEds t (z3 u1 (tEd t 1) (tEd t 2))) 2))) 1) u3)) u4) u5) 0)), (wE cI (gE gt 1) (tEd (tSetText (tSetLog (tSetEds t (z3 (tEd (tSetEds t (z3 (tEd (tSetEds t (z3 u1 (tEd t 1) (tEd t 2))) 0) u2 (tEd (tSetEds t (z3 u1 (tEd t 1) (tEd t 2))) 2))) 0) (tEd (tSetEds t (z3 (tEd (tSetEds t (z3 u1 (tEd t 1) (tEd t 2))) 0) u2 (tEd (tSetEds t (z3 u1 (tEd t 1) (tEd t 2))) 2))) 1) u3)) u4) u5) 1)), (wE cI (gE gt 2) (tEd (tSetText (tSetLog (tSetEds t (z3 (tEd (tSetEds t (z3 (tEd (tSetEds t (z3 u1 (tEd t 1) (tEd t 2))) 0) u2 (tEd (tSetEds t (z3 u1 (tEd t 1) (tEd t 2))) 2))) 0) (tEd (tSetEds t (z3 (tEd (tSetEds t (z3 u1 (tEd t 1) (tEd t 2))) 0) u2 (tEd (tSetEds t (z3 u1 (tEd t 1) (tEd t 2))) 2))) 1) u3)) u4) u5) 2)), (wN cI (gt 22) (gt 23) u4), (wN cI (gt 24) (gt 25) u5), (wN cI (gt 26) (gt 27) u6), (wSo go), (wE cI (gE go 0) (tEd o 0)), (wE cI (gE go 1) (tEd o 1)), (wE cI (gE go 2) (tEd o 2)), (wN cI (go 22) (go 23) (tLog o)), (wN cI (go 24) (go 25) (tText o)), (wN cI (go 26) (go 27) (tWrs o))] (z_pm [2, 3, 4, 5, 6, 7, 0, 8, 9, 10, 11, 12, 13, 1] 14 rfl (by decide) rfl) ?_
  refine z_shut 7 [(wSo go), (wE cI (gE go 0) (tEd o 0)), (wE cI (gE go 1) (tEd o 1)), (wE cI (gE go 2) (tEd o 2)), (wN cI (go 22) (go 23) (tLog o)), (wN cI (go 24) (go 25) (tText o)), (wN cI (go 26) (go 27) (tWrs o))] [(wSo gt), (wE cI (gE gt 0) (tEd (tSetText (tSetLog (tSetEds t (z3 (tEd (tSetEds t (z3 (tEd (tSetEds t (z3 u1 (tEd t 1) (tEd t 2))) 0) u2 (tEd (tSetEds t (z3 u1 (tEd t 1) (tEd t 2))) 2))) 0) (tEd (tSetEds t (z3 (tEd (tSetEds t (z3 u1 (tEd t 1) (tEd t 2))) 0) u2 (tEd (tSetEds t (z3 u1 (tEd t 1) (tEd t 2))) 2))) 1) u3)) u4) u5) 0)), (wE cI (gE gt 1) (tEd (tSetText (tSetLog (tSetEds t (z3 (tEd (tSetEds t (z3 (tEd (tSetEds t (z3 u1 (tEd t 1) (tEd t 2))) 0) u2 (tEd (tSetEds t (z3 u1 (tEd t 1) (tEd t 2))) 2))) 0) (tEd (tSetEds t (z3 (tEd (tSetEds t (z3 u1 (tEd t 1) (tEd t 2))) 0) u2 (tEd (tSetEds t (z3 u1 (tEd t 1) (tEd t 2))) 2))) 1) u3)) u4) u5) 1)), (wE cI (gE gt 2) (tEd (tSetText (tSetLog (tSetEds t (z3 (tEd (tSetEds t (z3 (tEd (tSetEds t (z3 u1 (tEd t 1) (tEd t 2))) 0) u2 (tEd (tSetEds t (z3 u1 (tEd t 1) (tEd t 2))) 2))) 0) (tEd (tSetEds t (z3 (tEd (tSetEds t (z3 u1 (tEd t 1) (tEd t 2))) 0) u2 (tEd (tSetEds t (z3 u1 (tEd t 1) (tEd t 2))) 2))) 1) u3)) u4) u5) 2)), (wN cI (gt 22) (gt 23) u4), (wN cI (gt 24) (gt 25) u5), (wN cI (gt 26) (gt 27) u6), (wS cI go o)] rfl rfl rfl ?_
  refine z_shut 0 [(wSo gt), (wE cI (gE gt 0) (tEd (tSetText (tSetLog (tSetEds t (z3 (tEd (tSetEds t (z3 (tEd (tSetEds t (z3 u1 (tEd t 1) (tEd t 2))) 0) u2 (tEd (tSetEds t (z3 u1 (tEd t 1) (tEd t 2))) 2))) 0) (tEd (tSetEds t (z3 (tEd (tSetEds t (z3 u1 (tEd t 1) (tEd t 2))) 0) u2 (tEd (tSetEds t (z3 u1 (tEd t 1) (tEd t 2))) 2))) 1) u3)) u4) u5) 0)), (wE cI (gE gt 1) (tEd (tSetText (tSetLog (tSetEds t (z3 (tEd (tSetEds t (z3 (tEd (tSetEds t (z3 u1 (tEd t 1) (tEd t 2))) 0) u2 (tEd (tSetEds t (z3 u1 (tEd t 1) (tEd t 2))) 2))) 0) (tEd (tSetEds t (z3 (tEd (tSetEds t (z3 u1 (tEd t 1) (tEd t 2))) 0) u2 (tEd (tSetEds t (z3 u1 (tEd t 1) (tEd t 2))) 2))) 1) u3)) u4) u5) 1)), (wE cI (gE gt 2) (tEd (tSetText (tSetLog (tSetEds t (z3 (tEd (tSetEds t (z3 (tEd (tSetEds t (z3 u1 (tEd t 1) (tEd t 2))) 0) u2 (tEd (tSetEds t (z3 u1 (tEd t 1) (tEd t 2))) 2))) 0) (tEd (tSetEds t (z3 (tEd (tSetEds t (z3 u1 (tEd t 1) (tEd t 2))) 0) u2 (tEd (tSetEds t (z3 u1 (tEd t 1) (tEd t 2))) 2))) 1) u3)) u4) u5) 2)), (wN cI (gt 22) (gt 23) u4), (wN cI (gt 24) (gt 25) u5), (wN cI (gt 26) (gt 27) u6)] [(wS cI gt (tSetWrs (tSetText (tSetLog (tSetEds t (z3 (tEd (tSetEds t (z3 (tEd (tSetEds t (z3 u1 (tEd t 1) (tEd t 2))) 0) u2 (tEd (tSetEds t (z3 u1 (tEd t 1) (tEd t 2))) 2))) 0) (tEd (tSetEds t (z3 (tEd (tSetEds t (z3 u1 (tEd t 1) (tEd t 2))) 0) u2 (tEd (tSetEds t (z3 u1 (tEd t 1) (tEd t 2))) 2))) 1) u3)) u4) u5) u6)), (wS cI go o)] rfl rfl rfl ?_
  exact z_vret C rfl ((tSetWrs (tSetText (tSetLog (tSetEds t (z3 (tEd (tSetEds t (z3 (tEd (tSetEds t (z3 u1 (tEd t 1) (tEd t 2))) 0) u2 (tEd (tSetEds t (z3 u1 (tEd t 1) (tEd t 2))) 2))) 0) (tEd (tSetEds t (z3 (tEd (tSetEds t (z3 u1 (tEd t 1) (tEd t 2))) 0) u2 (tEd (tSetEds t (z3 u1 (tEd t 1) (tEd t 2))) 2))) 1) u3)) u4) u5) u6)) rfl hw rfl dX5_copyState_66
def rmX5_copyEndOf : Room := { frames := 4, cells := 0, slots := 0, locals := 98 }
def lb_X5_copyEndOf_89 (t : zT) (o : zT) (p2 : Int32)   (Q : zT → Prop)  (K89 : (Int32) → (zT) → Prop) (v3 : Int32) (w0 : zT) : Prop := ((3 ≤ v3 → (Q w0)) ∧ (¬ 3 ≤ v3 → (wp_X2_hearRest (tEd w0 (ixE v3)) (tLog w0) (fun r4 u5 => (K89 (v3 + 1) (tSetEds w0 (va_up (tEds w0) (ixE v3) u5)))))))
set_option maxHeartbeats 4000000 in
set_option maxRecDepth 100000 in
theorem wk_X5_copyEndOf_89 {p : Program} {l : Launch} {e : Env} {s : State} {m : MethodId} {args : Array Value} {below : List Frame} {meth : Method} {c : Code} {D : va_G} {cI : ClassId} {A : Nat → Prop} (C : ZC p s m args meth c RX5 cX5_copyEndOf 6 none D cI A) (gt : Nat → Nat) (go : Nat → Nat) (t : zT) (o : zT) (p2 : Int32)   (v3 : Int32) (w0 : zT) (Q : zT → Prop)  (hw : zLoop2 (lb_X5_copyEndOf_89 t o p2   Q ) v3 w0) : ZZ p l e rmX5_copyEndOf s m args below meth c D A 6 0 0 (MQ below (ZQ D A (fun _ : zT => none) (fun u : zT => [(wS cI gt u), (wS cI go o)]) (fun u : zT => Q u)) args s rmX5_copyEndOf.cells rmX5_copyEndOf.slots A) [(wS cI gt w0), (wS cI go o)] 89 [some (.ref (gt 0)), none, none, some (.int v3), none, none] [] := by
  refine zLoop2_w (fun (v3 : Int32) (w0 : zT) => ZZ p l e rmX5_copyEndOf s m args below meth c D A 6 0 0 (MQ below (ZQ D A (fun _ : zT => none) (fun u : zT => [(wS cI gt u), (wS cI go o)]) (fun u : zT => Q u)) args s rmX5_copyEndOf.cells rmX5_copyEndOf.slots A) [(wS cI gt w0), (wS cI go o)] 89 [some (.ref (gt 0)), none, none, some (.int v3), none, none] []) ?_ _ _ hw
  clear hw
  intro K89 hK89 v3 w0 hw
  unfold lb_X5_copyEndOf_89 at hw
  refine z_iload_n C dX5_copyEndOf_89 rfl ?_
  refine z_iconst C dX5_copyEndOf_90 3 (by decide) ?_
  refine z_icmp_ge C dX5_copyEndOf_91 113 (by decide) (fun c3 => ?_) (fun c3 => ?_)
  · replace hw := hw.1 c3
    exact z_vret C rfl (w0) rfl hw rfl dX5_copyEndOf_113
  · replace hw := hw.2 c3
    refine z_aload_n C dX5_copyEndOf_94 rfl ?_
    refine z_iload_n C dX5_copyEndOf_95 rfl ?_
    refine z_callFV C [(wS cI gt w0)] [(wS cI go o)] rfl rfl (met_X5_editor l D cI gt w0 v3) y_X5_editor mw_6_13 dX5_copyEndOf_96 rfl n_X5_editor rfl (by decide) ⟨rfl, rfl, Nat.le_of_ble_eq_true rfl, Nat.le_of_ble_eq_true rfl⟩ (Nat.le_of_ble_eq_true rfl) (z_pm [0, 1] 2 rfl (by decide) rfl) ?_
    refine z_aload_n C dX5_copyEndOf_99 rfl ?_
    refine z_get C inlX5 rfl 3 (by decide) mw_2_16 dX5_copyEndOf_100 0 0 rfl rfl rfl ?_
    refine z_focus 0 (ixE_lt _) [(wF cI gt w0 (ixE v3) (tEd w0 (ixE v3))), (wS cI go o)] rfl rfl ?_
    refine z_open 0 [(wSo gt), (wE cI (gE gt (ixE v3)) (tEd w0 (ixE v3))), (wN cI (gt 22) (gt 23) (tLog w0)), (wN cI (gt 24) (gt 25) (tText w0)), (wN cI (gt 26) (gt 27) (tWrs w0)), (wR cI gt w0 (ixE v3))] [(wSo gt), (wE cI (gE gt (ixE v3)) (tEd w0 (ixE v3))), (wN cI (gt 22) (gt 23) (tLog w0)), (wN cI (gt 24) (gt 25) (tText w0)), (wN cI (gt 26) (gt 27) (tWrs w0)), (wR cI gt w0 (ixE v3)), (wS cI go o)] rfl rfl rfl ?_
    refine z_callV0 C [(wE cI (gE gt (ixE v3)) (tEd w0 (ixE v3))), (wN cI (gt 22) (gt 23) (tLog w0))] [(wSo gt), (wN cI (gt 24) (gt 25) (tText w0)), (wN cI (gt 26) (gt 27) (tWrs w0)), (wR cI gt w0 (ixE v3)), (wS cI go o)] rfl rfl (met_X2_hearRest l D cI (gE gt (ixE v3)) (gt 22) (gt 23) (tEd w0 (ixE v3)) (tLog w0) _ hw) y_X2_hearRest mw_11_4 dX5_copyEndOf_103 rfl n_X2_hearRest rfl (by decide) ⟨rfl, rfl, Nat.le_of_ble_eq_true rfl, Nat.le_of_ble_eq_true rfl⟩ (Nat.le_of_ble_eq_true rfl) (z_pm [1, 2, 0, 3, 4, 5, 6] 7 rfl (by decide) rfl) ?_
    intro ⟨r4, u5⟩ hw
    try dsimp only at hw
    refine z_bs [(wE cI (gE gt (ixE v3)) u5), (wN cI (gt 22) (gt 23) (tLog w0)), (wSo gt), (wN cI (gt 24) (gt 25) (tText w0)), (wN cI (gt 26) (gt 27) (tWrs w0)), (wR cI gt w0 (ixE v3)), (wS cI go o)] [.int r4] rfl rfl ?_
    refine z_perm C [(wSo gt), (wE cI (gE gt (ixE v3)) u5), (wN cI (gt 22) (gt 23) (tLog w0)), (wN cI (gt 24) (gt 25) (tText w0)), (wN cI (gt 26) (gt 27) (tWrs w0)), (wR cI gt w0 (ixE v3)), (wS cI go o)] (z_pm [2, 0, 1, 3, 4, 5, 6] 7 rfl (by decide) rfl) ?_
    refine z_shut 0 [(wSo gt), (wE cI (gE gt (ixE v3)) u5), (wN cI (gt 22) (gt 23) (tLog w0)), (wN cI (gt 24) (gt 25) (tText w0)), (wN cI (gt 26) (gt 27) (tWrs w0)), (wR cI gt w0 (ixE v3))] [(wF cI gt w0 (ixE v3) u5), (wS cI go o)] rfl rfl rfl ?_
    refine z_pop C dX5_copyEndOf_106 rfl ?_
    refine z_iinc C dX5_copyEndOf_107 rfl (v3 + 1) (by rfl) [some (.ref (gt 0)), none, none, some (.int (v3 + 1)), none, none] (by decide) rfl ?_
    refine z_goto C dX5_copyEndOf_110 89 (by decide) ?_
    refine z_unfocus 0 (ixE_lt _) (tSetEds w0 (va_up (tEds w0) (ixE v3) u5)) [(wS cI gt (tSetEds w0 (va_up (tEds w0) (ixE v3) u5))), (wS cI go o)] rfl rfl rfl ?_
    exact hK89 _ _ hw
def lb_X5_copyEndOf_32 (t : zT) (o : zT) (p2 : Int32) (v3 : Int32) (s24_0 : Int32) (Q : zT → Prop) (K7 : (Int32) → (zT) → Prop) (K32 : (Int32) → (zT) → Prop) (v5 : Int32) (w0 : zT) : Prop := ((6 < v5 → (K7 (v3 + 1) w0)) ∧ (¬ 6 < v5 → ((¬ (f_X2_isSettled (tEd w0 (ixE s24_0)) (tLog w0)) = 0 → (K7 (v3 + 1) w0)) ∧ ((f_X2_isSettled (tEd w0 (ixE s24_0)) (tLog w0)) = 0 → (((f_X2_canSend (tEd w0 (ixE s24_0))) = 0 → (wp_X2_hearRest (tEd w0 (ixE s24_0)) (tLog w0) (fun r10 u11 => (K32 (v5 + 1) (tSetEds w0 (va_up (tEds w0) (ixE s24_0) u11)))))) ∧ (¬ (f_X2_canSend (tEd w0 (ixE s24_0))) = 0 → (wp_X5_append (ixE s24_0) w0 (fun u12 => (wp_X2_hearRest (tEd u12 (ixE s24_0)) (tLog u12) (fun r13 u14 => (K32 (v5 + 1) (tSetEds u12 (va_up (tEds u12) (ixE s24_0) u14)))))))))))))
set_option maxHeartbeats 4000000 in
set_option maxRecDepth 100000 in
theorem wk_X5_copyEndOf_32 {p : Program} {l : Launch} {e : Env} {s : State} {m : MethodId} {args : Array Value} {below : List Frame} {meth : Method} {c : Code} {D : va_G} {cI : ClassId} {A : Nat → Prop} (C : ZC p s m args meth c RX5 cX5_copyEndOf 6 none D cI A) (gt : Nat → Nat) (go : Nat → Nat) (t : zT) (o : zT) (p2 : Int32) (v3 : Int32) (s24_0 : Int32) (v5 : Int32) (w0 : zT) (Q : zT → Prop) (K7 : (Int32) → (zT) → Prop) (hK7 : ∀ (v3 : Int32) (w0 : zT), K7 v3 w0 → ZZ p l e rmX5_copyEndOf s m args below meth c D A 6 0 0 (MQ below (ZQ D A (fun _ : zT => none) (fun u : zT => [(wS cI gt u), (wS cI go o)]) (fun u : zT => Q u)) args s rmX5_copyEndOf.cells rmX5_copyEndOf.slots A) [(wS cI gt w0), (wS cI go o)] 7 [some (.ref (gt 0)), none, some (.int p2), some (.int v3), none, none] []) (hw : zLoop2 (lb_X5_copyEndOf_32 t o p2 v3 s24_0 Q K7) v5 w0) : ZZ p l e rmX5_copyEndOf s m args below meth c D A 6 0 0 (MQ below (ZQ D A (fun _ : zT => none) (fun u : zT => [(wS cI gt u), (wS cI go o)]) (fun u : zT => Q u)) args s rmX5_copyEndOf.cells rmX5_copyEndOf.slots A) [(wS cI gt w0), (wS cI go o)] 32 [some (.ref (gt 0)), none, some (.int p2), some (.int v3), some (.ref ((gE gt (ixE s24_0)) 0)), some (.int v5)] [] := by
  refine zLoop2_w (fun (v5 : Int32) (w0 : zT) => ZZ p l e rmX5_copyEndOf s m args below meth c D A 6 0 0 (MQ below (ZQ D A (fun _ : zT => none) (fun u : zT => [(wS cI gt u), (wS cI go o)]) (fun u : zT => Q u)) args s rmX5_copyEndOf.cells rmX5_copyEndOf.slots A) [(wS cI gt w0), (wS cI go o)] 32 [some (.ref (gt 0)), none, some (.int p2), some (.int v3), some (.ref ((gE gt (ixE s24_0)) 0)), some (.int v5)] []) ?_ _ _ hw
  clear hw
  intro K32 hK32 v5 w0 hw
  unfold lb_X5_copyEndOf_32 at hw
  refine z_iload C dX5_copyEndOf_32 rfl ?_
  refine z_bipush C dX5_copyEndOf_34 6 (by decide) ?_
  refine z_icmp_gt C dX5_copyEndOf_36 81 (by decide) (fun c7 => ?_) (fun c7 => ?_)
  · replace hw := hw.1 c7
    refine z_iinc C dX5_copyEndOf_81 rfl (v3 + 1) (by rfl) [some (.ref (gt 0)), none, some (.int p2), some (.int (v3 + 1)), some (.ref ((gE gt (ixE s24_0)) 0)), some (.int v5)] (by decide) rfl ?_
    refine z_goto C dX5_copyEndOf_84 7 (by decide) ?_
    refine z_ls C [true, false, true, true, false, false] [some (.ref (gt 0)), none, some (.int p2), some (.int (v3 + 1)), none, none] rfl ?_
    exact hK7 _ _ hw
  · replace hw := hw.2 c7
    refine z_aload C dX5_copyEndOf_39 rfl ?_
    refine z_aload_n C dX5_copyEndOf_41 rfl ?_
    refine z_get C inlX5 rfl 3 (by decide) mw_2_16 dX5_copyEndOf_42 0 0 rfl rfl rfl ?_
    refine z_focus 0 (ixE_lt _) [(wF cI gt w0 (ixE s24_0) (tEd w0 (ixE s24_0))), (wS cI go o)] rfl rfl ?_
    refine z_open 0 [(wSo gt), (wE cI (gE gt (ixE s24_0)) (tEd w0 (ixE s24_0))), (wN cI (gt 22) (gt 23) (tLog w0)), (wN cI (gt 24) (gt 25) (tText w0)), (wN cI (gt 26) (gt 27) (tWrs w0)), (wR cI gt w0 (ixE s24_0))] [(wSo gt), (wE cI (gE gt (ixE s24_0)) (tEd w0 (ixE s24_0))), (wN cI (gt 22) (gt 23) (tLog w0)), (wN cI (gt 24) (gt 25) (tText w0)), (wN cI (gt 26) (gt 27) (tWrs w0)), (wR cI gt w0 (ixE s24_0)), (wS cI go o)] rfl rfl rfl ?_
    refine z_callFV C [(wE cI (gE gt (ixE s24_0)) (tEd w0 (ixE s24_0))), (wN cI (gt 22) (gt 23) (tLog w0))] [(wSo gt), (wN cI (gt 24) (gt 25) (tText w0)), (wN cI (gt 26) (gt 27) (tWrs w0)), (wR cI gt w0 (ixE s24_0)), (wS cI go o)] rfl rfl (met_X2_isSettled l D cI (gE gt (ixE s24_0)) (gt 22) (gt 23) (tEd w0 (ixE s24_0)) (tLog w0)) y_X2_isSettled mw_22_8 dX5_copyEndOf_45 rfl n_X2_isSettled rfl (by decide) ⟨rfl, rfl, Nat.le_of_ble_eq_true rfl, Nat.le_of_ble_eq_true rfl⟩ (Nat.le_of_ble_eq_true rfl) (z_pm [1, 2, 0, 3, 4, 5, 6] 7 rfl (by decide) rfl) ?_
    refine z_shut 0 [(wSo gt), (wE cI (gE gt (ixE s24_0)) (tEd w0 (ixE s24_0))), (wN cI (gt 22) (gt 23) (tLog w0)), (wN cI (gt 24) (gt 25) (tText w0)), (wN cI (gt 26) (gt 27) (tWrs w0)), (wR cI gt w0 (ixE s24_0))] [(wF cI gt w0 (ixE s24_0) (tEd w0 (ixE s24_0))), (wS cI go o)] rfl rfl rfl ?_
    refine z_if_ne C dX5_copyEndOf_48 81 (by decide) (fun c8 => ?_) (fun c8 => ?_)
    · replace hw := hw.1 c8
      refine z_iinc C dX5_copyEndOf_81 rfl (v3 + 1) (by rfl) [some (.ref (gt 0)), none, some (.int p2), some (.int (v3 + 1)), some (.ref ((gE gt (ixE s24_0)) 0)), some (.int v5)] (by decide) rfl ?_
      refine z_goto C dX5_copyEndOf_84 7 (by decide) ?_
      refine z_unfocus 0 (ixE_lt _) w0 [(wS cI gt w0), (wS cI go o)] (tSetEd_same _ _) rfl rfl ?_
      refine z_ls C [true, false, true, true, false, false] [some (.ref (gt 0)), none, some (.int p2), some (.int (v3 + 1)), none, none] rfl ?_
      exact hK7 _ _ hw
    · replace hw := hw.2 c8
      refine z_aload C dX5_copyEndOf_51 rfl ?_
      refine z_open 0 [(wSo gt), (wE cI (gE gt (ixE s24_0)) (tEd w0 (ixE s24_0))), (wN cI (gt 22) (gt 23) (tLog w0)), (wN cI (gt 24) (gt 25) (tText w0)), (wN cI (gt 26) (gt 27) (tWrs w0)), (wR cI gt w0 (ixE s24_0))] [(wSo gt), (wE cI (gE gt (ixE s24_0)) (tEd w0 (ixE s24_0))), (wN cI (gt 22) (gt 23) (tLog w0)), (wN cI (gt 24) (gt 25) (tText w0)), (wN cI (gt 26) (gt 27) (tWrs w0)), (wR cI gt w0 (ixE s24_0)), (wS cI go o)] rfl rfl rfl ?_
      refine z_callFV C [(wE cI (gE gt (ixE s24_0)) (tEd w0 (ixE s24_0)))] [(wSo gt), (wN cI (gt 22) (gt 23) (tLog w0)), (wN cI (gt 24) (gt 25) (tText w0)), (wN cI (gt 26) (gt 27) (tWrs w0)), (wR cI gt w0 (ixE s24_0)), (wS cI go o)] rfl rfl (met_X2_canSend l D cI (gE gt (ixE s24_0)) (tEd w0 (ixE s24_0))) y_X2_canSend mw_9_18 dX5_copyEndOf_53 rfl n_X2_canSend rfl (by decide) ⟨rfl, rfl, Nat.le_of_ble_eq_true rfl, Nat.le_of_ble_eq_true rfl⟩ (Nat.le_of_ble_eq_true rfl) (z_pm [1, 0, 2, 3, 4, 5, 6] 7 rfl (by decide) rfl) ?_
      refine z_shut 0 [(wSo gt), (wE cI (gE gt (ixE s24_0)) (tEd w0 (ixE s24_0))), (wN cI (gt 22) (gt 23) (tLog w0)), (wN cI (gt 24) (gt 25) (tText w0)), (wN cI (gt 26) (gt 27) (tWrs w0)), (wR cI gt w0 (ixE s24_0))] [(wF cI gt w0 (ixE s24_0) (tEd w0 (ixE s24_0))), (wS cI go o)] rfl rfl rfl ?_
      refine z_if_eq C dX5_copyEndOf_56 65 (by decide) (fun c9 => ?_) (fun c9 => ?_)
      · replace hw := hw.1 c9
        refine z_aload C dX5_copyEndOf_65 rfl ?_
        refine z_aload_n C dX5_copyEndOf_67 rfl ?_
        refine z_get C inlX5 rfl 3 (by decide) mw_2_16 dX5_copyEndOf_68 0 0 rfl rfl rfl ?_
        refine z_open 0 [(wSo gt), (wE cI (gE gt (ixE s24_0)) (tEd w0 (ixE s24_0))), (wN cI (gt 22) (gt 23) (tLog w0)), (wN cI (gt 24) (gt 25) (tText w0)), (wN cI (gt 26) (gt 27) (tWrs w0)), (wR cI gt w0 (ixE s24_0))] [(wSo gt), (wE cI (gE gt (ixE s24_0)) (tEd w0 (ixE s24_0))), (wN cI (gt 22) (gt 23) (tLog w0)), (wN cI (gt 24) (gt 25) (tText w0)), (wN cI (gt 26) (gt 27) (tWrs w0)), (wR cI gt w0 (ixE s24_0)), (wS cI go o)] rfl rfl rfl ?_
        refine z_callV0 C [(wE cI (gE gt (ixE s24_0)) (tEd w0 (ixE s24_0))), (wN cI (gt 22) (gt 23) (tLog w0))] [(wSo gt), (wN cI (gt 24) (gt 25) (tText w0)), (wN cI (gt 26) (gt 27) (tWrs w0)), (wR cI gt w0 (ixE s24_0)), (wS cI go o)] rfl rfl (met_X2_hearRest l D cI (gE gt (ixE s24_0)) (gt 22) (gt 23) (tEd w0 (ixE s24_0)) (tLog w0) _ hw) y_X2_hearRest mw_11_4 dX5_copyEndOf_71 rfl n_X2_hearRest rfl (by decide) ⟨rfl, rfl, Nat.le_of_ble_eq_true rfl, Nat.le_of_ble_eq_true rfl⟩ (Nat.le_of_ble_eq_true rfl) (z_pm [1, 2, 0, 3, 4, 5, 6] 7 rfl (by decide) rfl) ?_
        intro ⟨r10, u11⟩ hw
        try dsimp only at hw
        refine z_bs [(wE cI (gE gt (ixE s24_0)) u11), (wN cI (gt 22) (gt 23) (tLog w0)), (wSo gt), (wN cI (gt 24) (gt 25) (tText w0)), (wN cI (gt 26) (gt 27) (tWrs w0)), (wR cI gt w0 (ixE s24_0)), (wS cI go o)] [.int r10] rfl rfl ?_
        refine z_perm C [(wSo gt), (wE cI (gE gt (ixE s24_0)) u11), (wN cI (gt 22) (gt 23) (tLog w0)), (wN cI (gt 24) (gt 25) (tText w0)), (wN cI (gt 26) (gt 27) (tWrs w0)), (wR cI gt w0 (ixE s24_0)), (wS cI go o)] (z_pm [2, 0, 1, 3, 4, 5, 6] 7 rfl (by decide) rfl) ?_
        refine z_shut 0 [(wSo gt), (wE cI (gE gt (ixE s24_0)) u11), (wN cI (gt 22) (gt 23) (tLog w0)), (wN cI (gt 24) (gt 25) (tText w0)), (wN cI (gt 26) (gt 27) (tWrs w0)), (wR cI gt w0 (ixE s24_0))] [(wF cI gt w0 (ixE s24_0) u11), (wS cI go o)] rfl rfl rfl ?_
        refine z_pop C dX5_copyEndOf_74 rfl ?_
        refine z_iinc C dX5_copyEndOf_75 rfl (v5 + 1) (by rfl) [some (.ref (gt 0)), none, some (.int p2), some (.int v3), some (.ref ((gE gt (ixE s24_0)) 0)), some (.int (v5 + 1))] (by decide) rfl ?_
        refine z_goto C dX5_copyEndOf_78 32 (by decide) ?_
        refine z_unfocus 0 (ixE_lt _) (tSetEds w0 (va_up (tEds w0) (ixE s24_0) u11)) [(wS cI gt (tSetEds w0 (va_up (tEds w0) (ixE s24_0) u11))), (wS cI go o)] rfl rfl rfl ?_
        exact hK32 _ _ hw
      · replace hw := hw.2 c9
        refine z_aload_n C dX5_copyEndOf_59 rfl ?_
        refine z_aload C dX5_copyEndOf_60 rfl ?_
        refine z_unfocus 0 (ixE_lt _) w0 [(wS cI gt w0), (wS cI go o)] (tSetEd_same _ _) rfl rfl ?_
        refine z_callV0 C [(wS cI gt w0)] [(wS cI go o)] rfl rfl (met_X5_append l D cI gt (ixE s24_0) w0 (ixE_lt _) _ hw) y_X5_append mw_9_23 dX5_copyEndOf_62 rfl n_X5_append rfl (by decide) ⟨rfl, rfl, Nat.le_of_ble_eq_true rfl, Nat.le_of_ble_eq_true rfl⟩ (Nat.le_of_ble_eq_true rfl) (z_pm [0, 1] 2 rfl (by decide) rfl) ?_
        intro u12 hw
        try dsimp only at hw
        refine z_bs [(wS cI gt u12), (wS cI go o)] [] rfl rfl ?_
        refine z_aload C dX5_copyEndOf_65 rfl ?_
        refine z_aload_n C dX5_copyEndOf_67 rfl ?_
        refine z_get C inlX5 rfl 3 (by decide) mw_2_16 dX5_copyEndOf_68 0 0 rfl rfl rfl ?_
        refine z_focus 0 (ixE_lt _) [(wF cI gt u12 (ixE s24_0) (tEd u12 (ixE s24_0))), (wS cI go o)] rfl rfl ?_
        refine z_open 0 [(wSo gt), (wE cI (gE gt (ixE s24_0)) (tEd u12 (ixE s24_0))), (wN cI (gt 22) (gt 23) (tLog u12)), (wN cI (gt 24) (gt 25) (tText u12)), (wN cI (gt 26) (gt 27) (tWrs u12)), (wR cI gt u12 (ixE s24_0))] [(wSo gt), (wE cI (gE gt (ixE s24_0)) (tEd u12 (ixE s24_0))), (wN cI (gt 22) (gt 23) (tLog u12)), (wN cI (gt 24) (gt 25) (tText u12)), (wN cI (gt 26) (gt 27) (tWrs u12)), (wR cI gt u12 (ixE s24_0)), (wS cI go o)] rfl rfl rfl ?_
        refine z_callV0 C [(wE cI (gE gt (ixE s24_0)) (tEd u12 (ixE s24_0))), (wN cI (gt 22) (gt 23) (tLog u12))] [(wSo gt), (wN cI (gt 24) (gt 25) (tText u12)), (wN cI (gt 26) (gt 27) (tWrs u12)), (wR cI gt u12 (ixE s24_0)), (wS cI go o)] rfl rfl (met_X2_hearRest l D cI (gE gt (ixE s24_0)) (gt 22) (gt 23) (tEd u12 (ixE s24_0)) (tLog u12) _ hw) y_X2_hearRest mw_11_4 dX5_copyEndOf_71 rfl n_X2_hearRest rfl (by decide) ⟨rfl, rfl, Nat.le_of_ble_eq_true rfl, Nat.le_of_ble_eq_true rfl⟩ (Nat.le_of_ble_eq_true rfl) (z_pm [1, 2, 0, 3, 4, 5, 6] 7 rfl (by decide) rfl) ?_
        intro ⟨r13, u14⟩ hw
        try dsimp only at hw
        refine z_bs [(wE cI (gE gt (ixE s24_0)) u14), (wN cI (gt 22) (gt 23) (tLog u12)), (wSo gt), (wN cI (gt 24) (gt 25) (tText u12)), (wN cI (gt 26) (gt 27) (tWrs u12)), (wR cI gt u12 (ixE s24_0)), (wS cI go o)] [.int r13] rfl rfl ?_
        refine z_perm C [(wSo gt), (wE cI (gE gt (ixE s24_0)) u14), (wN cI (gt 22) (gt 23) (tLog u12)), (wN cI (gt 24) (gt 25) (tText u12)), (wN cI (gt 26) (gt 27) (tWrs u12)), (wR cI gt u12 (ixE s24_0)), (wS cI go o)] (z_pm [2, 0, 1, 3, 4, 5, 6] 7 rfl (by decide) rfl) ?_
        refine z_shut 0 [(wSo gt), (wE cI (gE gt (ixE s24_0)) u14), (wN cI (gt 22) (gt 23) (tLog u12)), (wN cI (gt 24) (gt 25) (tText u12)), (wN cI (gt 26) (gt 27) (tWrs u12)), (wR cI gt u12 (ixE s24_0))] [(wF cI gt u12 (ixE s24_0) u14), (wS cI go o)] rfl rfl rfl ?_
        refine z_pop C dX5_copyEndOf_74 rfl ?_
        refine z_iinc C dX5_copyEndOf_75 rfl (v5 + 1) (by rfl) [some (.ref (gt 0)), none, some (.int p2), some (.int v3), some (.ref ((gE gt (ixE s24_0)) 0)), some (.int (v5 + 1))] (by decide) rfl ?_
        refine z_goto C dX5_copyEndOf_78 32 (by decide) ?_
        refine z_unfocus 0 (ixE_lt _) (tSetEds u12 (va_up (tEds u12) (ixE s24_0) u14)) [(wS cI gt (tSetEds u12 (va_up (tEds u12) (ixE s24_0) u14))), (wS cI go o)] rfl rfl rfl ?_
        exact hK32 _ _ hw
def jn_X5_copyEndOf_24 (t : zT) (o : zT) (p2 : Int32) (v3 : Int32) (w0 : zT) (s24_0 : Int32) (Q : zT → Prop) (K7 : (Int32) → (zT) → Prop) : Prop := (zLoop2 (lb_X5_copyEndOf_32 t o p2 v3 s24_0 Q K7) 0 w0)
set_option maxHeartbeats 4000000 in
set_option maxRecDepth 100000 in
theorem wk_X5_copyEndOf_24 {p : Program} {l : Launch} {e : Env} {s : State} {m : MethodId} {args : Array Value} {below : List Frame} {meth : Method} {c : Code} {D : va_G} {cI : ClassId} {A : Nat → Prop} (C : ZC p s m args meth c RX5 cX5_copyEndOf 6 none D cI A) (gt : Nat → Nat) (go : Nat → Nat) (t : zT) (o : zT) (p2 : Int32) (v3 : Int32) (w0 : zT) (s24_0 : Int32) (Q : zT → Prop) (K7 : (Int32) → (zT) → Prop) (hK7 : ∀ (v3 : Int32) (w0 : zT), K7 v3 w0 → ZZ p l e rmX5_copyEndOf s m args below meth c D A 6 0 0 (MQ below (ZQ D A (fun _ : zT => none) (fun u : zT => [(wS cI gt u), (wS cI go o)]) (fun u : zT => Q u)) args s rmX5_copyEndOf.cells rmX5_copyEndOf.slots A) [(wS cI gt w0), (wS cI go o)] 7 [some (.ref (gt 0)), none, some (.int p2), some (.int v3), none, none] []) (hw : jn_X5_copyEndOf_24 t o p2 v3 w0 s24_0 Q K7) : ZZ p l e rmX5_copyEndOf s m args below meth c D A 6 0 0 (MQ below (ZQ D A (fun _ : zT => none) (fun u : zT => [(wS cI gt u), (wS cI go o)]) (fun u : zT => Q u)) args s rmX5_copyEndOf.cells rmX5_copyEndOf.slots A) [(wS cI gt w0), (wS cI go o)] 24 [some (.ref (gt 0)), none, some (.int p2), some (.int v3), none, none] [.int s24_0, .ref (gt 0)] := by
  unfold jn_X5_copyEndOf_24 at hw
  refine z_callFV C [(wS cI gt w0)] [(wS cI go o)] rfl rfl (met_X5_editor l D cI gt w0 s24_0) y_X5_editor mw_6_13 dX5_copyEndOf_24 rfl n_X5_editor rfl (by decide) ⟨rfl, rfl, Nat.le_of_ble_eq_true rfl, Nat.le_of_ble_eq_true rfl⟩ (Nat.le_of_ble_eq_true rfl) (z_pm [0, 1] 2 rfl (by decide) rfl) ?_
  refine z_astore C dX5_copyEndOf_27 [some (.ref (gt 0)), none, some (.int p2), some (.int v3), some (.ref ((gE gt (ixE s24_0)) 0)), none] (by decide) rfl ?_
  refine z_iconst C dX5_copyEndOf_29 0 (by decide) ?_
  refine z_istore C dX5_copyEndOf_30 [some (.ref (gt 0)), none, some (.int p2), some (.int v3), some (.ref ((gE gt (ixE s24_0)) 0)), some (.int 0)] (by decide) rfl ?_
  exact wk_X5_copyEndOf_32 C gt go t o p2 v3 s24_0 0 w0 _ K7 hK7 hw
def lb_X5_copyEndOf_7 (t : zT) (o : zT) (p2 : Int32)   (Q : zT → Prop)  (K7 : (Int32) → (zT) → Prop) (v3 : Int32) (w0 : zT) : Prop := ((3 ≤ v3 → (zLoop2 (lb_X5_copyEndOf_89 t o p2   Q ) 0 w0)) ∧ (¬ 3 ≤ v3 → ((p2 = 0 → (jn_X5_copyEndOf_24 t o p2 v3 w0 v3 Q K7)) ∧ (¬ p2 = 0 → (jn_X5_copyEndOf_24 t o p2 v3 w0 (2 - v3) Q K7)))))
set_option maxHeartbeats 4000000 in
set_option maxRecDepth 100000 in
theorem wk_X5_copyEndOf_7 {p : Program} {l : Launch} {e : Env} {s : State} {m : MethodId} {args : Array Value} {below : List Frame} {meth : Method} {c : Code} {D : va_G} {cI : ClassId} {A : Nat → Prop} (C : ZC p s m args meth c RX5 cX5_copyEndOf 6 none D cI A) (gt : Nat → Nat) (go : Nat → Nat) (t : zT) (o : zT) (p2 : Int32)   (v3 : Int32) (w0 : zT) (Q : zT → Prop)  (hw : zLoop2 (lb_X5_copyEndOf_7 t o p2   Q ) v3 w0) : ZZ p l e rmX5_copyEndOf s m args below meth c D A 6 0 0 (MQ below (ZQ D A (fun _ : zT => none) (fun u : zT => [(wS cI gt u), (wS cI go o)]) (fun u : zT => Q u)) args s rmX5_copyEndOf.cells rmX5_copyEndOf.slots A) [(wS cI gt w0), (wS cI go o)] 7 [some (.ref (gt 0)), none, some (.int p2), some (.int v3), none, none] [] := by
  refine zLoop2_w (fun (v3 : Int32) (w0 : zT) => ZZ p l e rmX5_copyEndOf s m args below meth c D A 6 0 0 (MQ below (ZQ D A (fun _ : zT => none) (fun u : zT => [(wS cI gt u), (wS cI go o)]) (fun u : zT => Q u)) args s rmX5_copyEndOf.cells rmX5_copyEndOf.slots A) [(wS cI gt w0), (wS cI go o)] 7 [some (.ref (gt 0)), none, some (.int p2), some (.int v3), none, none] []) ?_ _ _ hw
  clear hw
  intro K7 hK7 v3 w0 hw
  unfold lb_X5_copyEndOf_7 at hw
  refine z_iload_n C dX5_copyEndOf_7 rfl ?_
  refine z_iconst C dX5_copyEndOf_8 3 (by decide) ?_
  refine z_icmp_ge C dX5_copyEndOf_9 87 (by decide) (fun c2 => ?_) (fun c2 => ?_)
  · replace hw := hw.1 c2
    refine z_iconst C dX5_copyEndOf_87 0 (by decide) ?_
    refine z_istore_n C dX5_copyEndOf_88 [some (.ref (gt 0)), none, some (.int p2), some (.int 0), none, none] (by decide) rfl ?_
    refine z_ls C [true, false, false, true, false, false] [some (.ref (gt 0)), none, none, some (.int 0), none, none] rfl ?_
    exact wk_X5_copyEndOf_89 C gt go t o p2   0 w0 _  hw
  · replace hw := hw.2 c2
    refine z_aload_n C dX5_copyEndOf_12 rfl ?_
    refine z_iload_n C dX5_copyEndOf_13 rfl ?_
    refine z_if_eq C dX5_copyEndOf_14 23 (by decide) (fun c6 => ?_) (fun c6 => ?_)
    · replace hw := hw.1 c6
      refine z_iload_n C dX5_copyEndOf_23 rfl ?_
      exact wk_X5_copyEndOf_24 C gt go t o p2 v3 w0 v3 _ K7 hK7 hw
    · replace hw := hw.2 c6
      refine z_iconst C dX5_copyEndOf_17 2 (by decide) ?_
      refine z_iload_n C dX5_copyEndOf_18 rfl ?_
      refine z_isub C dX5_copyEndOf_19 ?_
      refine z_goto C dX5_copyEndOf_20 24 (by decide) ?_
      exact wk_X5_copyEndOf_24 C gt go t o p2 v3 w0 (2 - v3) _ K7 hK7 hw
def wp_X5_copyEndOf (t : zT) (o : zT) (p2 : Int32) (Q : zT → Prop) : Prop := (wp_X5_copyState t o (fun u1 => (zLoop2 (lb_X5_copyEndOf_7 t o p2   Q ) 0 u1)))
set_option maxHeartbeats 4000000 in
set_option maxRecDepth 100000 in
theorem met_X5_copyEndOf (l : Launch) (D : va_G) (cI : ClassId) (gt : Nat → Nat) (go : Nat → Nat) (t : zT) (o : zT) (p2 : Int32) (Q : zT → Prop) (hw : wp_X5_copyEndOf t o p2 Q) : ZM l D cI yX5_copyEndOf cX5_copyEndOf 6 none rmX5_copyEndOf [.ref (gt 0), .ref (go 0), .int p2] [(wS cI gt t), (wS cI go o)] (fun _ : zT => none) (fun u : zT => [(wS cI gt u), (wS cI go o)]) (fun u : zT => Q u) := by
  refine z_body [some (.ref (gt 0)), some (.ref (go 0)), some (.int p2), none, none, none] (by decide +kernel) rfl (Nat.le_of_ble_eq_true rfl) rfl ?_
  intro p e s m args below meth c A C hin
  unfold wp_X5_copyEndOf at hw
  refine z_aload_n C dX5_copyEndOf_0 rfl ?_
  refine z_aload_n C dX5_copyEndOf_1 rfl ?_
  refine z_callV0 C [(wS cI gt t), (wS cI go o)] [] rfl rfl (met_X5_copyState l D cI gt go t o _ hw) y_X5_copyState mw_23_5 dX5_copyEndOf_2 rfl n_X5_copyState rfl (by decide) ⟨rfl, rfl, Nat.le_of_ble_eq_true rfl, Nat.le_of_ble_eq_true rfl⟩ (Nat.le_of_ble_eq_true rfl) (z_pm [0, 1] 2 rfl (by decide) rfl) ?_
  intro u1 hw
  try dsimp only at hw
  refine z_bs [(wS cI gt u1), (wS cI go o)] [] rfl rfl ?_
  refine z_iconst C dX5_copyEndOf_5 0 (by decide) ?_
  refine z_istore_n C dX5_copyEndOf_6 [some (.ref (gt 0)), some (.ref (go 0)), some (.int p2), some (.int 0), none, none] (by decide) rfl ?_
  refine z_ls C [true, false, true, true, false, false] [some (.ref (gt 0)), none, some (.int p2), some (.int 0), none, none] rfl ?_
  exact wk_X5_copyEndOf_7 C gt go t o p2   0 u1 _  hw
def rmX3_prepare : Room := { frames := 4, cells := 0, slots := 0, locals := 89 }
def wp_X3_prepare (hs : Int32) (t : zT) (o : zT)  (Q : zT → Prop) : Prop := (wp_X5_copyState t o (fun u1 => (Q u1)))
set_option maxHeartbeats 4000000 in
set_option maxRecDepth 100000 in
theorem met_X3_prepare (l : Launch) (D : va_G) (cI : ClassId) (ah : Nat) (h0 : Nat) (h1 : Nat) (h2 : Nat) (h3 : Nat) (h4 : Nat) (gt : Nat → Nat) (go : Nat → Nat) (hs : Int32) (t : zT) (o : zT)  (Q : zT → Prop) (hw : wp_X3_prepare hs t o Q) : ZM l D cI yX3_prepare cX3_prepare 2 none rmX3_prepare [.ref ah, .ref (go 0)] [(wHo ah h0 h1 h2 h3 (gt 0) hs), (wS cI gt t), (wS cI go o)] (fun _ : zT => none) (fun u : zT => [(wHo ah h0 h1 h2 h3 (gt 0) hs), (wS cI gt u), (wS cI go o)]) (fun u : zT => Q u) := by
  refine z_body [some (.ref ah), some (.ref (go 0))] (by decide +kernel) rfl (Nat.le_of_ble_eq_true rfl) rfl ?_
  intro p e s m args below meth c A C hin
  unfold wp_X3_prepare at hw
  refine z_aload_n C dX3_prepare_0 rfl ?_
  refine z_get C inlX3 rfl 4 (by decide) mw_4_1 dX3_prepare_1 0 0 rfl rfl rfl ?_
  refine z_aload_n C dX3_prepare_4 rfl ?_
  refine z_callV0 C [(wS cI gt t), (wS cI go o)] [(wHo ah h0 h1 h2 h3 (gt 0) hs)] rfl rfl (met_X5_copyState l D cI gt go t o _ hw) y_X5_copyState mw_5_11 dX3_prepare_5 rfl n_X5_copyState rfl (by decide) ⟨rfl, rfl, Nat.le_of_ble_eq_true rfl, Nat.le_of_ble_eq_true rfl⟩ (Nat.le_of_ble_eq_true rfl) (z_pm [1, 2, 0] 3 rfl (by decide) rfl) ?_
  intro u1 hw
  try dsimp only at hw
  refine z_bs [(wS cI gt u1), (wS cI go o), (wHo ah h0 h1 h2 h3 (gt 0) hs)] [] rfl rfl ?_
  refine z_perm C [(wHo ah h0 h1 h2 h3 (gt 0) hs), (wS cI gt u1), (wS cI go o)] (z_pm [2, 0, 1] 3 rfl (by decide) rfl) ?_
  exact z_vret C rfl (u1) rfl hw rfl dX3_prepare_8
def rmX3_keep : Room := { frames := 1, cells := 0, slots := 0, locals := 24 }
def wp_X3_keep (hs : Int32)  (Q : Int32 → Prop) : Prop := (Q (if 4 < (hs + 1) then 4 else (hs + 1)))
set_option maxHeartbeats 4000000 in
set_option maxRecDepth 100000 in
theorem met_X3_keep (l : Launch) (D : va_G) (cI : ClassId) (ah : Nat) (h0 : Nat) (h1 : Nat) (h2 : Nat) (h3 : Nat) (h4 : Nat) (hs : Int32)  (Q : Int32 → Prop) (hw : wp_X3_keep hs Q) : ZM l D cI yX3_keep cX3_keep 2 none rmX3_keep [.ref ah] [(wHo ah h0 h1 h2 h3 h4 hs)] (fun _ : Int32 => none) (fun u : Int32 => [(wHo ah h4 h0 h1 h2 h3 u)]) (fun u : Int32 => Q u) := by
  refine z_body [some (.ref ah), none] (by decide +kernel) rfl (Nat.le_of_ble_eq_true rfl) rfl ?_
  intro p e s m args below meth c A C hin
  unfold wp_X3_keep at hw
  refine z_aload_n C dX3_keep_0 rfl ?_
  refine z_get C inlX3 rfl 3 (by decide) mw_4_0 dX3_keep_1 0 0 rfl rfl rfl ?_
  refine z_astore_n C dX3_keep_4 [some (.ref ah), some (.ref h3)] (by decide) rfl ?_
  refine z_aload_n C dX3_keep_5 rfl ?_
  refine z_aload_n C dX3_keep_6 rfl ?_
  refine z_get C inlX3 rfl 2 (by decide) mw_3_23 dX3_keep_7 0 0 rfl rfl rfl ?_
  refine z_put C inlX3 rfl tyX3 tyX3_ok nmX3 3 (by decide) mw_4_0 rfl rfl rfl rfl dX3_keep_10 0 0 rfl rfl (Nat.le_of_ble_eq_true rfl) [(wHo ah h0 h1 h2 h2 h4 hs)] rfl ?_
  refine z_aload_n C dX3_keep_13 rfl ?_
  refine z_aload_n C dX3_keep_14 rfl ?_
  refine z_get C inlX3 rfl 1 (by decide) mw_3_22 dX3_keep_15 0 0 rfl rfl rfl ?_
  refine z_put C inlX3 rfl tyX3 tyX3_ok nmX3 2 (by decide) mw_3_23 rfl rfl rfl rfl dX3_keep_18 0 0 rfl rfl (Nat.le_of_ble_eq_true rfl) [(wHo ah h0 h1 h1 h2 h4 hs)] rfl ?_
  refine z_aload_n C dX3_keep_21 rfl ?_
  refine z_aload_n C dX3_keep_22 rfl ?_
  refine z_get C inlX3 rfl 0 (by decide) mw_3_21 dX3_keep_23 0 0 rfl rfl rfl ?_
  refine z_put C inlX3 rfl tyX3 tyX3_ok nmX3 1 (by decide) mw_3_22 rfl rfl rfl rfl dX3_keep_26 0 0 rfl rfl (Nat.le_of_ble_eq_true rfl) [(wHo ah h0 h0 h1 h2 h4 hs)] rfl ?_
  refine z_aload_n C dX3_keep_29 rfl ?_
  refine z_aload_n C dX3_keep_30 rfl ?_
  refine z_get C inlX3 rfl 4 (by decide) mw_4_1 dX3_keep_31 0 0 rfl rfl rfl ?_
  refine z_put C inlX3 rfl tyX3 tyX3_ok nmX3 0 (by decide) mw_3_21 rfl rfl rfl rfl dX3_keep_34 0 0 rfl rfl (Nat.le_of_ble_eq_true rfl) [(wHo ah h4 h0 h1 h2 h4 hs)] rfl ?_
  refine z_aload_n C dX3_keep_37 rfl ?_
  refine z_aload_n C dX3_keep_38 rfl ?_
  refine z_put C inlX3 rfl tyX3 tyX3_ok nmX3 4 (by decide) mw_4_1 rfl rfl rfl rfl dX3_keep_39 0 0 rfl rfl (Nat.le_of_ble_eq_true rfl) [(wHo ah h4 h0 h1 h2 h3 hs)] rfl ?_
  refine z_aload_n C dX3_keep_42 rfl ?_
  refine z_aload_n C dX3_keep_43 rfl ?_
  refine z_get C inlX3 rfl 5 (by decide) mw_11_13 dX3_keep_44 0 0 rfl rfl rfl ?_
  refine z_iconst C dX3_keep_47 1 (by decide) ?_
  refine z_iadd C dX3_keep_48 ?_
  refine z_iconst C dX3_keep_49 4 (by decide) ?_
  refine z_mmin C mw_11_14 mw_6_4 mw_3_10 mw_6_5 (Nat.le_of_ble_eq_true rfl) (Nat.le_of_ble_eq_true rfl) ⟨Nat.le_of_ble_eq_true rfl, Nat.le_of_ble_eq_true rfl⟩ dX3_keep_50 ?_
  refine z_put C inlX3 rfl tyX3 tyX3_ok nmX3 5 (by decide) mw_11_13 rfl rfl rfl rfl dX3_keep_53 0 0 rfl rfl (Nat.le_of_ble_eq_true rfl) [(wHo ah h4 h0 h1 h2 h3 (if 4 < (hs + 1) then 4 else (hs + 1)))] rfl ?_
  exact z_vret C rfl ((if 4 < (hs + 1) then 4 else (hs + 1))) rfl hw rfl dX3_keep_56
def rmX3_restore : Room := { frames := 4, cells := 0, slots := 0, locals := 89 }
def wp_X3_restore (hs : Int32) (t : zT) (o : zT)  (Q : Int32 → zT → Prop) : Prop := (wp_X5_copyState o t (fun u1 => (Q (if (hs - 1) < 0 then 0 else (hs - 1)) u1)))
set_option maxHeartbeats 4000000 in
set_option maxRecDepth 100000 in
theorem met_X3_restore (l : Launch) (D : va_G) (cI : ClassId) (ah : Nat) (h0 : Nat) (h1 : Nat) (h2 : Nat) (h3 : Nat) (h4 : Nat) (gt : Nat → Nat) (go : Nat → Nat) (hs : Int32) (t : zT) (o : zT)  (Q : Int32 → zT → Prop) (hw : wp_X3_restore hs t o Q) : ZM l D cI yX3_restore cX3_restore 3 none rmX3_restore [.ref ah, .ref (go 0)] [(wHo ah (gt 0) h1 h2 h3 h4 hs), (wS cI gt t), (wS cI go o)] (fun _ : Int32 × zT => none) (fun u : Int32 × zT => [(wHo ah h1 h2 h3 (gt 0) h4 u.1), (wS cI gt t), (wS cI go (u.2))]) (fun u : Int32 × zT => Q u.1 u.2) := by
  refine z_body [some (.ref ah), some (.ref (go 0)), none] (by decide +kernel) rfl (Nat.le_of_ble_eq_true rfl) rfl ?_
  intro p e s m args below meth c A C hin
  unfold wp_X3_restore at hw
  refine z_aload_n C dX3_restore_0 rfl ?_
  refine z_get C inlX3 rfl 0 (by decide) mw_3_21 dX3_restore_1 0 0 rfl rfl rfl ?_
  refine z_astore_n C dX3_restore_4 [some (.ref ah), some (.ref (go 0)), some (.ref (gt 0))] (by decide) rfl ?_
  refine z_aload_n C dX3_restore_5 rfl ?_
  refine z_aload_n C dX3_restore_6 rfl ?_
  refine z_callV0 C [(wS cI go o), (wS cI gt t)] [(wHo ah (gt 0) h1 h2 h3 h4 hs)] rfl rfl (met_X5_copyState l D cI go gt o t _ hw) y_X5_copyState mw_5_11 dX3_restore_7 rfl n_X5_copyState rfl (by decide) ⟨rfl, rfl, Nat.le_of_ble_eq_true rfl, Nat.le_of_ble_eq_true rfl⟩ (Nat.le_of_ble_eq_true rfl) (z_pm [2, 1, 0] 3 rfl (by decide) rfl) ?_
  intro u1 hw
  try dsimp only at hw
  refine z_bs [(wS cI go u1), (wS cI gt t), (wHo ah (gt 0) h1 h2 h3 h4 hs)] [] rfl rfl ?_
  refine z_perm C [(wHo ah (gt 0) h1 h2 h3 h4 hs), (wS cI gt t), (wS cI go u1)] (z_pm [2, 1, 0] 3 rfl (by decide) rfl) ?_
  refine z_aload_n C dX3_restore_10 rfl ?_
  refine z_aload_n C dX3_restore_11 rfl ?_
  refine z_get C inlX3 rfl 1 (by decide) mw_3_22 dX3_restore_12 0 0 rfl rfl rfl ?_
  refine z_put C inlX3 rfl tyX3 tyX3_ok nmX3 0 (by decide) mw_3_21 rfl rfl rfl rfl dX3_restore_15 0 0 rfl rfl (Nat.le_of_ble_eq_true rfl) [(wHo ah h1 h1 h2 h3 h4 hs), (wS cI gt t), (wS cI go u1)] rfl ?_
  refine z_aload_n C dX3_restore_18 rfl ?_
  refine z_aload_n C dX3_restore_19 rfl ?_
  refine z_get C inlX3 rfl 2 (by decide) mw_3_23 dX3_restore_20 0 0 rfl rfl rfl ?_
  refine z_put C inlX3 rfl tyX3 tyX3_ok nmX3 1 (by decide) mw_3_22 rfl rfl rfl rfl dX3_restore_23 0 0 rfl rfl (Nat.le_of_ble_eq_true rfl) [(wHo ah h1 h2 h2 h3 h4 hs), (wS cI gt t), (wS cI go u1)] rfl ?_
  refine z_aload_n C dX3_restore_26 rfl ?_
  refine z_aload_n C dX3_restore_27 rfl ?_
  refine z_get C inlX3 rfl 3 (by decide) mw_4_0 dX3_restore_28 0 0 rfl rfl rfl ?_
  refine z_put C inlX3 rfl tyX3 tyX3_ok nmX3 2 (by decide) mw_3_23 rfl rfl rfl rfl dX3_restore_31 0 0 rfl rfl (Nat.le_of_ble_eq_true rfl) [(wHo ah h1 h2 h3 h3 h4 hs), (wS cI gt t), (wS cI go u1)] rfl ?_
  refine z_aload_n C dX3_restore_34 rfl ?_
  refine z_aload_n C dX3_restore_35 rfl ?_
  refine z_put C inlX3 rfl tyX3 tyX3_ok nmX3 3 (by decide) mw_4_0 rfl rfl rfl rfl dX3_restore_36 0 0 rfl rfl (Nat.le_of_ble_eq_true rfl) [(wHo ah h1 h2 h3 (gt 0) h4 hs), (wS cI gt t), (wS cI go u1)] rfl ?_
  refine z_aload_n C dX3_restore_39 rfl ?_
  refine z_aload_n C dX3_restore_40 rfl ?_
  refine z_get C inlX3 rfl 5 (by decide) mw_11_13 dX3_restore_41 0 0 rfl rfl rfl ?_
  refine z_iconst C dX3_restore_44 1 (by decide) ?_
  refine z_isub C dX3_restore_45 ?_
  refine z_iconst C dX3_restore_46 0 (by decide) ?_
  refine z_mmax C mw_25_6 mw_3_9 mw_3_10 mw_3_11 (Nat.le_of_ble_eq_true rfl) (Nat.le_of_ble_eq_true rfl) ⟨Nat.le_of_ble_eq_true rfl, Nat.le_of_ble_eq_true rfl⟩ dX3_restore_47 ?_
  refine z_put C inlX3 rfl tyX3 tyX3_ok nmX3 5 (by decide) mw_11_13 rfl rfl rfl rfl dX3_restore_50 0 0 rfl rfl (Nat.le_of_ble_eq_true rfl) [(wHo ah h1 h2 h3 (gt 0) h4 (if (hs - 1) < 0 then 0 else (hs - 1))), (wS cI gt t), (wS cI go u1)] rfl ?_
  exact z_vret C rfl ((if (hs - 1) < 0 then 0 else (hs - 1)), u1) rfl hw rfl dX3_restore_53
def rmX1_numbersOf : Room := { frames := 0, cells := 0, slots := 0, locals := 0 }
def f_X1_numbersOf  (p1 : Int32) : Int32 := (if p1 = 98 then 1 else (if p1 = 100 then 2 else (if p1 = 104 then 1 else (if p1 = 105 then 3 else (if p1 = 115 then 1 else 0)))))
set_option maxHeartbeats 4000000 in
set_option maxRecDepth 100000 in
theorem met_X1_numbersOf (l : Launch) (D : va_G) (cI : ClassId)   (p1 : Int32) : ZM l D cI yX1_numbersOf cX1_numbersOf 1 (some .int) rmX1_numbersOf [.int p1] [] (fun _ : Unit => some (.int (f_X1_numbersOf p1))) (fun _ : Unit => []) (fun _ : Unit => True) := by
  refine z_body [some (.int p1)] (by decide +kernel) rfl (Nat.le_of_ble_eq_true rfl) rfl ?_
  intro p e s m args below meth c A C hin
  refine z_iload_n C dX1_numbersOf_0 rfl ?_
  by_cases c1 : p1 = 98
  · refine z_lookupAt C dX1_numbersOf_1 (by decide) 98 c1 55 (by decide) 56 (by decide) ?_
    refine z_iconst C dX1_numbersOf_56 1 (by decide) ?_
    exact z_iret C rfl () (by rw [f_X1_numbersOf, if_pos c1]) trivial rfl dX1_numbersOf_57
  by_cases c2 : p1 = 100
  · refine z_lookupAt C dX1_numbersOf_1 (by decide) 100 c2 53 (by decide) 54 (by decide) ?_
    refine z_iconst C dX1_numbersOf_54 2 (by decide) ?_
    exact z_iret C rfl () (by rw [f_X1_numbersOf, if_neg c1, if_pos c2]) trivial rfl dX1_numbersOf_55
  by_cases c3 : p1 = 104
  · refine z_lookupAt C dX1_numbersOf_1 (by decide) 104 c3 55 (by decide) 56 (by decide) ?_
    refine z_iconst C dX1_numbersOf_56 1 (by decide) ?_
    exact z_iret C rfl () (by rw [f_X1_numbersOf, if_neg c1, if_neg c2, if_pos c3]) trivial rfl dX1_numbersOf_57
  by_cases c4 : p1 = 105
  · refine z_lookupAt C dX1_numbersOf_1 (by decide) 105 c4 51 (by decide) 52 (by decide) ?_
    refine z_iconst C dX1_numbersOf_52 3 (by decide) ?_
    exact z_iret C rfl () (by rw [f_X1_numbersOf, if_neg c1, if_neg c2, if_neg c3, if_pos c4]) trivial rfl dX1_numbersOf_53
  by_cases c5 : p1 = 115
  · refine z_lookupAt C dX1_numbersOf_1 (by decide) 115 c5 55 (by decide) 56 (by decide) ?_
    refine z_iconst C dX1_numbersOf_56 1 (by decide) ?_
    exact z_iret C rfl () (by rw [f_X1_numbersOf, if_neg c1, if_neg c2, if_neg c3, if_neg c4, if_pos c5]) trivial rfl dX1_numbersOf_57
  refine z_lookup C dX1_numbersOf_1 (by decide) 57 ((lv_osw c1 rfl).trans ((lv_osw c2 rfl).trans ((lv_osw c3 rfl).trans ((lv_osw c4 rfl).trans ((lv_osw c5 rfl).trans rfl))))) 58 (by decide) ?_
  refine z_iconst C dX1_numbersOf_58 0 (by decide) ?_
  exact z_iret C rfl () (by rw [f_X1_numbersOf, if_neg c1, if_neg c2, if_neg c3, if_neg c4, if_neg c5]) trivial rfl dX1_numbersOf_59
def rmX1_isDigit : Room := { frames := 0, cells := 0, slots := 0, locals := 0 }
def f_X1_isDigit  (p1 : Int32) : Int32 := (if p1 < 48 then 0 else (if 57 < p1 then 0 else 1))
set_option maxHeartbeats 4000000 in
set_option maxRecDepth 100000 in
theorem met_X1_isDigit (l : Launch) (D : va_G) (cI : ClassId)   (p1 : Int32) : ZM l D cI yX1_isDigit cX1_isDigit 1 (some .boolean) rmX1_isDigit [.int p1] [] (fun _ : Unit => some (.int (f_X1_isDigit p1))) (fun _ : Unit => []) (fun _ : Unit => True) := by
  refine z_body [some (.int p1)] (by decide +kernel) rfl (Nat.le_of_ble_eq_true rfl) rfl ?_
  intro p e s m args below meth c A C hin
  refine z_iload_n C dX1_isDigit_0 rfl ?_
  refine z_bipush C dX1_isDigit_1 48 (by decide) ?_
  refine z_icmp_lt C dX1_isDigit_3 16 (by decide) (fun c1 => ?_) (fun c1 => ?_)
  · refine z_iconst C dX1_isDigit_16 0 (by decide) ?_
    exact z_zret C rfl (by decide) () (by rw [f_X1_isDigit, if_pos c1]) trivial rfl dX1_isDigit_17
  · refine z_iload_n C dX1_isDigit_6 rfl ?_
    refine z_bipush C dX1_isDigit_7 57 (by decide) ?_
    refine z_icmp_gt C dX1_isDigit_9 16 (by decide) (fun c2 => ?_) (fun c2 => ?_)
    · refine z_iconst C dX1_isDigit_16 0 (by decide) ?_
      exact z_zret C rfl (by decide) () (by rw [f_X1_isDigit, if_neg c1, if_pos c2]) trivial rfl dX1_isDigit_17
    · refine z_iconst C dX1_isDigit_12 1 (by decide) ?_
      refine z_goto C dX1_isDigit_13 17 (by decide) ?_
      exact z_zret C rfl (by decide) () (by rw [f_X1_isDigit, if_neg c1, if_neg c2]) trivial rfl dX1_isDigit_17
def rmX1_digitsAt : Room := { frames := 1, cells := 0, slots := 0, locals := 21 }
def wp_X1_digitsAt (v : zC) (p1 : Int32) (Q : Int32 → Prop) : Prop := (wp_X4_at (cSigns v) p1 (fun r1 => ((¬ (f_X1_isDigit r1) = 0 → (wp_X4_at (cSigns v) (p1 + 1) (fun r3 => (((f_X1_isDigit r3) = 0 → (Q 1)) ∧ (¬ (f_X1_isDigit r3) = 0 → (Q 2)))))) ∧ ((f_X1_isDigit r1) = 0 → (Q 0)))))
set_option maxHeartbeats 4000000 in
set_option maxRecDepth 100000 in
theorem met_X1_digitsAt (l : Launch) (D : va_G) (cI : ClassId) (gv : Nat → Nat) (v : zC) (p1 : Int32) (Q : Int32 → Prop) (hw : wp_X1_digitsAt v p1 Q) : ZM l D cI yX1_digitsAt cX1_digitsAt 2 (some .int) rmX1_digitsAt [.ref (gv 0), .int p1] [(wC cI gv v)] (fun u : Int32 => some (.int u)) (fun u : Int32 => [(wC cI gv v)]) (fun u : Int32 => Q u) := by
  refine z_body [some (.ref (gv 0)), some (.int p1)] (by decide +kernel) rfl (Nat.le_of_ble_eq_true rfl) rfl ?_
  intro p e s m args below meth c A C hin
  unfold wp_X1_digitsAt at hw
  refine z_aload_n C dX1_digitsAt_0 rfl ?_
  refine z_get C inlX1 rfl 0 (by decide) mw_4_8 dX1_digitsAt_1 0 0 rfl rfl rfl ?_
  refine z_iload_n C dX1_digitsAt_4 rfl ?_
  refine z_open 0 [(wCo gv v), (wN cI (gv 1) (gv 2) (cSigns v)), (wN cI (gv 3) (gv 4) (cNums v))] [(wCo gv v), (wN cI (gv 1) (gv 2) (cSigns v)), (wN cI (gv 3) (gv 4) (cNums v))] rfl rfl rfl ?_
  refine z_callV0 C [(wN cI (gv 1) (gv 2) (cSigns v))] [(wCo gv v), (wN cI (gv 3) (gv 4) (cNums v))] rfl rfl (met_X4_at l D cI (gv 1) (gv 2) (cSigns v) p1 _ hw) y_X4_at mw_26_23 dX1_digitsAt_5 rfl n_X4_at rfl (by decide) ⟨rfl, rfl, Nat.le_of_ble_eq_true rfl, Nat.le_of_ble_eq_true rfl⟩ (Nat.le_of_ble_eq_true rfl) (z_pm [1, 0, 2] 3 rfl (by decide) rfl) ?_
  intro r1 hw
  try dsimp only at hw
  refine z_bs [(wN cI (gv 1) (gv 2) (cSigns v)), (wCo gv v), (wN cI (gv 3) (gv 4) (cNums v))] [.int r1] rfl rfl ?_
  refine z_perm C [(wCo gv v), (wN cI (gv 1) (gv 2) (cSigns v)), (wN cI (gv 3) (gv 4) (cNums v))] (z_pm [1, 0, 2] 3 rfl (by decide) rfl) ?_
  refine z_shut 0 [(wCo gv v), (wN cI (gv 1) (gv 2) (cSigns v)), (wN cI (gv 3) (gv 4) (cNums v))] [(wC cI gv v)] rfl rfl rfl ?_
  refine z_callFS C [] [(wC cI gv v)] (met_X1_isDigit l D cI r1) y_X1_isDigit mw_27_8 dX1_digitsAt_8 rfl n_X1_isDigit rfl (by decide) ⟨rfl, rfl, Nat.le_of_ble_eq_true rfl, Nat.le_of_ble_eq_true rfl⟩ (Nat.le_of_ble_eq_true rfl) (z_pm [0] 1 rfl (by decide) rfl) ?_
  refine z_if_ne C dX1_digitsAt_11 16 (by decide) (fun c2 => ?_) (fun c2 => ?_)
  · replace hw := hw.1 c2
    refine z_aload_n C dX1_digitsAt_16 rfl ?_
    refine z_get C inlX1 rfl 0 (by decide) mw_4_8 dX1_digitsAt_17 0 0 rfl rfl rfl ?_
    refine z_iload_n C dX1_digitsAt_20 rfl ?_
    refine z_iconst C dX1_digitsAt_21 1 (by decide) ?_
    refine z_iadd C dX1_digitsAt_22 ?_
    refine z_open 0 [(wCo gv v), (wN cI (gv 1) (gv 2) (cSigns v)), (wN cI (gv 3) (gv 4) (cNums v))] [(wCo gv v), (wN cI (gv 1) (gv 2) (cSigns v)), (wN cI (gv 3) (gv 4) (cNums v))] rfl rfl rfl ?_
    refine z_callV0 C [(wN cI (gv 1) (gv 2) (cSigns v))] [(wCo gv v), (wN cI (gv 3) (gv 4) (cNums v))] rfl rfl (met_X4_at l D cI (gv 1) (gv 2) (cSigns v) (p1 + 1) _ hw) y_X4_at mw_26_23 dX1_digitsAt_23 rfl n_X4_at rfl (by decide) ⟨rfl, rfl, Nat.le_of_ble_eq_true rfl, Nat.le_of_ble_eq_true rfl⟩ (Nat.le_of_ble_eq_true rfl) (z_pm [1, 0, 2] 3 rfl (by decide) rfl) ?_
    intro r3 hw
    try dsimp only at hw
    refine z_bs [(wN cI (gv 1) (gv 2) (cSigns v)), (wCo gv v), (wN cI (gv 3) (gv 4) (cNums v))] [.int r3] rfl rfl ?_
    refine z_perm C [(wCo gv v), (wN cI (gv 1) (gv 2) (cSigns v)), (wN cI (gv 3) (gv 4) (cNums v))] (z_pm [1, 0, 2] 3 rfl (by decide) rfl) ?_
    refine z_shut 0 [(wCo gv v), (wN cI (gv 1) (gv 2) (cSigns v)), (wN cI (gv 3) (gv 4) (cNums v))] [(wC cI gv v)] rfl rfl rfl ?_
    refine z_callFS C [] [(wC cI gv v)] (met_X1_isDigit l D cI r3) y_X1_isDigit mw_27_8 dX1_digitsAt_26 rfl n_X1_isDigit rfl (by decide) ⟨rfl, rfl, Nat.le_of_ble_eq_true rfl, Nat.le_of_ble_eq_true rfl⟩ (Nat.le_of_ble_eq_true rfl) (z_pm [0] 1 rfl (by decide) rfl) ?_
    refine z_if_eq C dX1_digitsAt_29 36 (by decide) (fun c4 => ?_) (fun c4 => ?_)
    · replace hw := hw.1 c4
      refine z_iconst C dX1_digitsAt_36 1 (by decide) ?_
      exact z_iret C rfl (1 : Int32) rfl hw rfl dX1_digitsAt_37
    · replace hw := hw.2 c4
      refine z_iconst C dX1_digitsAt_32 2 (by decide) ?_
      refine z_goto C dX1_digitsAt_33 37 (by decide) ?_
      exact z_iret C rfl (2 : Int32) rfl hw rfl dX1_digitsAt_37
  · replace hw := hw.2 c2
    refine z_iconst C dX1_digitsAt_14 0 (by decide) ?_
    exact z_iret C rfl (0 : Int32) rfl hw rfl dX1_digitsAt_15
def rmX1_numberAt : Room := { frames := 1, cells := 0, slots := 0, locals := 21 }
def wp_X1_numberAt (v : zC) (p1 : Int32) (p2 : Int32) (Q : Int32 → Prop) : Prop := (wp_X4_at (cSigns v) p1 (fun r1 => (∀ x2 : Int32, x2 = (r1 - 48) → ((¬ p2 = 2 → (Q x2)) ∧ (p2 = 2 → (wp_X4_at (cSigns v) (p1 + 1) (fun r4 => (Q (((x2 * 10) + r4) - 48)))))))))
set_option maxHeartbeats 4000000 in
set_option maxRecDepth 100000 in
theorem met_X1_numberAt (l : Launch) (D : va_G) (cI : ClassId) (gv : Nat → Nat) (v : zC) (p1 : Int32) (p2 : Int32) (Q : Int32 → Prop) (hw : wp_X1_numberAt v p1 p2 Q) : ZM l D cI yX1_numberAt cX1_numberAt 4 (some .int) rmX1_numberAt [.ref (gv 0), .int p1, .int p2] [(wC cI gv v)] (fun u : Int32 => some (.int u)) (fun u : Int32 => [(wC cI gv v)]) (fun u : Int32 => Q u) := by
  refine z_body [some (.ref (gv 0)), some (.int p1), some (.int p2), none] (by decide +kernel) rfl (Nat.le_of_ble_eq_true rfl) rfl ?_
  intro p e s m args below meth c A C hin
  unfold wp_X1_numberAt at hw
  refine z_aload_n C dX1_numberAt_0 rfl ?_
  refine z_get C inlX1 rfl 0 (by decide) mw_4_8 dX1_numberAt_1 0 0 rfl rfl rfl ?_
  refine z_iload_n C dX1_numberAt_4 rfl ?_
  refine z_open 0 [(wCo gv v), (wN cI (gv 1) (gv 2) (cSigns v)), (wN cI (gv 3) (gv 4) (cNums v))] [(wCo gv v), (wN cI (gv 1) (gv 2) (cSigns v)), (wN cI (gv 3) (gv 4) (cNums v))] rfl rfl rfl ?_
  refine z_callV0 C [(wN cI (gv 1) (gv 2) (cSigns v))] [(wCo gv v), (wN cI (gv 3) (gv 4) (cNums v))] rfl rfl (met_X4_at l D cI (gv 1) (gv 2) (cSigns v) p1 _ hw) y_X4_at mw_26_23 dX1_numberAt_5 rfl n_X4_at rfl (by decide) ⟨rfl, rfl, Nat.le_of_ble_eq_true rfl, Nat.le_of_ble_eq_true rfl⟩ (Nat.le_of_ble_eq_true rfl) (z_pm [1, 0, 2] 3 rfl (by decide) rfl) ?_
  intro r1 hw
  try dsimp only at hw
  refine z_bs [(wN cI (gv 1) (gv 2) (cSigns v)), (wCo gv v), (wN cI (gv 3) (gv 4) (cNums v))] [.int r1] rfl rfl ?_
  refine z_perm C [(wCo gv v), (wN cI (gv 1) (gv 2) (cSigns v)), (wN cI (gv 3) (gv 4) (cNums v))] (z_pm [1, 0, 2] 3 rfl (by decide) rfl) ?_
  refine z_shut 0 [(wCo gv v), (wN cI (gv 1) (gv 2) (cSigns v)), (wN cI (gv 3) (gv 4) (cNums v))] [(wC cI gv v)] rfl rfl rfl ?_
  refine z_bipush C dX1_numberAt_8 48 (by decide) ?_
  refine z_isub C dX1_numberAt_10 ?_
  refine z_name C (fun x2 ex2 => ?_)
  replace hw := hw x2 ex2
  refine z_istore_n C dX1_numberAt_11 [some (.ref (gv 0)), some (.int p1), some (.int p2), some (.int x2)] (by decide) rfl ?_
  refine z_iload_n C dX1_numberAt_12 rfl ?_
  refine z_iconst C dX1_numberAt_13 2 (by decide) ?_
  refine z_icmp_ne C dX1_numberAt_14 38 (by decide) (fun c3 => ?_) (fun c3 => ?_)
  · replace hw := hw.1 c3
    refine z_iload_n C dX1_numberAt_38 rfl ?_
    exact z_iret C rfl (x2) rfl hw rfl dX1_numberAt_39
  · replace hw := hw.2 c3
    refine z_iload_n C dX1_numberAt_17 rfl ?_
    refine z_bipush C dX1_numberAt_18 10 (by decide) ?_
    refine z_imul C dX1_numberAt_20 ?_
    refine z_aload_n C dX1_numberAt_21 rfl ?_
    refine z_get C inlX1 rfl 0 (by decide) mw_4_8 dX1_numberAt_22 0 0 rfl rfl rfl ?_
    refine z_iload_n C dX1_numberAt_25 rfl ?_
    refine z_iconst C dX1_numberAt_26 1 (by decide) ?_
    refine z_iadd C dX1_numberAt_27 ?_
    refine z_open 0 [(wCo gv v), (wN cI (gv 1) (gv 2) (cSigns v)), (wN cI (gv 3) (gv 4) (cNums v))] [(wCo gv v), (wN cI (gv 1) (gv 2) (cSigns v)), (wN cI (gv 3) (gv 4) (cNums v))] rfl rfl rfl ?_
    refine z_callV0 C [(wN cI (gv 1) (gv 2) (cSigns v))] [(wCo gv v), (wN cI (gv 3) (gv 4) (cNums v))] rfl rfl (met_X4_at l D cI (gv 1) (gv 2) (cSigns v) (p1 + 1) _ hw) y_X4_at mw_26_23 dX1_numberAt_28 rfl n_X4_at rfl (by decide) ⟨rfl, rfl, Nat.le_of_ble_eq_true rfl, Nat.le_of_ble_eq_true rfl⟩ (Nat.le_of_ble_eq_true rfl) (z_pm [1, 0, 2] 3 rfl (by decide) rfl) ?_
    intro r4 hw
    try dsimp only at hw
    refine z_bs [(wN cI (gv 1) (gv 2) (cSigns v)), (wCo gv v), (wN cI (gv 3) (gv 4) (cNums v))] [.int r4, .int (x2 * 10)] rfl rfl ?_
    refine z_perm C [(wCo gv v), (wN cI (gv 1) (gv 2) (cSigns v)), (wN cI (gv 3) (gv 4) (cNums v))] (z_pm [1, 0, 2] 3 rfl (by decide) rfl) ?_
    refine z_shut 0 [(wCo gv v), (wN cI (gv 1) (gv 2) (cSigns v)), (wN cI (gv 3) (gv 4) (cNums v))] [(wC cI gv v)] rfl rfl rfl ?_
    refine z_iadd C dX1_numberAt_31 ?_
    refine z_bipush C dX1_numberAt_32 48 (by decide) ?_
    refine z_isub C dX1_numberAt_34 ?_
    refine z_goto C dX1_numberAt_35 39 (by decide) ?_
    exact z_iret C rfl ((((x2 * 10) + r4) - 48)) rfl hw rfl dX1_numberAt_39
def rmX1_read : Room := { frames := 2, cells := 0, slots := 0, locals := 44 }
def jn_X1_read_74 (v : zC) (p1 : Int32) (v2 : Int32) (v3 : Int32) (v4 : Int32) (v5 : Int32) (v6 : Int32) (w0Nums : zN) (s74_0 : Int32) (s74_1 : Int32) (Q : Int32 → zC → Prop) (K26 : (Int32) → (Int32) → (zN) → Prop) : Prop := ((s74_1 = s74_0 → (wp_X1_numberAt (cSetNums v w0Nums) v3 v5 (fun r13 => (wp_X4_add w0Nums r13 (fun u14 => (∀ x15 : Int32, x15 = (v6 + 1) → (K26 x15 (v4 + 1) u14))))))) ∧ (¬ s74_1 = s74_0 → (Q 0 (cSetNums v w0Nums))))
set_option maxHeartbeats 4000000 in
set_option maxRecDepth 100000 in
theorem wk_X1_read_74 {p : Program} {l : Launch} {e : Env} {s : State} {m : MethodId} {args : Array Value} {below : List Frame} {meth : Method} {c : Code} {D : va_G} {cI : ClassId} {A : Nat → Prop} (C : ZC p s m args meth c RX1 cX1_read 7 (some .int) D cI A) (gv : Nat → Nat) (v : zC) (p1 : Int32) (v2 : Int32) (v3 : Int32) (v4 : Int32) (v5 : Int32) (v6 : Int32) (w0Nums : zN) (s74_0 : Int32) (s74_1 : Int32) (Q : Int32 → zC → Prop) (K26 : (Int32) → (Int32) → (zN) → Prop) (hK26 : ∀ (v3 : Int32) (v4 : Int32) (w0Nums : zN), K26 v3 v4 w0Nums → ZZ p l e rmX1_read s m args below meth c D A 7 0 0 (MQ below (ZQ D A (fun u : Int32 × zC => some (.int u.1)) (fun u : Int32 × zC => [(wC cI gv (u.2))]) (fun u : Int32 × zC => Q u.1 u.2)) args s rmX1_read.cells rmX1_read.slots A) [(wC cI gv (cSetNums v w0Nums))] 26 [some (.ref (gv 0)), none, some (.int v2), some (.int v3), some (.int v4), none, none] []) (hw : jn_X1_read_74 v p1 v2 v3 v4 v5 v6 w0Nums s74_0 s74_1 Q K26) : ZZ p l e rmX1_read s m args below meth c D A 7 0 0 (MQ below (ZQ D A (fun u : Int32 × zC => some (.int u.1)) (fun u : Int32 × zC => [(wC cI gv (u.2))]) (fun u : Int32 × zC => Q u.1 u.2)) args s rmX1_read.cells rmX1_read.slots A) [(wC cI gv (cSetNums v w0Nums))] 74 [some (.ref (gv 0)), none, some (.int v2), some (.int v3), some (.int v4), some (.int v5), some (.int v6)] [.int s74_0, .int s74_1] := by
  unfold jn_X1_read_74 at hw
  refine z_icmp_eq C dX1_read_74 79 (by decide) (fun c12 => ?_) (fun c12 => ?_)
  · replace hw := hw.1 c12
    refine z_aload_n C dX1_read_79 rfl ?_
    refine z_get C inlX1 rfl 1 (by decide) mw_4_9 dX1_read_80 0 0 rfl rfl rfl ?_
    refine z_aload_n C dX1_read_83 rfl ?_
    refine z_iload_n C dX1_read_84 rfl ?_
    refine z_iload C dX1_read_85 rfl ?_
    refine z_callV0 C [(wC cI gv (cSetNums v w0Nums))] [] rfl rfl (met_X1_numberAt l D cI gv (cSetNums v w0Nums) v3 v5 _ hw) y_X1_numberAt mw_27_11 dX1_read_87 rfl n_X1_numberAt rfl (by decide) ⟨rfl, rfl, Nat.le_of_ble_eq_true rfl, Nat.le_of_ble_eq_true rfl⟩ (Nat.le_of_ble_eq_true rfl) (z_pm [0] 1 rfl (by decide) rfl) ?_
    intro r13 hw
    try dsimp only at hw
    refine z_bs [(wC cI gv (cSetNums v w0Nums))] [.int r13, .ref (gv 3)] rfl rfl ?_
    refine z_open 0 [(wCo gv (cSetNums v w0Nums)), (wN cI (gv 1) (gv 2) (cSigns v)), (wN cI (gv 3) (gv 4) w0Nums)] [(wCo gv (cSetNums v w0Nums)), (wN cI (gv 1) (gv 2) (cSigns v)), (wN cI (gv 3) (gv 4) w0Nums)] rfl rfl rfl ?_
    refine z_callV0 C [(wN cI (gv 3) (gv 4) w0Nums)] [(wCo gv (cSetNums v w0Nums)), (wN cI (gv 1) (gv 2) (cSigns v))] rfl rfl (met_X4_add l D cI (gv 3) (gv 4) w0Nums r13 _ hw) y_X4_add mw_27_15 dX1_read_90 rfl n_X4_add rfl (by decide) ⟨rfl, rfl, Nat.le_of_ble_eq_true rfl, Nat.le_of_ble_eq_true rfl⟩ (Nat.le_of_ble_eq_true rfl) (z_pm [2, 0, 1] 3 rfl (by decide) rfl) ?_
    intro u14 hw
    try dsimp only at hw
    refine z_bs [(wN cI (gv 3) (gv 4) u14), (wCo gv (cSetNums v w0Nums)), (wN cI (gv 1) (gv 2) (cSigns v))] [] rfl rfl ?_
    refine z_perm C [(wCo gv (cSetNums v w0Nums)), (wN cI (gv 1) (gv 2) (cSigns v)), (wN cI (gv 3) (gv 4) u14)] (z_pm [1, 2, 0] 3 rfl (by decide) rfl) ?_
    refine z_shut 0 [(wCo gv (cSetNums v w0Nums)), (wN cI (gv 1) (gv 2) (cSigns v)), (wN cI (gv 3) (gv 4) u14)] [(wC cI gv (cSetNums v u14))] rfl rfl rfl ?_
    refine z_iload C dX1_read_93 rfl ?_
    refine z_iconst C dX1_read_95 1 (by decide) ?_
    refine z_iadd C dX1_read_96 ?_
    refine z_name C (fun x15 ex15 => ?_)
    replace hw := hw x15 ex15
    refine z_istore_n C dX1_read_97 [some (.ref (gv 0)), none, some (.int v2), some (.int x15), some (.int v4), some (.int v5), some (.int v6)] (by decide) rfl ?_
    refine z_iinc C dX1_read_98 rfl (v4 + 1) (by rfl) [some (.ref (gv 0)), none, some (.int v2), some (.int x15), some (.int (v4 + 1)), some (.int v5), some (.int v6)] (by decide) rfl ?_
    refine z_goto C dX1_read_101 26 (by decide) ?_
    refine z_ls C [true, false, true, true, true, false, false] [some (.ref (gv 0)), none, some (.int v2), some (.int x15), some (.int (v4 + 1)), none, none] rfl ?_
    exact hK26 _ _ _ hw
  · replace hw := hw.2 c12
    refine z_iconst C dX1_read_77 0 (by decide) ?_
    exact z_iret C rfl (0, (cSetNums v w0Nums)) rfl hw rfl dX1_read_78
def lb_X1_read_26 (v : zC) (p1 : Int32) (v2 : Int32)  (Q : Int32 → zC → Prop)  (K26 : (Int32) → (Int32) → (zN) → Prop) (v3 : Int32) (v4 : Int32) (w0Nums : zN) : Prop := ((v2 ≤ v4 → ((¬ v2 = 0 → (Q v3 (cSetNums v w0Nums))) ∧ (v2 = 0 → (Q 0 (cSetNums v w0Nums))))) ∧ (¬ v2 ≤ v4 → (wp_X1_digitsAt (cSetNums v w0Nums) v3 (fun r7 => (∀ x8 : Int32, x8 = (v3 + r7) → ((r7 = 0 → (Q 0 (cSetNums v w0Nums))) ∧ (¬ r7 = 0 → (wp_X4_at (cSigns v) x8 (fun r10 => (((v2 - 1) ≤ v4 → (jn_X1_read_74 v p1 v2 v3 v4 r7 x8 w0Nums 59 r10 Q K26)) ∧ (¬ (v2 - 1) ≤ v4 → (jn_X1_read_74 v p1 v2 v3 v4 r7 x8 w0Nums 44 r10 Q K26))))))))))))
set_option maxHeartbeats 4000000 in
set_option maxRecDepth 100000 in
theorem wk_X1_read_26 {p : Program} {l : Launch} {e : Env} {s : State} {m : MethodId} {args : Array Value} {below : List Frame} {meth : Method} {c : Code} {D : va_G} {cI : ClassId} {A : Nat → Prop} (C : ZC p s m args meth c RX1 cX1_read 7 (some .int) D cI A) (gv : Nat → Nat) (v : zC) (p1 : Int32) (v2 : Int32)  (v3 : Int32) (v4 : Int32) (w0Nums : zN) (Q : Int32 → zC → Prop)  (hw : zLoop3 (lb_X1_read_26 v p1 v2  Q ) v3 v4 w0Nums) : ZZ p l e rmX1_read s m args below meth c D A 7 0 0 (MQ below (ZQ D A (fun u : Int32 × zC => some (.int u.1)) (fun u : Int32 × zC => [(wC cI gv (u.2))]) (fun u : Int32 × zC => Q u.1 u.2)) args s rmX1_read.cells rmX1_read.slots A) [(wC cI gv (cSetNums v w0Nums))] 26 [some (.ref (gv 0)), none, some (.int v2), some (.int v3), some (.int v4), none, none] [] := by
  refine zLoop3_w (fun (v3 : Int32) (v4 : Int32) (w0Nums : zN) => ZZ p l e rmX1_read s m args below meth c D A 7 0 0 (MQ below (ZQ D A (fun u : Int32 × zC => some (.int u.1)) (fun u : Int32 × zC => [(wC cI gv (u.2))]) (fun u : Int32 × zC => Q u.1 u.2)) args s rmX1_read.cells rmX1_read.slots A) [(wC cI gv (cSetNums v w0Nums))] 26 [some (.ref (gv 0)), none, some (.int v2), some (.int v3), some (.int v4), none, none] []) ?_ _ _ _ hw
  clear hw
  intro K26 hK26 v3 v4 w0Nums hw
  unfold lb_X1_read_26 at hw
  refine z_iload C dX1_read_26 rfl ?_
  refine z_iload_n C dX1_read_28 rfl ?_
  refine z_icmp_ge C dX1_read_29 104 (by decide) (fun c5 => ?_) (fun c5 => ?_)
  · replace hw := hw.1 c5
    refine z_iload_n C dX1_read_104 rfl ?_
    refine z_if_ne C dX1_read_105 112 (by decide) (fun c6 => ?_) (fun c6 => ?_)
    · replace hw := hw.1 c6
      refine z_iload_n C dX1_read_112 rfl ?_
      exact z_iret C rfl (v3, (cSetNums v w0Nums)) rfl hw rfl dX1_read_113
    · replace hw := hw.2 c6
      refine z_iconst C dX1_read_108 0 (by decide) ?_
      refine z_goto C dX1_read_109 113 (by decide) ?_
      exact z_iret C rfl (0, (cSetNums v w0Nums)) rfl hw rfl dX1_read_113
  · replace hw := hw.2 c5
    refine z_aload_n C dX1_read_32 rfl ?_
    refine z_iload_n C dX1_read_33 rfl ?_
    refine z_callV0 C [(wC cI gv (cSetNums v w0Nums))] [] rfl rfl (met_X1_digitsAt l D cI gv (cSetNums v w0Nums) v3 _ hw) y_X1_digitsAt mw_27_4 dX1_read_34 rfl n_X1_digitsAt rfl (by decide) ⟨rfl, rfl, Nat.le_of_ble_eq_true rfl, Nat.le_of_ble_eq_true rfl⟩ (Nat.le_of_ble_eq_true rfl) (z_pm [0] 1 rfl (by decide) rfl) ?_
    intro r7 hw
    try dsimp only at hw
    refine z_bs [(wC cI gv (cSetNums v w0Nums))] [.int r7] rfl rfl ?_
    refine z_istore C dX1_read_37 [some (.ref (gv 0)), none, some (.int v2), some (.int v3), some (.int v4), some (.int r7), none] (by decide) rfl ?_
    refine z_iload_n C dX1_read_39 rfl ?_
    refine z_iload C dX1_read_40 rfl ?_
    refine z_iadd C dX1_read_42 ?_
    refine z_name C (fun x8 ex8 => ?_)
    replace hw := hw x8 ex8
    refine z_istore C dX1_read_43 [some (.ref (gv 0)), none, some (.int v2), some (.int v3), some (.int v4), some (.int r7), some (.int x8)] (by decide) rfl ?_
    refine z_iload C dX1_read_45 rfl ?_
    refine z_if_eq C dX1_read_47 77 (by decide) (fun c9 => ?_) (fun c9 => ?_)
    · replace hw := hw.1 c9
      refine z_iconst C dX1_read_77 0 (by decide) ?_
      exact z_iret C rfl (0, (cSetNums v w0Nums)) rfl hw rfl dX1_read_78
    · replace hw := hw.2 c9
      refine z_aload_n C dX1_read_50 rfl ?_
      refine z_get C inlX1 rfl 0 (by decide) mw_4_8 dX1_read_51 0 0 rfl rfl rfl ?_
      refine z_iload C dX1_read_54 rfl ?_
      refine z_open 0 [(wCo gv (cSetNums v w0Nums)), (wN cI (gv 1) (gv 2) (cSigns v)), (wN cI (gv 3) (gv 4) w0Nums)] [(wCo gv (cSetNums v w0Nums)), (wN cI (gv 1) (gv 2) (cSigns v)), (wN cI (gv 3) (gv 4) w0Nums)] rfl rfl rfl ?_
      refine z_callV0 C [(wN cI (gv 1) (gv 2) (cSigns v))] [(wCo gv (cSetNums v w0Nums)), (wN cI (gv 3) (gv 4) w0Nums)] rfl rfl (met_X4_at l D cI (gv 1) (gv 2) (cSigns v) x8 _ hw) y_X4_at mw_26_23 dX1_read_56 rfl n_X4_at rfl (by decide) ⟨rfl, rfl, Nat.le_of_ble_eq_true rfl, Nat.le_of_ble_eq_true rfl⟩ (Nat.le_of_ble_eq_true rfl) (z_pm [1, 0, 2] 3 rfl (by decide) rfl) ?_
      intro r10 hw
      try dsimp only at hw
      refine z_bs [(wN cI (gv 1) (gv 2) (cSigns v)), (wCo gv (cSetNums v w0Nums)), (wN cI (gv 3) (gv 4) w0Nums)] [.int r10] rfl rfl ?_
      refine z_perm C [(wCo gv (cSetNums v w0Nums)), (wN cI (gv 1) (gv 2) (cSigns v)), (wN cI (gv 3) (gv 4) w0Nums)] (z_pm [1, 0, 2] 3 rfl (by decide) rfl) ?_
      refine z_shut 0 [(wCo gv (cSetNums v w0Nums)), (wN cI (gv 1) (gv 2) (cSigns v)), (wN cI (gv 3) (gv 4) w0Nums)] [(wC cI gv (cSetNums v w0Nums))] rfl rfl rfl ?_
      refine z_iload C dX1_read_59 rfl ?_
      refine z_iload_n C dX1_read_61 rfl ?_
      refine z_iconst C dX1_read_62 1 (by decide) ?_
      refine z_isub C dX1_read_63 ?_
      refine z_icmp_ge C dX1_read_64 72 (by decide) (fun c11 => ?_) (fun c11 => ?_)
      · replace hw := hw.1 c11
        refine z_bipush C dX1_read_72 59 (by decide) ?_
        exact wk_X1_read_74 C gv v p1 v2 v3 v4 r7 x8 w0Nums 59 r10 _ K26 hK26 hw
      · replace hw := hw.2 c11
        refine z_bipush C dX1_read_67 44 (by decide) ?_
        refine z_goto C dX1_read_69 74 (by decide) ?_
        exact wk_X1_read_74 C gv v p1 v2 v3 v4 r7 x8 w0Nums 44 r10 _ K26 hK26 hw
def wp_X1_read (v : zC) (p1 : Int32) (Q : Int32 → zC → Prop) : Prop := (wp_X4_at (cSigns v) p1 (fun r1 => (∀ x2 : Int32, x2 = (f_X1_numbersOf r1) → (∀ x3 : Int32, x3 = (p1 + 1) → (wp_X4_empty (cNums v) (fun u4 => (zLoop3 (lb_X1_read_26 v p1 x2  Q ) x3 0 u4)))))))
set_option maxHeartbeats 4000000 in
set_option maxRecDepth 100000 in
theorem met_X1_read (l : Launch) (D : va_G) (cI : ClassId) (gv : Nat → Nat) (v : zC) (p1 : Int32) (Q : Int32 → zC → Prop) (hw : wp_X1_read v p1 Q) : ZM l D cI yX1_read cX1_read 7 (some .int) rmX1_read [.ref (gv 0), .int p1] [(wC cI gv v)] (fun u : Int32 × zC => some (.int u.1)) (fun u : Int32 × zC => [(wC cI gv (u.2))]) (fun u : Int32 × zC => Q u.1 u.2) := by
  refine z_body [some (.ref (gv 0)), some (.int p1), none, none, none, none, none] (by decide +kernel) rfl (Nat.le_of_ble_eq_true rfl) rfl ?_
  intro p e s m args below meth c A C hin
  unfold wp_X1_read at hw
  refine z_aload_n C dX1_read_0 rfl ?_
  refine z_get C inlX1 rfl 0 (by decide) mw_4_8 dX1_read_1 0 0 rfl rfl rfl ?_
  refine z_iload_n C dX1_read_4 rfl ?_
  refine z_open 0 [(wCo gv v), (wN cI (gv 1) (gv 2) (cSigns v)), (wN cI (gv 3) (gv 4) (cNums v))] [(wCo gv v), (wN cI (gv 1) (gv 2) (cSigns v)), (wN cI (gv 3) (gv 4) (cNums v))] rfl rfl rfl ?_
  refine z_callV0 C [(wN cI (gv 1) (gv 2) (cSigns v))] [(wCo gv v), (wN cI (gv 3) (gv 4) (cNums v))] rfl rfl (met_X4_at l D cI (gv 1) (gv 2) (cSigns v) p1 _ hw) y_X4_at mw_26_23 dX1_read_5 rfl n_X4_at rfl (by decide) ⟨rfl, rfl, Nat.le_of_ble_eq_true rfl, Nat.le_of_ble_eq_true rfl⟩ (Nat.le_of_ble_eq_true rfl) (z_pm [1, 0, 2] 3 rfl (by decide) rfl) ?_
  intro r1 hw
  try dsimp only at hw
  refine z_bs [(wN cI (gv 1) (gv 2) (cSigns v)), (wCo gv v), (wN cI (gv 3) (gv 4) (cNums v))] [.int r1] rfl rfl ?_
  refine z_perm C [(wCo gv v), (wN cI (gv 1) (gv 2) (cSigns v)), (wN cI (gv 3) (gv 4) (cNums v))] (z_pm [1, 0, 2] 3 rfl (by decide) rfl) ?_
  refine z_shut 0 [(wCo gv v), (wN cI (gv 1) (gv 2) (cSigns v)), (wN cI (gv 3) (gv 4) (cNums v))] [(wC cI gv v)] rfl rfl rfl ?_
  refine z_callFS C [] [(wC cI gv v)] (met_X1_numbersOf l D cI r1) y_X1_numbersOf mw_27_0 dX1_read_8 rfl n_X1_numbersOf rfl (by decide) ⟨rfl, rfl, Nat.le_of_ble_eq_true rfl, Nat.le_of_ble_eq_true rfl⟩ (Nat.le_of_ble_eq_true rfl) (z_pm [0] 1 rfl (by decide) rfl) ?_
  refine z_name C (fun x2 ex2 => ?_)
  replace hw := hw x2 ex2
  refine z_istore_n C dX1_read_11 [some (.ref (gv 0)), some (.int p1), some (.int x2), none, none, none, none] (by decide) rfl ?_
  refine z_iload_n C dX1_read_12 rfl ?_
  refine z_iconst C dX1_read_13 1 (by decide) ?_
  refine z_iadd C dX1_read_14 ?_
  refine z_name C (fun x3 ex3 => ?_)
  replace hw := hw x3 ex3
  refine z_istore_n C dX1_read_15 [some (.ref (gv 0)), some (.int p1), some (.int x2), some (.int x3), none, none, none] (by decide) rfl ?_
  refine z_aload_n C dX1_read_16 rfl ?_
  refine z_get C inlX1 rfl 1 (by decide) mw_4_9 dX1_read_17 0 0 rfl rfl rfl ?_
  refine z_open 0 [(wCo gv v), (wN cI (gv 1) (gv 2) (cSigns v)), (wN cI (gv 3) (gv 4) (cNums v))] [(wCo gv v), (wN cI (gv 1) (gv 2) (cSigns v)), (wN cI (gv 3) (gv 4) (cNums v))] rfl rfl rfl ?_
  refine z_callV0 C [(wN cI (gv 3) (gv 4) (cNums v))] [(wCo gv v), (wN cI (gv 1) (gv 2) (cSigns v))] rfl rfl (met_X4_empty l D cI (gv 3) (gv 4) (cNums v) _ hw) y_X4_empty mw_27_3 dX1_read_20 rfl n_X4_empty rfl (by decide) ⟨rfl, rfl, Nat.le_of_ble_eq_true rfl, Nat.le_of_ble_eq_true rfl⟩ (Nat.le_of_ble_eq_true rfl) (z_pm [2, 0, 1] 3 rfl (by decide) rfl) ?_
  intro u4 hw
  try dsimp only at hw
  refine z_bs [(wN cI (gv 3) (gv 4) u4), (wCo gv v), (wN cI (gv 1) (gv 2) (cSigns v))] [] rfl rfl ?_
  refine z_perm C [(wCo gv v), (wN cI (gv 1) (gv 2) (cSigns v)), (wN cI (gv 3) (gv 4) u4)] (z_pm [1, 2, 0] 3 rfl (by decide) rfl) ?_
  refine z_shut 0 [(wCo gv v), (wN cI (gv 1) (gv 2) (cSigns v)), (wN cI (gv 3) (gv 4) u4)] [(wC cI gv (cSetNums v u4))] rfl rfl rfl ?_
  refine z_iconst C dX1_read_23 0 (by decide) ?_
  refine z_istore C dX1_read_24 [some (.ref (gv 0)), some (.int p1), some (.int x2), some (.int x3), some (.int 0), none, none] (by decide) rfl ?_
  refine z_ls C [true, false, true, true, true, false, false] [some (.ref (gv 0)), none, some (.int x2), some (.int x3), some (.int 0), none, none] rfl ?_
  exact wk_X1_read_26 C gv v p1 x2  x3 0 u4 _  hw
def rmX1_runOn : Room := { frames := 5, cells := 0, slots := 0, locals := 123 }
def lb_X1_runOn_22 (v : zC) (t : zT)   (Q : zC → zT → Prop)  (K22 : (Int32) → (zC) → (zT) → Prop) (v2 : Int32) (w0 : zC) (w1 : zT) : Prop := ((60 ≤ v2 → (Q w0 w1)) ∧ (¬ 60 ≤ v2 → (((f_X4_size (cSigns w0)) ≤ (cPos w0) → (Q w0 w1)) ∧ (¬ (f_X4_size (cSigns w0)) ≤ (cPos w0) → (wp_X1_read w0 (cPos w0) (fun r3 u4 => ((¬ r3 = 0 → (wp_X4_at (cSigns u4) (cPos u4) (fun r6 => (wp_X4_at (cNums u4) 0 (fun r7 => (wp_X4_at (cNums u4) 1 (fun r8 => (wp_X4_at (cNums u4) 2 (fun r9 => (wp_X5_answer w1 r6 r7 r8 r9 (fun r10 u11 => ((0 ≤ r10 → (K22 (v2 + 1) (cSetDone (cSetPos u4 r3) ((cDone u4) + 1)) u11)) ∧ (¬ 0 ≤ r10 → (Q (cSetCause (cSetRsn u4 2) r10) u11)))))))))))))) ∧ (r3 = 0 → (Q (cSetRsn u4 1) w1)))))))))
set_option maxHeartbeats 4000000 in
set_option maxRecDepth 100000 in
theorem wk_X1_runOn_22 {p : Program} {l : Launch} {e : Env} {s : State} {m : MethodId} {args : Array Value} {below : List Frame} {meth : Method} {c : Code} {D : va_G} {cI : ClassId} {A : Nat → Prop} (C : ZC p s m args meth c RX1 cX1_runOn 5 none D cI A) (gv : Nat → Nat) (gt : Nat → Nat) (v : zC) (t : zT)   (v2 : Int32) (w0 : zC) (w1 : zT) (Q : zC → zT → Prop)  (hw : zLoop3 (lb_X1_runOn_22 v t   Q ) v2 w0 w1) : ZZ p l e rmX1_runOn s m args below meth c D A 5 0 0 (MQ below (ZQ D A (fun _ : zC × zT => none) (fun u : zC × zT => [(wC cI gv (u.1)), (wS cI gt (u.2))]) (fun u : zC × zT => Q u.1 u.2)) args s rmX1_runOn.cells rmX1_runOn.slots A) [(wC cI gv w0), (wS cI gt w1)] 22 [some (.ref (gv 0)), some (.ref (gt 0)), some (.int v2), none, none] [] := by
  refine zLoop3_w (fun (v2 : Int32) (w0 : zC) (w1 : zT) => ZZ p l e rmX1_runOn s m args below meth c D A 5 0 0 (MQ below (ZQ D A (fun _ : zC × zT => none) (fun u : zC × zT => [(wC cI gv (u.1)), (wS cI gt (u.2))]) (fun u : zC × zT => Q u.1 u.2)) args s rmX1_runOn.cells rmX1_runOn.slots A) [(wC cI gv w0), (wS cI gt w1)] 22 [some (.ref (gv 0)), some (.ref (gt 0)), some (.int v2), none, none] []) ?_ _ _ _ hw
  clear hw
  intro K22 hK22 v2 w0 w1 hw
  unfold lb_X1_runOn_22 at hw
  refine z_iload_n C dX1_runOn_22 rfl ?_
  refine z_bipush C dX1_runOn_23 60 (by decide) ?_
  refine z_icmp_ge C dX1_runOn_25 140 (by decide) (fun c1 => ?_) (fun c1 => ?_)
  · replace hw := hw.1 c1
    exact z_vret C rfl (w0, w1) rfl hw rfl dX1_runOn_140
  · replace hw := hw.2 c1
    refine z_aload_n C dX1_runOn_28 rfl ?_
    refine z_get C inlX1 rfl 2 (by decide) mw_26_14 dX1_runOn_29 0 0 rfl rfl rfl ?_
    refine z_aload_n C dX1_runOn_32 rfl ?_
    refine z_get C inlX1 rfl 0 (by decide) mw_4_8 dX1_runOn_33 0 0 rfl rfl rfl ?_
    refine z_open 0 [(wCo gv w0), (wN cI (gv 1) (gv 2) (cSigns w0)), (wN cI (gv 3) (gv 4) (cNums w0))] [(wCo gv w0), (wN cI (gv 1) (gv 2) (cSigns w0)), (wN cI (gv 3) (gv 4) (cNums w0)), (wS cI gt w1)] rfl rfl rfl ?_
    refine z_callFV C [(wN cI (gv 1) (gv 2) (cSigns w0))] [(wCo gv w0), (wN cI (gv 3) (gv 4) (cNums w0)), (wS cI gt w1)] rfl rfl (met_X4_size l D cI (gv 1) (gv 2) (cSigns w0)) y_X4_size mw_26_18 dX1_runOn_36 rfl n_X4_size rfl (by decide) ⟨rfl, rfl, Nat.le_of_ble_eq_true rfl, Nat.le_of_ble_eq_true rfl⟩ (Nat.le_of_ble_eq_true rfl) (z_pm [1, 0, 2, 3] 4 rfl (by decide) rfl) ?_
    refine z_shut 0 [(wCo gv w0), (wN cI (gv 1) (gv 2) (cSigns w0)), (wN cI (gv 3) (gv 4) (cNums w0))] [(wC cI gv w0), (wS cI gt w1)] rfl rfl rfl ?_
    refine z_icmp_ge C dX1_runOn_39 140 (by decide) (fun c2 => ?_) (fun c2 => ?_)
    · replace hw := hw.1 c2
      exact z_vret C rfl (w0, w1) rfl hw rfl dX1_runOn_140
    · replace hw := hw.2 c2
      refine z_aload_n C dX1_runOn_42 rfl ?_
      refine z_aload_n C dX1_runOn_43 rfl ?_
      refine z_get C inlX1 rfl 2 (by decide) mw_26_14 dX1_runOn_44 0 0 rfl rfl rfl ?_
      refine z_callV0 C [(wC cI gv w0)] [(wS cI gt w1)] rfl rfl (met_X1_read l D cI gv w0 (cPos w0) _ hw) y_X1_read mw_26_19 dX1_runOn_47 rfl n_X1_read rfl (by decide) ⟨rfl, rfl, Nat.le_of_ble_eq_true rfl, Nat.le_of_ble_eq_true rfl⟩ (Nat.le_of_ble_eq_true rfl) (z_pm [0, 1] 2 rfl (by decide) rfl) ?_
      intro ⟨r3, u4⟩ hw
      try dsimp only at hw
      refine z_bs [(wC cI gv u4), (wS cI gt w1)] [.int r3] rfl rfl ?_
      refine z_istore_n C dX1_runOn_50 [some (.ref (gv 0)), some (.ref (gt 0)), some (.int v2), some (.int r3), none] (by decide) rfl ?_
      refine z_iload_n C dX1_runOn_51 rfl ?_
      refine z_if_ne C dX1_runOn_52 61 (by decide) (fun c5 => ?_) (fun c5 => ?_)
      · replace hw := hw.1 c5
        refine z_aload_n C dX1_runOn_61 rfl ?_
        refine z_aload_n C dX1_runOn_62 rfl ?_
        refine z_get C inlX1 rfl 0 (by decide) mw_4_8 dX1_runOn_63 0 0 rfl rfl rfl ?_
        refine z_aload_n C dX1_runOn_66 rfl ?_
        refine z_get C inlX1 rfl 2 (by decide) mw_26_14 dX1_runOn_67 0 0 rfl rfl rfl ?_
        refine z_open 0 [(wCo gv u4), (wN cI (gv 1) (gv 2) (cSigns u4)), (wN cI (gv 3) (gv 4) (cNums u4))] [(wCo gv u4), (wN cI (gv 1) (gv 2) (cSigns u4)), (wN cI (gv 3) (gv 4) (cNums u4)), (wS cI gt w1)] rfl rfl rfl ?_
        refine z_callV0 C [(wN cI (gv 1) (gv 2) (cSigns u4))] [(wCo gv u4), (wN cI (gv 3) (gv 4) (cNums u4)), (wS cI gt w1)] rfl rfl (met_X4_at l D cI (gv 1) (gv 2) (cSigns u4) (cPos u4) _ hw) y_X4_at mw_26_23 dX1_runOn_70 rfl n_X4_at rfl (by decide) ⟨rfl, rfl, Nat.le_of_ble_eq_true rfl, Nat.le_of_ble_eq_true rfl⟩ (Nat.le_of_ble_eq_true rfl) (z_pm [1, 0, 2, 3] 4 rfl (by decide) rfl) ?_
        intro r6 hw
        try dsimp only at hw
        refine z_bs [(wN cI (gv 1) (gv 2) (cSigns u4)), (wCo gv u4), (wN cI (gv 3) (gv 4) (cNums u4)), (wS cI gt w1)] [.int r6, .ref (gt 0)] rfl rfl ?_
        refine z_perm C [(wCo gv u4), (wN cI (gv 1) (gv 2) (cSigns u4)), (wN cI (gv 3) (gv 4) (cNums u4)), (wS cI gt w1)] (z_pm [1, 0, 2, 3] 4 rfl (by decide) rfl) ?_
        refine z_shut 0 [(wCo gv u4), (wN cI (gv 1) (gv 2) (cSigns u4)), (wN cI (gv 3) (gv 4) (cNums u4))] [(wC cI gv u4), (wS cI gt w1)] rfl rfl rfl ?_
        refine z_aload_n C dX1_runOn_73 rfl ?_
        refine z_get C inlX1 rfl 1 (by decide) mw_4_9 dX1_runOn_74 0 0 rfl rfl rfl ?_
        refine z_iconst C dX1_runOn_77 0 (by decide) ?_
        refine z_open 0 [(wCo gv u4), (wN cI (gv 1) (gv 2) (cSigns u4)), (wN cI (gv 3) (gv 4) (cNums u4))] [(wCo gv u4), (wN cI (gv 1) (gv 2) (cSigns u4)), (wN cI (gv 3) (gv 4) (cNums u4)), (wS cI gt w1)] rfl rfl rfl ?_
        refine z_callV0 C [(wN cI (gv 3) (gv 4) (cNums u4))] [(wCo gv u4), (wN cI (gv 1) (gv 2) (cSigns u4)), (wS cI gt w1)] rfl rfl (met_X4_at l D cI (gv 3) (gv 4) (cNums u4) 0 _ hw) y_X4_at mw_26_23 dX1_runOn_78 rfl n_X4_at rfl (by decide) ⟨rfl, rfl, Nat.le_of_ble_eq_true rfl, Nat.le_of_ble_eq_true rfl⟩ (Nat.le_of_ble_eq_true rfl) (z_pm [2, 0, 1, 3] 4 rfl (by decide) rfl) ?_
        intro r7 hw
        try dsimp only at hw
        refine z_bs [(wN cI (gv 3) (gv 4) (cNums u4)), (wCo gv u4), (wN cI (gv 1) (gv 2) (cSigns u4)), (wS cI gt w1)] [.int r7, .int r6, .ref (gt 0)] rfl rfl ?_
        refine z_perm C [(wCo gv u4), (wN cI (gv 1) (gv 2) (cSigns u4)), (wN cI (gv 3) (gv 4) (cNums u4)), (wS cI gt w1)] (z_pm [1, 2, 0, 3] 4 rfl (by decide) rfl) ?_
        refine z_shut 0 [(wCo gv u4), (wN cI (gv 1) (gv 2) (cSigns u4)), (wN cI (gv 3) (gv 4) (cNums u4))] [(wC cI gv u4), (wS cI gt w1)] rfl rfl rfl ?_
        refine z_aload_n C dX1_runOn_81 rfl ?_
        refine z_get C inlX1 rfl 1 (by decide) mw_4_9 dX1_runOn_82 0 0 rfl rfl rfl ?_
        refine z_iconst C dX1_runOn_85 1 (by decide) ?_
        refine z_open 0 [(wCo gv u4), (wN cI (gv 1) (gv 2) (cSigns u4)), (wN cI (gv 3) (gv 4) (cNums u4))] [(wCo gv u4), (wN cI (gv 1) (gv 2) (cSigns u4)), (wN cI (gv 3) (gv 4) (cNums u4)), (wS cI gt w1)] rfl rfl rfl ?_
        refine z_callV0 C [(wN cI (gv 3) (gv 4) (cNums u4))] [(wCo gv u4), (wN cI (gv 1) (gv 2) (cSigns u4)), (wS cI gt w1)] rfl rfl (met_X4_at l D cI (gv 3) (gv 4) (cNums u4) 1 _ hw) y_X4_at mw_26_23 dX1_runOn_86 rfl n_X4_at rfl (by decide) ⟨rfl, rfl, Nat.le_of_ble_eq_true rfl, Nat.le_of_ble_eq_true rfl⟩ (Nat.le_of_ble_eq_true rfl) (z_pm [2, 0, 1, 3] 4 rfl (by decide) rfl) ?_
        intro r8 hw
        try dsimp only at hw
        refine z_bs [(wN cI (gv 3) (gv 4) (cNums u4)), (wCo gv u4), (wN cI (gv 1) (gv 2) (cSigns u4)), (wS cI gt w1)] [.int r8, .int r7, .int r6, .ref (gt 0)] rfl rfl ?_
        refine z_perm C [(wCo gv u4), (wN cI (gv 1) (gv 2) (cSigns u4)), (wN cI (gv 3) (gv 4) (cNums u4)), (wS cI gt w1)] (z_pm [1, 2, 0, 3] 4 rfl (by decide) rfl) ?_
        refine z_shut 0 [(wCo gv u4), (wN cI (gv 1) (gv 2) (cSigns u4)), (wN cI (gv 3) (gv 4) (cNums u4))] [(wC cI gv u4), (wS cI gt w1)] rfl rfl rfl ?_
        refine z_aload_n C dX1_runOn_89 rfl ?_
        refine z_get C inlX1 rfl 1 (by decide) mw_4_9 dX1_runOn_90 0 0 rfl rfl rfl ?_
        refine z_iconst C dX1_runOn_93 2 (by decide) ?_
        refine z_open 0 [(wCo gv u4), (wN cI (gv 1) (gv 2) (cSigns u4)), (wN cI (gv 3) (gv 4) (cNums u4))] [(wCo gv u4), (wN cI (gv 1) (gv 2) (cSigns u4)), (wN cI (gv 3) (gv 4) (cNums u4)), (wS cI gt w1)] rfl rfl rfl ?_
        refine z_callV0 C [(wN cI (gv 3) (gv 4) (cNums u4))] [(wCo gv u4), (wN cI (gv 1) (gv 2) (cSigns u4)), (wS cI gt w1)] rfl rfl (met_X4_at l D cI (gv 3) (gv 4) (cNums u4) 2 _ hw) y_X4_at mw_26_23 dX1_runOn_94 rfl n_X4_at rfl (by decide) ⟨rfl, rfl, Nat.le_of_ble_eq_true rfl, Nat.le_of_ble_eq_true rfl⟩ (Nat.le_of_ble_eq_true rfl) (z_pm [2, 0, 1, 3] 4 rfl (by decide) rfl) ?_
        intro r9 hw
        try dsimp only at hw
        refine z_bs [(wN cI (gv 3) (gv 4) (cNums u4)), (wCo gv u4), (wN cI (gv 1) (gv 2) (cSigns u4)), (wS cI gt w1)] [.int r9, .int r8, .int r7, .int r6, .ref (gt 0)] rfl rfl ?_
        refine z_perm C [(wCo gv u4), (wN cI (gv 1) (gv 2) (cSigns u4)), (wN cI (gv 3) (gv 4) (cNums u4)), (wS cI gt w1)] (z_pm [1, 2, 0, 3] 4 rfl (by decide) rfl) ?_
        refine z_shut 0 [(wCo gv u4), (wN cI (gv 1) (gv 2) (cSigns u4)), (wN cI (gv 3) (gv 4) (cNums u4))] [(wC cI gv u4), (wS cI gt w1)] rfl rfl rfl ?_
        refine z_callV0 C [(wS cI gt w1)] [(wC cI gv u4)] rfl rfl (met_X5_answer l D cI gt w1 r6 r7 r8 r9 _ hw) y_X5_answer mw_27_16 dX1_runOn_97 rfl n_X5_answer rfl (by decide) ⟨rfl, rfl, Nat.le_of_ble_eq_true rfl, Nat.le_of_ble_eq_true rfl⟩ (Nat.le_of_ble_eq_true rfl) (z_pm [1, 0] 2 rfl (by decide) rfl) ?_
        intro ⟨r10, u11⟩ hw
        try dsimp only at hw
        refine z_bs [(wS cI gt u11), (wC cI gv u4)] [.int r10] rfl rfl ?_
        refine z_perm C [(wC cI gv u4), (wS cI gt u11)] (z_pm [1, 0] 2 rfl (by decide) rfl) ?_
        refine z_istore C dX1_runOn_100 [some (.ref (gv 0)), some (.ref (gt 0)), some (.int v2), some (.int r3), some (.int r10)] (by decide) rfl ?_
        refine z_iload C dX1_runOn_102 rfl ?_
        refine z_if_ge C dX1_runOn_104 119 (by decide) (fun c12 => ?_) (fun c12 => ?_)
        · replace hw := hw.1 c12
          refine z_aload_n C dX1_runOn_119 rfl ?_
          refine z_iload_n C dX1_runOn_120 rfl ?_
          refine z_put C inlX1 rfl tyX1 tyX1_ok nmX1 2 (by decide) mw_26_14 rfl rfl rfl rfl dX1_runOn_121 0 0 rfl rfl (Nat.le_of_ble_eq_true rfl) [(wC cI gv (cSetPos u4 r3)), (wS cI gt u11)] rfl ?_
          refine z_aload_n C dX1_runOn_124 rfl ?_
          refine z_dup C dX1_runOn_125 rfl ?_
          refine z_get C inlX1 rfl 5 (by decide) mw_26_17 dX1_runOn_126 0 0 rfl rfl rfl ?_
          refine z_iconst C dX1_runOn_129 1 (by decide) ?_
          refine z_iadd C dX1_runOn_130 ?_
          refine z_put C inlX1 rfl tyX1 tyX1_ok nmX1 5 (by decide) mw_26_17 rfl rfl rfl rfl dX1_runOn_131 0 0 rfl rfl (Nat.le_of_ble_eq_true rfl) [(wC cI gv (cSetDone (cSetPos u4 r3) ((cDone u4) + 1))), (wS cI gt u11)] rfl ?_
          refine z_iinc C dX1_runOn_134 rfl (v2 + 1) (by rfl) [some (.ref (gv 0)), some (.ref (gt 0)), some (.int (v2 + 1)), some (.int r3), some (.int r10)] (by decide) rfl ?_
          refine z_goto C dX1_runOn_137 22 (by decide) ?_
          refine z_ls C [true, true, true, false, false] [some (.ref (gv 0)), some (.ref (gt 0)), some (.int (v2 + 1)), none, none] rfl ?_
          exact hK22 _ _ _ hw
        · replace hw := hw.2 c12
          refine z_aload_n C dX1_runOn_107 rfl ?_
          refine z_iconst C dX1_runOn_108 2 (by decide) ?_
          refine z_put C inlX1 rfl tyX1 tyX1_ok nmX1 3 (by decide) mw_26_15 rfl rfl rfl rfl dX1_runOn_109 0 0 rfl rfl (Nat.le_of_ble_eq_true rfl) [(wC cI gv (cSetRsn u4 2)), (wS cI gt u11)] rfl ?_
          refine z_aload_n C dX1_runOn_112 rfl ?_
          refine z_iload C dX1_runOn_113 rfl ?_
          refine z_put C inlX1 rfl tyX1 tyX1_ok nmX1 4 (by decide) mw_26_16 rfl rfl rfl rfl dX1_runOn_115 0 0 rfl rfl (Nat.le_of_ble_eq_true rfl) [(wC cI gv (cSetCause (cSetRsn u4 2) r10)), (wS cI gt u11)] rfl ?_
          exact z_vret C rfl ((cSetCause (cSetRsn u4 2) r10), u11) rfl hw rfl dX1_runOn_118
      · replace hw := hw.2 c5
        refine z_aload_n C dX1_runOn_55 rfl ?_
        refine z_iconst C dX1_runOn_56 1 (by decide) ?_
        refine z_put C inlX1 rfl tyX1 tyX1_ok nmX1 3 (by decide) mw_26_15 rfl rfl rfl rfl dX1_runOn_57 0 0 rfl rfl (Nat.le_of_ble_eq_true rfl) [(wC cI gv (cSetRsn u4 1)), (wS cI gt w1)] rfl ?_
        exact z_vret C rfl ((cSetRsn u4 1), w1) rfl hw rfl dX1_runOn_60
def wp_X1_runOn (v : zC) (t : zT)  (Q : zC → zT → Prop) : Prop := (zLoop3 (lb_X1_runOn_22 v t   Q ) 0 (cSetDone (cSetCause (cSetRsn (cSetPos v 0) 0) 0) 0) t)
set_option maxHeartbeats 4000000 in
set_option maxRecDepth 100000 in
theorem met_X1_runOn (l : Launch) (D : va_G) (cI : ClassId) (gv : Nat → Nat) (gt : Nat → Nat) (v : zC) (t : zT)  (Q : zC → zT → Prop) (hw : wp_X1_runOn v t Q) : ZM l D cI yX1_runOn cX1_runOn 5 none rmX1_runOn [.ref (gv 0), .ref (gt 0)] [(wC cI gv v), (wS cI gt t)] (fun _ : zC × zT => none) (fun u : zC × zT => [(wC cI gv (u.1)), (wS cI gt (u.2))]) (fun u : zC × zT => Q u.1 u.2) := by
  refine z_body [some (.ref (gv 0)), some (.ref (gt 0)), none, none, none] (by decide +kernel) rfl (Nat.le_of_ble_eq_true rfl) rfl ?_
  intro p e s m args below meth c A C hin
  unfold wp_X1_runOn at hw
  refine z_aload_n C dX1_runOn_0 rfl ?_
  refine z_iconst C dX1_runOn_1 0 (by decide) ?_
  refine z_put C inlX1 rfl tyX1 tyX1_ok nmX1 2 (by decide) mw_26_14 rfl rfl rfl rfl dX1_runOn_2 0 0 rfl rfl (Nat.le_of_ble_eq_true rfl) [(wC cI gv (cSetPos v 0)), (wS cI gt t)] rfl ?_
  refine z_aload_n C dX1_runOn_5 rfl ?_
  refine z_iconst C dX1_runOn_6 0 (by decide) ?_
  refine z_put C inlX1 rfl tyX1 tyX1_ok nmX1 3 (by decide) mw_26_15 rfl rfl rfl rfl dX1_runOn_7 0 0 rfl rfl (Nat.le_of_ble_eq_true rfl) [(wC cI gv (cSetRsn (cSetPos v 0) 0)), (wS cI gt t)] rfl ?_
  refine z_aload_n C dX1_runOn_10 rfl ?_
  refine z_iconst C dX1_runOn_11 0 (by decide) ?_
  refine z_put C inlX1 rfl tyX1 tyX1_ok nmX1 4 (by decide) mw_26_16 rfl rfl rfl rfl dX1_runOn_12 0 0 rfl rfl (Nat.le_of_ble_eq_true rfl) [(wC cI gv (cSetCause (cSetRsn (cSetPos v 0) 0) 0)), (wS cI gt t)] rfl ?_
  refine z_aload_n C dX1_runOn_15 rfl ?_
  refine z_iconst C dX1_runOn_16 0 (by decide) ?_
  refine z_put C inlX1 rfl tyX1 tyX1_ok nmX1 5 (by decide) mw_26_17 rfl rfl rfl rfl dX1_runOn_17 0 0 rfl rfl (Nat.le_of_ble_eq_true rfl) [(wC cI gv (cSetDone (cSetCause (cSetRsn (cSetPos v 0) 0) 0) 0)), (wS cI gt t)] rfl ?_
  refine z_iconst C dX1_runOn_20 0 (by decide) ?_
  refine z_istore_n C dX1_runOn_21 [some (.ref (gv 0)), some (.ref (gt 0)), some (.int 0), none, none] (by decide) rfl ?_
  exact wk_X1_runOn_22 C gv gt v t   0 (cSetDone (cSetCause (cSetRsn (cSetPos v 0) 0) 0) 0) t _  hw
end
