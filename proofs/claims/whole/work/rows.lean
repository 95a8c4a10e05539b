section
-- ===== PART A: goes FIRST, ahead of the names: the tables' words, and 'selects' of the private methods out of them =====
/-- a private method of a class that the tables say can be made, by its rows of tables_1 -/
def lw_okq (q : MethodName × Nat) : Prop := (q.1.cls ≠ "java/lang/invoke/MethodHandle" ∧ q.1.cls ≠ "java/lang/invoke/VarHandle") ∧ Cond.instantiable q.1.cls q.2 ∈ tables_1 ∧ Cond.privateMethod q.1 ∈ tables_1 ∧ Cond.instanceMethod q.1 ∈ tables_1
theorem lw_p0 : lw_okq (⟨"ReshapedTexts", "recorded", "(IIII)I"⟩, 6) := ⟨⟨by decide +kernel, by decide +kernel⟩, List.mem_of_getElem? (i := 11) (by decide +kernel), List.mem_of_getElem? (i := 190) (by decide +kernel), List.mem_of_getElem? (i := 191) (by decide +kernel)⟩
theorem lw_p1 : lw_okq (⟨"ReshapedTexts$Editor", "write", "(I)V"⟩, 8) := ⟨⟨by decide +kernel, by decide +kernel⟩, List.mem_of_getElem? (i := 25) (by decide +kernel), List.mem_of_getElem? (i := 236) (by decide +kernel), List.mem_of_getElem? (i := 237) (by decide +kernel)⟩
theorem lw_p2 : lw_okq (⟨"ReshapedTexts$Editor", "apply", "(I)V"⟩, 8) := ⟨⟨by decide +kernel, by decide +kernel⟩, List.mem_of_getElem? (i := 25) (by decide +kernel), List.mem_of_getElem? (i := 240) (by decide +kernel), List.mem_of_getElem? (i := 241) (by decide +kernel)⟩
theorem lw_p3 : lw_okq (⟨"ReshapedTexts$Editor", "keepBack", "(I)V"⟩, 8) := ⟨⟨by decide +kernel, by decide +kernel⟩, List.mem_of_getElem? (i := 25) (by decide +kernel), List.mem_of_getElem? (i := 277) (by decide +kernel), List.mem_of_getElem? (i := 278) (by decide +kernel)⟩
theorem lw_p4 : lw_okq (⟨"ReshapedTexts$State", "pass", "(LReshapedTexts$Editor;)I"⟩, 6) := ⟨⟨by decide +kernel, by decide +kernel⟩, List.mem_of_getElem? (i := 19) (by decide +kernel), List.mem_of_getElem? (i := 293) (by decide +kernel), List.mem_of_getElem? (i := 294) (by decide +kernel)⟩
theorem lw_p5 : lw_okq (⟨"ReshapedTexts$State", "append", "(LReshapedTexts$Editor;)V"⟩, 6) := ⟨⟨by decide +kernel, by decide +kernel⟩, List.mem_of_getElem? (i := 19) (by decide +kernel), List.mem_of_getElem? (i := 302) (by decide +kernel), List.mem_of_getElem? (i := 303) (by decide +kernel)⟩
theorem lw_p6 : lw_okq (⟨"ReshapedTexts$Commands", "read", "(I)I"⟩, 6) := ⟨⟨by decide +kernel, by decide +kernel⟩, List.mem_of_getElem? (i := 135) (by decide +kernel), List.mem_of_getElem? (i := 495) (by decide +kernel), List.mem_of_getElem? (i := 496) (by decide +kernel)⟩
theorem lw_p7 : lw_okq (⟨"ReshapedTexts$Commands", "digitsAt", "(I)I"⟩, 6) := ⟨⟨by decide +kernel, by decide +kernel⟩, List.mem_of_getElem? (i := 135) (by decide +kernel), List.mem_of_getElem? (i := 504) (by decide +kernel), List.mem_of_getElem? (i := 505) (by decide +kernel)⟩
theorem lw_p8 : lw_okq (⟨"ReshapedTexts$Commands", "numberAt", "(II)I"⟩, 6) := ⟨⟨by decide +kernel, by decide +kernel⟩, List.mem_of_getElem? (i := 135) (by decide +kernel), List.mem_of_getElem? (i := 511) (by decide +kernel), List.mem_of_getElem? (i := 512) (by decide +kernel)⟩
theorem lw_p9 : lw_okq (⟨"ReshapedTextsModel", "insertFault", "(III)I"⟩, 17) := ⟨⟨by decide +kernel, by decide +kernel⟩, List.mem_of_getElem? (i := 521) (by decide +kernel), List.mem_of_getElem? (i := 583) (by decide +kernel), List.mem_of_getElem? (i := 584) (by decide +kernel)⟩
theorem lw_p10 : lw_okq (⟨"ReshapedTextsModel", "know", "()V"⟩, 17) := ⟨⟨by decide +kernel, by decide +kernel⟩, List.mem_of_getElem? (i := 521) (by decide +kernel), List.mem_of_getElem? (i := 596) (by decide +kernel), List.mem_of_getElem? (i := 597) (by decide +kernel)⟩
theorem lw_p11 : lw_okq (⟨"ReshapedTextsModel", "inserts", "(III)I"⟩, 17) := ⟨⟨by decide +kernel, by decide +kernel⟩, List.mem_of_getElem? (i := 521) (by decide +kernel), List.mem_of_getElem? (i := 600) (by decide +kernel), List.mem_of_getElem? (i := 601) (by decide +kernel)⟩
theorem lw_p12 : lw_okq (⟨"ReshapedTextsModel", "writes", "(II)V"⟩, 17) := ⟨⟨by decide +kernel, by decide +kernel⟩, List.mem_of_getElem? (i := 521) (by decide +kernel), List.mem_of_getElem? (i := 607) (by decide +kernel), List.mem_of_getElem? (i := 608) (by decide +kernel)⟩
theorem lw_p13 : lw_okq (⟨"ReshapedTextsModel", "perform", "(II)V"⟩, 17) := ⟨⟨by decide +kernel, by decide +kernel⟩, List.mem_of_getElem? (i := 521) (by decide +kernel), List.mem_of_getElem? (i := 611) (by decide +kernel), List.mem_of_getElem? (i := 612) (by decide +kernel)⟩
theorem lw_p14 : lw_okq (⟨"ReshapedTextsModel", "keep", "(II)V"⟩, 17) := ⟨⟨by decide +kernel, by decide +kernel⟩, List.mem_of_getElem? (i := 521) (by decide +kernel), List.mem_of_getElem? (i := 630) (by decide +kernel), List.mem_of_getElem? (i := 631) (by decide +kernel)⟩
theorem lw_p15 : lw_okq (⟨"ReshapedTextsModel", "deleteFault", "(II)I"⟩, 17) := ⟨⟨by decide +kernel, by decide +kernel⟩, List.mem_of_getElem? (i := 521) (by decide +kernel), List.mem_of_getElem? (i := 638) (by decide +kernel), List.mem_of_getElem? (i := 639) (by decide +kernel)⟩
def lw_privs_1 : List (MethodName × Nat) := [(⟨"ReshapedTexts", "recorded", "(IIII)I"⟩, 6), (⟨"ReshapedTexts$Editor", "write", "(I)V"⟩, 8), (⟨"ReshapedTexts$Editor", "apply", "(I)V"⟩, 8), (⟨"ReshapedTexts$Editor", "keepBack", "(I)V"⟩, 8), (⟨"ReshapedTexts$State", "pass", "(LReshapedTexts$Editor;)I"⟩, 6), (⟨"ReshapedTexts$State", "append", "(LReshapedTexts$Editor;)V"⟩, 6), (⟨"ReshapedTexts$Commands", "read", "(I)I"⟩, 6), (⟨"ReshapedTexts$Commands", "digitsAt", "(I)I"⟩, 6), (⟨"ReshapedTexts$Commands", "numberAt", "(II)I"⟩, 6), (⟨"ReshapedTextsModel", "insertFault", "(III)I"⟩, 17), (⟨"ReshapedTextsModel", "know", "()V"⟩, 17), (⟨"ReshapedTextsModel", "inserts", "(III)I"⟩, 17), (⟨"ReshapedTextsModel", "writes", "(II)V"⟩, 17), (⟨"ReshapedTextsModel", "perform", "(II)V"⟩, 17), (⟨"ReshapedTextsModel", "keep", "(II)V"⟩, 17), (⟨"ReshapedTextsModel", "deleteFault", "(II)I"⟩, 17)]
theorem lw_r1 : ∀ q ∈ lw_privs_1, lw_okq q := List.forall_mem_cons.mpr ⟨lw_p0, List.forall_mem_cons.mpr ⟨lw_p1, List.forall_mem_cons.mpr ⟨lw_p2, List.forall_mem_cons.mpr ⟨lw_p3, List.forall_mem_cons.mpr ⟨lw_p4, List.forall_mem_cons.mpr ⟨lw_p5, List.forall_mem_cons.mpr ⟨lw_p6, List.forall_mem_cons.mpr ⟨lw_p7, List.forall_mem_cons.mpr ⟨lw_p8, List.forall_mem_cons.mpr ⟨lw_p9, List.forall_mem_cons.mpr ⟨lw_p10, List.forall_mem_cons.mpr ⟨lw_p11, List.forall_mem_cons.mpr ⟨lw_p12, List.forall_mem_cons.mpr ⟨lw_p13, List.forall_mem_cons.mpr ⟨lw_p14, List.forall_mem_cons.mpr ⟨lw_p15, fun _ h => absurd h List.not_mem_nil⟩⟩⟩⟩⟩⟩⟩⟩⟩⟩⟩⟩⟩⟩⟩⟩
theorem lw_p16 : lw_okq (⟨"ReshapedTextsModel", "deletes", "(II)I"⟩, 17) := ⟨⟨by decide +kernel, by decide +kernel⟩, List.mem_of_getElem? (i := 521) (by decide +kernel), List.mem_of_getElem? (i := 642) (by decide +kernel), List.mem_of_getElem? (i := 643) (by decide +kernel)⟩
theorem lw_p17 : lw_okq (⟨"ReshapedTextsModel", "backFault", "(I)I"⟩, 17) := ⟨⟨by decide +kernel, by decide +kernel⟩, List.mem_of_getElem? (i := 521) (by decide +kernel), List.mem_of_getElem? (i := 650) (by decide +kernel), List.mem_of_getElem? (i := 651) (by decide +kernel)⟩
theorem lw_p18 : lw_okq (⟨"ReshapedTextsModel", "backs", "(I)I"⟩, 17) := ⟨⟨by decide +kernel, by decide +kernel⟩, List.mem_of_getElem? (i := 521) (by decide +kernel), List.mem_of_getElem? (i := 654) (by decide +kernel), List.mem_of_getElem? (i := 655) (by decide +kernel)⟩
theorem lw_p19 : lw_okq (⟨"ReshapedTextsModel", "sendFault", "(I)I"⟩, 17) := ⟨⟨by decide +kernel, by decide +kernel⟩, List.mem_of_getElem? (i := 521) (by decide +kernel), List.mem_of_getElem? (i := 666) (by decide +kernel), List.mem_of_getElem? (i := 667) (by decide +kernel)⟩
theorem lw_p20 : lw_okq (⟨"ReshapedTextsModel", "canSend", "(I)Z"⟩, 17) := ⟨⟨by decide +kernel, by decide +kernel⟩, List.mem_of_getElem? (i := 521) (by decide +kernel), List.mem_of_getElem? (i := 670) (by decide +kernel), List.mem_of_getElem? (i := 671) (by decide +kernel)⟩
theorem lw_p21 : lw_okq (⟨"ReshapedTextsModel", "sends", "(I)I"⟩, 17) := ⟨⟨by decide +kernel, by decide +kernel⟩, List.mem_of_getElem? (i := 521) (by decide +kernel), List.mem_of_getElem? (i := 674) (by decide +kernel), List.mem_of_getElem? (i := 675) (by decide +kernel)⟩
theorem lw_p22 : lw_okq (⟨"ReshapedTextsModel", "behind", "(II)I"⟩, 17) := ⟨⟨by decide +kernel, by decide +kernel⟩, List.mem_of_getElem? (i := 521) (by decide +kernel), List.mem_of_getElem? (i := 678) (by decide +kernel), List.mem_of_getElem? (i := 679) (by decide +kernel)⟩
theorem lw_p23 : lw_okq (⟨"ReshapedTextsModel", "hearFault", "(I)I"⟩, 17) := ⟨⟨by decide +kernel, by decide +kernel⟩, List.mem_of_getElem? (i := 521) (by decide +kernel), List.mem_of_getElem? (i := 686) (by decide +kernel), List.mem_of_getElem? (i := 687) (by decide +kernel)⟩
theorem lw_p24 : lw_okq (⟨"ReshapedTextsModel", "hears", "(I)I"⟩, 17) := ⟨⟨by decide +kernel, by decide +kernel⟩, List.mem_of_getElem? (i := 521) (by decide +kernel), List.mem_of_getElem? (i := 690) (by decide +kernel), List.mem_of_getElem? (i := 691) (by decide +kernel)⟩
theorem lw_p25 : lw_okq (⟨"ReshapedTextsModel", "hearsAll", "(I)I"⟩, 17) := ⟨⟨by decide +kernel, by decide +kernel⟩, List.mem_of_getElem? (i := 521) (by decide +kernel), List.mem_of_getElem? (i := 698) (by decide +kernel), List.mem_of_getElem? (i := 699) (by decide +kernel)⟩
theorem lw_p26 : lw_okq (⟨"ReshapedTextsModel", "lay", "()V"⟩, 17) := ⟨⟨by decide +kernel, by decide +kernel⟩, List.mem_of_getElem? (i := 521) (by decide +kernel), List.mem_of_getElem? (i := 710) (by decide +kernel), List.mem_of_getElem? (i := 711) (by decide +kernel)⟩
theorem lw_p27 : lw_okq (⟨"ReshapedTextsModel", "isSame", "(I)Z"⟩, 17) := ⟨⟨by decide +kernel, by decide +kernel⟩, List.mem_of_getElem? (i := 521) (by decide +kernel), List.mem_of_getElem? (i := 718) (by decide +kernel), List.mem_of_getElem? (i := 719) (by decide +kernel)⟩
theorem lw_p28 : lw_okq (⟨"ReshapedTextsModel", "sum", "(I)I"⟩, 17) := ⟨⟨by decide +kernel, by decide +kernel⟩, List.mem_of_getElem? (i := 521) (by decide +kernel), List.mem_of_getElem? (i := 741) (by decide +kernel), List.mem_of_getElem? (i := 742) (by decide +kernel)⟩
theorem lw_p29 : lw_okq (⟨"ReshapedTextsModel", "end", "(I)V"⟩, 17) := ⟨⟨by decide +kernel, by decide +kernel⟩, List.mem_of_getElem? (i := 521) (by decide +kernel), List.mem_of_getElem? (i := 749) (by decide +kernel), List.mem_of_getElem? (i := 750) (by decide +kernel)⟩
theorem lw_p30 : lw_okq (⟨"ReshapedTextsModel", "putAside", "()V"⟩, 17) := ⟨⟨by decide +kernel, by decide +kernel⟩, List.mem_of_getElem? (i := 521) (by decide +kernel), List.mem_of_getElem? (i := 753) (by decide +kernel), List.mem_of_getElem? (i := 754) (by decide +kernel)⟩
theorem lw_p31 : lw_okq (⟨"ReshapedTextsModel", "putBack", "()V"⟩, 17) := ⟨⟨by decide +kernel, by decide +kernel⟩, List.mem_of_getElem? (i := 521) (by decide +kernel), List.mem_of_getElem? (i := 757) (by decide +kernel), List.mem_of_getElem? (i := 758) (by decide +kernel)⟩
def lw_privs_2 : List (MethodName × Nat) := [(⟨"ReshapedTextsModel", "deletes", "(II)I"⟩, 17), (⟨"ReshapedTextsModel", "backFault", "(I)I"⟩, 17), (⟨"ReshapedTextsModel", "backs", "(I)I"⟩, 17), (⟨"ReshapedTextsModel", "sendFault", "(I)I"⟩, 17), (⟨"ReshapedTextsModel", "canSend", "(I)Z"⟩, 17), (⟨"ReshapedTextsModel", "sends", "(I)I"⟩, 17), (⟨"ReshapedTextsModel", "behind", "(II)I"⟩, 17), (⟨"ReshapedTextsModel", "hearFault", "(I)I"⟩, 17), (⟨"ReshapedTextsModel", "hears", "(I)I"⟩, 17), (⟨"ReshapedTextsModel", "hearsAll", "(I)I"⟩, 17), (⟨"ReshapedTextsModel", "lay", "()V"⟩, 17), (⟨"ReshapedTextsModel", "isSame", "(I)Z"⟩, 17), (⟨"ReshapedTextsModel", "sum", "(I)I"⟩, 17), (⟨"ReshapedTextsModel", "end", "(I)V"⟩, 17), (⟨"ReshapedTextsModel", "putAside", "()V"⟩, 17), (⟨"ReshapedTextsModel", "putBack", "()V"⟩, 17)]
theorem lw_r2 : ∀ q ∈ lw_privs_2, lw_okq q := List.forall_mem_cons.mpr ⟨lw_p16, List.forall_mem_cons.mpr ⟨lw_p17, List.forall_mem_cons.mpr ⟨lw_p18, List.forall_mem_cons.mpr ⟨lw_p19, List.forall_mem_cons.mpr ⟨lw_p20, List.forall_mem_cons.mpr ⟨lw_p21, List.forall_mem_cons.mpr ⟨lw_p22, List.forall_mem_cons.mpr ⟨lw_p23, List.forall_mem_cons.mpr ⟨lw_p24, List.forall_mem_cons.mpr ⟨lw_p25, List.forall_mem_cons.mpr ⟨lw_p26, List.forall_mem_cons.mpr ⟨lw_p27, List.forall_mem_cons.mpr ⟨lw_p28, List.forall_mem_cons.mpr ⟨lw_p29, List.forall_mem_cons.mpr ⟨lw_p30, List.forall_mem_cons.mpr ⟨lw_p31, fun _ h => absurd h List.not_mem_nil⟩⟩⟩⟩⟩⟩⟩⟩⟩⟩⟩⟩⟩⟩⟩⟩
theorem lw_p32 : lw_okq (⟨"ReshapedTextsModel", "look", "()V"⟩, 17) := ⟨⟨by decide +kernel, by decide +kernel⟩, List.mem_of_getElem? (i := 521) (by decide +kernel), List.mem_of_getElem? (i := 785) (by decide +kernel), List.mem_of_getElem? (i := 786) (by decide +kernel)⟩
theorem lw_p33 : lw_okq (⟨"ReshapedTextsModel", "go", "()I"⟩, 17) := ⟨⟨by decide +kernel, by decide +kernel⟩, List.mem_of_getElem? (i := 521) (by decide +kernel), List.mem_of_getElem? (i := 789) (by decide +kernel), List.mem_of_getElem? (i := 790) (by decide +kernel)⟩
theorem lw_p34 : lw_okq (⟨"ReshapedTextsModel", "read", "()V"⟩, 17) := ⟨⟨by decide +kernel, by decide +kernel⟩, List.mem_of_getElem? (i := 521) (by decide +kernel), List.mem_of_getElem? (i := 793) (by decide +kernel), List.mem_of_getElem? (i := 794) (by decide +kernel)⟩
theorem lw_p35 : lw_okq (⟨"ReshapedTextsModel", "sign", "(II)I"⟩, 17) := ⟨⟨by decide +kernel, by decide +kernel⟩, List.mem_of_getElem? (i := 521) (by decide +kernel), List.mem_of_getElem? (i := 797) (by decide +kernel), List.mem_of_getElem? (i := 798) (by decide +kernel)⟩
theorem lw_p36 : lw_okq (⟨"ReshapedTextsModel", "number", "()I"⟩, 17) := ⟨⟨by decide +kernel, by decide +kernel⟩, List.mem_of_getElem? (i := 521) (by decide +kernel), List.mem_of_getElem? (i := 801) (by decide +kernel), List.mem_of_getElem? (i := 802) (by decide +kernel)⟩
theorem lw_p37 : lw_okq (⟨"ReshapedTextsModel", "does", "()I"⟩, 17) := ⟨⟨by decide +kernel, by decide +kernel⟩, List.mem_of_getElem? (i := 521) (by decide +kernel), List.mem_of_getElem? (i := 805) (by decide +kernel), List.mem_of_getElem? (i := 806) (by decide +kernel)⟩
def lw_privs_3 : List (MethodName × Nat) := [(⟨"ReshapedTextsModel", "look", "()V"⟩, 17), (⟨"ReshapedTextsModel", "go", "()I"⟩, 17), (⟨"ReshapedTextsModel", "read", "()V"⟩, 17), (⟨"ReshapedTextsModel", "sign", "(II)I"⟩, 17), (⟨"ReshapedTextsModel", "number", "()I"⟩, 17), (⟨"ReshapedTextsModel", "does", "()I"⟩, 17)]
theorem lw_r3 : ∀ q ∈ lw_privs_3, lw_okq q := List.forall_mem_cons.mpr ⟨lw_p32, List.forall_mem_cons.mpr ⟨lw_p33, List.forall_mem_cons.mpr ⟨lw_p34, List.forall_mem_cons.mpr ⟨lw_p35, List.forall_mem_cons.mpr ⟨lw_p36, List.forall_mem_cons.mpr ⟨lw_p37, fun _ h => absurd h List.not_mem_nil⟩⟩⟩⟩⟩⟩
def lw_privs : List (MethodName × Nat) := lw_privs_1 ++ (lw_privs_2 ++ (lw_privs_3))
def lw_tbl : List Cond := k2_sels lw_privs ++ tables_1
theorem lw_privs_ok : ∀ q ∈ lw_privs, lw_okq q := by
  show ∀ q ∈ lw_privs_1 ++ (lw_privs_2 ++ (lw_privs_3)), lw_okq q
  exact List.forall_mem_append.mpr ⟨lw_r1, List.forall_mem_append.mpr ⟨lw_r2, lw_r3⟩⟩
/-! ===== BEGIN words of one list among another's, by their places ===== -/
theorem goodIn_r {big : List Cond} (ws : List Cond) (ps : List Nat) (hp : ws = ps.filterMap (fun i => big[i]?)) (h : ws.all goodWord = true) : GoodIn big ws := by
  intro w hw
  have h1 := List.all_eq_true.mp h w hw
  rw [hp] at hw
  obtain ⟨i, -, hi⟩ := List.mem_filterMap.mp hw
  have hm : w ∈ big := by first | exact List.mem_of_getElem? hi | exact List.getElem?_mem hi
  exact ⟨hm, good_of_word h1⟩
theorem goodIn_app {big a b : List Cond} (ha : GoodIn big a) (hb : GoodIn big b) : GoodIn big (a ++ b) := fun w h => (List.mem_append.mp h).elim (ha w) (hb w)
theorem goodIn_ca {big a b : List Cond} {c : Cond} (ha : GoodIn big (c :: a)) (hb : GoodIn big b) : GoodIn big (c :: (a ++ b)) := fun w h => (List.mem_cons.mp h).elim (fun e => ha w (List.mem_cons.mpr (Or.inl e))) (fun h => (List.mem_append.mp h).elim (fun h => ha w (List.mem_cons.mpr (Or.inr h))) (hb w))
theorem goodIn_sub {big ws : List Cond} (hm : ∀ w ∈ ws, w ∈ big) (h : ws.all goodWord = true) : GoodIn big ws := fun w hw => ⟨hm w hw, good_of_word (List.all_eq_true.mp h w hw)⟩
/-! ===== END ===== -/
/-! ===== BEGIN printed: names, fields, word lists, decode rows ===== -/
def RX0 : String := "ReshapedTexts$Change"
def TX0 : u_T := fun k => match k with
  | _ => ("", "", "", false)
def tyX0 : Nat → FieldType := fun k => match k with
  | _ => .int
abbrev wsX00 : List Cond := u_ws RX0 TX0 0
theorem nmX0 : ∀ a, a < 0 → ∀ b, b < 0 → a ≠ b → (TX0 a).2.1 ≠ (TX0 b).2.1 := by decide +kernel
theorem tyX0_ok : ∀ k, k < 0 → parseFieldDescriptor (TX0 k).2.2.1 = some (tyX0 k) := by decide +kernel
abbrev cX0_of : ByteArray := prog_2_method_2_code
def yX0_of : MethodName := ⟨RX0, "of", "(IIII)I"⟩
abbrev cX0_kind : ByteArray := prog_2_method_3_code
def yX0_kind : MethodName := ⟨RX0, "kind", "(I)I"⟩
abbrev cX0_place : ByteArray := prog_2_method_4_code
def yX0_place : MethodName := ⟨RX0, "place", "(I)I"⟩
abbrev cX0_sign : ByteArray := prog_2_method_5_code
def yX0_sign : MethodName := ⟨RX0, "sign", "(I)I"⟩
abbrev cX0_writer : ByteArray := prog_2_method_6_code
def yX0_writer : MethodName := ⟨RX0, "writer", "(I)I"⟩
abbrev cX0_part : ByteArray := prog_2_method_7_code
def yX0_part : MethodName := ⟨RX0, "part", "(II)I"⟩
abbrev cX0_reshaped : ByteArray := prog_2_method_8_code
def yX0_reshaped : MethodName := ⟨RX0, "reshaped", "(II)I"⟩
abbrev cX0_passThrough : ByteArray := prog_2_method_9_code
def yX0_passThrough : MethodName := ⟨RX0, "passThrough", "(LReshapedTexts$Numbers;I)I"⟩
def RX1 : String := "ReshapedTexts$Commands"
def TX1 : u_T := fun k => match k with
  | 0 => ("ReshapedTexts$Commands", "signs", "LReshapedTexts$Numbers;", true)
  | 1 => ("ReshapedTexts$Commands", "numbers", "LReshapedTexts$Numbers;", true)
  | 2 => ("ReshapedTexts$Commands", "position", "I", false)
  | 3 => ("ReshapedTexts$Commands", "reason", "I", false)
  | 4 => ("ReshapedTexts$Commands", "cause", "I", false)
  | _ => ("ReshapedTexts$Commands", "done", "I", false)
def tyX1 : Nat → FieldType := fun k => match k with
  | 0 => .object "ReshapedTexts$Numbers"
  | 1 => .object "ReshapedTexts$Numbers"
  | 2 => .int
  | 3 => .int
  | 4 => .int
  | _ => .int
abbrev wsX10 : List Cond := u_ws RX1 TX1 6
theorem nmX1 : ∀ a, a < 6 → ∀ b, b < 6 → a ≠ b → (TX1 a).2.1 ≠ (TX1 b).2.1 := by decide +kernel
theorem tyX1_ok : ∀ k, k < 6 → parseFieldDescriptor (TX1 k).2.2.1 = some (tyX1 k) := by decide +kernel
abbrev cX1_init : ByteArray := prog_3_method_1_code
def yX1_init : MethodName := ⟨RX1, "<init>", "()V"⟩
abbrev cX1_runOn : ByteArray := prog_3_method_2_code
def yX1_runOn : MethodName := ⟨RX1, "runOn", "(LReshapedTexts$State;)V"⟩
abbrev cX1_read : ByteArray := prog_3_method_3_code
def yX1_read : MethodName := ⟨RX1, "read", "(I)I"⟩
abbrev cX1_numbersOf : ByteArray := prog_3_method_4_code
def yX1_numbersOf : MethodName := ⟨RX1, "numbersOf", "(I)I"⟩
abbrev cX1_digitsAt : ByteArray := prog_3_method_5_code
def yX1_digitsAt : MethodName := ⟨RX1, "digitsAt", "(I)I"⟩
abbrev cX1_numberAt : ByteArray := prog_3_method_6_code
def yX1_numberAt : MethodName := ⟨RX1, "numberAt", "(II)I"⟩
abbrev cX1_isDigit : ByteArray := prog_3_method_7_code
def yX1_isDigit : MethodName := ⟨RX1, "isDigit", "(I)Z"⟩
def RX2 : String := "ReshapedTexts$Editor"
def TX2 : u_T := fun k => match k with
  | 0 => ("ReshapedTexts$Editor", "number", "I", true)
  | 1 => ("ReshapedTexts$Editor", "copy", "LReshapedTexts$Numbers;", true)
  | 2 => ("ReshapedTexts$Editor", "waiting", "LReshapedTexts$Numbers;", true)
  | 3 => ("ReshapedTexts$Editor", "backs", "LReshapedTexts$Numbers;", true)
  | 4 => ("ReshapedTexts$Editor", "underWay", "Z", false)
  | 5 => ("ReshapedTexts$Editor", "heard", "I", false)
  | 6 => ("ReshapedTexts$Editor", "spot", "I", false)
  | _ => ("ReshapedTexts$Editor", "written", "I", false)
def tyX2 : Nat → FieldType := fun k => match k with
  | 0 => .int
  | 1 => .object "ReshapedTexts$Numbers"
  | 2 => .object "ReshapedTexts$Numbers"
  | 3 => .object "ReshapedTexts$Numbers"
  | 4 => .boolean
  | 5 => .int
  | 6 => .int
  | _ => .int
abbrev wsX20 : List Cond := u_ws RX2 TX2 8
theorem nmX2 : ∀ a, a < 8 → ∀ b, b < 8 → a ≠ b → (TX2 a).2.1 ≠ (TX2 b).2.1 := by decide +kernel
theorem tyX2_ok : ∀ k, k < 8 → parseFieldDescriptor (TX2 k).2.2.1 = some (tyX2 k) := by decide +kernel
abbrev cX2_init : ByteArray := prog_4_method_1_code
def yX2_init : MethodName := ⟨RX2, "<init>", "(I)V"⟩
abbrev cX2_putIn : ByteArray := prog_4_method_2_code
def yX2_putIn : MethodName := ⟨RX2, "putIn", "(II)I"⟩
abbrev cX2_takeOut : ByteArray := prog_4_method_3_code
def yX2_takeOut : MethodName := ⟨RX2, "takeOut", "(I)I"⟩
abbrev cX2_goBack : ByteArray := prog_4_method_4_code
def yX2_goBack : MethodName := ⟨RX2, "goBack", "()I"⟩
abbrev cX2_setSpot : ByteArray := prog_4_method_5_code
def yX2_setSpot : MethodName := ⟨RX2, "setSpot", "(I)I"⟩
abbrev cX2_canSend : ByteArray := prog_4_method_6_code
def yX2_canSend : MethodName := ⟨RX2, "canSend", "()Z"⟩
abbrev cX2_outgoing : ByteArray := prog_4_method_7_code
def yX2_outgoing : MethodName := ⟨RX2, "outgoing", "(LReshapedTexts$Numbers;)I"⟩
abbrev cX2_hearNext : ByteArray := prog_4_method_8_code
def yX2_hearNext : MethodName := ⟨RX2, "hearNext", "(LReshapedTexts$Numbers;)I"⟩
abbrev cX2_hearRest : ByteArray := prog_4_method_9_code
def yX2_hearRest : MethodName := ⟨RX2, "hearRest", "(LReshapedTexts$Numbers;)I"⟩
abbrev cX2_isSettled : ByteArray := prog_4_method_10_code
def yX2_isSettled : MethodName := ⟨RX2, "isSettled", "(LReshapedTexts$Numbers;)Z"⟩
abbrev cX2_forget : ByteArray := prog_4_method_11_code
def yX2_forget : MethodName := ⟨RX2, "forget", "()V"⟩
abbrev cX2_copyEditor : ByteArray := prog_4_method_12_code
def yX2_copyEditor : MethodName := ⟨RX2, "copyEditor", "(LReshapedTexts$Editor;)V"⟩
abbrev cX2_write : ByteArray := prog_4_method_13_code
def yX2_write : MethodName := ⟨RX2, "write", "(I)V"⟩
abbrev cX2_apply : ByteArray := prog_4_method_14_code
def yX2_apply : MethodName := ⟨RX2, "apply", "(I)V"⟩
abbrev cX2_keepBack : ByteArray := prog_4_method_15_code
def yX2_keepBack : MethodName := ⟨RX2, "keepBack", "(I)V"⟩
def RX3 : String := "ReshapedTexts$History"
def TX3 : u_T := fun k => match k with
  | 0 => ("ReshapedTexts$History", "newest", "LReshapedTexts$State;", false)
  | 1 => ("ReshapedTexts$History", "second", "LReshapedTexts$State;", false)
  | 2 => ("ReshapedTexts$History", "third", "LReshapedTexts$State;", false)
  | 3 => ("ReshapedTexts$History", "oldest", "LReshapedTexts$State;", false)
  | 4 => ("ReshapedTexts$History", "spare", "LReshapedTexts$State;", false)
  | _ => ("ReshapedTexts$History", "size", "I", false)
def tyX3 : Nat → FieldType := fun k => match k with
  | 0 => .object "ReshapedTexts$State"
  | 1 => .object "ReshapedTexts$State"
  | 2 => .object "ReshapedTexts$State"
  | 3 => .object "ReshapedTexts$State"
  | 4 => .object "ReshapedTexts$State"
  | _ => .int
abbrev wsX30 : List Cond := u_ws RX3 TX3 6
theorem nmX3 : ∀ a, a < 6 → ∀ b, b < 6 → a ≠ b → (TX3 a).2.1 ≠ (TX3 b).2.1 := by decide +kernel
theorem tyX3_ok : ∀ k, k < 6 → parseFieldDescriptor (TX3 k).2.2.1 = some (tyX3 k) := by decide +kernel
abbrev cX3_init : ByteArray := prog_5_method_1_code
def yX3_init : MethodName := ⟨RX3, "<init>", "()V"⟩
abbrev cX3_prepare : ByteArray := prog_5_method_2_code
def yX3_prepare : MethodName := ⟨RX3, "prepare", "(LReshapedTexts$State;)V"⟩
abbrev cX3_keep : ByteArray := prog_5_method_3_code
def yX3_keep : MethodName := ⟨RX3, "keep", "()V"⟩
abbrev cX3_restore : ByteArray := prog_5_method_4_code
def yX3_restore : MethodName := ⟨RX3, "restore", "(LReshapedTexts$State;)V"⟩
def RX4 : String := "ReshapedTexts$Numbers"
def TX4 : u_T := fun k => match k with
  | 0 => ("ReshapedTexts$Numbers", "cells", "[I", true)
  | _ => ("ReshapedTexts$Numbers", "size", "I", false)
def tyX4 : Nat → FieldType := fun k => match k with
  | 0 => .array .int
  | _ => .int
abbrev wsX40 : List Cond := u_ws RX4 TX4 2
theorem nmX4 : ∀ a, a < 2 → ∀ b, b < 2 → a ≠ b → (TX4 a).2.1 ≠ (TX4 b).2.1 := by decide +kernel
theorem tyX4_ok : ∀ k, k < 2 → parseFieldDescriptor (TX4 k).2.2.1 = some (tyX4 k) := by decide +kernel
abbrev cX4_init : ByteArray := prog_6_method_1_code
def yX4_init : MethodName := ⟨RX4, "<init>", "(I)V"⟩
abbrev cX4_size : ByteArray := prog_6_method_2_code
def yX4_size : MethodName := ⟨RX4, "size", "()I"⟩
abbrev cX4_at : ByteArray := prog_6_method_3_code
def yX4_at : MethodName := ⟨RX4, "at", "(I)I"⟩
abbrev cX4_put : ByteArray := prog_6_method_4_code
def yX4_put : MethodName := ⟨RX4, "put", "(II)V"⟩
abbrev cX4_add : ByteArray := prog_6_method_5_code
def yX4_add : MethodName := ⟨RX4, "add", "(I)V"⟩
abbrev cX4_addAt : ByteArray := prog_6_method_6_code
def yX4_addAt : MethodName := ⟨RX4, "addAt", "(II)V"⟩
abbrev cX4_removeAt : ByteArray := prog_6_method_7_code
def yX4_removeAt : MethodName := ⟨RX4, "removeAt", "(I)V"⟩
abbrev cX4_empty : ByteArray := prog_6_method_8_code
def yX4_empty : MethodName := ⟨RX4, "empty", "()V"⟩
abbrev cX4_copyNumbers : ByteArray := prog_6_method_9_code
def yX4_copyNumbers : MethodName := ⟨RX4, "copyNumbers", "(LReshapedTexts$Numbers;)V"⟩
abbrev cX4_isSameAs : ByteArray := prog_6_method_10_code
def yX4_isSameAs : MethodName := ⟨RX4, "isSameAs", "(LReshapedTexts$Numbers;)Z"⟩
def RX5 : String := "ReshapedTexts$State"
def TX5 : u_T := fun k => match k with
  | 0 => ("ReshapedTexts$State", "first", "LReshapedTexts$Editor;", true)
  | 1 => ("ReshapedTexts$State", "second", "LReshapedTexts$Editor;", true)
  | 2 => ("ReshapedTexts$State", "third", "LReshapedTexts$Editor;", true)
  | 3 => ("ReshapedTexts$State", "log", "LReshapedTexts$Numbers;", true)
  | 4 => ("ReshapedTexts$State", "text", "LReshapedTexts$Numbers;", true)
  | _ => ("ReshapedTexts$State", "writers", "LReshapedTexts$Numbers;", true)
def tyX5 : Nat → FieldType := fun k => match k with
  | 0 => .object "ReshapedTexts$Editor"
  | 1 => .object "ReshapedTexts$Editor"
  | 2 => .object "ReshapedTexts$Editor"
  | 3 => .object "ReshapedTexts$Numbers"
  | 4 => .object "ReshapedTexts$Numbers"
  | _ => .object "ReshapedTexts$Numbers"
abbrev wsX50 : List Cond := u_ws RX5 TX5 6
theorem nmX5 : ∀ a, a < 6 → ∀ b, b < 6 → a ≠ b → (TX5 a).2.1 ≠ (TX5 b).2.1 := by decide +kernel
theorem tyX5_ok : ∀ k, k < 6 → parseFieldDescriptor (TX5 k).2.2.1 = some (tyX5 k) := by decide +kernel
abbrev cX5_init : ByteArray := prog_7_method_1_code
def yX5_init : MethodName := ⟨RX5, "<init>", "()V"⟩
abbrev cX5_editor : ByteArray := prog_7_method_2_code
def yX5_editor : MethodName := ⟨RX5, "editor", "(I)LReshapedTexts$Editor;"⟩
abbrev cX5_answer : ByteArray := prog_7_method_3_code
def yX5_answer : MethodName := ⟨RX5, "answer", "(IIII)I"⟩
abbrev cX5_nothingsInLog : ByteArray := prog_7_method_4_code
def yX5_nothingsInLog : MethodName := ⟨RX5, "nothingsInLog", "()I"⟩
abbrev cX5_waitingOfAll : ByteArray := prog_7_method_5_code
def yX5_waitingOfAll : MethodName := ⟨RX5, "waitingOfAll", "()I"⟩
abbrev cX5_settledEditors : ByteArray := prog_7_method_6_code
def yX5_settledEditors : MethodName := ⟨RX5, "settledEditors", "()I"⟩
abbrev cX5_isOneText : ByteArray := prog_7_method_7_code
def yX5_isOneText : MethodName := ⟨RX5, "isOneText", "()Z"⟩
abbrev cX5_begin : ByteArray := prog_7_method_8_code
def yX5_begin : MethodName := ⟨RX5, "begin", "()V"⟩
abbrev cX5_copyState : ByteArray := prog_7_method_9_code
def yX5_copyState : MethodName := ⟨RX5, "copyState", "(LReshapedTexts$State;)V"⟩
abbrev cX5_copyEndOf : ByteArray := prog_7_method_10_code
def yX5_copyEndOf : MethodName := ⟨RX5, "copyEndOf", "(LReshapedTexts$State;Z)V"⟩
abbrev cX5_pass : ByteArray := prog_7_method_11_code
def yX5_pass : MethodName := ⟨RX5, "pass", "(LReshapedTexts$Editor;)I"⟩
abbrev cX5_append : ByteArray := prog_7_method_12_code
def yX5_append : MethodName := ⟨RX5, "append", "(LReshapedTexts$Editor;)V"⟩
def RX6 : String := "ReshapedTexts"
def TX6 : u_T := fun k => match k with
  | 0 => ("ReshapedTexts", "now", "LReshapedTexts$State;", true)
  | 1 => ("ReshapedTexts", "trial", "LReshapedTexts$State;", true)
  | 2 => ("ReshapedTexts", "upwards", "LReshapedTexts$State;", true)
  | 3 => ("ReshapedTexts", "downwards", "LReshapedTexts$State;", true)
  | 4 => ("ReshapedTexts", "past", "LReshapedTexts$History;", true)
  | _ => ("ReshapedTexts", "commands", "LReshapedTexts$Commands;", true)
def tyX6 : Nat → FieldType := fun k => match k with
  | 0 => .object "ReshapedTexts$State"
  | 1 => .object "ReshapedTexts$State"
  | 2 => .object "ReshapedTexts$State"
  | 3 => .object "ReshapedTexts$State"
  | 4 => .object "ReshapedTexts$History"
  | _ => .object "ReshapedTexts$Commands"
abbrev wsX60 : List Cond := u_ws RX6 TX6 6
theorem nmX6 : ∀ a, a < 6 → ∀ b, b < 6 → a ≠ b → (TX6 a).2.1 ≠ (TX6 b).2.1 := by decide +kernel
theorem tyX6_ok : ∀ k, k < 6 → parseFieldDescriptor (TX6 k).2.2.1 = some (tyX6 k) := by decide +kernel
abbrev cX6_init : ByteArray := prog_1_method_1_code
def yX6_init : MethodName := ⟨RX6, "<init>", "()V"⟩
abbrev cX6_insert : ByteArray := prog_1_method_2_code
def yX6_insert : MethodName := ⟨RX6, "insert", "(III)I"⟩
abbrev cX6_delete : ByteArray := prog_1_method_3_code
def yX6_delete : MethodName := ⟨RX6, "delete", "(II)I"⟩
abbrev cX6_takeBack : ByteArray := prog_1_method_4_code
def yX6_takeBack : MethodName := ⟨RX6, "takeBack", "(I)I"⟩
abbrev cX6_mark : ByteArray := prog_1_method_5_code
def yX6_mark : MethodName := ⟨RX6, "mark", "(II)I"⟩
abbrev cX6_send : ByteArray := prog_1_method_6_code
def yX6_send : MethodName := ⟨RX6, "send", "(I)I"⟩
abbrev cX6_hear : ByteArray := prog_1_method_7_code
def yX6_hear : MethodName := ⟨RX6, "hear", "(I)I"⟩
abbrev cX6_hearAll : ByteArray := prog_1_method_8_code
def yX6_hearAll : MethodName := ⟨RX6, "hearAll", "(I)I"⟩
abbrev cX6_clear : ByteArray := prog_1_method_9_code
def yX6_clear : MethodName := ⟨RX6, "clear", "()I"⟩
abbrev cX6_letter : ByteArray := prog_1_method_10_code
def yX6_letter : MethodName := ⟨RX6, "letter", "(II)I"⟩
abbrev cX6_editorOf : ByteArray := prog_1_method_11_code
def yX6_editorOf : MethodName := ⟨RX6, "editorOf", "(II)I"⟩
abbrev cX6_waitingOf : ByteArray := prog_1_method_12_code
def yX6_waitingOf : MethodName := ⟨RX6, "waitingOf", "(III)I"⟩
abbrev cX6_logOf : ByteArray := prog_1_method_13_code
def yX6_logOf : MethodName := ⟨RX6, "logOf", "(II)I"⟩
abbrev cX6_by : ByteArray := prog_1_method_14_code
def yX6_by : MethodName := ⟨RX6, "by", "(I)I"⟩
abbrev cX6_count : ByteArray := prog_1_method_15_code
def yX6_count : MethodName := ⟨RX6, "count", "(I)I"⟩
abbrev cX6_inTheEnd : ByteArray := prog_1_method_16_code
def yX6_inTheEnd : MethodName := ⟨RX6, "inTheEnd", "(II)I"⟩
abbrev cX6_both : ByteArray := prog_1_method_17_code
def yX6_both : MethodName := ⟨RX6, "both", "(I)I"⟩
abbrev cX6_wouldSend : ByteArray := prog_1_method_18_code
def yX6_wouldSend : MethodName := ⟨RX6, "wouldSend", "(II)I"⟩
abbrev cX6_undo : ByteArray := prog_1_method_19_code
def yX6_undo : MethodName := ⟨RX6, "undo", "()I"⟩
abbrev cX6_type : ByteArray := prog_1_method_20_code
def yX6_type : MethodName := ⟨RX6, "type", "(I)I"⟩
abbrev cX6_clearText : ByteArray := prog_1_method_21_code
def yX6_clearText : MethodName := ⟨RX6, "clearText", "()I"⟩
abbrev cX6_fault : ByteArray := prog_1_method_22_code
def yX6_fault : MethodName := ⟨RX6, "fault", "(I)I"⟩
abbrev cX6_play : ByteArray := prog_1_method_23_code
def yX6_play : MethodName := ⟨RX6, "play", "()I"⟩
abbrev cX6_recorded : ByteArray := prog_1_method_24_code
def yX6_recorded : MethodName := ⟨RX6, "recorded", "(IIII)I"⟩
abbrev cX6_isNoEditor : ByteArray := prog_1_method_25_code
def yX6_isNoEditor : MethodName := ⟨RX6, "isNoEditor", "(I)Z"⟩
abbrev cX6_partOf : ByteArray := prog_1_method_26_code
def yX6_partOf : MethodName := ⟨RX6, "partOf", "(LReshapedTexts$Numbers;II)I"⟩
def RX7 : String := "ReshapedTextsModel"
def TX7 : u_T := fun k => match k with
  | 0 => ("ReshapedTextsModel", "s", "[I", true)
  | 1 => ("ReshapedTextsModel", "aside", "[I", true)
  | 2 => ("ReshapedTextsModel", "before", "[I", true)
  | 3 => ("ReshapedTextsModel", "known", "I", false)
  | 4 => ("ReshapedTextsModel", "text", "[I", true)
  | 5 => ("ReshapedTextsModel", "length", "I", false)
  | 6 => ("ReshapedTextsModel", "letters", "[I", true)
  | 7 => ("ReshapedTextsModel", "bys", "[I", true)
  | 8 => ("ReshapedTextsModel", "logLong", "I", false)
  | 9 => ("ReshapedTextsModel", "areSame", "Z", false)
  | 10 => ("ReshapedTextsModel", "first", "[I", true)
  | 11 => ("ReshapedTextsModel", "at", "I", false)
  | 12 => ("ReshapedTextsModel", "isWrong", "Z", false)
  | 13 => ("ReshapedTextsModel", "command", "[I", true)
  | 14 => ("ReshapedTextsModel", "position", "I", false)
  | 15 => ("ReshapedTextsModel", "reason", "I", false)
  | _ => ("ReshapedTextsModel", "cause", "I", false)
def tyX7 : Nat → FieldType := fun k => match k with
  | 0 => .array .int
  | 1 => .array .int
  | 2 => .array .int
  | 3 => .int
  | 4 => .array .int
  | 5 => .int
  | 6 => .array .int
  | 7 => .array .int
  | 8 => .int
  | 9 => .boolean
  | 10 => .array .int
  | 11 => .int
  | 12 => .boolean
  | 13 => .array .int
  | 14 => .int
  | 15 => .int
  | _ => .int
abbrev wsX70 : List Cond := u_ws RX7 TX7 17
theorem nmX7 : ∀ a, a < 17 → ∀ b, b < 17 → a ≠ b → (TX7 a).2.1 ≠ (TX7 b).2.1 := by decide +kernel
theorem tyX7_ok : ∀ k, k < 17 → parseFieldDescriptor (TX7 k).2.2.1 = some (tyX7 k) := by decide +kernel
abbrev cX7_init : ByteArray := prog_9_method_1_code
def yX7_init : MethodName := ⟨RX7, "<init>", "()V"⟩
abbrev cX7_in : ByteArray := prog_9_method_3_code
def yX7_in : MethodName := ⟨RX7, "in", "(III)Z"⟩
abbrev cX7_isEditor : ByteArray := prog_9_method_4_code
def yX7_isEditor : MethodName := ⟨RX7, "isEditor", "(I)Z"⟩
abbrev cX7_of : ByteArray := prog_9_method_5_code
def yX7_of : MethodName := ⟨RX7, "of", "(II)I"⟩
abbrev cX7_know : ByteArray := prog_9_method_6_code
def yX7_know : MethodName := ⟨RX7, "know", "()V"⟩
abbrev cX7_putAside : ByteArray := prog_9_method_7_code
def yX7_putAside : MethodName := ⟨RX7, "putAside", "()V"⟩
abbrev cX7_putBack : ByteArray := prog_9_method_8_code
def yX7_putBack : MethodName := ⟨RX7, "putBack", "()V"⟩
abbrev cX7_made : ByteArray := prog_9_method_9_code
def yX7_made : MethodName := ⟨RX7, "made", "(IIII)I"⟩
abbrev cX7_kindOf : ByteArray := prog_9_method_10_code
def yX7_kindOf : MethodName := ⟨RX7, "kindOf", "(I)I"⟩
abbrev cX7_placeOf : ByteArray := prog_9_method_11_code
def yX7_placeOf : MethodName := ⟨RX7, "placeOf", "(I)I"⟩
abbrev cX7_letterOf : ByteArray := prog_9_method_12_code
def yX7_letterOf : MethodName := ⟨RX7, "letterOf", "(I)I"⟩
abbrev cX7_editorBy : ByteArray := prog_9_method_13_code
def yX7_editorBy : MethodName := ⟨RX7, "editorBy", "(I)I"⟩
abbrev cX7_reshaped : ByteArray := prog_9_method_14_code
def yX7_reshaped : MethodName := ⟨RX7, "reshaped", "(II)I"⟩
abbrev cX7_perform : ByteArray := prog_9_method_15_code
def yX7_perform : MethodName := ⟨RX7, "perform", "(II)V"⟩
abbrev cX7_writes : ByteArray := prog_9_method_16_code
def yX7_writes : MethodName := ⟨RX7, "writes", "(II)V"⟩
abbrev cX7_keep : ByteArray := prog_9_method_17_code
def yX7_keep : MethodName := ⟨RX7, "keep", "(II)V"⟩
abbrev cX7_insertFault : ByteArray := prog_9_method_18_code
def yX7_insertFault : MethodName := ⟨RX7, "insertFault", "(III)I"⟩
abbrev cX7_inserts : ByteArray := prog_9_method_19_code
def yX7_inserts : MethodName := ⟨RX7, "inserts", "(III)I"⟩
abbrev cX7_deleteFault : ByteArray := prog_9_method_20_code
def yX7_deleteFault : MethodName := ⟨RX7, "deleteFault", "(II)I"⟩
abbrev cX7_deletes : ByteArray := prog_9_method_21_code
def yX7_deletes : MethodName := ⟨RX7, "deletes", "(II)I"⟩
abbrev cX7_backFault : ByteArray := prog_9_method_22_code
def yX7_backFault : MethodName := ⟨RX7, "backFault", "(I)I"⟩
abbrev cX7_backs : ByteArray := prog_9_method_23_code
def yX7_backs : MethodName := ⟨RX7, "backs", "(I)I"⟩
abbrev cX7_behind : ByteArray := prog_9_method_24_code
def yX7_behind : MethodName := ⟨RX7, "behind", "(II)I"⟩
abbrev cX7_canSend : ByteArray := prog_9_method_25_code
def yX7_canSend : MethodName := ⟨RX7, "canSend", "(I)Z"⟩
abbrev cX7_sendFault : ByteArray := prog_9_method_26_code
def yX7_sendFault : MethodName := ⟨RX7, "sendFault", "(I)I"⟩
abbrev cX7_sends : ByteArray := prog_9_method_27_code
def yX7_sends : MethodName := ⟨RX7, "sends", "(I)I"⟩
abbrev cX7_hearFault : ByteArray := prog_9_method_28_code
def yX7_hearFault : MethodName := ⟨RX7, "hearFault", "(I)I"⟩
abbrev cX7_hears : ByteArray := prog_9_method_29_code
def yX7_hears : MethodName := ⟨RX7, "hears", "(I)I"⟩
abbrev cX7_hearsAll : ByteArray := prog_9_method_30_code
def yX7_hearsAll : MethodName := ⟨RX7, "hearsAll", "(I)I"⟩
abbrev cX7_insert : ByteArray := prog_9_method_31_code
def yX7_insert : MethodName := ⟨RX7, "insert", "(III)I"⟩
abbrev cX7_delete : ByteArray := prog_9_method_32_code
def yX7_delete : MethodName := ⟨RX7, "delete", "(II)I"⟩
abbrev cX7_takeBack : ByteArray := prog_9_method_33_code
def yX7_takeBack : MethodName := ⟨RX7, "takeBack", "(I)I"⟩
abbrev cX7_mark : ByteArray := prog_9_method_34_code
def yX7_mark : MethodName := ⟨RX7, "mark", "(II)I"⟩
abbrev cX7_send : ByteArray := prog_9_method_35_code
def yX7_send : MethodName := ⟨RX7, "send", "(I)I"⟩
abbrev cX7_hear : ByteArray := prog_9_method_36_code
def yX7_hear : MethodName := ⟨RX7, "hear", "(I)I"⟩
abbrev cX7_hearAll : ByteArray := prog_9_method_37_code
def yX7_hearAll : MethodName := ⟨RX7, "hearAll", "(I)I"⟩
abbrev cX7_clear : ByteArray := prog_9_method_38_code
def yX7_clear : MethodName := ⟨RX7, "clear", "()I"⟩
abbrev cX7_lay : ByteArray := prog_9_method_39_code
def yX7_lay : MethodName := ⟨RX7, "lay", "()V"⟩
abbrev cX7_isSame : ByteArray := prog_9_method_40_code
def yX7_isSame : MethodName := ⟨RX7, "isSame", "(I)Z"⟩
abbrev cX7_letter : ByteArray := prog_9_method_41_code
def yX7_letter : MethodName := ⟨RX7, "letter", "(II)I"⟩
abbrev cX7_editorOf : ByteArray := prog_9_method_42_code
def yX7_editorOf : MethodName := ⟨RX7, "editorOf", "(II)I"⟩
abbrev cX7_told : ByteArray := prog_9_method_43_code
def yX7_told : MethodName := ⟨RX7, "told", "(II)I"⟩
abbrev cX7_waitingOf : ByteArray := prog_9_method_44_code
def yX7_waitingOf : MethodName := ⟨RX7, "waitingOf", "(III)I"⟩
abbrev cX7_logOf : ByteArray := prog_9_method_45_code
def yX7_logOf : MethodName := ⟨RX7, "logOf", "(II)I"⟩
abbrev cX7_by : ByteArray := prog_9_method_46_code
def yX7_by : MethodName := ⟨RX7, "by", "(I)I"⟩
abbrev cX7_sum : ByteArray := prog_9_method_47_code
def yX7_sum : MethodName := ⟨RX7, "sum", "(I)I"⟩
abbrev cX7_count : ByteArray := prog_9_method_48_code
def yX7_count : MethodName := ⟨RX7, "count", "(I)I"⟩
abbrev cX7_end : ByteArray := prog_9_method_49_code
def yX7_end : MethodName := ⟨RX7, "end", "(I)V"⟩
abbrev cX7_inTheEnd : ByteArray := prog_9_method_50_code
def yX7_inTheEnd : MethodName := ⟨RX7, "inTheEnd", "(II)I"⟩
abbrev cX7_both : ByteArray := prog_9_method_51_code
def yX7_both : MethodName := ⟨RX7, "both", "(I)I"⟩
abbrev cX7_wouldSend : ByteArray := prog_9_method_52_code
def yX7_wouldSend : MethodName := ⟨RX7, "wouldSend", "(II)I"⟩
abbrev cX7_undo : ByteArray := prog_9_method_53_code
def yX7_undo : MethodName := ⟨RX7, "undo", "()I"⟩
abbrev cX7_type : ByteArray := prog_9_method_54_code
def yX7_type : MethodName := ⟨RX7, "type", "(I)I"⟩
abbrev cX7_clearText : ByteArray := prog_9_method_55_code
def yX7_clearText : MethodName := ⟨RX7, "clearText", "()I"⟩
abbrev cX7_sign : ByteArray := prog_9_method_56_code
def yX7_sign : MethodName := ⟨RX7, "sign", "(II)I"⟩
abbrev cX7_number : ByteArray := prog_9_method_57_code
def yX7_number : MethodName := ⟨RX7, "number", "()I"⟩
abbrev cX7_read : ByteArray := prog_9_method_58_code
def yX7_read : MethodName := ⟨RX7, "read", "()V"⟩
abbrev cX7_does : ByteArray := prog_9_method_59_code
def yX7_does : MethodName := ⟨RX7, "does", "()I"⟩
abbrev cX7_go : ByteArray := prog_9_method_60_code
def yX7_go : MethodName := ⟨RX7, "go", "()I"⟩
abbrev cX7_look : ByteArray := prog_9_method_61_code
def yX7_look : MethodName := ⟨RX7, "look", "()V"⟩
abbrev cX7_fault : ByteArray := prog_9_method_62_code
def yX7_fault : MethodName := ⟨RX7, "fault", "(I)I"⟩
abbrev cX7_play : ByteArray := prog_9_method_63_code
def yX7_play : MethodName := ⟨RX7, "play", "()I"⟩
def RJ9 : String := "java/lang/Math"
def TJ9 : u_T := fun k => match k with
  | _ => ("", "", "", false)
def tyJ9 : Nat → FieldType := fun k => match k with
  | _ => .int
theorem nmJ9 : ∀ a, a < 0 → ∀ b, b < 0 → a ≠ b → (TJ9 a).2.1 ≠ (TJ9 b).2.1 := by decide +kernel
theorem tyJ9_ok : ∀ k, k < 0 → parseFieldDescriptor (TJ9 k).2.2.1 = some (tyJ9 k) := by decide +kernel
abbrev cJ9_max_7cf53 : ByteArray := prog_10_method_65_code
def yJ9_max_7cf53 : MethodName := ⟨RJ9, "max", "(II)I"⟩
abbrev cJ9_min_7cf53 : ByteArray := prog_10_method_69_code
def yJ9_min_7cf53 : MethodName := ⟨RJ9, "min", "(II)I"⟩
def RL : String := "ReshapedTextsLaw"
abbrev cL_law : ByteArray := code
def yL_law : MethodName := ⟨RL, "law", "([I)Z"⟩
def wsL_law_r1 : List Cond := [Cond.classLink RL 7 RX6, Cond.instantiable RX6 6, Cond.initialized RX6, Cond.classLink RL 10 RX7, Cond.instantiable RX7 17, Cond.initialized RX7, Cond.methodLink RL 9 yX6_init, Cond.instanceMethod yX6_init, Cond.code yX6_init cX6_init 1 none, Cond.methodLink RX6 3 objectInit, Cond.instanceMethod objectInit, Cond.code objectInit ⟨#[0xb1]⟩ 1 none, Cond.classLink RX6 9 RX5, Cond.instantiable RX5 6, Cond.initialized RX5, Cond.fieldLink RX6 12 "ReshapedTexts" "now" "LReshapedTexts$State;", Cond.fieldLink RX6 16 "ReshapedTexts" "trial" "LReshapedTexts$State;", Cond.fieldLink RX6 19 "ReshapedTexts" "upwards" "LReshapedTexts$State;", Cond.fieldLink RX6 22 "ReshapedTexts" "downwards" "LReshapedTexts$State;", Cond.classLink RX6 25 RX3, Cond.instantiable RX3 6, Cond.initialized RX3, Cond.fieldLink RX6 28 "ReshapedTexts" "past" "LReshapedTexts$History;", Cond.classLink RX6 32 RX1]
def wsL_law_r2 : List Cond := [Cond.instantiable RX1 6, Cond.initialized RX1, Cond.fieldLink RX6 35 "ReshapedTexts" "commands" "LReshapedTexts$Commands;", Cond.methodLink RX6 11 yX5_init, Cond.instanceMethod yX5_init, Cond.code yX5_init cX5_init 1 none, Cond.methodLink RX5 3 objectInit, Cond.classLink RX5 9 RX2, Cond.instantiable RX2 8, Cond.initialized RX2, Cond.fieldLink RX5 14 "ReshapedTexts$State" "first" "LReshapedTexts$Editor;", Cond.fieldLink RX5 20 "ReshapedTexts$State" "second" "LReshapedTexts$Editor;", Cond.fieldLink RX5 23 "ReshapedTexts$State" "third" "LReshapedTexts$Editor;", Cond.classLink RX5 26 RX4, Cond.instantiable RX4 2, Cond.initialized RX4, Cond.fieldLink RX5 29 "ReshapedTexts$State" "log" "LReshapedTexts$Numbers;", Cond.fieldLink RX5 33 "ReshapedTexts$State" "text" "LReshapedTexts$Numbers;", Cond.fieldLink RX5 36 "ReshapedTexts$State" "writers" "LReshapedTexts$Numbers;", Cond.methodLink RX5 11 yX2_init, Cond.instanceMethod yX2_init, Cond.code yX2_init cX2_init 2 none, Cond.methodLink RX2 3 objectInit, Cond.fieldLink RX2 9 "ReshapedTexts$Editor" "number" "I"]
def wsL_law_r3 : List Cond := [Cond.classLink RX2 15 RX4, Cond.fieldLink RX2 20 "ReshapedTexts$Editor" "copy" "LReshapedTexts$Numbers;", Cond.fieldLink RX2 24 "ReshapedTexts$Editor" "waiting" "LReshapedTexts$Numbers;", Cond.fieldLink RX2 27 "ReshapedTexts$Editor" "backs" "LReshapedTexts$Numbers;", Cond.methodLink RX2 17 yX4_init, Cond.instanceMethod yX4_init, Cond.code yX4_init cX4_init 2 none, Cond.methodLink RX4 1 objectInit, Cond.methodLink RX4 7 Lib.Math.max.name, Cond.static Lib.Math.max.name, Cond.initialized "java/lang/Math", Cond.code Lib.Math.max.name Lib.Math.max.code 2 (some .int), Cond.arrayClass .int, Cond.fieldLink RX4 13 "ReshapedTexts$Numbers" "cells" "[I", Cond.fieldLink RX4 19 "ReshapedTexts$Numbers" "size" "I", Cond.methodLink RX5 28 yX4_init, Cond.methodLink RX6 27 yX3_init, Cond.instanceMethod yX3_init, Cond.code yX3_init cX3_init 1 none, Cond.methodLink RX3 3 objectInit, Cond.classLink RX3 9 RX5, Cond.fieldLink RX3 12 "ReshapedTexts$History" "newest" "LReshapedTexts$State;", Cond.fieldLink RX3 18 "ReshapedTexts$History" "second" "LReshapedTexts$State;", Cond.fieldLink RX3 21 "ReshapedTexts$History" "third" "LReshapedTexts$State;"]
def wsL_law_r4 : List Cond := [Cond.fieldLink RX3 24 "ReshapedTexts$History" "oldest" "LReshapedTexts$State;", Cond.fieldLink RX3 27 "ReshapedTexts$History" "spare" "LReshapedTexts$State;", Cond.methodLink RX3 11 yX5_init, Cond.methodLink RX6 34 yX1_init, Cond.instanceMethod yX1_init, Cond.code yX1_init cX1_init 1 none, Cond.methodLink RX1 3 objectInit, Cond.classLink RX1 9 RX4, Cond.fieldLink RX1 14 "ReshapedTexts$Commands" "signs" "LReshapedTexts$Numbers;", Cond.fieldLink RX1 20 "ReshapedTexts$Commands" "numbers" "LReshapedTexts$Numbers;", Cond.methodLink RX1 11 yX4_init, Cond.methodLink RL 12 yX7_init, Cond.instanceMethod yX7_init, Cond.code yX7_init cX7_init 1 none, Cond.methodLink RX7 1 objectInit, Cond.fieldLink RX7 7 "ReshapedTextsModel" "s" "[I", Cond.fieldLink RX7 13 "ReshapedTextsModel" "aside" "[I", Cond.fieldLink RX7 16 "ReshapedTextsModel" "before" "[I", Cond.fieldLink RX7 19 "ReshapedTextsModel" "text" "[I", Cond.fieldLink RX7 22 "ReshapedTextsModel" "letters" "[I", Cond.fieldLink RX7 25 "ReshapedTextsModel" "bys" "[I", Cond.fieldLink RX7 28 "ReshapedTextsModel" "first" "[I", Cond.fieldLink RX7 31 "ReshapedTextsModel" "command" "[I", Cond.methodLink RL 13 yX6_insert]
def wsL_law_r5 : List Cond := [Cond.instanceMethod yX6_insert, Cond.selects RX6 yX6_insert yX6_insert, Cond.code yX6_insert cX6_insert 4 (some .int), Cond.methodLink RX6 39 yX6_recorded, Cond.instanceMethod yX6_recorded, Cond.selects RX6 yX6_recorded yX6_recorded, Cond.code yX6_recorded cX6_recorded 6 (some .int), Cond.methodLink RX6 53 yX3_prepare, Cond.instanceMethod yX3_prepare, Cond.selects RX3 yX3_prepare yX3_prepare, Cond.code yX3_prepare cX3_prepare 2 none, Cond.methodLink RX3 30 yX5_copyState, Cond.instanceMethod yX5_copyState, Cond.selects RX5 yX5_copyState yX5_copyState, Cond.code yX5_copyState cX5_copyState 2 none, Cond.methodLink RX5 103 yX2_copyEditor, Cond.instanceMethod yX2_copyEditor, Cond.selects RX2 yX2_copyEditor yX2_copyEditor, Cond.code yX2_copyEditor cX2_copyEditor 2 none, Cond.fieldLink RX2 59 "ReshapedTexts$Editor" "underWay" "Z", Cond.fieldLink RX2 63 "ReshapedTexts$Editor" "heard" "I", Cond.fieldLink RX2 56 "ReshapedTexts$Editor" "spot" "I", Cond.fieldLink RX2 87 "ReshapedTexts$Editor" "written" "I", Cond.methodLink RX2 90 yX4_copyNumbers]
def wsL_law_r6 : List Cond := [Cond.instanceMethod yX4_copyNumbers, Cond.selects RX4 yX4_copyNumbers yX4_copyNumbers, Cond.code yX4_copyNumbers cX4_copyNumbers 4 none, Cond.methodLink RX4 27 Lib.Math.min.name, Cond.static Lib.Math.min.name, Cond.code Lib.Math.min.name Lib.Math.min.code 2 (some .int), Cond.methodLink RX5 107 yX4_copyNumbers, Cond.methodLink RX6 177 yX5_answer, Cond.instanceMethod yX5_answer, Cond.selects RX5 yX5_answer yX5_answer, Cond.code yX5_answer cX5_answer 6 (some .int), Cond.static yX6_isNoEditor, Cond.code yX6_isNoEditor cX6_isNoEditor 1 (some .boolean), Cond.methodLink RX5 43 yX5_editor, Cond.instanceMethod yX5_editor, Cond.selects RX5 yX5_editor yX5_editor, Cond.code yX5_editor cX5_editor 2 (some (.object "ReshapedTexts$Editor")), Cond.methodLink RX5 47 yX2_putIn, Cond.instanceMethod yX2_putIn, Cond.selects RX2 yX2_putIn yX2_putIn, Cond.code yX2_putIn cX2_putIn 3 (some .int), Cond.methodLink RX2 30 yX4_size, Cond.instanceMethod yX4_size, Cond.selects RX4 yX4_size yX4_size]
def wsL_law_r7 : List Cond := [Cond.code yX4_size cX4_size 1 (some .int), Cond.methodLink RX2 34 yX0_of, Cond.static yX0_of, Cond.initialized RX0, Cond.code yX0_of cX0_of 4 (some .int), Cond.methodLink RX2 40 yX2_write, Cond.instanceMethod yX2_write, Cond.selects RX2 yX2_write yX2_write, Cond.code yX2_write cX2_write 2 none, Cond.methodLink RX2 77 yX2_apply, Cond.instanceMethod yX2_apply, Cond.selects RX2 yX2_apply yX2_apply, Cond.code yX2_apply cX2_apply 5 none, Cond.methodLink RX2 97 yX0_place, Cond.static yX0_place, Cond.code yX0_place cX0_place 1 (some .int), Cond.methodLink RX2 50 yX0_kind, Cond.static yX0_kind, Cond.code yX0_kind cX0_kind 1 (some .int), Cond.methodLink RX2 100 yX0_sign, Cond.static yX0_sign, Cond.code yX0_sign cX0_sign 1 (some .int), Cond.methodLink RX2 103 yX4_addAt, Cond.instanceMethod yX4_addAt]
def wsL_law_r8 : List Cond := [Cond.selects RX4 yX4_addAt yX4_addAt, Cond.code yX4_addAt cX4_addAt 4 none, Cond.methodLink RX2 53 yX4_removeAt, Cond.instanceMethod yX4_removeAt, Cond.selects RX4 yX4_removeAt yX4_removeAt, Cond.code yX4_removeAt cX4_removeAt 3 none, Cond.methodLink RX2 46 yX4_at, Cond.instanceMethod yX4_at, Cond.selects RX4 yX4_at yX4_at, Cond.code yX4_at cX4_at 2 (some .int), Cond.methodLink RX2 66 yX0_reshaped, Cond.static yX0_reshaped, Cond.code yX0_reshaped cX0_reshaped 9 (some .int), Cond.methodLink RX2 107 yX4_put, Cond.instanceMethod yX4_put, Cond.selects RX4 yX4_put yX4_put, Cond.code yX4_put cX4_put 3 none, Cond.methodLink RX2 94 yX4_add, Cond.instanceMethod yX4_add, Cond.selects RX4 yX4_add yX4_add, Cond.code yX4_add cX4_add 2 none, Cond.methodLink RX4 23 yX4_addAt, Cond.methodLink RX2 43 yX2_keepBack, Cond.instanceMethod yX2_keepBack]
def wsL_law_r9 : List Cond := [Cond.selects RX2 yX2_keepBack yX2_keepBack, Cond.code yX2_keepBack cX2_keepBack 2 none, Cond.methodLink RX5 51 yX2_takeOut, Cond.instanceMethod yX2_takeOut, Cond.selects RX2 yX2_takeOut yX2_takeOut, Cond.code yX2_takeOut cX2_takeOut 3 (some .int), Cond.methodLink RX5 55 yX2_goBack, Cond.instanceMethod yX2_goBack, Cond.selects RX2 yX2_goBack yX2_goBack, Cond.code yX2_goBack cX2_goBack 4 (some .int), Cond.methodLink RX5 59 yX2_setSpot, Cond.instanceMethod yX2_setSpot, Cond.selects RX2 yX2_setSpot yX2_setSpot, Cond.code yX2_setSpot cX2_setSpot 3 (some .int), Cond.methodLink RX5 62 yX5_pass, Cond.instanceMethod yX5_pass, Cond.selects RX5 yX5_pass yX5_pass, Cond.code yX5_pass cX5_pass 2 (some .int), Cond.methodLink RX5 115 yX2_canSend, Cond.instanceMethod yX2_canSend, Cond.selects RX2 yX2_canSend yX2_canSend, Cond.code yX2_canSend cX2_canSend 1 (some .boolean), Cond.methodLink RX5 73 yX4_size, Cond.methodLink RX5 119 yX5_append]
def wsL_law_r10 : List Cond := [Cond.instanceMethod yX5_append, Cond.selects RX5 yX5_append yX5_append, Cond.code yX5_append cX5_append 5 none, Cond.methodLink RX5 122 yX2_outgoing, Cond.instanceMethod yX2_outgoing, Cond.selects RX2 yX2_outgoing yX2_outgoing, Cond.code yX2_outgoing cX2_outgoing 4 (some .int), Cond.methodLink RX5 125 yX0_place, Cond.methodLink RX5 79 yX0_kind, Cond.methodLink RX5 128 yX0_sign, Cond.methodLink RX5 131 yX4_addAt, Cond.methodLink RX5 135 yX0_writer, Cond.static yX0_writer, Cond.code yX0_writer cX0_writer 1 (some .int), Cond.methodLink RX5 138 yX4_removeAt, Cond.methodLink RX5 141 yX4_add, Cond.methodLink RX5 66 yX2_hearNext, Cond.instanceMethod yX2_hearNext, Cond.selects RX2 yX2_hearNext yX2_hearNext, Cond.code yX2_hearNext cX2_hearNext 4 (some .int), Cond.methodLink RX2 70 yX0_writer, Cond.methodLink RX2 73 yX0_passThrough, Cond.static yX0_passThrough, Cond.code yX0_passThrough cX0_passThrough 5 (some .int)]
def wsL_law_r11 : List Cond := [Cond.methodLink RX0 24 yX4_size, Cond.methodLink RX0 30 yX4_at, Cond.methodLink RX0 33 yX0_reshaped, Cond.methodLink RX0 37 yX4_put, Cond.methodLink RX5 70 yX2_hearRest, Cond.instanceMethod yX2_hearRest, Cond.selects RX2 yX2_hearRest yX2_hearRest, Cond.code yX2_hearRest cX2_hearRest 4 (some .int), Cond.methodLink RX2 80 yX2_hearNext, Cond.methodLink RX6 57 yX3_keep, Cond.instanceMethod yX3_keep, Cond.selects RX3 yX3_keep yX3_keep, Cond.code yX3_keep cX3_keep 2 none, Cond.fieldLink RX3 34 "ReshapedTexts$History" "size" "I", Cond.methodLink RX3 38 Lib.Math.min.name, Cond.methodLink RL 17 yX7_insert, Cond.instanceMethod yX7_insert, Cond.selects RX7 yX7_insert yX7_insert, Cond.code yX7_insert cX7_insert 5 (some .int), Cond.methodLink RX7 89 yX7_insertFault, Cond.instanceMethod yX7_insertFault, Cond.selects RX7 yX7_insertFault yX7_insertFault, Cond.code yX7_insertFault cX7_insertFault 4 (some .int), Cond.methodLink RX7 70 yX7_isEditor]
def wsL_law_r12 : List Cond := [Cond.static yX7_isEditor, Cond.code yX7_isEditor cX7_isEditor 1 (some .boolean), Cond.methodLink RX7 34 yX7_in, Cond.static yX7_in, Cond.code yX7_in cX7_in 3 (some .boolean), Cond.methodLink RX7 59 yX7_of, Cond.static yX7_of, Cond.code yX7_of cX7_of 2 (some .int), Cond.methodLink RX7 93 yX7_know, Cond.instanceMethod yX7_know, Cond.selects RX7 yX7_know yX7_know, Cond.code yX7_know cX7_know 2 none, Cond.fieldLink RX7 38 "ReshapedTextsModel" "known" "I", Cond.methodLink RX7 96 yX7_inserts, Cond.instanceMethod yX7_inserts, Cond.selects RX7 yX7_inserts yX7_inserts, Cond.code yX7_inserts cX7_inserts 4 (some .int), Cond.methodLink RX7 55 yX7_made, Cond.static yX7_made, Cond.code yX7_made cX7_made 4 (some .int), Cond.methodLink RX7 74 yX7_writes, Cond.instanceMethod yX7_writes, Cond.selects RX7 yX7_writes yX7_writes, Cond.code yX7_writes cX7_writes 3 none]
def wsL_law_r13 : List Cond := [Cond.methodLink RX7 66 yX7_perform, Cond.instanceMethod yX7_perform, Cond.selects RX7 yX7_perform yX7_perform, Cond.code yX7_perform cX7_perform 6 none, Cond.methodLink RX7 42 yX7_placeOf, Cond.static yX7_placeOf, Cond.code yX7_placeOf cX7_placeOf 1 (some .int), Cond.methodLink RX7 46 yX7_kindOf, Cond.static yX7_kindOf, Cond.code yX7_kindOf cX7_kindOf 1 (some .int), Cond.methodLink RX7 52 yX7_letterOf, Cond.static yX7_letterOf, Cond.code yX7_letterOf cX7_letterOf 1 (some .int), Cond.methodLink RX7 63 yX7_reshaped, Cond.static yX7_reshaped, Cond.code yX7_reshaped cX7_reshaped 6 (some .int), Cond.methodLink RX7 49 yX7_editorBy, Cond.static yX7_editorBy, Cond.code yX7_editorBy cX7_editorBy 1 (some .int), Cond.methodLink RX7 77 yX7_keep, Cond.instanceMethod yX7_keep, Cond.selects RX7 yX7_keep yX7_keep, Cond.code yX7_keep cX7_keep 4 none, Cond.methodLink RL 18 yX6_delete]
def wsL_law_r14 : List Cond := [Cond.instanceMethod yX6_delete, Cond.selects RX6 yX6_delete yX6_delete, Cond.code yX6_delete cX6_delete 3 (some .int), Cond.methodLink RL 22 yX7_delete, Cond.instanceMethod yX7_delete, Cond.selects RX7 yX7_delete yX7_delete, Cond.code yX7_delete cX7_delete 4 (some .int), Cond.methodLink RX7 99 yX7_deleteFault, Cond.instanceMethod yX7_deleteFault, Cond.selects RX7 yX7_deleteFault yX7_deleteFault, Cond.code yX7_deleteFault cX7_deleteFault 3 (some .int), Cond.methodLink RX7 102 yX7_deletes, Cond.instanceMethod yX7_deletes, Cond.selects RX7 yX7_deletes yX7_deletes, Cond.code yX7_deletes cX7_deletes 4 (some .int), Cond.methodLink RL 23 yX6_takeBack, Cond.instanceMethod yX6_takeBack, Cond.selects RX6 yX6_takeBack yX6_takeBack, Cond.code yX6_takeBack cX6_takeBack 2 (some .int), Cond.methodLink RL 27 yX7_takeBack, Cond.instanceMethod yX7_takeBack, Cond.selects RX7 yX7_takeBack yX7_takeBack, Cond.code yX7_takeBack cX7_takeBack 3 (some .int), Cond.methodLink RX7 105 yX7_backFault]
def wsL_law_r15 : List Cond := [Cond.instanceMethod yX7_backFault, Cond.selects RX7 yX7_backFault yX7_backFault, Cond.code yX7_backFault cX7_backFault 4 (some .int), Cond.methodLink RX7 108 yX7_backs, Cond.instanceMethod yX7_backs, Cond.selects RX7 yX7_backs yX7_backs, Cond.code yX7_backs cX7_backs 3 (some .int), Cond.methodLink RL 28 yX6_mark, Cond.instanceMethod yX6_mark, Cond.selects RX6 yX6_mark yX6_mark, Cond.code yX6_mark cX6_mark 3 (some .int), Cond.methodLink RL 31 yX7_mark, Cond.instanceMethod yX7_mark, Cond.selects RX7 yX7_mark yX7_mark, Cond.code yX7_mark cX7_mark 4 (some .int), Cond.methodLink RL 32 yX6_send, Cond.instanceMethod yX6_send, Cond.selects RX6 yX6_send yX6_send, Cond.code yX6_send cX6_send 2 (some .int), Cond.methodLink RL 35 yX7_send, Cond.instanceMethod yX7_send, Cond.selects RX7 yX7_send yX7_send, Cond.code yX7_send cX7_send 3 (some .int), Cond.methodLink RX7 111 yX7_sendFault]
def wsL_law_r16 : List Cond := [Cond.instanceMethod yX7_sendFault, Cond.selects RX7 yX7_sendFault yX7_sendFault, Cond.code yX7_sendFault cX7_sendFault 2 (some .int), Cond.methodLink RX7 80 yX7_canSend, Cond.instanceMethod yX7_canSend, Cond.selects RX7 yX7_canSend yX7_canSend, Cond.code yX7_canSend cX7_canSend 2 (some .boolean), Cond.methodLink RX7 114 yX7_sends, Cond.instanceMethod yX7_sends, Cond.selects RX7 yX7_sends yX7_sends, Cond.code yX7_sends cX7_sends 2 (some .int), Cond.methodLink RX7 83 yX7_behind, Cond.instanceMethod yX7_behind, Cond.selects RX7 yX7_behind yX7_behind, Cond.code yX7_behind cX7_behind 5 (some .int), Cond.methodLink RL 36 yX6_hear, Cond.instanceMethod yX6_hear, Cond.selects RX6 yX6_hear yX6_hear, Cond.code yX6_hear cX6_hear 2 (some .int), Cond.methodLink RL 39 yX7_hear, Cond.instanceMethod yX7_hear, Cond.selects RX7 yX7_hear yX7_hear, Cond.code yX7_hear cX7_hear 3 (some .int), Cond.methodLink RX7 117 yX7_hearFault]
def wsL_law_r17 : List Cond := [Cond.instanceMethod yX7_hearFault, Cond.selects RX7 yX7_hearFault yX7_hearFault, Cond.code yX7_hearFault cX7_hearFault 2 (some .int), Cond.methodLink RX7 86 yX7_hears, Cond.instanceMethod yX7_hears, Cond.selects RX7 yX7_hears yX7_hears, Cond.code yX7_hears cX7_hears 5 (some .int), Cond.methodLink RL 40 yX6_hearAll, Cond.instanceMethod yX6_hearAll, Cond.selects RX6 yX6_hearAll yX6_hearAll, Cond.code yX6_hearAll cX6_hearAll 2 (some .int), Cond.methodLink RL 43 yX7_hearAll, Cond.instanceMethod yX7_hearAll, Cond.selects RX7 yX7_hearAll yX7_hearAll, Cond.code yX7_hearAll cX7_hearAll 3 (some .int), Cond.methodLink RX7 120 yX7_hearsAll, Cond.instanceMethod yX7_hearsAll, Cond.selects RX7 yX7_hearsAll yX7_hearsAll, Cond.code yX7_hearsAll cX7_hearsAll 4 (some .int), Cond.methodLink RL 44 yX6_clear, Cond.instanceMethod yX6_clear, Cond.selects RX6 yX6_clear yX6_clear, Cond.code yX6_clear cX6_clear 2 (some .int), Cond.methodLink RX6 47 yX4_size]
def wsL_law_r18 : List Cond := [Cond.methodLink RX6 60 yX5_begin, Cond.instanceMethod yX5_begin, Cond.selects RX5 yX5_begin yX5_begin, Cond.code yX5_begin cX5_begin 1 none, Cond.methodLink RX5 97 yX2_forget, Cond.instanceMethod yX2_forget, Cond.selects RX2 yX2_forget yX2_forget, Cond.code yX2_forget cX2_forget 1 none, Cond.methodLink RX2 84 yX4_empty, Cond.instanceMethod yX4_empty, Cond.selects RX4 yX4_empty yX4_empty, Cond.code yX4_empty cX4_empty 1 none, Cond.methodLink RX5 100 yX4_empty, Cond.methodLink RL 48 yX7_clear, Cond.instanceMethod yX7_clear, Cond.selects RX7 yX7_clear yX7_clear, Cond.code yX7_clear cX7_clear 3 (some .int), Cond.methodLink RL 49 yX6_letter, Cond.instanceMethod yX6_letter, Cond.selects RX6 yX6_letter yX6_letter, Cond.code yX6_letter cX6_letter 4 (some .int), Cond.methodLink RX6 63 yX6_isNoEditor, Cond.methodLink RX6 70 yX5_editor, Cond.methodLink RX6 79 yX4_at]
def wsL_law_r19 : List Cond := [Cond.methodLink RL 52 yX7_letter, Cond.instanceMethod yX7_letter, Cond.selects RX7 yX7_letter yX7_letter, Cond.code yX7_letter cX7_letter 3 (some .int), Cond.fieldLink RX7 123 "ReshapedTextsModel" "logLong" "I", Cond.methodLink RX7 126 yX7_lay, Cond.instanceMethod yX7_lay, Cond.selects RX7 yX7_lay yX7_lay, Cond.code yX7_lay cX7_lay 5 none, Cond.methodLink RL 53 yX6_editorOf, Cond.instanceMethod yX6_editorOf, Cond.selects RX6 yX6_editorOf yX6_editorOf, Cond.code yX6_editorOf cX6_editorOf 4 (some .int), Cond.methodLink RX6 100 yX4_isSameAs, Cond.instanceMethod yX4_isSameAs, Cond.selects RX4 yX4_isSameAs yX4_isSameAs, Cond.code yX4_isSameAs cX4_isSameAs 3 (some .boolean), Cond.methodLink RX4 30 yX4_at, Cond.methodLink RL 56 yX7_editorOf, Cond.instanceMethod yX7_editorOf, Cond.selects RX7 yX7_editorOf yX7_editorOf, Cond.code yX7_editorOf cX7_editorOf 3 (some .int), Cond.methodLink RX7 129 yX7_isSame, Cond.instanceMethod yX7_isSame]
def wsL_law_r20 : List Cond := [Cond.selects RX7 yX7_isSame yX7_isSame, Cond.code yX7_isSame cX7_isSame 4 (some .boolean), Cond.methodLink RL 57 yX6_waitingOf, Cond.instanceMethod yX6_waitingOf, Cond.selects RX6 yX6_waitingOf yX6_waitingOf, Cond.code yX6_waitingOf cX6_waitingOf 4 (some .int), Cond.methodLink RX6 107 yX6_partOf, Cond.static yX6_partOf, Cond.code yX6_partOf cX6_partOf 3 (some .int), Cond.methodLink RX6 143 yX0_part, Cond.static yX0_part, Cond.code yX0_part cX0_part 3 (some .int), Cond.methodLink RX0 11 yX0_kind, Cond.methodLink RX0 15 yX0_place, Cond.methodLink RX0 18 yX0_sign, Cond.methodLink RX0 21 yX0_writer, Cond.methodLink RL 60 yX7_waitingOf, Cond.instanceMethod yX7_waitingOf, Cond.selects RX7 yX7_waitingOf yX7_waitingOf, Cond.code yX7_waitingOf cX7_waitingOf 4 (some .int), Cond.methodLink RX7 132 yX7_told, Cond.static yX7_told, Cond.code yX7_told cX7_told 3 (some .int), Cond.methodLink RL 61 yX6_logOf]
def wsL_law_r21 : List Cond := [Cond.instanceMethod yX6_logOf, Cond.selects RX6 yX6_logOf yX6_logOf, Cond.code yX6_logOf cX6_logOf 3 (some .int), Cond.methodLink RL 64 yX7_logOf, Cond.instanceMethod yX7_logOf, Cond.selects RX7 yX7_logOf yX7_logOf, Cond.code yX7_logOf cX7_logOf 3 (some .int), Cond.methodLink RL 65 yX6_by, Cond.instanceMethod yX6_by, Cond.selects RX6 yX6_by yX6_by, Cond.code yX6_by cX6_by 2 (some .int), Cond.methodLink RL 68 yX7_by, Cond.instanceMethod yX7_by, Cond.selects RX7 yX7_by yX7_by, Cond.code yX7_by cX7_by 2 (some .int), Cond.methodLink RL 69 yX6_count, Cond.instanceMethod yX6_count, Cond.selects RX6 yX6_count yX6_count, Cond.code yX6_count cX6_count 2 (some .int), Cond.methodLink RX6 114 yX5_nothingsInLog, Cond.instanceMethod yX5_nothingsInLog, Cond.selects RX5 yX5_nothingsInLog yX5_nothingsInLog, Cond.code yX5_nothingsInLog cX5_nothingsInLog 3 (some .int), Cond.methodLink RX5 76 yX4_at]
def wsL_law_r22 : List Cond := [Cond.methodLink RX6 117 yX5_waitingOfAll, Cond.instanceMethod yX5_waitingOfAll, Cond.selects RX5 yX5_waitingOfAll yX5_waitingOfAll, Cond.code yX5_waitingOfAll cX5_waitingOfAll 1 (some .int), Cond.methodLink RX6 120 yX5_settledEditors, Cond.instanceMethod yX5_settledEditors, Cond.selects RX5 yX5_settledEditors yX5_settledEditors, Cond.code yX5_settledEditors cX5_settledEditors 3 (some .int), Cond.methodLink RX5 87 yX2_isSettled, Cond.instanceMethod yX2_isSettled, Cond.selects RX2 yX2_isSettled yX2_isSettled, Cond.code yX2_isSettled cX2_isSettled 2 (some .boolean), Cond.methodLink RL 72 yX7_count, Cond.instanceMethod yX7_count, Cond.selects RX7 yX7_count yX7_count, Cond.code yX7_count cX7_count 2 (some .int), Cond.fieldLink RX7 138 "ReshapedTextsModel" "length" "I", Cond.methodLink RX7 135 yX7_sum, Cond.instanceMethod yX7_sum, Cond.selects RX7 yX7_sum yX7_sum, Cond.code yX7_sum cX7_sum 5 (some .int), Cond.methodLink RL 73 yX6_inTheEnd, Cond.instanceMethod yX6_inTheEnd, Cond.selects RX6 yX6_inTheEnd yX6_inTheEnd]
def wsL_law_r23 : List Cond := [Cond.code yX6_inTheEnd cX6_inTheEnd 3 (some .int), Cond.methodLink RX6 128 yX5_copyEndOf, Cond.instanceMethod yX5_copyEndOf, Cond.selects RX5 yX5_copyEndOf yX5_copyEndOf, Cond.code yX5_copyEndOf cX5_copyEndOf 6 none, Cond.methodLink RX5 111 yX5_copyState, Cond.methodLink RL 76 yX7_inTheEnd, Cond.instanceMethod yX7_inTheEnd, Cond.selects RX7 yX7_inTheEnd yX7_inTheEnd, Cond.code yX7_inTheEnd cX7_inTheEnd 3 (some .int), Cond.methodLink RX7 151 yX7_end, Cond.instanceMethod yX7_end, Cond.selects RX7 yX7_end yX7_end, Cond.code yX7_end cX7_end 5 none, Cond.fieldLink RX7 144 "ReshapedTextsModel" "areSame" "Z", Cond.methodLink RX7 141 yX7_putAside, Cond.instanceMethod yX7_putAside, Cond.selects RX7 yX7_putAside yX7_putAside, Cond.code yX7_putAside cX7_putAside 2 none, Cond.methodLink RX7 148 yX7_putBack, Cond.instanceMethod yX7_putBack, Cond.selects RX7 yX7_putBack yX7_putBack, Cond.code yX7_putBack cX7_putBack 2 none, Cond.methodLink RL 77 yX6_both]
def wsL_law_r24 : List Cond := [Cond.instanceMethod yX6_both, Cond.selects RX6 yX6_both yX6_both, Cond.code yX6_both cX6_both 2 (some .int), Cond.methodLink RX6 132 yX5_isOneText, Cond.instanceMethod yX5_isOneText, Cond.selects RX5 yX5_isOneText yX5_isOneText, Cond.code yX5_isOneText cX5_isOneText 1 (some .boolean), Cond.methodLink RX5 94 yX4_isSameAs, Cond.methodLink RL 80 yX7_both, Cond.instanceMethod yX7_both, Cond.selects RX7 yX7_both yX7_both, Cond.code yX7_both cX7_both 6 (some .int), Cond.methodLink RL 81 yX6_wouldSend, Cond.instanceMethod yX6_wouldSend, Cond.selects RX6 yX6_wouldSend yX6_wouldSend, Cond.code yX6_wouldSend cX6_wouldSend 4 (some .int), Cond.methodLink RX6 136 yX2_canSend, Cond.methodLink RX6 139 yX2_outgoing, Cond.methodLink RL 84 yX7_wouldSend, Cond.instanceMethod yX7_wouldSend, Cond.selects RX7 yX7_wouldSend yX7_wouldSend, Cond.code yX7_wouldSend cX7_wouldSend 3 (some .int), Cond.methodLink RL 85 yX6_undo, Cond.instanceMethod yX6_undo]
def wsL_law_r25 : List Cond := [Cond.selects RX6 yX6_undo yX6_undo, Cond.code yX6_undo cX6_undo 1 (some .int), Cond.methodLink RX6 149 yX3_restore, Cond.instanceMethod yX3_restore, Cond.selects RX3 yX3_restore yX3_restore, Cond.code yX3_restore cX3_restore 3 none, Cond.methodLink RX3 44 Lib.Math.max.name, Cond.methodLink RL 88 yX7_undo, Cond.instanceMethod yX7_undo, Cond.selects RX7 yX7_undo yX7_undo, Cond.code yX7_undo cX7_undo 2 (some .int), Cond.methodLink RL 89 yX6_type, Cond.instanceMethod yX6_type, Cond.selects RX6 yX6_type yX6_type, Cond.code yX6_type cX6_type 2 (some .int), Cond.methodLink RX6 152 yX4_add, Cond.methodLink RL 92 yX7_type, Cond.instanceMethod yX7_type, Cond.selects RX7 yX7_type yX7_type, Cond.code yX7_type cX7_type 2 (some .int), Cond.methodLink RL 93 yX6_clearText, Cond.instanceMethod yX6_clearText, Cond.selects RX6 yX6_clearText yX6_clearText, Cond.code yX6_clearText cX6_clearText 2 (some .int)]
def wsL_law_r26 : List Cond := [Cond.methodLink RX6 156 yX4_empty, Cond.methodLink RL 96 yX7_clearText, Cond.instanceMethod yX7_clearText, Cond.selects RX7 yX7_clearText yX7_clearText, Cond.code yX7_clearText cX7_clearText 2 (some .int), Cond.methodLink RL 97 yX6_fault, Cond.instanceMethod yX6_fault, Cond.selects RX6 yX6_fault yX6_fault, Cond.code yX6_fault cX6_fault 2 (some .int), Cond.methodLink RX6 159 yX5_copyState, Cond.methodLink RX6 162 yX1_runOn, Cond.instanceMethod yX1_runOn, Cond.selects RX1 yX1_runOn yX1_runOn, Cond.code yX1_runOn cX1_runOn 5 none, Cond.fieldLink RX1 23 "ReshapedTexts$Commands" "position" "I", Cond.fieldLink RX1 27 "ReshapedTexts$Commands" "reason" "I", Cond.fieldLink RX1 30 "ReshapedTexts$Commands" "cause" "I", Cond.fieldLink RX1 33 "ReshapedTexts$Commands" "done" "I", Cond.methodLink RX1 36 yX4_size, Cond.methodLink RX1 40 yX1_read, Cond.instanceMethod yX1_read, Cond.selects RX1 yX1_read yX1_read, Cond.code yX1_read cX1_read 7 (some .int), Cond.methodLink RX1 44 yX4_at]
def wsL_law_r27 : List Cond := [Cond.methodLink RX1 53 yX1_numbersOf, Cond.static yX1_numbersOf, Cond.code yX1_numbersOf cX1_numbersOf 1 (some .int), Cond.methodLink RX1 56 yX4_empty, Cond.methodLink RX1 59 yX1_digitsAt, Cond.instanceMethod yX1_digitsAt, Cond.selects RX1 yX1_digitsAt yX1_digitsAt, Cond.code yX1_digitsAt cX1_digitsAt 2 (some .int), Cond.methodLink RX1 69 yX1_isDigit, Cond.static yX1_isDigit, Cond.code yX1_isDigit cX1_isDigit 1 (some .boolean), Cond.methodLink RX1 62 yX1_numberAt, Cond.instanceMethod yX1_numberAt, Cond.selects RX1 yX1_numberAt yX1_numberAt, Cond.code yX1_numberAt cX1_numberAt 4 (some .int), Cond.methodLink RX1 66 yX4_add, Cond.methodLink RX1 47 yX5_answer, Cond.methodLink RL 100 yX7_fault, Cond.instanceMethod yX7_fault, Cond.selects RX7 yX7_fault yX7_fault, Cond.code yX7_fault cX7_fault 2 (some .int), Cond.fieldLink RX7 168 "ReshapedTextsModel" "reason" "I", Cond.fieldLink RX7 171 "ReshapedTextsModel" "position" "I", Cond.fieldLink RX7 180 "ReshapedTextsModel" "cause" "I"]
def wsL_law_r28 : List Cond := [Cond.methodLink RX7 186 yX7_look, Cond.instanceMethod yX7_look, Cond.selects RX7 yX7_look yX7_look, Cond.code yX7_look cX7_look 2 none, Cond.methodLink RX7 183 yX7_go, Cond.instanceMethod yX7_go, Cond.selects RX7 yX7_go yX7_go, Cond.code yX7_go cX7_go 2 (some .int), Cond.fieldLink RX7 155 "ReshapedTextsModel" "at" "I", Cond.fieldLink RX7 158 "ReshapedTextsModel" "isWrong" "Z", Cond.methodLink RX7 174 yX7_read, Cond.instanceMethod yX7_read, Cond.selects RX7 yX7_read yX7_read, Cond.code yX7_read cX7_read 5 none, Cond.methodLink RX7 161 yX7_sign, Cond.instanceMethod yX7_sign, Cond.selects RX7 yX7_sign yX7_sign, Cond.code yX7_sign cX7_sign 4 (some .int), Cond.methodLink RX7 164 yX7_number, Cond.instanceMethod yX7_number, Cond.selects RX7 yX7_number yX7_number, Cond.code yX7_number cX7_number 3 (some .int), Cond.methodLink RX7 177 yX7_does, Cond.instanceMethod yX7_does]
def wsL_law_r29 : List Cond := [Cond.selects RX7 yX7_does yX7_does, Cond.code yX7_does cX7_does 6 (some .int), Cond.methodLink RL 101 yX6_play, Cond.instanceMethod yX6_play, Cond.selects RX6 yX6_play yX6_play, Cond.code yX6_play cX6_play 1 (some .int), Cond.methodLink RL 104 yX7_play, Cond.instanceMethod yX7_play, Cond.selects RX7 yX7_play yX7_play, Cond.code yX7_play cX7_play 1 (some .int)]
def wsL_law : List Cond := (wsL_law_r1 ++ (wsL_law_r2 ++ (wsL_law_r3 ++ (wsL_law_r4 ++ (wsL_law_r5 ++ (wsL_law_r6 ++ (wsL_law_r7 ++ (wsL_law_r8 ++ (wsL_law_r9 ++ (wsL_law_r10 ++ (wsL_law_r11 ++ (wsL_law_r12 ++ (wsL_law_r13 ++ (wsL_law_r14 ++ (wsL_law_r15 ++ (wsL_law_r16 ++ (wsL_law_r17 ++ (wsL_law_r18 ++ (wsL_law_r19 ++ (wsL_law_r20 ++ (wsL_law_r21 ++ (wsL_law_r22 ++ (wsL_law_r23 ++ (wsL_law_r24 ++ (wsL_law_r25 ++ (wsL_law_r26 ++ (wsL_law_r27 ++ (wsL_law_r28 ++ wsL_law_r29)))))))))))))))))))))))))))) ++ wsX60 ++ wsX70 ++ wsX50 ++ wsX30 ++ wsX10 ++ wsX20 ++ wsX40 ++ ([] : List Cond)
theorem lwt_0 {w : Cond} (h : w ∈ k2_sels lw_privs) : w ∈ lw_tbl := List.mem_append_left _ h
theorem lwt_1 {w : Cond} (h : w ∈ tables_1_1) : w ∈ lw_tbl := List.mem_append_right _ (List.mem_append_left _ h)
theorem lwt_2 {w : Cond} (h : w ∈ tables_1_2) : w ∈ lw_tbl := List.mem_append_right _ (List.mem_append_right _ (List.mem_append_left _ h))
theorem lwt_3 {w : Cond} (h : w ∈ tables_1_3) : w ∈ lw_tbl := List.mem_append_right _ (List.mem_append_right _ (List.mem_append_right _ (List.mem_append_left _ h)))
theorem lwt_4 {w : Cond} (h : w ∈ tables_1_4) : w ∈ lw_tbl := List.mem_append_right _ (List.mem_append_right _ (List.mem_append_right _ (List.mem_append_right _ h)))
theorem lw_nilin {P : Cond → Prop} : ∀ w ∈ ([] : List Cond), P w := fun _ h => absurd h List.not_mem_nil
set_option maxRecDepth 20000 in
theorem wsL_rin_1 : ∀ w ∈ wsL_law_r1, w ∈ lw_tbl := List.forall_mem_cons.mpr ⟨lwt_1 (List.mem_of_getElem? (l := tables_1_1) (i := 10) rfl), List.forall_mem_cons.mpr ⟨lwt_1 (List.mem_of_getElem? (l := tables_1_1) (i := 11) rfl), List.forall_mem_cons.mpr ⟨lwt_1 (List.mem_of_getElem? (l := tables_1_1) (i := 1) rfl), List.forall_mem_cons.mpr ⟨lwt_3 (List.mem_of_getElem? (l := tables_1_3) (i := 40) rfl), List.forall_mem_cons.mpr ⟨lwt_3 (List.mem_of_getElem? (l := tables_1_3) (i := 41) rfl), List.forall_mem_cons.mpr ⟨lwt_1 (List.mem_of_getElem? (l := tables_1_1) (i := 8) rfl), List.forall_mem_cons.mpr ⟨lwt_1 (List.mem_of_getElem? (l := tables_1_1) (i := 12) rfl), List.forall_mem_cons.mpr ⟨lwt_1 (List.mem_of_getElem? (l := tables_1_1) (i := 13) rfl), List.forall_mem_cons.mpr ⟨lwt_1 (List.mem_of_getElem? (l := tables_1_1) (i := 14) rfl), List.forall_mem_cons.mpr ⟨lwt_1 (List.mem_of_getElem? (l := tables_1_1) (i := 15) rfl), List.forall_mem_cons.mpr ⟨lwt_1 (List.mem_of_getElem? (l := tables_1_1) (i := 16) rfl), List.forall_mem_cons.mpr ⟨lwt_1 (List.mem_of_getElem? (l := tables_1_1) (i := 17) rfl), List.forall_mem_cons.mpr ⟨lwt_1 (List.mem_of_getElem? (l := tables_1_1) (i := 18) rfl), List.forall_mem_cons.mpr ⟨lwt_1 (List.mem_of_getElem? (l := tables_1_1) (i := 19) rfl), List.forall_mem_cons.mpr ⟨lwt_1 (List.mem_of_getElem? (l := tables_1_1) (i := 2) rfl), List.forall_mem_cons.mpr ⟨lwt_1 (List.mem_of_getElem? (l := tables_1_1) (i := 166) rfl), List.forall_mem_cons.mpr ⟨lwt_1 (List.mem_of_getElem? (l := tables_1_1) (i := 167) rfl), List.forall_mem_cons.mpr ⟨lwt_1 (List.mem_of_getElem? (l := tables_1_1) (i := 168) rfl), List.forall_mem_cons.mpr ⟨lwt_1 (List.mem_of_getElem? (l := tables_1_1) (i := 169) rfl), List.forall_mem_cons.mpr ⟨lwt_1 (List.mem_of_getElem? (l := tables_1_1) (i := 106) rfl), List.forall_mem_cons.mpr ⟨lwt_1 (List.mem_of_getElem? (l := tables_1_1) (i := 107) rfl), List.forall_mem_cons.mpr ⟨lwt_1 (List.mem_of_getElem? (l := tables_1_1) (i := 6) rfl), List.forall_mem_cons.mpr ⟨lwt_1 (List.mem_of_getElem? (l := tables_1_1) (i := 170) rfl), List.forall_mem_cons.mpr ⟨lwt_1 (List.mem_of_getElem? (l := tables_1_1) (i := 134) rfl), lw_nilin⟩⟩⟩⟩⟩⟩⟩⟩⟩⟩⟩⟩⟩⟩⟩⟩⟩⟩⟩⟩⟩⟩⟩⟩
set_option maxRecDepth 20000 in
theorem wsL_rin_2 : ∀ w ∈ wsL_law_r2, w ∈ lw_tbl := List.forall_mem_cons.mpr ⟨lwt_1 (List.mem_of_getElem? (l := tables_1_1) (i := 135) rfl), List.forall_mem_cons.mpr ⟨lwt_1 (List.mem_of_getElem? (l := tables_1_1) (i := 7) rfl), List.forall_mem_cons.mpr ⟨lwt_1 (List.mem_of_getElem? (l := tables_1_1) (i := 171) rfl), List.forall_mem_cons.mpr ⟨lwt_1 (List.mem_of_getElem? (l := tables_1_1) (i := 20) rfl), List.forall_mem_cons.mpr ⟨lwt_1 (List.mem_of_getElem? (l := tables_1_1) (i := 21) rfl), List.forall_mem_cons.mpr ⟨lwt_1 (List.mem_of_getElem? (l := tables_1_1) (i := 22) rfl), List.forall_mem_cons.mpr ⟨lwt_1 (List.mem_of_getElem? (l := tables_1_1) (i := 23) rfl), List.forall_mem_cons.mpr ⟨lwt_1 (List.mem_of_getElem? (l := tables_1_1) (i := 24) rfl), List.forall_mem_cons.mpr ⟨lwt_1 (List.mem_of_getElem? (l := tables_1_1) (i := 25) rfl), List.forall_mem_cons.mpr ⟨lwt_1 (List.mem_of_getElem? (l := tables_1_1) (i := 3) rfl), List.forall_mem_cons.mpr ⟨lwt_1 (List.mem_of_getElem? (l := tables_1_1) (i := 84) rfl), List.forall_mem_cons.mpr ⟨lwt_1 (List.mem_of_getElem? (l := tables_1_1) (i := 85) rfl), List.forall_mem_cons.mpr ⟨lwt_1 (List.mem_of_getElem? (l := tables_1_1) (i := 86) rfl), List.forall_mem_cons.mpr ⟨lwt_1 (List.mem_of_getElem? (l := tables_1_1) (i := 82) rfl), List.forall_mem_cons.mpr ⟨lwt_1 (List.mem_of_getElem? (l := tables_1_1) (i := 31) rfl), List.forall_mem_cons.mpr ⟨lwt_1 (List.mem_of_getElem? (l := tables_1_1) (i := 4) rfl), List.forall_mem_cons.mpr ⟨lwt_1 (List.mem_of_getElem? (l := tables_1_1) (i := 87) rfl), List.forall_mem_cons.mpr ⟨lwt_1 (List.mem_of_getElem? (l := tables_1_1) (i := 89) rfl), List.forall_mem_cons.mpr ⟨lwt_1 (List.mem_of_getElem? (l := tables_1_1) (i := 91) rfl), List.forall_mem_cons.mpr ⟨lwt_1 (List.mem_of_getElem? (l := tables_1_1) (i := 26) rfl), List.forall_mem_cons.mpr ⟨lwt_1 (List.mem_of_getElem? (l := tables_1_1) (i := 27) rfl), List.forall_mem_cons.mpr ⟨lwt_1 (List.mem_of_getElem? (l := tables_1_1) (i := 28) rfl), List.forall_mem_cons.mpr ⟨lwt_1 (List.mem_of_getElem? (l := tables_1_1) (i := 29) rfl), List.forall_mem_cons.mpr ⟨lwt_1 (List.mem_of_getElem? (l := tables_1_1) (i := 47) rfl), lw_nilin⟩⟩⟩⟩⟩⟩⟩⟩⟩⟩⟩⟩⟩⟩⟩⟩⟩⟩⟩⟩⟩⟩⟩⟩
set_option maxRecDepth 20000 in
theorem wsL_rin_3 : ∀ w ∈ wsL_law_r3, w ∈ lw_tbl := List.forall_mem_cons.mpr ⟨lwt_1 (List.mem_of_getElem? (l := tables_1_1) (i := 30) rfl), List.forall_mem_cons.mpr ⟨lwt_1 (List.mem_of_getElem? (l := tables_1_1) (i := 48) rfl), List.forall_mem_cons.mpr ⟨lwt_1 (List.mem_of_getElem? (l := tables_1_1) (i := 51) rfl), List.forall_mem_cons.mpr ⟨lwt_1 (List.mem_of_getElem? (l := tables_1_1) (i := 54) rfl), List.forall_mem_cons.mpr ⟨lwt_1 (List.mem_of_getElem? (l := tables_1_1) (i := 32) rfl), List.forall_mem_cons.mpr ⟨lwt_1 (List.mem_of_getElem? (l := tables_1_1) (i := 33) rfl), List.forall_mem_cons.mpr ⟨lwt_1 (List.mem_of_getElem? (l := tables_1_1) (i := 34) rfl), List.forall_mem_cons.mpr ⟨lwt_1 (List.mem_of_getElem? (l := tables_1_1) (i := 35) rfl), List.forall_mem_cons.mpr ⟨lwt_1 (List.mem_of_getElem? (l := tables_1_1) (i := 36) rfl), List.forall_mem_cons.mpr ⟨lwt_1 (List.mem_of_getElem? (l := tables_1_1) (i := 37) rfl), List.forall_mem_cons.mpr ⟨lwt_1 (List.mem_of_getElem? (l := tables_1_1) (i := 5) rfl), List.forall_mem_cons.mpr ⟨lwt_1 (List.mem_of_getElem? (l := tables_1_1) (i := 38) rfl), List.forall_mem_cons.mpr ⟨lwt_1 (List.mem_of_getElem? (l := tables_1_1) (i := 46) rfl), List.forall_mem_cons.mpr ⟨lwt_1 (List.mem_of_getElem? (l := tables_1_1) (i := 39) rfl), List.forall_mem_cons.mpr ⟨lwt_1 (List.mem_of_getElem? (l := tables_1_1) (i := 40) rfl), List.forall_mem_cons.mpr ⟨lwt_1 (List.mem_of_getElem? (l := tables_1_1) (i := 83) rfl), List.forall_mem_cons.mpr ⟨lwt_1 (List.mem_of_getElem? (l := tables_1_1) (i := 108) rfl), List.forall_mem_cons.mpr ⟨lwt_1 (List.mem_of_getElem? (l := tables_1_1) (i := 109) rfl), List.forall_mem_cons.mpr ⟨lwt_1 (List.mem_of_getElem? (l := tables_1_1) (i := 110) rfl), List.forall_mem_cons.mpr ⟨lwt_1 (List.mem_of_getElem? (l := tables_1_1) (i := 111) rfl), List.forall_mem_cons.mpr ⟨lwt_1 (List.mem_of_getElem? (l := tables_1_1) (i := 112) rfl), List.forall_mem_cons.mpr ⟨lwt_1 (List.mem_of_getElem? (l := tables_1_1) (i := 114) rfl), List.forall_mem_cons.mpr ⟨lwt_1 (List.mem_of_getElem? (l := tables_1_1) (i := 115) rfl), List.forall_mem_cons.mpr ⟨lwt_1 (List.mem_of_getElem? (l := tables_1_1) (i := 116) rfl), lw_nilin⟩⟩⟩⟩⟩⟩⟩⟩⟩⟩⟩⟩⟩⟩⟩⟩⟩⟩⟩⟩⟩⟩⟩⟩
set_option maxRecDepth 20000 in
theorem wsL_rin_4 : ∀ w ∈ wsL_law_r4, w ∈ lw_tbl := List.forall_mem_cons.mpr ⟨lwt_1 (List.mem_of_getElem? (l := tables_1_1) (i := 117) rfl), List.forall_mem_cons.mpr ⟨lwt_1 (List.mem_of_getElem? (l := tables_1_1) (i := 118) rfl), List.forall_mem_cons.mpr ⟨lwt_1 (List.mem_of_getElem? (l := tables_1_1) (i := 113) rfl), List.forall_mem_cons.mpr ⟨lwt_1 (List.mem_of_getElem? (l := tables_1_1) (i := 136) rfl), List.forall_mem_cons.mpr ⟨lwt_1 (List.mem_of_getElem? (l := tables_1_1) (i := 137) rfl), List.forall_mem_cons.mpr ⟨lwt_1 (List.mem_of_getElem? (l := tables_1_1) (i := 138) rfl), List.forall_mem_cons.mpr ⟨lwt_1 (List.mem_of_getElem? (l := tables_1_1) (i := 139) rfl), List.forall_mem_cons.mpr ⟨lwt_1 (List.mem_of_getElem? (l := tables_1_1) (i := 140) rfl), List.forall_mem_cons.mpr ⟨lwt_1 (List.mem_of_getElem? (l := tables_1_1) (i := 142) rfl), List.forall_mem_cons.mpr ⟨lwt_1 (List.mem_of_getElem? (l := tables_1_1) (i := 144) rfl), List.forall_mem_cons.mpr ⟨lwt_1 (List.mem_of_getElem? (l := tables_1_1) (i := 141) rfl), List.forall_mem_cons.mpr ⟨lwt_3 (List.mem_of_getElem? (l := tables_1_3) (i := 42) rfl), List.forall_mem_cons.mpr ⟨lwt_3 (List.mem_of_getElem? (l := tables_1_3) (i := 43) rfl), List.forall_mem_cons.mpr ⟨lwt_3 (List.mem_of_getElem? (l := tables_1_3) (i := 44) rfl), List.forall_mem_cons.mpr ⟨lwt_3 (List.mem_of_getElem? (l := tables_1_3) (i := 45) rfl), List.forall_mem_cons.mpr ⟨lwt_3 (List.mem_of_getElem? (l := tables_1_3) (i := 46) rfl), List.forall_mem_cons.mpr ⟨lwt_3 (List.mem_of_getElem? (l := tables_1_3) (i := 47) rfl), List.forall_mem_cons.mpr ⟨lwt_3 (List.mem_of_getElem? (l := tables_1_3) (i := 48) rfl), List.forall_mem_cons.mpr ⟨lwt_3 (List.mem_of_getElem? (l := tables_1_3) (i := 50) rfl), List.forall_mem_cons.mpr ⟨lwt_3 (List.mem_of_getElem? (l := tables_1_3) (i := 52) rfl), List.forall_mem_cons.mpr ⟨lwt_3 (List.mem_of_getElem? (l := tables_1_3) (i := 53) rfl), List.forall_mem_cons.mpr ⟨lwt_3 (List.mem_of_getElem? (l := tables_1_3) (i := 56) rfl), List.forall_mem_cons.mpr ⟨lwt_3 (List.mem_of_getElem? (l := tables_1_3) (i := 59) rfl), List.forall_mem_cons.mpr ⟨lwt_1 (List.mem_of_getElem? (l := tables_1_1) (i := 185) rfl), lw_nilin⟩⟩⟩⟩⟩⟩⟩⟩⟩⟩⟩⟩⟩⟩⟩⟩⟩⟩⟩⟩⟩⟩⟩⟩
set_option maxRecDepth 20000 in
theorem wsL_rin_5 : ∀ w ∈ wsL_law_r5, w ∈ lw_tbl := List.forall_mem_cons.mpr ⟨lwt_1 (List.mem_of_getElem? (l := tables_1_1) (i := 186) rfl), List.forall_mem_cons.mpr ⟨lwt_1 (List.mem_of_getElem? (l := tables_1_1) (i := 187) rfl), List.forall_mem_cons.mpr ⟨lwt_1 (List.mem_of_getElem? (l := tables_1_1) (i := 188) rfl), List.forall_mem_cons.mpr ⟨lwt_1 (List.mem_of_getElem? (l := tables_1_1) (i := 189) rfl), List.forall_mem_cons.mpr ⟨lwt_1 (List.mem_of_getElem? (l := tables_1_1) (i := 191) rfl), List.forall_mem_cons.mpr ⟨lwt_0 (List.mem_of_getElem? (l := k2_sels lw_privs) (i := 0) rfl), List.forall_mem_cons.mpr ⟨lwt_1 (List.mem_of_getElem? (l := tables_1_1) (i := 192) rfl), List.forall_mem_cons.mpr ⟨lwt_1 (List.mem_of_getElem? (l := tables_1_1) (i := 193) rfl), List.forall_mem_cons.mpr ⟨lwt_1 (List.mem_of_getElem? (l := tables_1_1) (i := 194) rfl), List.forall_mem_cons.mpr ⟨lwt_1 (List.mem_of_getElem? (l := tables_1_1) (i := 195) rfl), List.forall_mem_cons.mpr ⟨lwt_1 (List.mem_of_getElem? (l := tables_1_1) (i := 196) rfl), List.forall_mem_cons.mpr ⟨lwt_1 (List.mem_of_getElem? (l := tables_1_1) (i := 197) rfl), List.forall_mem_cons.mpr ⟨lwt_1 (List.mem_of_getElem? (l := tables_1_1) (i := 198) rfl), List.forall_mem_cons.mpr ⟨lwt_1 (List.mem_of_getElem? (l := tables_1_1) (i := 199) rfl), List.forall_mem_cons.mpr ⟨lwt_1 (List.mem_of_getElem? (l := tables_1_1) (i := 200) rfl), List.forall_mem_cons.mpr ⟨lwt_1 (List.mem_of_getElem? (l := tables_1_1) (i := 201) rfl), List.forall_mem_cons.mpr ⟨lwt_1 (List.mem_of_getElem? (l := tables_1_1) (i := 202) rfl), List.forall_mem_cons.mpr ⟨lwt_1 (List.mem_of_getElem? (l := tables_1_1) (i := 203) rfl), List.forall_mem_cons.mpr ⟨lwt_1 (List.mem_of_getElem? (l := tables_1_1) (i := 204) rfl), List.forall_mem_cons.mpr ⟨lwt_1 (List.mem_of_getElem? (l := tables_1_1) (i := 56) rfl), List.forall_mem_cons.mpr ⟨lwt_1 (List.mem_of_getElem? (l := tables_1_1) (i := 59) rfl), List.forall_mem_cons.mpr ⟨lwt_1 (List.mem_of_getElem? (l := tables_1_1) (i := 61) rfl), List.forall_mem_cons.mpr ⟨lwt_1 (List.mem_of_getElem? (l := tables_1_1) (i := 63) rfl), List.forall_mem_cons.mpr ⟨lwt_1 (List.mem_of_getElem? (l := tables_1_1) (i := 205) rfl), lw_nilin⟩⟩⟩⟩⟩⟩⟩⟩⟩⟩⟩⟩⟩⟩⟩⟩⟩⟩⟩⟩⟩⟩⟩⟩
set_option maxRecDepth 20000 in
theorem wsL_rin_6 : ∀ w ∈ wsL_law_r6, w ∈ lw_tbl := List.forall_mem_cons.mpr ⟨lwt_1 (List.mem_of_getElem? (l := tables_1_1) (i := 206) rfl), List.forall_mem_cons.mpr ⟨lwt_1 (List.mem_of_getElem? (l := tables_1_1) (i := 207) rfl), List.forall_mem_cons.mpr ⟨lwt_1 (List.mem_of_getElem? (l := tables_1_1) (i := 208) rfl), List.forall_mem_cons.mpr ⟨lwt_1 (List.mem_of_getElem? (l := tables_1_1) (i := 209) rfl), List.forall_mem_cons.mpr ⟨lwt_1 (List.mem_of_getElem? (l := tables_1_1) (i := 210) rfl), List.forall_mem_cons.mpr ⟨lwt_1 (List.mem_of_getElem? (l := tables_1_1) (i := 211) rfl), List.forall_mem_cons.mpr ⟨lwt_1 (List.mem_of_getElem? (l := tables_1_1) (i := 212) rfl), List.forall_mem_cons.mpr ⟨lwt_1 (List.mem_of_getElem? (l := tables_1_1) (i := 213) rfl), List.forall_mem_cons.mpr ⟨lwt_1 (List.mem_of_getElem? (l := tables_1_1) (i := 214) rfl), List.forall_mem_cons.mpr ⟨lwt_1 (List.mem_of_getElem? (l := tables_1_1) (i := 215) rfl), List.forall_mem_cons.mpr ⟨lwt_1 (List.mem_of_getElem? (l := tables_1_1) (i := 216) rfl), List.forall_mem_cons.mpr ⟨lwt_1 (List.mem_of_getElem? (l := tables_1_1) (i := 218) rfl), List.forall_mem_cons.mpr ⟨lwt_1 (List.mem_of_getElem? (l := tables_1_1) (i := 219) rfl), List.forall_mem_cons.mpr ⟨lwt_1 (List.mem_of_getElem? (l := tables_1_1) (i := 220) rfl), List.forall_mem_cons.mpr ⟨lwt_1 (List.mem_of_getElem? (l := tables_1_1) (i := 221) rfl), List.forall_mem_cons.mpr ⟨lwt_1 (List.mem_of_getElem? (l := tables_1_1) (i := 222) rfl), List.forall_mem_cons.mpr ⟨lwt_1 (List.mem_of_getElem? (l := tables_1_1) (i := 223) rfl), List.forall_mem_cons.mpr ⟨lwt_1 (List.mem_of_getElem? (l := tables_1_1) (i := 224) rfl), List.forall_mem_cons.mpr ⟨lwt_1 (List.mem_of_getElem? (l := tables_1_1) (i := 225) rfl), List.forall_mem_cons.mpr ⟨lwt_1 (List.mem_of_getElem? (l := tables_1_1) (i := 226) rfl), List.forall_mem_cons.mpr ⟨lwt_1 (List.mem_of_getElem? (l := tables_1_1) (i := 227) rfl), List.forall_mem_cons.mpr ⟨lwt_1 (List.mem_of_getElem? (l := tables_1_1) (i := 228) rfl), List.forall_mem_cons.mpr ⟨lwt_1 (List.mem_of_getElem? (l := tables_1_1) (i := 229) rfl), List.forall_mem_cons.mpr ⟨lwt_1 (List.mem_of_getElem? (l := tables_1_1) (i := 230) rfl), lw_nilin⟩⟩⟩⟩⟩⟩⟩⟩⟩⟩⟩⟩⟩⟩⟩⟩⟩⟩⟩⟩⟩⟩⟩⟩
set_option maxRecDepth 20000 in
theorem wsL_rin_7 : ∀ w ∈ wsL_law_r7, w ∈ lw_tbl := List.forall_mem_cons.mpr ⟨lwt_1 (List.mem_of_getElem? (l := tables_1_1) (i := 231) rfl), List.forall_mem_cons.mpr ⟨lwt_1 (List.mem_of_getElem? (l := tables_1_1) (i := 232) rfl), List.forall_mem_cons.mpr ⟨lwt_1 (List.mem_of_getElem? (l := tables_1_1) (i := 233) rfl), List.forall_mem_cons.mpr ⟨lwt_1 (List.mem_of_getElem? (l := tables_1_1) (i := 9) rfl), List.forall_mem_cons.mpr ⟨lwt_1 (List.mem_of_getElem? (l := tables_1_1) (i := 234) rfl), List.forall_mem_cons.mpr ⟨lwt_1 (List.mem_of_getElem? (l := tables_1_1) (i := 235) rfl), List.forall_mem_cons.mpr ⟨lwt_1 (List.mem_of_getElem? (l := tables_1_1) (i := 237) rfl), List.forall_mem_cons.mpr ⟨lwt_0 (List.mem_of_getElem? (l := k2_sels lw_privs) (i := 1) rfl), List.forall_mem_cons.mpr ⟨lwt_1 (List.mem_of_getElem? (l := tables_1_1) (i := 238) rfl), List.forall_mem_cons.mpr ⟨lwt_1 (List.mem_of_getElem? (l := tables_1_1) (i := 239) rfl), List.forall_mem_cons.mpr ⟨lwt_2 (List.mem_of_getElem? (l := tables_1_2) (i := 1) rfl), List.forall_mem_cons.mpr ⟨lwt_0 (List.mem_of_getElem? (l := k2_sels lw_privs) (i := 2) rfl), List.forall_mem_cons.mpr ⟨lwt_2 (List.mem_of_getElem? (l := tables_1_2) (i := 2) rfl), List.forall_mem_cons.mpr ⟨lwt_2 (List.mem_of_getElem? (l := tables_1_2) (i := 3) rfl), List.forall_mem_cons.mpr ⟨lwt_2 (List.mem_of_getElem? (l := tables_1_2) (i := 4) rfl), List.forall_mem_cons.mpr ⟨lwt_2 (List.mem_of_getElem? (l := tables_1_2) (i := 5) rfl), List.forall_mem_cons.mpr ⟨lwt_2 (List.mem_of_getElem? (l := tables_1_2) (i := 6) rfl), List.forall_mem_cons.mpr ⟨lwt_2 (List.mem_of_getElem? (l := tables_1_2) (i := 7) rfl), List.forall_mem_cons.mpr ⟨lwt_2 (List.mem_of_getElem? (l := tables_1_2) (i := 8) rfl), List.forall_mem_cons.mpr ⟨lwt_2 (List.mem_of_getElem? (l := tables_1_2) (i := 9) rfl), List.forall_mem_cons.mpr ⟨lwt_2 (List.mem_of_getElem? (l := tables_1_2) (i := 10) rfl), List.forall_mem_cons.mpr ⟨lwt_2 (List.mem_of_getElem? (l := tables_1_2) (i := 11) rfl), List.forall_mem_cons.mpr ⟨lwt_2 (List.mem_of_getElem? (l := tables_1_2) (i := 12) rfl), List.forall_mem_cons.mpr ⟨lwt_2 (List.mem_of_getElem? (l := tables_1_2) (i := 13) rfl), lw_nilin⟩⟩⟩⟩⟩⟩⟩⟩⟩⟩⟩⟩⟩⟩⟩⟩⟩⟩⟩⟩⟩⟩⟩⟩
set_option maxRecDepth 20000 in
theorem wsL_rin_8 : ∀ w ∈ wsL_law_r8, w ∈ lw_tbl := List.forall_mem_cons.mpr ⟨lwt_2 (List.mem_of_getElem? (l := tables_1_2) (i := 14) rfl), List.forall_mem_cons.mpr ⟨lwt_2 (List.mem_of_getElem? (l := tables_1_2) (i := 15) rfl), List.forall_mem_cons.mpr ⟨lwt_2 (List.mem_of_getElem? (l := tables_1_2) (i := 16) rfl), List.forall_mem_cons.mpr ⟨lwt_2 (List.mem_of_getElem? (l := tables_1_2) (i := 17) rfl), List.forall_mem_cons.mpr ⟨lwt_2 (List.mem_of_getElem? (l := tables_1_2) (i := 18) rfl), List.forall_mem_cons.mpr ⟨lwt_2 (List.mem_of_getElem? (l := tables_1_2) (i := 19) rfl), List.forall_mem_cons.mpr ⟨lwt_2 (List.mem_of_getElem? (l := tables_1_2) (i := 20) rfl), List.forall_mem_cons.mpr ⟨lwt_2 (List.mem_of_getElem? (l := tables_1_2) (i := 21) rfl), List.forall_mem_cons.mpr ⟨lwt_2 (List.mem_of_getElem? (l := tables_1_2) (i := 22) rfl), List.forall_mem_cons.mpr ⟨lwt_2 (List.mem_of_getElem? (l := tables_1_2) (i := 23) rfl), List.forall_mem_cons.mpr ⟨lwt_2 (List.mem_of_getElem? (l := tables_1_2) (i := 24) rfl), List.forall_mem_cons.mpr ⟨lwt_2 (List.mem_of_getElem? (l := tables_1_2) (i := 25) rfl), List.forall_mem_cons.mpr ⟨lwt_2 (List.mem_of_getElem? (l := tables_1_2) (i := 26) rfl), List.forall_mem_cons.mpr ⟨lwt_2 (List.mem_of_getElem? (l := tables_1_2) (i := 27) rfl), List.forall_mem_cons.mpr ⟨lwt_2 (List.mem_of_getElem? (l := tables_1_2) (i := 28) rfl), List.forall_mem_cons.mpr ⟨lwt_2 (List.mem_of_getElem? (l := tables_1_2) (i := 29) rfl), List.forall_mem_cons.mpr ⟨lwt_2 (List.mem_of_getElem? (l := tables_1_2) (i := 30) rfl), List.forall_mem_cons.mpr ⟨lwt_2 (List.mem_of_getElem? (l := tables_1_2) (i := 31) rfl), List.forall_mem_cons.mpr ⟨lwt_2 (List.mem_of_getElem? (l := tables_1_2) (i := 32) rfl), List.forall_mem_cons.mpr ⟨lwt_2 (List.mem_of_getElem? (l := tables_1_2) (i := 33) rfl), List.forall_mem_cons.mpr ⟨lwt_2 (List.mem_of_getElem? (l := tables_1_2) (i := 34) rfl), List.forall_mem_cons.mpr ⟨lwt_2 (List.mem_of_getElem? (l := tables_1_2) (i := 35) rfl), List.forall_mem_cons.mpr ⟨lwt_2 (List.mem_of_getElem? (l := tables_1_2) (i := 36) rfl), List.forall_mem_cons.mpr ⟨lwt_2 (List.mem_of_getElem? (l := tables_1_2) (i := 38) rfl), lw_nilin⟩⟩⟩⟩⟩⟩⟩⟩⟩⟩⟩⟩⟩⟩⟩⟩⟩⟩⟩⟩⟩⟩⟩⟩
set_option maxRecDepth 20000 in
theorem wsL_rin_9 : ∀ w ∈ wsL_law_r9, w ∈ lw_tbl := List.forall_mem_cons.mpr ⟨lwt_0 (List.mem_of_getElem? (l := k2_sels lw_privs) (i := 3) rfl), List.forall_mem_cons.mpr ⟨lwt_2 (List.mem_of_getElem? (l := tables_1_2) (i := 39) rfl), List.forall_mem_cons.mpr ⟨lwt_2 (List.mem_of_getElem? (l := tables_1_2) (i := 40) rfl), List.forall_mem_cons.mpr ⟨lwt_2 (List.mem_of_getElem? (l := tables_1_2) (i := 41) rfl), List.forall_mem_cons.mpr ⟨lwt_2 (List.mem_of_getElem? (l := tables_1_2) (i := 42) rfl), List.forall_mem_cons.mpr ⟨lwt_2 (List.mem_of_getElem? (l := tables_1_2) (i := 43) rfl), List.forall_mem_cons.mpr ⟨lwt_2 (List.mem_of_getElem? (l := tables_1_2) (i := 44) rfl), List.forall_mem_cons.mpr ⟨lwt_2 (List.mem_of_getElem? (l := tables_1_2) (i := 45) rfl), List.forall_mem_cons.mpr ⟨lwt_2 (List.mem_of_getElem? (l := tables_1_2) (i := 46) rfl), List.forall_mem_cons.mpr ⟨lwt_2 (List.mem_of_getElem? (l := tables_1_2) (i := 47) rfl), List.forall_mem_cons.mpr ⟨lwt_2 (List.mem_of_getElem? (l := tables_1_2) (i := 48) rfl), List.forall_mem_cons.mpr ⟨lwt_2 (List.mem_of_getElem? (l := tables_1_2) (i := 49) rfl), List.forall_mem_cons.mpr ⟨lwt_2 (List.mem_of_getElem? (l := tables_1_2) (i := 50) rfl), List.forall_mem_cons.mpr ⟨lwt_2 (List.mem_of_getElem? (l := tables_1_2) (i := 51) rfl), List.forall_mem_cons.mpr ⟨lwt_2 (List.mem_of_getElem? (l := tables_1_2) (i := 52) rfl), List.forall_mem_cons.mpr ⟨lwt_2 (List.mem_of_getElem? (l := tables_1_2) (i := 54) rfl), List.forall_mem_cons.mpr ⟨lwt_0 (List.mem_of_getElem? (l := k2_sels lw_privs) (i := 4) rfl), List.forall_mem_cons.mpr ⟨lwt_2 (List.mem_of_getElem? (l := tables_1_2) (i := 55) rfl), List.forall_mem_cons.mpr ⟨lwt_2 (List.mem_of_getElem? (l := tables_1_2) (i := 56) rfl), List.forall_mem_cons.mpr ⟨lwt_2 (List.mem_of_getElem? (l := tables_1_2) (i := 57) rfl), List.forall_mem_cons.mpr ⟨lwt_2 (List.mem_of_getElem? (l := tables_1_2) (i := 58) rfl), List.forall_mem_cons.mpr ⟨lwt_2 (List.mem_of_getElem? (l := tables_1_2) (i := 59) rfl), List.forall_mem_cons.mpr ⟨lwt_2 (List.mem_of_getElem? (l := tables_1_2) (i := 60) rfl), List.forall_mem_cons.mpr ⟨lwt_2 (List.mem_of_getElem? (l := tables_1_2) (i := 61) rfl), lw_nilin⟩⟩⟩⟩⟩⟩⟩⟩⟩⟩⟩⟩⟩⟩⟩⟩⟩⟩⟩⟩⟩⟩⟩⟩
set_option maxRecDepth 20000 in
theorem wsL_rin_10 : ∀ w ∈ wsL_law_r10, w ∈ lw_tbl := List.forall_mem_cons.mpr ⟨lwt_2 (List.mem_of_getElem? (l := tables_1_2) (i := 63) rfl), List.forall_mem_cons.mpr ⟨lwt_0 (List.mem_of_getElem? (l := k2_sels lw_privs) (i := 5) rfl), List.forall_mem_cons.mpr ⟨lwt_2 (List.mem_of_getElem? (l := tables_1_2) (i := 64) rfl), List.forall_mem_cons.mpr ⟨lwt_2 (List.mem_of_getElem? (l := tables_1_2) (i := 65) rfl), List.forall_mem_cons.mpr ⟨lwt_2 (List.mem_of_getElem? (l := tables_1_2) (i := 66) rfl), List.forall_mem_cons.mpr ⟨lwt_2 (List.mem_of_getElem? (l := tables_1_2) (i := 67) rfl), List.forall_mem_cons.mpr ⟨lwt_2 (List.mem_of_getElem? (l := tables_1_2) (i := 68) rfl), List.forall_mem_cons.mpr ⟨lwt_2 (List.mem_of_getElem? (l := tables_1_2) (i := 69) rfl), List.forall_mem_cons.mpr ⟨lwt_2 (List.mem_of_getElem? (l := tables_1_2) (i := 70) rfl), List.forall_mem_cons.mpr ⟨lwt_2 (List.mem_of_getElem? (l := tables_1_2) (i := 71) rfl), List.forall_mem_cons.mpr ⟨lwt_2 (List.mem_of_getElem? (l := tables_1_2) (i := 72) rfl), List.forall_mem_cons.mpr ⟨lwt_2 (List.mem_of_getElem? (l := tables_1_2) (i := 73) rfl), List.forall_mem_cons.mpr ⟨lwt_2 (List.mem_of_getElem? (l := tables_1_2) (i := 74) rfl), List.forall_mem_cons.mpr ⟨lwt_2 (List.mem_of_getElem? (l := tables_1_2) (i := 75) rfl), List.forall_mem_cons.mpr ⟨lwt_2 (List.mem_of_getElem? (l := tables_1_2) (i := 76) rfl), List.forall_mem_cons.mpr ⟨lwt_2 (List.mem_of_getElem? (l := tables_1_2) (i := 77) rfl), List.forall_mem_cons.mpr ⟨lwt_2 (List.mem_of_getElem? (l := tables_1_2) (i := 78) rfl), List.forall_mem_cons.mpr ⟨lwt_2 (List.mem_of_getElem? (l := tables_1_2) (i := 79) rfl), List.forall_mem_cons.mpr ⟨lwt_2 (List.mem_of_getElem? (l := tables_1_2) (i := 80) rfl), List.forall_mem_cons.mpr ⟨lwt_2 (List.mem_of_getElem? (l := tables_1_2) (i := 81) rfl), List.forall_mem_cons.mpr ⟨lwt_2 (List.mem_of_getElem? (l := tables_1_2) (i := 82) rfl), List.forall_mem_cons.mpr ⟨lwt_2 (List.mem_of_getElem? (l := tables_1_2) (i := 83) rfl), List.forall_mem_cons.mpr ⟨lwt_2 (List.mem_of_getElem? (l := tables_1_2) (i := 84) rfl), List.forall_mem_cons.mpr ⟨lwt_2 (List.mem_of_getElem? (l := tables_1_2) (i := 85) rfl), lw_nilin⟩⟩⟩⟩⟩⟩⟩⟩⟩⟩⟩⟩⟩⟩⟩⟩⟩⟩⟩⟩⟩⟩⟩⟩
set_option maxRecDepth 20000 in
theorem wsL_rin_11 : ∀ w ∈ wsL_law_r11, w ∈ lw_tbl := List.forall_mem_cons.mpr ⟨lwt_2 (List.mem_of_getElem? (l := tables_1_2) (i := 86) rfl), List.forall_mem_cons.mpr ⟨lwt_2 (List.mem_of_getElem? (l := tables_1_2) (i := 87) rfl), List.forall_mem_cons.mpr ⟨lwt_2 (List.mem_of_getElem? (l := tables_1_2) (i := 88) rfl), List.forall_mem_cons.mpr ⟨lwt_2 (List.mem_of_getElem? (l := tables_1_2) (i := 89) rfl), List.forall_mem_cons.mpr ⟨lwt_2 (List.mem_of_getElem? (l := tables_1_2) (i := 90) rfl), List.forall_mem_cons.mpr ⟨lwt_2 (List.mem_of_getElem? (l := tables_1_2) (i := 91) rfl), List.forall_mem_cons.mpr ⟨lwt_2 (List.mem_of_getElem? (l := tables_1_2) (i := 92) rfl), List.forall_mem_cons.mpr ⟨lwt_2 (List.mem_of_getElem? (l := tables_1_2) (i := 93) rfl), List.forall_mem_cons.mpr ⟨lwt_2 (List.mem_of_getElem? (l := tables_1_2) (i := 94) rfl), List.forall_mem_cons.mpr ⟨lwt_2 (List.mem_of_getElem? (l := tables_1_2) (i := 95) rfl), List.forall_mem_cons.mpr ⟨lwt_2 (List.mem_of_getElem? (l := tables_1_2) (i := 96) rfl), List.forall_mem_cons.mpr ⟨lwt_2 (List.mem_of_getElem? (l := tables_1_2) (i := 97) rfl), List.forall_mem_cons.mpr ⟨lwt_2 (List.mem_of_getElem? (l := tables_1_2) (i := 98) rfl), List.forall_mem_cons.mpr ⟨lwt_1 (List.mem_of_getElem? (l := tables_1_1) (i := 119) rfl), List.forall_mem_cons.mpr ⟨lwt_2 (List.mem_of_getElem? (l := tables_1_2) (i := 99) rfl), List.forall_mem_cons.mpr ⟨lwt_3 (List.mem_of_getElem? (l := tables_1_3) (i := 98) rfl), List.forall_mem_cons.mpr ⟨lwt_3 (List.mem_of_getElem? (l := tables_1_3) (i := 99) rfl), List.forall_mem_cons.mpr ⟨lwt_3 (List.mem_of_getElem? (l := tables_1_3) (i := 100) rfl), List.forall_mem_cons.mpr ⟨lwt_3 (List.mem_of_getElem? (l := tables_1_3) (i := 101) rfl), List.forall_mem_cons.mpr ⟨lwt_3 (List.mem_of_getElem? (l := tables_1_3) (i := 102) rfl), List.forall_mem_cons.mpr ⟨lwt_3 (List.mem_of_getElem? (l := tables_1_3) (i := 104) rfl), List.forall_mem_cons.mpr ⟨lwt_0 (List.mem_of_getElem? (l := k2_sels lw_privs) (i := 9) rfl), List.forall_mem_cons.mpr ⟨lwt_3 (List.mem_of_getElem? (l := tables_1_3) (i := 105) rfl), List.forall_mem_cons.mpr ⟨lwt_3 (List.mem_of_getElem? (l := tables_1_3) (i := 106) rfl), lw_nilin⟩⟩⟩⟩⟩⟩⟩⟩⟩⟩⟩⟩⟩⟩⟩⟩⟩⟩⟩⟩⟩⟩⟩⟩
set_option maxRecDepth 20000 in
theorem wsL_rin_12 : ∀ w ∈ wsL_law_r12, w ∈ lw_tbl := List.forall_mem_cons.mpr ⟨lwt_3 (List.mem_of_getElem? (l := tables_1_3) (i := 107) rfl), List.forall_mem_cons.mpr ⟨lwt_3 (List.mem_of_getElem? (l := tables_1_3) (i := 108) rfl), List.forall_mem_cons.mpr ⟨lwt_3 (List.mem_of_getElem? (l := tables_1_3) (i := 109) rfl), List.forall_mem_cons.mpr ⟨lwt_3 (List.mem_of_getElem? (l := tables_1_3) (i := 110) rfl), List.forall_mem_cons.mpr ⟨lwt_3 (List.mem_of_getElem? (l := tables_1_3) (i := 111) rfl), List.forall_mem_cons.mpr ⟨lwt_3 (List.mem_of_getElem? (l := tables_1_3) (i := 112) rfl), List.forall_mem_cons.mpr ⟨lwt_3 (List.mem_of_getElem? (l := tables_1_3) (i := 113) rfl), List.forall_mem_cons.mpr ⟨lwt_3 (List.mem_of_getElem? (l := tables_1_3) (i := 114) rfl), List.forall_mem_cons.mpr ⟨lwt_3 (List.mem_of_getElem? (l := tables_1_3) (i := 115) rfl), List.forall_mem_cons.mpr ⟨lwt_3 (List.mem_of_getElem? (l := tables_1_3) (i := 117) rfl), List.forall_mem_cons.mpr ⟨lwt_0 (List.mem_of_getElem? (l := k2_sels lw_privs) (i := 10) rfl), List.forall_mem_cons.mpr ⟨lwt_3 (List.mem_of_getElem? (l := tables_1_3) (i := 118) rfl), List.forall_mem_cons.mpr ⟨lwt_3 (List.mem_of_getElem? (l := tables_1_3) (i := 49) rfl), List.forall_mem_cons.mpr ⟨lwt_3 (List.mem_of_getElem? (l := tables_1_3) (i := 119) rfl), List.forall_mem_cons.mpr ⟨lwt_3 (List.mem_of_getElem? (l := tables_1_3) (i := 121) rfl), List.forall_mem_cons.mpr ⟨lwt_0 (List.mem_of_getElem? (l := k2_sels lw_privs) (i := 11) rfl), List.forall_mem_cons.mpr ⟨lwt_3 (List.mem_of_getElem? (l := tables_1_3) (i := 122) rfl), List.forall_mem_cons.mpr ⟨lwt_3 (List.mem_of_getElem? (l := tables_1_3) (i := 123) rfl), List.forall_mem_cons.mpr ⟨lwt_3 (List.mem_of_getElem? (l := tables_1_3) (i := 124) rfl), List.forall_mem_cons.mpr ⟨lwt_3 (List.mem_of_getElem? (l := tables_1_3) (i := 125) rfl), List.forall_mem_cons.mpr ⟨lwt_3 (List.mem_of_getElem? (l := tables_1_3) (i := 126) rfl), List.forall_mem_cons.mpr ⟨lwt_3 (List.mem_of_getElem? (l := tables_1_3) (i := 128) rfl), List.forall_mem_cons.mpr ⟨lwt_0 (List.mem_of_getElem? (l := k2_sels lw_privs) (i := 12) rfl), List.forall_mem_cons.mpr ⟨lwt_3 (List.mem_of_getElem? (l := tables_1_3) (i := 129) rfl), lw_nilin⟩⟩⟩⟩⟩⟩⟩⟩⟩⟩⟩⟩⟩⟩⟩⟩⟩⟩⟩⟩⟩⟩⟩⟩
set_option maxRecDepth 20000 in
theorem wsL_rin_13 : ∀ w ∈ wsL_law_r13, w ∈ lw_tbl := List.forall_mem_cons.mpr ⟨lwt_3 (List.mem_of_getElem? (l := tables_1_3) (i := 130) rfl), List.forall_mem_cons.mpr ⟨lwt_3 (List.mem_of_getElem? (l := tables_1_3) (i := 132) rfl), List.forall_mem_cons.mpr ⟨lwt_0 (List.mem_of_getElem? (l := k2_sels lw_privs) (i := 13) rfl), List.forall_mem_cons.mpr ⟨lwt_3 (List.mem_of_getElem? (l := tables_1_3) (i := 133) rfl), List.forall_mem_cons.mpr ⟨lwt_3 (List.mem_of_getElem? (l := tables_1_3) (i := 134) rfl), List.forall_mem_cons.mpr ⟨lwt_3 (List.mem_of_getElem? (l := tables_1_3) (i := 135) rfl), List.forall_mem_cons.mpr ⟨lwt_3 (List.mem_of_getElem? (l := tables_1_3) (i := 136) rfl), List.forall_mem_cons.mpr ⟨lwt_3 (List.mem_of_getElem? (l := tables_1_3) (i := 137) rfl), List.forall_mem_cons.mpr ⟨lwt_3 (List.mem_of_getElem? (l := tables_1_3) (i := 138) rfl), List.forall_mem_cons.mpr ⟨lwt_3 (List.mem_of_getElem? (l := tables_1_3) (i := 139) rfl), List.forall_mem_cons.mpr ⟨lwt_3 (List.mem_of_getElem? (l := tables_1_3) (i := 140) rfl), List.forall_mem_cons.mpr ⟨lwt_3 (List.mem_of_getElem? (l := tables_1_3) (i := 141) rfl), List.forall_mem_cons.mpr ⟨lwt_3 (List.mem_of_getElem? (l := tables_1_3) (i := 142) rfl), List.forall_mem_cons.mpr ⟨lwt_3 (List.mem_of_getElem? (l := tables_1_3) (i := 143) rfl), List.forall_mem_cons.mpr ⟨lwt_3 (List.mem_of_getElem? (l := tables_1_3) (i := 144) rfl), List.forall_mem_cons.mpr ⟨lwt_3 (List.mem_of_getElem? (l := tables_1_3) (i := 145) rfl), List.forall_mem_cons.mpr ⟨lwt_3 (List.mem_of_getElem? (l := tables_1_3) (i := 146) rfl), List.forall_mem_cons.mpr ⟨lwt_3 (List.mem_of_getElem? (l := tables_1_3) (i := 147) rfl), List.forall_mem_cons.mpr ⟨lwt_3 (List.mem_of_getElem? (l := tables_1_3) (i := 148) rfl), List.forall_mem_cons.mpr ⟨lwt_3 (List.mem_of_getElem? (l := tables_1_3) (i := 149) rfl), List.forall_mem_cons.mpr ⟨lwt_3 (List.mem_of_getElem? (l := tables_1_3) (i := 151) rfl), List.forall_mem_cons.mpr ⟨lwt_0 (List.mem_of_getElem? (l := k2_sels lw_privs) (i := 14) rfl), List.forall_mem_cons.mpr ⟨lwt_3 (List.mem_of_getElem? (l := tables_1_3) (i := 152) rfl), List.forall_mem_cons.mpr ⟨lwt_2 (List.mem_of_getElem? (l := tables_1_2) (i := 100) rfl), lw_nilin⟩⟩⟩⟩⟩⟩⟩⟩⟩⟩⟩⟩⟩⟩⟩⟩⟩⟩⟩⟩⟩⟩⟩⟩
set_option maxRecDepth 20000 in
theorem wsL_rin_14 : ∀ w ∈ wsL_law_r14, w ∈ lw_tbl := List.forall_mem_cons.mpr ⟨lwt_2 (List.mem_of_getElem? (l := tables_1_2) (i := 101) rfl), List.forall_mem_cons.mpr ⟨lwt_2 (List.mem_of_getElem? (l := tables_1_2) (i := 102) rfl), List.forall_mem_cons.mpr ⟨lwt_2 (List.mem_of_getElem? (l := tables_1_2) (i := 103) rfl), List.forall_mem_cons.mpr ⟨lwt_3 (List.mem_of_getElem? (l := tables_1_3) (i := 153) rfl), List.forall_mem_cons.mpr ⟨lwt_3 (List.mem_of_getElem? (l := tables_1_3) (i := 154) rfl), List.forall_mem_cons.mpr ⟨lwt_3 (List.mem_of_getElem? (l := tables_1_3) (i := 155) rfl), List.forall_mem_cons.mpr ⟨lwt_3 (List.mem_of_getElem? (l := tables_1_3) (i := 156) rfl), List.forall_mem_cons.mpr ⟨lwt_3 (List.mem_of_getElem? (l := tables_1_3) (i := 157) rfl), List.forall_mem_cons.mpr ⟨lwt_3 (List.mem_of_getElem? (l := tables_1_3) (i := 159) rfl), List.forall_mem_cons.mpr ⟨lwt_0 (List.mem_of_getElem? (l := k2_sels lw_privs) (i := 15) rfl), List.forall_mem_cons.mpr ⟨lwt_3 (List.mem_of_getElem? (l := tables_1_3) (i := 160) rfl), List.forall_mem_cons.mpr ⟨lwt_3 (List.mem_of_getElem? (l := tables_1_3) (i := 161) rfl), List.forall_mem_cons.mpr ⟨lwt_3 (List.mem_of_getElem? (l := tables_1_3) (i := 163) rfl), List.forall_mem_cons.mpr ⟨lwt_0 (List.mem_of_getElem? (l := k2_sels lw_privs) (i := 16) rfl), List.forall_mem_cons.mpr ⟨lwt_3 (List.mem_of_getElem? (l := tables_1_3) (i := 164) rfl), List.forall_mem_cons.mpr ⟨lwt_2 (List.mem_of_getElem? (l := tables_1_2) (i := 104) rfl), List.forall_mem_cons.mpr ⟨lwt_2 (List.mem_of_getElem? (l := tables_1_2) (i := 105) rfl), List.forall_mem_cons.mpr ⟨lwt_2 (List.mem_of_getElem? (l := tables_1_2) (i := 106) rfl), List.forall_mem_cons.mpr ⟨lwt_2 (List.mem_of_getElem? (l := tables_1_2) (i := 107) rfl), List.forall_mem_cons.mpr ⟨lwt_3 (List.mem_of_getElem? (l := tables_1_3) (i := 165) rfl), List.forall_mem_cons.mpr ⟨lwt_3 (List.mem_of_getElem? (l := tables_1_3) (i := 166) rfl), List.forall_mem_cons.mpr ⟨lwt_3 (List.mem_of_getElem? (l := tables_1_3) (i := 167) rfl), List.forall_mem_cons.mpr ⟨lwt_3 (List.mem_of_getElem? (l := tables_1_3) (i := 168) rfl), List.forall_mem_cons.mpr ⟨lwt_3 (List.mem_of_getElem? (l := tables_1_3) (i := 169) rfl), lw_nilin⟩⟩⟩⟩⟩⟩⟩⟩⟩⟩⟩⟩⟩⟩⟩⟩⟩⟩⟩⟩⟩⟩⟩⟩
set_option maxRecDepth 20000 in
theorem wsL_rin_15 : ∀ w ∈ wsL_law_r15, w ∈ lw_tbl := List.forall_mem_cons.mpr ⟨lwt_3 (List.mem_of_getElem? (l := tables_1_3) (i := 171) rfl), List.forall_mem_cons.mpr ⟨lwt_0 (List.mem_of_getElem? (l := k2_sels lw_privs) (i := 17) rfl), List.forall_mem_cons.mpr ⟨lwt_3 (List.mem_of_getElem? (l := tables_1_3) (i := 172) rfl), List.forall_mem_cons.mpr ⟨lwt_3 (List.mem_of_getElem? (l := tables_1_3) (i := 173) rfl), List.forall_mem_cons.mpr ⟨lwt_3 (List.mem_of_getElem? (l := tables_1_3) (i := 175) rfl), List.forall_mem_cons.mpr ⟨lwt_0 (List.mem_of_getElem? (l := k2_sels lw_privs) (i := 18) rfl), List.forall_mem_cons.mpr ⟨lwt_3 (List.mem_of_getElem? (l := tables_1_3) (i := 176) rfl), List.forall_mem_cons.mpr ⟨lwt_2 (List.mem_of_getElem? (l := tables_1_2) (i := 108) rfl), List.forall_mem_cons.mpr ⟨lwt_2 (List.mem_of_getElem? (l := tables_1_2) (i := 109) rfl), List.forall_mem_cons.mpr ⟨lwt_2 (List.mem_of_getElem? (l := tables_1_2) (i := 110) rfl), List.forall_mem_cons.mpr ⟨lwt_2 (List.mem_of_getElem? (l := tables_1_2) (i := 111) rfl), List.forall_mem_cons.mpr ⟨lwt_3 (List.mem_of_getElem? (l := tables_1_3) (i := 177) rfl), List.forall_mem_cons.mpr ⟨lwt_3 (List.mem_of_getElem? (l := tables_1_3) (i := 178) rfl), List.forall_mem_cons.mpr ⟨lwt_3 (List.mem_of_getElem? (l := tables_1_3) (i := 179) rfl), List.forall_mem_cons.mpr ⟨lwt_3 (List.mem_of_getElem? (l := tables_1_3) (i := 180) rfl), List.forall_mem_cons.mpr ⟨lwt_2 (List.mem_of_getElem? (l := tables_1_2) (i := 112) rfl), List.forall_mem_cons.mpr ⟨lwt_2 (List.mem_of_getElem? (l := tables_1_2) (i := 113) rfl), List.forall_mem_cons.mpr ⟨lwt_2 (List.mem_of_getElem? (l := tables_1_2) (i := 114) rfl), List.forall_mem_cons.mpr ⟨lwt_2 (List.mem_of_getElem? (l := tables_1_2) (i := 115) rfl), List.forall_mem_cons.mpr ⟨lwt_3 (List.mem_of_getElem? (l := tables_1_3) (i := 181) rfl), List.forall_mem_cons.mpr ⟨lwt_3 (List.mem_of_getElem? (l := tables_1_3) (i := 182) rfl), List.forall_mem_cons.mpr ⟨lwt_3 (List.mem_of_getElem? (l := tables_1_3) (i := 183) rfl), List.forall_mem_cons.mpr ⟨lwt_3 (List.mem_of_getElem? (l := tables_1_3) (i := 184) rfl), List.forall_mem_cons.mpr ⟨lwt_3 (List.mem_of_getElem? (l := tables_1_3) (i := 185) rfl), lw_nilin⟩⟩⟩⟩⟩⟩⟩⟩⟩⟩⟩⟩⟩⟩⟩⟩⟩⟩⟩⟩⟩⟩⟩⟩
set_option maxRecDepth 20000 in
theorem wsL_rin_16 : ∀ w ∈ wsL_law_r16, w ∈ lw_tbl := List.forall_mem_cons.mpr ⟨lwt_3 (List.mem_of_getElem? (l := tables_1_3) (i := 187) rfl), List.forall_mem_cons.mpr ⟨lwt_0 (List.mem_of_getElem? (l := k2_sels lw_privs) (i := 19) rfl), List.forall_mem_cons.mpr ⟨lwt_3 (List.mem_of_getElem? (l := tables_1_3) (i := 188) rfl), List.forall_mem_cons.mpr ⟨lwt_3 (List.mem_of_getElem? (l := tables_1_3) (i := 189) rfl), List.forall_mem_cons.mpr ⟨lwt_3 (List.mem_of_getElem? (l := tables_1_3) (i := 191) rfl), List.forall_mem_cons.mpr ⟨lwt_0 (List.mem_of_getElem? (l := k2_sels lw_privs) (i := 20) rfl), List.forall_mem_cons.mpr ⟨lwt_3 (List.mem_of_getElem? (l := tables_1_3) (i := 192) rfl), List.forall_mem_cons.mpr ⟨lwt_3 (List.mem_of_getElem? (l := tables_1_3) (i := 193) rfl), List.forall_mem_cons.mpr ⟨lwt_3 (List.mem_of_getElem? (l := tables_1_3) (i := 195) rfl), List.forall_mem_cons.mpr ⟨lwt_0 (List.mem_of_getElem? (l := k2_sels lw_privs) (i := 21) rfl), List.forall_mem_cons.mpr ⟨lwt_3 (List.mem_of_getElem? (l := tables_1_3) (i := 196) rfl), List.forall_mem_cons.mpr ⟨lwt_3 (List.mem_of_getElem? (l := tables_1_3) (i := 197) rfl), List.forall_mem_cons.mpr ⟨lwt_3 (List.mem_of_getElem? (l := tables_1_3) (i := 199) rfl), List.forall_mem_cons.mpr ⟨lwt_0 (List.mem_of_getElem? (l := k2_sels lw_privs) (i := 22) rfl), List.forall_mem_cons.mpr ⟨lwt_3 (List.mem_of_getElem? (l := tables_1_3) (i := 200) rfl), List.forall_mem_cons.mpr ⟨lwt_2 (List.mem_of_getElem? (l := tables_1_2) (i := 116) rfl), List.forall_mem_cons.mpr ⟨lwt_2 (List.mem_of_getElem? (l := tables_1_2) (i := 117) rfl), List.forall_mem_cons.mpr ⟨lwt_2 (List.mem_of_getElem? (l := tables_1_2) (i := 118) rfl), List.forall_mem_cons.mpr ⟨lwt_2 (List.mem_of_getElem? (l := tables_1_2) (i := 119) rfl), List.forall_mem_cons.mpr ⟨lwt_3 (List.mem_of_getElem? (l := tables_1_3) (i := 201) rfl), List.forall_mem_cons.mpr ⟨lwt_3 (List.mem_of_getElem? (l := tables_1_3) (i := 202) rfl), List.forall_mem_cons.mpr ⟨lwt_3 (List.mem_of_getElem? (l := tables_1_3) (i := 203) rfl), List.forall_mem_cons.mpr ⟨lwt_3 (List.mem_of_getElem? (l := tables_1_3) (i := 204) rfl), List.forall_mem_cons.mpr ⟨lwt_3 (List.mem_of_getElem? (l := tables_1_3) (i := 205) rfl), lw_nilin⟩⟩⟩⟩⟩⟩⟩⟩⟩⟩⟩⟩⟩⟩⟩⟩⟩⟩⟩⟩⟩⟩⟩⟩
set_option maxRecDepth 20000 in
theorem wsL_rin_17 : ∀ w ∈ wsL_law_r17, w ∈ lw_tbl := List.forall_mem_cons.mpr ⟨lwt_3 (List.mem_of_getElem? (l := tables_1_3) (i := 207) rfl), List.forall_mem_cons.mpr ⟨lwt_0 (List.mem_of_getElem? (l := k2_sels lw_privs) (i := 23) rfl), List.forall_mem_cons.mpr ⟨lwt_3 (List.mem_of_getElem? (l := tables_1_3) (i := 208) rfl), List.forall_mem_cons.mpr ⟨lwt_3 (List.mem_of_getElem? (l := tables_1_3) (i := 209) rfl), List.forall_mem_cons.mpr ⟨lwt_3 (List.mem_of_getElem? (l := tables_1_3) (i := 211) rfl), List.forall_mem_cons.mpr ⟨lwt_0 (List.mem_of_getElem? (l := k2_sels lw_privs) (i := 24) rfl), List.forall_mem_cons.mpr ⟨lwt_3 (List.mem_of_getElem? (l := tables_1_3) (i := 212) rfl), List.forall_mem_cons.mpr ⟨lwt_2 (List.mem_of_getElem? (l := tables_1_2) (i := 120) rfl), List.forall_mem_cons.mpr ⟨lwt_2 (List.mem_of_getElem? (l := tables_1_2) (i := 121) rfl), List.forall_mem_cons.mpr ⟨lwt_2 (List.mem_of_getElem? (l := tables_1_2) (i := 122) rfl), List.forall_mem_cons.mpr ⟨lwt_2 (List.mem_of_getElem? (l := tables_1_2) (i := 123) rfl), List.forall_mem_cons.mpr ⟨lwt_3 (List.mem_of_getElem? (l := tables_1_3) (i := 213) rfl), List.forall_mem_cons.mpr ⟨lwt_3 (List.mem_of_getElem? (l := tables_1_3) (i := 214) rfl), List.forall_mem_cons.mpr ⟨lwt_3 (List.mem_of_getElem? (l := tables_1_3) (i := 215) rfl), List.forall_mem_cons.mpr ⟨lwt_3 (List.mem_of_getElem? (l := tables_1_3) (i := 216) rfl), List.forall_mem_cons.mpr ⟨lwt_3 (List.mem_of_getElem? (l := tables_1_3) (i := 217) rfl), List.forall_mem_cons.mpr ⟨lwt_3 (List.mem_of_getElem? (l := tables_1_3) (i := 219) rfl), List.forall_mem_cons.mpr ⟨lwt_0 (List.mem_of_getElem? (l := k2_sels lw_privs) (i := 25) rfl), List.forall_mem_cons.mpr ⟨lwt_3 (List.mem_of_getElem? (l := tables_1_3) (i := 220) rfl), List.forall_mem_cons.mpr ⟨lwt_2 (List.mem_of_getElem? (l := tables_1_2) (i := 124) rfl), List.forall_mem_cons.mpr ⟨lwt_2 (List.mem_of_getElem? (l := tables_1_2) (i := 125) rfl), List.forall_mem_cons.mpr ⟨lwt_2 (List.mem_of_getElem? (l := tables_1_2) (i := 126) rfl), List.forall_mem_cons.mpr ⟨lwt_2 (List.mem_of_getElem? (l := tables_1_2) (i := 127) rfl), List.forall_mem_cons.mpr ⟨lwt_2 (List.mem_of_getElem? (l := tables_1_2) (i := 128) rfl), lw_nilin⟩⟩⟩⟩⟩⟩⟩⟩⟩⟩⟩⟩⟩⟩⟩⟩⟩⟩⟩⟩⟩⟩⟩⟩
set_option maxRecDepth 20000 in
theorem wsL_rin_18 : ∀ w ∈ wsL_law_r18, w ∈ lw_tbl := List.forall_mem_cons.mpr ⟨lwt_2 (List.mem_of_getElem? (l := tables_1_2) (i := 129) rfl), List.forall_mem_cons.mpr ⟨lwt_2 (List.mem_of_getElem? (l := tables_1_2) (i := 130) rfl), List.forall_mem_cons.mpr ⟨lwt_2 (List.mem_of_getElem? (l := tables_1_2) (i := 131) rfl), List.forall_mem_cons.mpr ⟨lwt_2 (List.mem_of_getElem? (l := tables_1_2) (i := 132) rfl), List.forall_mem_cons.mpr ⟨lwt_2 (List.mem_of_getElem? (l := tables_1_2) (i := 133) rfl), List.forall_mem_cons.mpr ⟨lwt_2 (List.mem_of_getElem? (l := tables_1_2) (i := 134) rfl), List.forall_mem_cons.mpr ⟨lwt_2 (List.mem_of_getElem? (l := tables_1_2) (i := 135) rfl), List.forall_mem_cons.mpr ⟨lwt_2 (List.mem_of_getElem? (l := tables_1_2) (i := 136) rfl), List.forall_mem_cons.mpr ⟨lwt_2 (List.mem_of_getElem? (l := tables_1_2) (i := 137) rfl), List.forall_mem_cons.mpr ⟨lwt_2 (List.mem_of_getElem? (l := tables_1_2) (i := 138) rfl), List.forall_mem_cons.mpr ⟨lwt_2 (List.mem_of_getElem? (l := tables_1_2) (i := 139) rfl), List.forall_mem_cons.mpr ⟨lwt_2 (List.mem_of_getElem? (l := tables_1_2) (i := 140) rfl), List.forall_mem_cons.mpr ⟨lwt_2 (List.mem_of_getElem? (l := tables_1_2) (i := 141) rfl), List.forall_mem_cons.mpr ⟨lwt_3 (List.mem_of_getElem? (l := tables_1_3) (i := 221) rfl), List.forall_mem_cons.mpr ⟨lwt_3 (List.mem_of_getElem? (l := tables_1_3) (i := 222) rfl), List.forall_mem_cons.mpr ⟨lwt_3 (List.mem_of_getElem? (l := tables_1_3) (i := 223) rfl), List.forall_mem_cons.mpr ⟨lwt_3 (List.mem_of_getElem? (l := tables_1_3) (i := 224) rfl), List.forall_mem_cons.mpr ⟨lwt_2 (List.mem_of_getElem? (l := tables_1_2) (i := 142) rfl), List.forall_mem_cons.mpr ⟨lwt_2 (List.mem_of_getElem? (l := tables_1_2) (i := 143) rfl), List.forall_mem_cons.mpr ⟨lwt_2 (List.mem_of_getElem? (l := tables_1_2) (i := 144) rfl), List.forall_mem_cons.mpr ⟨lwt_2 (List.mem_of_getElem? (l := tables_1_2) (i := 145) rfl), List.forall_mem_cons.mpr ⟨lwt_2 (List.mem_of_getElem? (l := tables_1_2) (i := 146) rfl), List.forall_mem_cons.mpr ⟨lwt_2 (List.mem_of_getElem? (l := tables_1_2) (i := 147) rfl), List.forall_mem_cons.mpr ⟨lwt_2 (List.mem_of_getElem? (l := tables_1_2) (i := 148) rfl), lw_nilin⟩⟩⟩⟩⟩⟩⟩⟩⟩⟩⟩⟩⟩⟩⟩⟩⟩⟩⟩⟩⟩⟩⟩⟩
set_option maxRecDepth 20000 in
theorem wsL_rin_19 : ∀ w ∈ wsL_law_r19, w ∈ lw_tbl := List.forall_mem_cons.mpr ⟨lwt_3 (List.mem_of_getElem? (l := tables_1_3) (i := 225) rfl), List.forall_mem_cons.mpr ⟨lwt_3 (List.mem_of_getElem? (l := tables_1_3) (i := 226) rfl), List.forall_mem_cons.mpr ⟨lwt_3 (List.mem_of_getElem? (l := tables_1_3) (i := 227) rfl), List.forall_mem_cons.mpr ⟨lwt_3 (List.mem_of_getElem? (l := tables_1_3) (i := 228) rfl), List.forall_mem_cons.mpr ⟨lwt_3 (List.mem_of_getElem? (l := tables_1_3) (i := 54) rfl), List.forall_mem_cons.mpr ⟨lwt_3 (List.mem_of_getElem? (l := tables_1_3) (i := 229) rfl), List.forall_mem_cons.mpr ⟨lwt_3 (List.mem_of_getElem? (l := tables_1_3) (i := 231) rfl), List.forall_mem_cons.mpr ⟨lwt_0 (List.mem_of_getElem? (l := k2_sels lw_privs) (i := 26) rfl), List.forall_mem_cons.mpr ⟨lwt_3 (List.mem_of_getElem? (l := tables_1_3) (i := 232) rfl), List.forall_mem_cons.mpr ⟨lwt_2 (List.mem_of_getElem? (l := tables_1_2) (i := 149) rfl), List.forall_mem_cons.mpr ⟨lwt_2 (List.mem_of_getElem? (l := tables_1_2) (i := 150) rfl), List.forall_mem_cons.mpr ⟨lwt_2 (List.mem_of_getElem? (l := tables_1_2) (i := 151) rfl), List.forall_mem_cons.mpr ⟨lwt_2 (List.mem_of_getElem? (l := tables_1_2) (i := 152) rfl), List.forall_mem_cons.mpr ⟨lwt_2 (List.mem_of_getElem? (l := tables_1_2) (i := 153) rfl), List.forall_mem_cons.mpr ⟨lwt_2 (List.mem_of_getElem? (l := tables_1_2) (i := 154) rfl), List.forall_mem_cons.mpr ⟨lwt_2 (List.mem_of_getElem? (l := tables_1_2) (i := 155) rfl), List.forall_mem_cons.mpr ⟨lwt_2 (List.mem_of_getElem? (l := tables_1_2) (i := 156) rfl), List.forall_mem_cons.mpr ⟨lwt_2 (List.mem_of_getElem? (l := tables_1_2) (i := 157) rfl), List.forall_mem_cons.mpr ⟨lwt_3 (List.mem_of_getElem? (l := tables_1_3) (i := 233) rfl), List.forall_mem_cons.mpr ⟨lwt_3 (List.mem_of_getElem? (l := tables_1_3) (i := 234) rfl), List.forall_mem_cons.mpr ⟨lwt_3 (List.mem_of_getElem? (l := tables_1_3) (i := 235) rfl), List.forall_mem_cons.mpr ⟨lwt_3 (List.mem_of_getElem? (l := tables_1_3) (i := 236) rfl), List.forall_mem_cons.mpr ⟨lwt_3 (List.mem_of_getElem? (l := tables_1_3) (i := 237) rfl), List.forall_mem_cons.mpr ⟨lwt_3 (List.mem_of_getElem? (l := tables_1_3) (i := 239) rfl), lw_nilin⟩⟩⟩⟩⟩⟩⟩⟩⟩⟩⟩⟩⟩⟩⟩⟩⟩⟩⟩⟩⟩⟩⟩⟩
set_option maxRecDepth 20000 in
theorem wsL_rin_20 : ∀ w ∈ wsL_law_r20, w ∈ lw_tbl := List.forall_mem_cons.mpr ⟨lwt_0 (List.mem_of_getElem? (l := k2_sels lw_privs) (i := 27) rfl), List.forall_mem_cons.mpr ⟨lwt_4 (List.mem_of_getElem? (l := tables_1_4) (i := 0) rfl), List.forall_mem_cons.mpr ⟨lwt_2 (List.mem_of_getElem? (l := tables_1_2) (i := 158) rfl), List.forall_mem_cons.mpr ⟨lwt_2 (List.mem_of_getElem? (l := tables_1_2) (i := 159) rfl), List.forall_mem_cons.mpr ⟨lwt_2 (List.mem_of_getElem? (l := tables_1_2) (i := 160) rfl), List.forall_mem_cons.mpr ⟨lwt_2 (List.mem_of_getElem? (l := tables_1_2) (i := 161) rfl), List.forall_mem_cons.mpr ⟨lwt_2 (List.mem_of_getElem? (l := tables_1_2) (i := 162) rfl), List.forall_mem_cons.mpr ⟨lwt_2 (List.mem_of_getElem? (l := tables_1_2) (i := 163) rfl), List.forall_mem_cons.mpr ⟨lwt_2 (List.mem_of_getElem? (l := tables_1_2) (i := 164) rfl), List.forall_mem_cons.mpr ⟨lwt_2 (List.mem_of_getElem? (l := tables_1_2) (i := 165) rfl), List.forall_mem_cons.mpr ⟨lwt_2 (List.mem_of_getElem? (l := tables_1_2) (i := 166) rfl), List.forall_mem_cons.mpr ⟨lwt_2 (List.mem_of_getElem? (l := tables_1_2) (i := 167) rfl), List.forall_mem_cons.mpr ⟨lwt_2 (List.mem_of_getElem? (l := tables_1_2) (i := 168) rfl), List.forall_mem_cons.mpr ⟨lwt_2 (List.mem_of_getElem? (l := tables_1_2) (i := 169) rfl), List.forall_mem_cons.mpr ⟨lwt_2 (List.mem_of_getElem? (l := tables_1_2) (i := 170) rfl), List.forall_mem_cons.mpr ⟨lwt_2 (List.mem_of_getElem? (l := tables_1_2) (i := 171) rfl), List.forall_mem_cons.mpr ⟨lwt_4 (List.mem_of_getElem? (l := tables_1_4) (i := 1) rfl), List.forall_mem_cons.mpr ⟨lwt_4 (List.mem_of_getElem? (l := tables_1_4) (i := 2) rfl), List.forall_mem_cons.mpr ⟨lwt_4 (List.mem_of_getElem? (l := tables_1_4) (i := 3) rfl), List.forall_mem_cons.mpr ⟨lwt_4 (List.mem_of_getElem? (l := tables_1_4) (i := 4) rfl), List.forall_mem_cons.mpr ⟨lwt_4 (List.mem_of_getElem? (l := tables_1_4) (i := 5) rfl), List.forall_mem_cons.mpr ⟨lwt_4 (List.mem_of_getElem? (l := tables_1_4) (i := 6) rfl), List.forall_mem_cons.mpr ⟨lwt_4 (List.mem_of_getElem? (l := tables_1_4) (i := 7) rfl), List.forall_mem_cons.mpr ⟨lwt_2 (List.mem_of_getElem? (l := tables_1_2) (i := 172) rfl), lw_nilin⟩⟩⟩⟩⟩⟩⟩⟩⟩⟩⟩⟩⟩⟩⟩⟩⟩⟩⟩⟩⟩⟩⟩⟩
set_option maxRecDepth 20000 in
theorem wsL_rin_21 : ∀ w ∈ wsL_law_r21, w ∈ lw_tbl := List.forall_mem_cons.mpr ⟨lwt_2 (List.mem_of_getElem? (l := tables_1_2) (i := 173) rfl), List.forall_mem_cons.mpr ⟨lwt_2 (List.mem_of_getElem? (l := tables_1_2) (i := 174) rfl), List.forall_mem_cons.mpr ⟨lwt_2 (List.mem_of_getElem? (l := tables_1_2) (i := 175) rfl), List.forall_mem_cons.mpr ⟨lwt_4 (List.mem_of_getElem? (l := tables_1_4) (i := 8) rfl), List.forall_mem_cons.mpr ⟨lwt_4 (List.mem_of_getElem? (l := tables_1_4) (i := 9) rfl), List.forall_mem_cons.mpr ⟨lwt_4 (List.mem_of_getElem? (l := tables_1_4) (i := 10) rfl), List.forall_mem_cons.mpr ⟨lwt_4 (List.mem_of_getElem? (l := tables_1_4) (i := 11) rfl), List.forall_mem_cons.mpr ⟨lwt_2 (List.mem_of_getElem? (l := tables_1_2) (i := 176) rfl), List.forall_mem_cons.mpr ⟨lwt_2 (List.mem_of_getElem? (l := tables_1_2) (i := 177) rfl), List.forall_mem_cons.mpr ⟨lwt_2 (List.mem_of_getElem? (l := tables_1_2) (i := 178) rfl), List.forall_mem_cons.mpr ⟨lwt_2 (List.mem_of_getElem? (l := tables_1_2) (i := 179) rfl), List.forall_mem_cons.mpr ⟨lwt_4 (List.mem_of_getElem? (l := tables_1_4) (i := 12) rfl), List.forall_mem_cons.mpr ⟨lwt_4 (List.mem_of_getElem? (l := tables_1_4) (i := 13) rfl), List.forall_mem_cons.mpr ⟨lwt_4 (List.mem_of_getElem? (l := tables_1_4) (i := 14) rfl), List.forall_mem_cons.mpr ⟨lwt_4 (List.mem_of_getElem? (l := tables_1_4) (i := 15) rfl), List.forall_mem_cons.mpr ⟨lwt_2 (List.mem_of_getElem? (l := tables_1_2) (i := 180) rfl), List.forall_mem_cons.mpr ⟨lwt_2 (List.mem_of_getElem? (l := tables_1_2) (i := 181) rfl), List.forall_mem_cons.mpr ⟨lwt_2 (List.mem_of_getElem? (l := tables_1_2) (i := 182) rfl), List.forall_mem_cons.mpr ⟨lwt_2 (List.mem_of_getElem? (l := tables_1_2) (i := 183) rfl), List.forall_mem_cons.mpr ⟨lwt_2 (List.mem_of_getElem? (l := tables_1_2) (i := 184) rfl), List.forall_mem_cons.mpr ⟨lwt_2 (List.mem_of_getElem? (l := tables_1_2) (i := 185) rfl), List.forall_mem_cons.mpr ⟨lwt_2 (List.mem_of_getElem? (l := tables_1_2) (i := 186) rfl), List.forall_mem_cons.mpr ⟨lwt_2 (List.mem_of_getElem? (l := tables_1_2) (i := 187) rfl), List.forall_mem_cons.mpr ⟨lwt_2 (List.mem_of_getElem? (l := tables_1_2) (i := 188) rfl), lw_nilin⟩⟩⟩⟩⟩⟩⟩⟩⟩⟩⟩⟩⟩⟩⟩⟩⟩⟩⟩⟩⟩⟩⟩⟩
set_option maxRecDepth 20000 in
theorem wsL_rin_22 : ∀ w ∈ wsL_law_r22, w ∈ lw_tbl := List.forall_mem_cons.mpr ⟨lwt_2 (List.mem_of_getElem? (l := tables_1_2) (i := 189) rfl), List.forall_mem_cons.mpr ⟨lwt_2 (List.mem_of_getElem? (l := tables_1_2) (i := 190) rfl), List.forall_mem_cons.mpr ⟨lwt_2 (List.mem_of_getElem? (l := tables_1_2) (i := 191) rfl), List.forall_mem_cons.mpr ⟨lwt_2 (List.mem_of_getElem? (l := tables_1_2) (i := 192) rfl), List.forall_mem_cons.mpr ⟨lwt_2 (List.mem_of_getElem? (l := tables_1_2) (i := 193) rfl), List.forall_mem_cons.mpr ⟨lwt_2 (List.mem_of_getElem? (l := tables_1_2) (i := 194) rfl), List.forall_mem_cons.mpr ⟨lwt_2 (List.mem_of_getElem? (l := tables_1_2) (i := 195) rfl), List.forall_mem_cons.mpr ⟨lwt_2 (List.mem_of_getElem? (l := tables_1_2) (i := 196) rfl), List.forall_mem_cons.mpr ⟨lwt_2 (List.mem_of_getElem? (l := tables_1_2) (i := 197) rfl), List.forall_mem_cons.mpr ⟨lwt_2 (List.mem_of_getElem? (l := tables_1_2) (i := 198) rfl), List.forall_mem_cons.mpr ⟨lwt_2 (List.mem_of_getElem? (l := tables_1_2) (i := 199) rfl), List.forall_mem_cons.mpr ⟨lwt_2 (List.mem_of_getElem? (l := tables_1_2) (i := 200) rfl), List.forall_mem_cons.mpr ⟨lwt_4 (List.mem_of_getElem? (l := tables_1_4) (i := 16) rfl), List.forall_mem_cons.mpr ⟨lwt_4 (List.mem_of_getElem? (l := tables_1_4) (i := 17) rfl), List.forall_mem_cons.mpr ⟨lwt_4 (List.mem_of_getElem? (l := tables_1_4) (i := 18) rfl), List.forall_mem_cons.mpr ⟨lwt_4 (List.mem_of_getElem? (l := tables_1_4) (i := 19) rfl), List.forall_mem_cons.mpr ⟨lwt_3 (List.mem_of_getElem? (l := tables_1_3) (i := 51) rfl), List.forall_mem_cons.mpr ⟨lwt_4 (List.mem_of_getElem? (l := tables_1_4) (i := 20) rfl), List.forall_mem_cons.mpr ⟨lwt_4 (List.mem_of_getElem? (l := tables_1_4) (i := 22) rfl), List.forall_mem_cons.mpr ⟨lwt_0 (List.mem_of_getElem? (l := k2_sels lw_privs) (i := 28) rfl), List.forall_mem_cons.mpr ⟨lwt_4 (List.mem_of_getElem? (l := tables_1_4) (i := 23) rfl), List.forall_mem_cons.mpr ⟨lwt_2 (List.mem_of_getElem? (l := tables_1_2) (i := 201) rfl), List.forall_mem_cons.mpr ⟨lwt_2 (List.mem_of_getElem? (l := tables_1_2) (i := 202) rfl), List.forall_mem_cons.mpr ⟨lwt_2 (List.mem_of_getElem? (l := tables_1_2) (i := 203) rfl), lw_nilin⟩⟩⟩⟩⟩⟩⟩⟩⟩⟩⟩⟩⟩⟩⟩⟩⟩⟩⟩⟩⟩⟩⟩⟩
set_option maxRecDepth 20000 in
theorem wsL_rin_23 : ∀ w ∈ wsL_law_r23, w ∈ lw_tbl := List.forall_mem_cons.mpr ⟨lwt_2 (List.mem_of_getElem? (l := tables_1_2) (i := 204) rfl), List.forall_mem_cons.mpr ⟨lwt_2 (List.mem_of_getElem? (l := tables_1_2) (i := 205) rfl), List.forall_mem_cons.mpr ⟨lwt_2 (List.mem_of_getElem? (l := tables_1_2) (i := 206) rfl), List.forall_mem_cons.mpr ⟨lwt_2 (List.mem_of_getElem? (l := tables_1_2) (i := 207) rfl), List.forall_mem_cons.mpr ⟨lwt_2 (List.mem_of_getElem? (l := tables_1_2) (i := 208) rfl), List.forall_mem_cons.mpr ⟨lwt_2 (List.mem_of_getElem? (l := tables_1_2) (i := 209) rfl), List.forall_mem_cons.mpr ⟨lwt_4 (List.mem_of_getElem? (l := tables_1_4) (i := 24) rfl), List.forall_mem_cons.mpr ⟨lwt_4 (List.mem_of_getElem? (l := tables_1_4) (i := 25) rfl), List.forall_mem_cons.mpr ⟨lwt_4 (List.mem_of_getElem? (l := tables_1_4) (i := 26) rfl), List.forall_mem_cons.mpr ⟨lwt_4 (List.mem_of_getElem? (l := tables_1_4) (i := 27) rfl), List.forall_mem_cons.mpr ⟨lwt_4 (List.mem_of_getElem? (l := tables_1_4) (i := 28) rfl), List.forall_mem_cons.mpr ⟨lwt_4 (List.mem_of_getElem? (l := tables_1_4) (i := 30) rfl), List.forall_mem_cons.mpr ⟨lwt_0 (List.mem_of_getElem? (l := k2_sels lw_privs) (i := 29) rfl), List.forall_mem_cons.mpr ⟨lwt_4 (List.mem_of_getElem? (l := tables_1_4) (i := 31) rfl), List.forall_mem_cons.mpr ⟨lwt_3 (List.mem_of_getElem? (l := tables_1_3) (i := 55) rfl), List.forall_mem_cons.mpr ⟨lwt_4 (List.mem_of_getElem? (l := tables_1_4) (i := 32) rfl), List.forall_mem_cons.mpr ⟨lwt_4 (List.mem_of_getElem? (l := tables_1_4) (i := 34) rfl), List.forall_mem_cons.mpr ⟨lwt_0 (List.mem_of_getElem? (l := k2_sels lw_privs) (i := 30) rfl), List.forall_mem_cons.mpr ⟨lwt_4 (List.mem_of_getElem? (l := tables_1_4) (i := 35) rfl), List.forall_mem_cons.mpr ⟨lwt_4 (List.mem_of_getElem? (l := tables_1_4) (i := 36) rfl), List.forall_mem_cons.mpr ⟨lwt_4 (List.mem_of_getElem? (l := tables_1_4) (i := 38) rfl), List.forall_mem_cons.mpr ⟨lwt_0 (List.mem_of_getElem? (l := k2_sels lw_privs) (i := 31) rfl), List.forall_mem_cons.mpr ⟨lwt_4 (List.mem_of_getElem? (l := tables_1_4) (i := 39) rfl), List.forall_mem_cons.mpr ⟨lwt_2 (List.mem_of_getElem? (l := tables_1_2) (i := 210) rfl), lw_nilin⟩⟩⟩⟩⟩⟩⟩⟩⟩⟩⟩⟩⟩⟩⟩⟩⟩⟩⟩⟩⟩⟩⟩⟩
set_option maxRecDepth 20000 in
theorem wsL_rin_24 : ∀ w ∈ wsL_law_r24, w ∈ lw_tbl := List.forall_mem_cons.mpr ⟨lwt_2 (List.mem_of_getElem? (l := tables_1_2) (i := 211) rfl), List.forall_mem_cons.mpr ⟨lwt_2 (List.mem_of_getElem? (l := tables_1_2) (i := 212) rfl), List.forall_mem_cons.mpr ⟨lwt_2 (List.mem_of_getElem? (l := tables_1_2) (i := 213) rfl), List.forall_mem_cons.mpr ⟨lwt_2 (List.mem_of_getElem? (l := tables_1_2) (i := 214) rfl), List.forall_mem_cons.mpr ⟨lwt_2 (List.mem_of_getElem? (l := tables_1_2) (i := 215) rfl), List.forall_mem_cons.mpr ⟨lwt_2 (List.mem_of_getElem? (l := tables_1_2) (i := 216) rfl), List.forall_mem_cons.mpr ⟨lwt_2 (List.mem_of_getElem? (l := tables_1_2) (i := 217) rfl), List.forall_mem_cons.mpr ⟨lwt_2 (List.mem_of_getElem? (l := tables_1_2) (i := 218) rfl), List.forall_mem_cons.mpr ⟨lwt_4 (List.mem_of_getElem? (l := tables_1_4) (i := 40) rfl), List.forall_mem_cons.mpr ⟨lwt_4 (List.mem_of_getElem? (l := tables_1_4) (i := 41) rfl), List.forall_mem_cons.mpr ⟨lwt_4 (List.mem_of_getElem? (l := tables_1_4) (i := 42) rfl), List.forall_mem_cons.mpr ⟨lwt_4 (List.mem_of_getElem? (l := tables_1_4) (i := 43) rfl), List.forall_mem_cons.mpr ⟨lwt_2 (List.mem_of_getElem? (l := tables_1_2) (i := 219) rfl), List.forall_mem_cons.mpr ⟨lwt_2 (List.mem_of_getElem? (l := tables_1_2) (i := 220) rfl), List.forall_mem_cons.mpr ⟨lwt_2 (List.mem_of_getElem? (l := tables_1_2) (i := 221) rfl), List.forall_mem_cons.mpr ⟨lwt_2 (List.mem_of_getElem? (l := tables_1_2) (i := 222) rfl), List.forall_mem_cons.mpr ⟨lwt_2 (List.mem_of_getElem? (l := tables_1_2) (i := 223) rfl), List.forall_mem_cons.mpr ⟨lwt_2 (List.mem_of_getElem? (l := tables_1_2) (i := 224) rfl), List.forall_mem_cons.mpr ⟨lwt_4 (List.mem_of_getElem? (l := tables_1_4) (i := 44) rfl), List.forall_mem_cons.mpr ⟨lwt_4 (List.mem_of_getElem? (l := tables_1_4) (i := 45) rfl), List.forall_mem_cons.mpr ⟨lwt_4 (List.mem_of_getElem? (l := tables_1_4) (i := 46) rfl), List.forall_mem_cons.mpr ⟨lwt_4 (List.mem_of_getElem? (l := tables_1_4) (i := 47) rfl), List.forall_mem_cons.mpr ⟨lwt_2 (List.mem_of_getElem? (l := tables_1_2) (i := 225) rfl), List.forall_mem_cons.mpr ⟨lwt_2 (List.mem_of_getElem? (l := tables_1_2) (i := 226) rfl), lw_nilin⟩⟩⟩⟩⟩⟩⟩⟩⟩⟩⟩⟩⟩⟩⟩⟩⟩⟩⟩⟩⟩⟩⟩⟩
set_option maxRecDepth 20000 in
theorem wsL_rin_25 : ∀ w ∈ wsL_law_r25, w ∈ lw_tbl := List.forall_mem_cons.mpr ⟨lwt_2 (List.mem_of_getElem? (l := tables_1_2) (i := 227) rfl), List.forall_mem_cons.mpr ⟨lwt_2 (List.mem_of_getElem? (l := tables_1_2) (i := 228) rfl), List.forall_mem_cons.mpr ⟨lwt_2 (List.mem_of_getElem? (l := tables_1_2) (i := 229) rfl), List.forall_mem_cons.mpr ⟨lwt_2 (List.mem_of_getElem? (l := tables_1_2) (i := 230) rfl), List.forall_mem_cons.mpr ⟨lwt_2 (List.mem_of_getElem? (l := tables_1_2) (i := 231) rfl), List.forall_mem_cons.mpr ⟨lwt_2 (List.mem_of_getElem? (l := tables_1_2) (i := 232) rfl), List.forall_mem_cons.mpr ⟨lwt_2 (List.mem_of_getElem? (l := tables_1_2) (i := 233) rfl), List.forall_mem_cons.mpr ⟨lwt_4 (List.mem_of_getElem? (l := tables_1_4) (i := 48) rfl), List.forall_mem_cons.mpr ⟨lwt_4 (List.mem_of_getElem? (l := tables_1_4) (i := 49) rfl), List.forall_mem_cons.mpr ⟨lwt_4 (List.mem_of_getElem? (l := tables_1_4) (i := 50) rfl), List.forall_mem_cons.mpr ⟨lwt_4 (List.mem_of_getElem? (l := tables_1_4) (i := 51) rfl), List.forall_mem_cons.mpr ⟨lwt_2 (List.mem_of_getElem? (l := tables_1_2) (i := 234) rfl), List.forall_mem_cons.mpr ⟨lwt_2 (List.mem_of_getElem? (l := tables_1_2) (i := 235) rfl), List.forall_mem_cons.mpr ⟨lwt_2 (List.mem_of_getElem? (l := tables_1_2) (i := 236) rfl), List.forall_mem_cons.mpr ⟨lwt_2 (List.mem_of_getElem? (l := tables_1_2) (i := 237) rfl), List.forall_mem_cons.mpr ⟨lwt_2 (List.mem_of_getElem? (l := tables_1_2) (i := 238) rfl), List.forall_mem_cons.mpr ⟨lwt_4 (List.mem_of_getElem? (l := tables_1_4) (i := 52) rfl), List.forall_mem_cons.mpr ⟨lwt_4 (List.mem_of_getElem? (l := tables_1_4) (i := 53) rfl), List.forall_mem_cons.mpr ⟨lwt_4 (List.mem_of_getElem? (l := tables_1_4) (i := 54) rfl), List.forall_mem_cons.mpr ⟨lwt_4 (List.mem_of_getElem? (l := tables_1_4) (i := 55) rfl), List.forall_mem_cons.mpr ⟨lwt_2 (List.mem_of_getElem? (l := tables_1_2) (i := 239) rfl), List.forall_mem_cons.mpr ⟨lwt_3 (List.mem_of_getElem? (l := tables_1_3) (i := 0) rfl), List.forall_mem_cons.mpr ⟨lwt_3 (List.mem_of_getElem? (l := tables_1_3) (i := 1) rfl), List.forall_mem_cons.mpr ⟨lwt_3 (List.mem_of_getElem? (l := tables_1_3) (i := 2) rfl), lw_nilin⟩⟩⟩⟩⟩⟩⟩⟩⟩⟩⟩⟩⟩⟩⟩⟩⟩⟩⟩⟩⟩⟩⟩⟩
set_option maxRecDepth 20000 in
theorem wsL_rin_26 : ∀ w ∈ wsL_law_r26, w ∈ lw_tbl := List.forall_mem_cons.mpr ⟨lwt_3 (List.mem_of_getElem? (l := tables_1_3) (i := 3) rfl), List.forall_mem_cons.mpr ⟨lwt_4 (List.mem_of_getElem? (l := tables_1_4) (i := 56) rfl), List.forall_mem_cons.mpr ⟨lwt_4 (List.mem_of_getElem? (l := tables_1_4) (i := 57) rfl), List.forall_mem_cons.mpr ⟨lwt_4 (List.mem_of_getElem? (l := tables_1_4) (i := 58) rfl), List.forall_mem_cons.mpr ⟨lwt_4 (List.mem_of_getElem? (l := tables_1_4) (i := 59) rfl), List.forall_mem_cons.mpr ⟨lwt_3 (List.mem_of_getElem? (l := tables_1_3) (i := 4) rfl), List.forall_mem_cons.mpr ⟨lwt_3 (List.mem_of_getElem? (l := tables_1_3) (i := 5) rfl), List.forall_mem_cons.mpr ⟨lwt_3 (List.mem_of_getElem? (l := tables_1_3) (i := 6) rfl), List.forall_mem_cons.mpr ⟨lwt_3 (List.mem_of_getElem? (l := tables_1_3) (i := 7) rfl), List.forall_mem_cons.mpr ⟨lwt_3 (List.mem_of_getElem? (l := tables_1_3) (i := 8) rfl), List.forall_mem_cons.mpr ⟨lwt_3 (List.mem_of_getElem? (l := tables_1_3) (i := 9) rfl), List.forall_mem_cons.mpr ⟨lwt_3 (List.mem_of_getElem? (l := tables_1_3) (i := 10) rfl), List.forall_mem_cons.mpr ⟨lwt_3 (List.mem_of_getElem? (l := tables_1_3) (i := 11) rfl), List.forall_mem_cons.mpr ⟨lwt_3 (List.mem_of_getElem? (l := tables_1_3) (i := 12) rfl), List.forall_mem_cons.mpr ⟨lwt_1 (List.mem_of_getElem? (l := tables_1_1) (i := 145) rfl), List.forall_mem_cons.mpr ⟨lwt_1 (List.mem_of_getElem? (l := tables_1_1) (i := 147) rfl), List.forall_mem_cons.mpr ⟨lwt_1 (List.mem_of_getElem? (l := tables_1_1) (i := 149) rfl), List.forall_mem_cons.mpr ⟨lwt_1 (List.mem_of_getElem? (l := tables_1_1) (i := 151) rfl), List.forall_mem_cons.mpr ⟨lwt_3 (List.mem_of_getElem? (l := tables_1_3) (i := 13) rfl), List.forall_mem_cons.mpr ⟨lwt_3 (List.mem_of_getElem? (l := tables_1_3) (i := 14) rfl), List.forall_mem_cons.mpr ⟨lwt_3 (List.mem_of_getElem? (l := tables_1_3) (i := 16) rfl), List.forall_mem_cons.mpr ⟨lwt_0 (List.mem_of_getElem? (l := k2_sels lw_privs) (i := 6) rfl), List.forall_mem_cons.mpr ⟨lwt_3 (List.mem_of_getElem? (l := tables_1_3) (i := 17) rfl), List.forall_mem_cons.mpr ⟨lwt_3 (List.mem_of_getElem? (l := tables_1_3) (i := 18) rfl), lw_nilin⟩⟩⟩⟩⟩⟩⟩⟩⟩⟩⟩⟩⟩⟩⟩⟩⟩⟩⟩⟩⟩⟩⟩⟩
set_option maxRecDepth 20000 in
theorem wsL_rin_27 : ∀ w ∈ wsL_law_r27, w ∈ lw_tbl := List.forall_mem_cons.mpr ⟨lwt_3 (List.mem_of_getElem? (l := tables_1_3) (i := 19) rfl), List.forall_mem_cons.mpr ⟨lwt_3 (List.mem_of_getElem? (l := tables_1_3) (i := 20) rfl), List.forall_mem_cons.mpr ⟨lwt_3 (List.mem_of_getElem? (l := tables_1_3) (i := 21) rfl), List.forall_mem_cons.mpr ⟨lwt_3 (List.mem_of_getElem? (l := tables_1_3) (i := 22) rfl), List.forall_mem_cons.mpr ⟨lwt_3 (List.mem_of_getElem? (l := tables_1_3) (i := 23) rfl), List.forall_mem_cons.mpr ⟨lwt_3 (List.mem_of_getElem? (l := tables_1_3) (i := 25) rfl), List.forall_mem_cons.mpr ⟨lwt_0 (List.mem_of_getElem? (l := k2_sels lw_privs) (i := 7) rfl), List.forall_mem_cons.mpr ⟨lwt_3 (List.mem_of_getElem? (l := tables_1_3) (i := 26) rfl), List.forall_mem_cons.mpr ⟨lwt_3 (List.mem_of_getElem? (l := tables_1_3) (i := 27) rfl), List.forall_mem_cons.mpr ⟨lwt_3 (List.mem_of_getElem? (l := tables_1_3) (i := 28) rfl), List.forall_mem_cons.mpr ⟨lwt_3 (List.mem_of_getElem? (l := tables_1_3) (i := 29) rfl), List.forall_mem_cons.mpr ⟨lwt_3 (List.mem_of_getElem? (l := tables_1_3) (i := 30) rfl), List.forall_mem_cons.mpr ⟨lwt_3 (List.mem_of_getElem? (l := tables_1_3) (i := 32) rfl), List.forall_mem_cons.mpr ⟨lwt_0 (List.mem_of_getElem? (l := k2_sels lw_privs) (i := 8) rfl), List.forall_mem_cons.mpr ⟨lwt_3 (List.mem_of_getElem? (l := tables_1_3) (i := 33) rfl), List.forall_mem_cons.mpr ⟨lwt_3 (List.mem_of_getElem? (l := tables_1_3) (i := 34) rfl), List.forall_mem_cons.mpr ⟨lwt_3 (List.mem_of_getElem? (l := tables_1_3) (i := 35) rfl), List.forall_mem_cons.mpr ⟨lwt_4 (List.mem_of_getElem? (l := tables_1_4) (i := 60) rfl), List.forall_mem_cons.mpr ⟨lwt_4 (List.mem_of_getElem? (l := tables_1_4) (i := 61) rfl), List.forall_mem_cons.mpr ⟨lwt_4 (List.mem_of_getElem? (l := tables_1_4) (i := 62) rfl), List.forall_mem_cons.mpr ⟨lwt_4 (List.mem_of_getElem? (l := tables_1_4) (i := 63) rfl), List.forall_mem_cons.mpr ⟨lwt_3 (List.mem_of_getElem? (l := tables_1_3) (i := 61) rfl), List.forall_mem_cons.mpr ⟨lwt_3 (List.mem_of_getElem? (l := tables_1_3) (i := 60) rfl), List.forall_mem_cons.mpr ⟨lwt_3 (List.mem_of_getElem? (l := tables_1_3) (i := 62) rfl), lw_nilin⟩⟩⟩⟩⟩⟩⟩⟩⟩⟩⟩⟩⟩⟩⟩⟩⟩⟩⟩⟩⟩⟩⟩⟩
set_option maxRecDepth 20000 in
theorem wsL_rin_28 : ∀ w ∈ wsL_law_r28, w ∈ lw_tbl := List.forall_mem_cons.mpr ⟨lwt_4 (List.mem_of_getElem? (l := tables_1_4) (i := 64) rfl), List.forall_mem_cons.mpr ⟨lwt_4 (List.mem_of_getElem? (l := tables_1_4) (i := 66) rfl), List.forall_mem_cons.mpr ⟨lwt_0 (List.mem_of_getElem? (l := k2_sels lw_privs) (i := 32) rfl), List.forall_mem_cons.mpr ⟨lwt_4 (List.mem_of_getElem? (l := tables_1_4) (i := 67) rfl), List.forall_mem_cons.mpr ⟨lwt_4 (List.mem_of_getElem? (l := tables_1_4) (i := 68) rfl), List.forall_mem_cons.mpr ⟨lwt_4 (List.mem_of_getElem? (l := tables_1_4) (i := 70) rfl), List.forall_mem_cons.mpr ⟨lwt_0 (List.mem_of_getElem? (l := k2_sels lw_privs) (i := 33) rfl), List.forall_mem_cons.mpr ⟨lwt_4 (List.mem_of_getElem? (l := tables_1_4) (i := 71) rfl), List.forall_mem_cons.mpr ⟨lwt_3 (List.mem_of_getElem? (l := tables_1_3) (i := 57) rfl), List.forall_mem_cons.mpr ⟨lwt_3 (List.mem_of_getElem? (l := tables_1_3) (i := 58) rfl), List.forall_mem_cons.mpr ⟨lwt_4 (List.mem_of_getElem? (l := tables_1_4) (i := 72) rfl), List.forall_mem_cons.mpr ⟨lwt_4 (List.mem_of_getElem? (l := tables_1_4) (i := 74) rfl), List.forall_mem_cons.mpr ⟨lwt_0 (List.mem_of_getElem? (l := k2_sels lw_privs) (i := 34) rfl), List.forall_mem_cons.mpr ⟨lwt_4 (List.mem_of_getElem? (l := tables_1_4) (i := 75) rfl), List.forall_mem_cons.mpr ⟨lwt_4 (List.mem_of_getElem? (l := tables_1_4) (i := 76) rfl), List.forall_mem_cons.mpr ⟨lwt_4 (List.mem_of_getElem? (l := tables_1_4) (i := 78) rfl), List.forall_mem_cons.mpr ⟨lwt_0 (List.mem_of_getElem? (l := k2_sels lw_privs) (i := 35) rfl), List.forall_mem_cons.mpr ⟨lwt_4 (List.mem_of_getElem? (l := tables_1_4) (i := 79) rfl), List.forall_mem_cons.mpr ⟨lwt_4 (List.mem_of_getElem? (l := tables_1_4) (i := 80) rfl), List.forall_mem_cons.mpr ⟨lwt_4 (List.mem_of_getElem? (l := tables_1_4) (i := 82) rfl), List.forall_mem_cons.mpr ⟨lwt_0 (List.mem_of_getElem? (l := k2_sels lw_privs) (i := 36) rfl), List.forall_mem_cons.mpr ⟨lwt_4 (List.mem_of_getElem? (l := tables_1_4) (i := 83) rfl), List.forall_mem_cons.mpr ⟨lwt_4 (List.mem_of_getElem? (l := tables_1_4) (i := 84) rfl), List.forall_mem_cons.mpr ⟨lwt_4 (List.mem_of_getElem? (l := tables_1_4) (i := 86) rfl), lw_nilin⟩⟩⟩⟩⟩⟩⟩⟩⟩⟩⟩⟩⟩⟩⟩⟩⟩⟩⟩⟩⟩⟩⟩⟩
set_option maxRecDepth 20000 in
theorem wsL_rin_29 : ∀ w ∈ wsL_law_r29, w ∈ lw_tbl := List.forall_mem_cons.mpr ⟨lwt_0 (List.mem_of_getElem? (l := k2_sels lw_privs) (i := 37) rfl), List.forall_mem_cons.mpr ⟨lwt_4 (List.mem_of_getElem? (l := tables_1_4) (i := 87) rfl), List.forall_mem_cons.mpr ⟨lwt_3 (List.mem_of_getElem? (l := tables_1_3) (i := 36) rfl), List.forall_mem_cons.mpr ⟨lwt_3 (List.mem_of_getElem? (l := tables_1_3) (i := 37) rfl), List.forall_mem_cons.mpr ⟨lwt_3 (List.mem_of_getElem? (l := tables_1_3) (i := 38) rfl), List.forall_mem_cons.mpr ⟨lwt_3 (List.mem_of_getElem? (l := tables_1_3) (i := 39) rfl), List.forall_mem_cons.mpr ⟨lwt_4 (List.mem_of_getElem? (l := tables_1_4) (i := 88) rfl), List.forall_mem_cons.mpr ⟨lwt_4 (List.mem_of_getElem? (l := tables_1_4) (i := 89) rfl), List.forall_mem_cons.mpr ⟨lwt_4 (List.mem_of_getElem? (l := tables_1_4) (i := 90) rfl), List.forall_mem_cons.mpr ⟨lwt_4 (List.mem_of_getElem? (l := tables_1_4) (i := 91) rfl), lw_nilin⟩⟩⟩⟩⟩⟩⟩⟩⟩⟩
theorem wsL_x1 : ∀ w ∈ wsX10, w ∈ lw_tbl := by decide +kernel
theorem wsL_x2 : ∀ w ∈ wsX20, w ∈ lw_tbl := by decide +kernel
theorem wsL_x3 : ∀ w ∈ wsX30, w ∈ lw_tbl := by decide +kernel
theorem wsL_x4 : ∀ w ∈ wsX40, w ∈ lw_tbl := by decide +kernel
theorem wsL_x5 : ∀ w ∈ wsX50, w ∈ lw_tbl := by decide +kernel
theorem wsL_x6 : ∀ w ∈ wsX60, w ∈ lw_tbl := by decide +kernel
theorem wsL_x7 : ∀ w ∈ wsX70, w ∈ lw_tbl := by decide +kernel
theorem wsL_law_in : ∀ w ∈ wsL_law, w ∈ lw_tbl := by
  unfold wsL_law
  simp only [List.forall_mem_append]
  exact ⟨⟨⟨⟨⟨⟨⟨⟨⟨wsL_rin_1, wsL_rin_2, wsL_rin_3, wsL_rin_4, wsL_rin_5, wsL_rin_6, wsL_rin_7, wsL_rin_8, wsL_rin_9, wsL_rin_10, wsL_rin_11, wsL_rin_12, wsL_rin_13, wsL_rin_14, wsL_rin_15, wsL_rin_16, wsL_rin_17, wsL_rin_18, wsL_rin_19, wsL_rin_20, wsL_rin_21, wsL_rin_22, wsL_rin_23, wsL_rin_24, wsL_rin_25, wsL_rin_26, wsL_rin_27, wsL_rin_28, wsL_rin_29⟩, wsL_x6⟩, wsL_x7⟩, wsL_x5⟩, wsL_x3⟩, wsL_x1⟩, wsL_x2⟩, wsL_x4⟩, lw_nilin⟩
theorem inX0 : ∀ w ∈ wsX00, w ∈ lw_tbl := by decide +kernel
theorem inlX1 : ∀ w ∈ wsX10, w ∈ wsL_law := fun _ h => List.mem_append_left _ (List.mem_append_left _ (List.mem_append_left _ (List.mem_append_right _ h)))
theorem inX1 : ∀ w ∈ wsX10, w ∈ lw_tbl := fun w h => wsL_law_in w (inlX1 w h)
theorem inlX2 : ∀ w ∈ wsX20, w ∈ wsL_law := fun _ h => List.mem_append_left _ (List.mem_append_left _ (List.mem_append_right _ h))
theorem inX2 : ∀ w ∈ wsX20, w ∈ lw_tbl := fun w h => wsL_law_in w (inlX2 w h)
theorem inlX3 : ∀ w ∈ wsX30, w ∈ wsL_law := fun _ h => List.mem_append_left _ (List.mem_append_left _ (List.mem_append_left _ (List.mem_append_left _ (List.mem_append_right _ h))))
theorem inX3 : ∀ w ∈ wsX30, w ∈ lw_tbl := fun w h => wsL_law_in w (inlX3 w h)
theorem inlX4 : ∀ w ∈ wsX40, w ∈ wsL_law := fun _ h => List.mem_append_left _ (List.mem_append_right _ h)
theorem inX4 : ∀ w ∈ wsX40, w ∈ lw_tbl := fun w h => wsL_law_in w (inlX4 w h)
theorem inlX5 : ∀ w ∈ wsX50, w ∈ wsL_law := fun _ h => List.mem_append_left _ (List.mem_append_left _ (List.mem_append_left _ (List.mem_append_left _ (List.mem_append_left _ (List.mem_append_right _ h)))))
theorem inX5 : ∀ w ∈ wsX50, w ∈ lw_tbl := fun w h => wsL_law_in w (inlX5 w h)
theorem inlX6 : ∀ w ∈ wsX60, w ∈ wsL_law := fun _ h => List.mem_append_left _ (List.mem_append_left _ (List.mem_append_left _ (List.mem_append_left _ (List.mem_append_left _ (List.mem_append_left _ (List.mem_append_left _ (List.mem_append_right _ h)))))))
theorem inX6 : ∀ w ∈ wsX60, w ∈ lw_tbl := fun w h => wsL_law_in w (inlX6 w h)
theorem inlX7 : ∀ w ∈ wsX70, w ∈ wsL_law := fun _ h => List.mem_append_left _ (List.mem_append_left _ (List.mem_append_left _ (List.mem_append_left _ (List.mem_append_left _ (List.mem_append_left _ (List.mem_append_right _ h))))))
theorem inX7 : ∀ w ∈ wsX70, w ∈ lw_tbl := fun w h => wsL_law_in w (inlX7 w h)
abbrev vwCl : List vw_C := [(RX1, TX1, 6), (RX2, TX2, 8), (RX3, TX3, 6), (RX4, TX4, 2), (RX5, TX5, 6), (RX6, TX6, 6), (RX7, TX7, 17)]
end
section
/-! Z: a layer over the kit's rows: the world, the locals and the stack stand in the goal -/
-- lists in another order
theorem z_pm {α : Type} {l l' : List α} (is : List Nat) (n : Nat) (hn : l.length = n) (h1 : is.Perm (List.range n)) (h2 : is.map (fun i => l[i]?) = l'.map some) : l.Perm l' := by
  subst hn
  have e : (List.range l.length).map (fun i => l[i]?) = l.map some := by
    apply List.ext_getElem?
    intro i
    simp only [List.getElem?_map]
    by_cases hi : i < l.length
    · rw [List.getElem?_range hi]; simp [hi]
    · rw [List.getElem?_eq_none (by simpa using hi), List.getElem?_eq_none (by simpa using hi)]; rfl
  have h3 : (l.map some).Perm (l'.map some) := by rw [← e, ← h2]; exact (h1.map _).symm
  have h4 := h3.filterMap id
  simpa [List.filterMap_map] using h4
theorem z_flat_set {w : va_W} {x : Nat × va_E} : ∀ (bs : List va_W) (bi qi : Nat), bs[bi]? = some w → w[qi]? = some x → ∃ q0 : Nat, bs.flatten[q0]? = some x ∧ ∀ y : Nat × va_E, bs.flatten.set q0 y = (bs.set bi (w.set qi y)).flatten
  | [], bi, qi, h, _ => by simp at h
  | b :: bs, 0, qi, h, h2 => by
    simp only [List.getElem?_cons_zero, Option.some.injEq] at h
    subst h
    have hq : qi < b.length := (List.getElem?_eq_some_iff.mp h2).1
    refine ⟨qi, ?_, fun y => ?_⟩
    · rw [List.flatten_cons, List.getElem?_append_left hq]; exact h2
    · rw [List.flatten_cons, List.set_append_left _ _ hq]; rfl
  | b :: bs, bi + 1, qi, h, h2 => by
    simp only [List.getElem?_cons_succ] at h
    obtain ⟨q0, h3, h4⟩ := z_flat_set bs bi qi h h2
    refine ⟨b.length + q0, ?_, fun y => ?_⟩
    · rw [List.flatten_cons, List.getElem?_append_right (Nat.le_add_right _ _), Nat.add_sub_cancel_left]; exact h3
    · rw [List.flatten_cons, List.set_append_right _ _ (Nat.le_add_right _ _), Nat.add_sub_cancel_left, h4 y]; rfl
-- worlds as sets of cells at addresses that are apart
theorem z_P {D : va_G} {cl : List vw_C} {ws : va_W} {H : Heap} : va_P D cl ws H ↔ ∀ q ∈ ws, va_at D cl q H := by
  constructor
  · intro h q hq
    obtain ⟨i, hi⟩ := List.getElem?_of_mem hq
    exact h i q hi
  · intro h k q hk
    exact h q (List.mem_of_getElem? hk)
theorem z_D {A : Nat → Prop} {ws : va_W} : va_D A ws ↔ (ws.map Prod.fst).Nodup ∧ ∀ q ∈ ws, A q.1 := by
  constructor
  · intro h
    refine ⟨?_, fun q hq => ?_⟩
    · rw [List.Nodup, List.pairwise_map, List.pairwise_iff_getElem]
      intro i j hi hj hij he
      have := h.1 i j _ _ (List.getElem?_eq_getElem hi) (List.getElem?_eq_getElem hj) he
      omega
    · obtain ⟨i, hi⟩ := List.getElem?_of_mem hq
      exact h.2 i q hi
  · intro h
    have hn := h.1
    rw [List.Nodup, List.pairwise_map, List.pairwise_iff_getElem] at hn
    refine ⟨fun i j p q hp hq he => ?_, fun k q hk => h.2 q (List.mem_of_getElem? hk)⟩
    obtain ⟨hi, rfl⟩ := List.getElem?_eq_some_iff.mp hp
    obtain ⟨hj, rfl⟩ := List.getElem?_eq_some_iff.mp hq
    rcases Nat.lt_trichotomy i j with hl | hl | hl
    · exact absurd he (hn i j hi hj hl)
    · exact hl
    · exact absurd he.symm (hn j i hj hi hl)
theorem z_Pp {D : va_G} {cl : List vw_C} {ws ws' : va_W} {H : Heap} (h : ws.Perm ws') (hP : va_P D cl ws H) : va_P D cl ws' H := z_P.mpr fun q hq => z_P.mp hP q (h.mem_iff.mpr hq)
theorem z_Dp {A : Nat → Prop} {ws ws' : va_W} (h : ws.Perm ws') (hD : va_D A ws) : va_D A ws' := by
  have h2 := z_D.mp hD
  exact z_D.mpr ⟨(h.map Prod.fst).nodup_iff.mp h2.1, fun q hq => h2.2 q (h.mem_iff.mpr hq)⟩
theorem z_Pl {D : va_G} {cl : List vw_C} {a b : va_W} {H : Heap} (hP : va_P D cl (a ++ b) H) : va_P D cl a H := z_P.mpr fun q hq => z_P.mp hP q (List.mem_append_left _ hq)
theorem z_Pr {D : va_G} {cl : List vw_C} {a b : va_W} {H : Heap} (hP : va_P D cl (a ++ b) H) : va_P D cl b H := z_P.mpr fun q hq => z_P.mp hP q (List.mem_append_right _ hq)
theorem z_Dl {A : Nat → Prop} {a b : va_W} (hD : va_D A (a ++ b)) : va_D A a := by
  have h := z_D.mp hD
  rw [List.map_append] at h
  exact z_D.mpr ⟨(List.nodup_append.mp h.1).1, fun q hq => h.2 q (List.mem_append_left _ hq)⟩
theorem z_Aiff {ws : va_W} {sz q : Nat} : va_A ws sz q ↔ q ∈ ws.map Prod.fst ∨ sz ≤ q := by
  constructor
  · rintro (⟨k, e, h⟩ | h)
    · exact Or.inl (List.mem_map.mpr ⟨_, List.mem_of_getElem? h, rfl⟩)
    · exact Or.inr h
  · rintro (h | h)
    · obtain ⟨⟨a, e⟩, h1, rfl⟩ := List.mem_map.mp h
      obtain ⟨k, hk⟩ := List.getElem?_of_mem h1
      exact Or.inl ⟨k, e, hk⟩
    · exact Or.inr h
/-- behind a call: the callee's new world beside the rest, which is unchanged -/
theorem z_join {A0 : Nat → Prop} {D : va_G} {cl : List vw_C} {wc wr w1 : va_W} {H H1 : Heap} (hP : va_P D cl (wc ++ wr) H) (hD : va_D A0 (wc ++ wr)) (hlt : ∀ q ∈ wr, q.1 < H.size)
    (hk : ∀ q : Nat, q < H.size → ¬ va_A wc H.size q → H1[q]? = H[q]?) (hF : ∀ q, va_A wc H.size q → A0 q) (hP1 : va_P D cl w1 H1) (hD1 : va_D (va_A wc H.size) w1) : va_P D cl (w1 ++ wr) H1 ∧ va_D A0 (w1 ++ wr) := by
  have hd := z_D.mp hD
  rw [List.map_append, List.nodup_append] at hd
  obtain ⟨⟨n1, n2, n3⟩, ha⟩ := hd
  have hout : ∀ q ∈ wr, ¬ va_A wc H.size q.1 := by
    intro q hq h
    rcases z_Aiff.mp h with h | h
    · exact n3 _ h _ (List.mem_map.mpr ⟨q, hq, rfl⟩) rfl
    · exact absurd (hlt q hq) (by omega)
  constructor
  · refine z_P.mpr fun q hq => ?_
    rcases List.mem_append.mp hq with h | h
    · exact z_P.mp hP1 q h
    · exact (z_P.mp hP q (List.mem_append_right _ h)).kept (hk _ (hlt q h) (hout q h))
  · have h1 := z_D.mp hD1
    refine z_D.mpr ⟨?_, fun q hq => ?_⟩
    · rw [List.map_append, List.nodup_append]
      refine ⟨h1.1, n2, fun a ha1 b hb1 e => ?_⟩
      subst e
      obtain ⟨q, hq, rfl⟩ := List.mem_map.mp ha1
      obtain ⟨q2, hq2, e2⟩ := List.mem_map.mp hb1
      exact hout q2 hq2 (by rw [e2]; exact h1.2 q hq)
    · rcases List.mem_append.mp hq with h | h
      · exact hF _ (h1.2 q h)
      · exact ha q (List.mem_append_right _ h)
-- locals: by their places; 'none': not known
def z_pairs : Nat → List (Option Value) → List (Nat × Value)
  | _, [] => []
  | i, none :: t => z_pairs (i + 1) t
  | i, some v :: t => (i, v) :: z_pairs (i + 1) t
theorem z_pairs_mem {j : Nat} {w : Value} : ∀ (ls : List (Option Value)) (k : Nat), (j, w) ∈ z_pairs k ls ↔ k ≤ j ∧ ls[j - k]? = some (some w)
  | [], k => by simp [z_pairs]
  | none :: t, k => by
    rw [z_pairs, z_pairs_mem t (k + 1)]
    constructor
    · rintro ⟨h1, h2⟩
      refine ⟨by omega, ?_⟩
      rw [show j - k = (j - (k + 1)) + 1 by omega, List.getElem?_cons_succ]; exact h2
    · rintro ⟨h1, h2⟩
      have : j ≠ k := by
        intro e; subst e; simp at h2
      refine ⟨by omega, ?_⟩
      rw [show j - k = (j - (k + 1)) + 1 by omega, List.getElem?_cons_succ] at h2; exact h2
  | some v :: t, k => by
    rw [z_pairs, List.mem_cons, z_pairs_mem t (k + 1)]
    constructor
    · rintro (h | ⟨h1, h2⟩)
      · cases h; exact ⟨Nat.le_refl _, by simp⟩
      · refine ⟨by omega, ?_⟩
        rw [show j - k = (j - (k + 1)) + 1 by omega, List.getElem?_cons_succ]; exact h2
    · rintro ⟨h1, h2⟩
      by_cases e : j = k
      · subst e; simp at h2; exact Or.inl (by rw [h2])
      · refine Or.inr ⟨by omega, ?_⟩
        rw [show j - k = (j - (k + 1)) + 1 by omega, List.getElem?_cons_succ] at h2; exact h2
def z_cat1 (ls : List (Option Value)) : Prop := ∀ v : Value, some v ∈ ls → v.category = 1
def zL (la : Array Slot) (nL : Nat) (ls : List (Option Value)) : Prop := lv_has la nL (z_pairs 0 ls) ∧ z_cat1 ls
theorem zL.at {la : Array Slot} {nL : Nat} {ls : List (Option Value)} (h : zL la nL ls) {i : Nat} {v : Value} (hi : ls[i]? = some (some v)) : la[i]? = some (.val v) := h.1.2.2 (i, v) ((z_pairs_mem ls 0).mpr ⟨Nat.zero_le _, by simpa using hi⟩)
theorem zL.set {la : Array Slot} {nL i : Nat} {v : Value} {ls : List (Option Value)} (h : zL la nL ls) {la' : Array Slot} (h' : lv_has la' nL ((i, v) :: (z_pairs 0 ls).filter (fun q => !(q.1 == i) && !(q.1 + 1 == i && q.2.category == 2)))) (hv : v.category = 1) : zL la' nL (ls.set i (some v)) := by
  refine ⟨⟨h'.1, h'.2.1, fun q hq => ?_⟩, fun w hw => ?_⟩
  · obtain ⟨j, w⟩ := q
    have hq2 := ((z_pairs_mem _ 0).mp hq).2
    simp only [Nat.sub_zero] at hq2
    by_cases e : j = i
    · subst e
      have hl : j < (ls.set j (some v)).length := (List.getElem?_eq_some_iff.mp hq2).1
      rw [List.getElem?_set_self (by simpa using hl)] at hq2
      simp at hq2
      subst hq2
      exact h'.2.2 _ List.mem_cons_self
    · rw [List.getElem?_set_ne (by omega)] at hq2
      have hc : w.category = 1 := h.2 w (List.mem_of_getElem? hq2)
      refine h'.2.2 _ (List.mem_cons_of_mem _ (List.mem_filter.mpr ⟨(z_pairs_mem ls 0).mpr ⟨Nat.zero_le _, by simpa using hq2⟩, ?_⟩))
      simp [e, hc]
  · rcases List.mem_or_eq_of_mem_set hw with h2 | h2
    · exact h.2 w h2
    · cases h2; exact hv
theorem zL.sub {la : Array Slot} {nL : Nat} {ls ls' : List (Option Value)} (h : zL la nL ls) (hs : ∀ (i : Nat) (v : Value), ls'[i]? = some (some v) → ls[i]? = some (some v)) : zL la nL ls' := by
  refine ⟨⟨h.1.1, h.1.2.1, fun q hq => ?_⟩, fun v hv => ?_⟩
  · obtain ⟨j, w⟩ := q
    have hq2 := ((z_pairs_mem _ 0).mp hq).2
    exact h.at (hs _ _ (by simpa using hq2))
  · obtain ⟨i, hi⟩ := List.getElem?_of_mem hv
    exact h.2 v (List.mem_of_getElem? (hs i v hi))
def z_mask : List Bool → List (Option Value) → List (Option Value)
  | b :: bs, x :: xs => (if b then x else none) :: z_mask bs xs
  | _, _ => []
theorem z_mask_sub : ∀ (bs : List Bool) (ls : List (Option Value)) (i : Nat) (v : Value), (z_mask bs ls)[i]? = some (some v) → ls[i]? = some (some v)
  | [], _, i, v, h => by simp [z_mask] at h
  | _ :: _, [], i, v, h => by simp [z_mask] at h
  | b :: bs, x :: xs, 0, v, h => by
    simp only [z_mask, List.getElem?_cons_zero] at h ⊢
    by_cases hb : b = true
    · simpa [hb] using h
    · simp [hb] at h
  | b :: bs, x :: xs, i + 1, v, h => by
    simp only [z_mask, List.getElem?_cons_succ] at h ⊢
    exact z_mask_sub bs xs i v h
theorem lv_args_mem {j : Nat} {w : Value} : ∀ (vs : List Value) (k : Nat), (∀ v ∈ vs, v.category = 1) → k ≤ j → vs[j - k]? = some w → (j, w) ∈ lv_args k vs
  | [], k, _, _, h => by simp at h
  | v :: vs, k, hc, hk, h => by
    have h1 : ¬ v.category = 2 := by rw [hc v List.mem_cons_self]; decide
    rw [lv_args, if_neg h1]
    by_cases e : j = k
    · subst e; simp at h; subst h; exact List.mem_cons_self
    · refine List.mem_cons_of_mem _ (lv_args_mem vs (k + 1) (fun v hv => hc v (List.mem_cons_of_mem _ hv)) (by omega) ?_)
      rw [show j - k = (j - (k + 1)) + 1 by omega, List.getElem?_cons_succ] at h; exact h
theorem zL.entry (vs : List Value) {n : Nat} (hc : ∀ v ∈ vs, v.category = 1) (h : (lg_sl vs).length ≤ n) (ls : List (Option Value)) (hls : ls = vs.map some ++ List.replicate (n - vs.length) none) : zL ((lg_sl vs ++ List.replicate (n - (lg_sl vs).length) Slot.unset).toArray) n ls := by
  have h1 := lv_entry vs h
  subst hls
  refine ⟨⟨h1.1, h1.2.1, fun q hq => ?_⟩, fun v hv => ?_⟩
  · obtain ⟨j, w⟩ := q
    have hq2 := ((z_pairs_mem _ 0).mp hq).2
    simp only [Nat.sub_zero] at hq2
    refine h1.2.2 _ (lv_args_mem vs 0 hc (Nat.zero_le _) ?_)
    by_cases hj : j < vs.length
    · rw [List.getElem?_append_left (by simpa using hj), List.getElem?_map] at hq2
      cases hv : vs[j]? with
      | none => rw [hv] at hq2; simp at hq2
      | some x => rw [hv] at hq2; simp at hq2; subst hq2; simpa using hv
    · rw [List.getElem?_append_right (by simpa using hj)] at hq2
      have := List.eq_of_mem_replicate (List.mem_of_getElem? hq2)
      cases this
  · rcases List.mem_append.mp hv with h2 | h2
    · obtain ⟨x, hx, e⟩ := List.mem_map.mp h2
      cases e; exact hc _ hx
    · cases List.eq_of_mem_replicate h2
end
section
/-! ZZ: the machine at pc, with the world bs, the locals ls and the stack st; ZC: what stays the same in a method; ZM: a method's contract -/
theorem z_words : wsL_law.all goodWord = true := by decide +kernel
theorem z_good {w : Cond} (h : w ∈ wsL_law) : (w.onTables && w.keeps) = true ∨ ∃ ty, w = .arrayClass ty := good_of_word (List.all_eq_true.mp z_words w h)
def z_nest : List Cond := [.fieldLinkNest "ReshapedTexts" 104 "ReshapedTexts$Editor" "written" "I" "ReshapedTexts", .fieldLinkNest "ReshapedTexts" 111 "ReshapedTexts$State" "writers" "LReshapedTexts$Numbers;" "ReshapedTexts", .fieldLinkNest "ReshapedTexts" 123 "ReshapedTexts$History" "size" "I" "ReshapedTexts", .fieldLinkNest "ReshapedTexts" 125 "ReshapedTexts$Commands" "signs" "LReshapedTexts$Numbers;" "ReshapedTexts", .fieldLinkNest "ReshapedTexts" 165 "ReshapedTexts$Commands" "reason" "I" "ReshapedTexts", .fieldLinkNest "ReshapedTexts" 168 "ReshapedTexts$Commands" "position" "I" "ReshapedTexts", .fieldLinkNest "ReshapedTexts" 171 "ReshapedTexts$Commands" "cause" "I" "ReshapedTexts", .fieldLinkNest "ReshapedTexts" 174 "ReshapedTexts$Commands" "done" "I" "ReshapedTexts", .fieldLinkNest "ReshapedTexts" 43 "ReshapedTexts$State" "log" "LReshapedTexts$Numbers;" "ReshapedTexts", .fieldLinkNest "ReshapedTexts" 67 "ReshapedTexts$State" "text" "LReshapedTexts$Numbers;" "ReshapedTexts", .fieldLinkNest "ReshapedTexts" 74 "ReshapedTexts$Editor" "copy" "LReshapedTexts$Numbers;" "ReshapedTexts", .fieldLinkNest "ReshapedTexts" 83 "ReshapedTexts$Editor" "waiting" "LReshapedTexts$Numbers;" "ReshapedTexts", .fieldLinkNest "ReshapedTexts" 86 "ReshapedTexts$Editor" "underWay" "Z" "ReshapedTexts", .fieldLinkNest "ReshapedTexts" 90 "ReshapedTexts$Editor" "heard" "I" "ReshapedTexts", .fieldLinkNest "ReshapedTexts" 94 "ReshapedTexts$Editor" "spot" "I" "ReshapedTexts", .fieldLinkNest "ReshapedTexts" 97 "ReshapedTexts$Editor" "backs" "LReshapedTexts$Numbers;" "ReshapedTexts", .fieldLinkNest "ReshapedTexts$State" 144 "ReshapedTexts$Editor" "underWay" "Z" "ReshapedTexts", .fieldLinkNest "ReshapedTexts$State" 84 "ReshapedTexts$Editor" "waiting" "LReshapedTexts$Numbers;" "ReshapedTexts", .fieldLinkNest "ReshapedTexts$State" 91 "ReshapedTexts$Editor" "copy" "LReshapedTexts$Numbers;" "ReshapedTexts", .methodLinkNest "ReshapedTexts$State" 39 ⟨"ReshapedTexts", "isNoEditor", "(I)Z"⟩ "ReshapedTexts"]
def z_nestOK (U : State) : Prop := ∀ w ∈ z_nest, va_Nw w U
theorem z_nest_on : z_nest.all (fun w => w.onTables) = true := by decide +kernel
theorem z_nestOK.same {u U : State} (h : u.vm = U.vm) (hZ : z_nestOK u) : z_nestOK U := fun w hw => va_Nw.same (List.all_eq_true.mp z_nest_on w hw) h (hZ w hw)
theorem z_nestOK.warm {s U : State} (hW : s.WarmedH U.vm) (hZ : z_nestOK s) : z_nestOK U := by
  intro w hw
  have h := hZ w hw
  simp only [z_nest, List.mem_cons, List.not_mem_nil, or_false] at hw
  rcases hw with rfl | rfl | rfl | rfl | rfl | rfl | rfl | rfl | rfl | rfl | rfl | rfl | rfl | rfl | rfl | rfl | rfl | rfl | rfl | rfl <;> first | exact va_Nw.warmF hW h | exact va_Nw.warmM hW h
abbrev z_tys (cI : ClassId) : List (ClassId × FieldType) := [(cI, .int)]
def ZC (p : Program) (s : State) (m : MethodId) (args : Array Value) (meth : Method) (c : Code) (own : String) (cc : ByteArray) (nL : Nat) (ret : Option FieldType) (D : va_G) (cI : ClassId) (A : Nat → Prop) : Prop :=
  CallFix p m c cc nL s args wsL_law own ∧ va_K D vwCl (z_tys cI) s ∧ z_nestOK s ∧ (∀ q : Nat, s.heap.size ≤ q → A q) ∧ meth.locks = false ∧ meth.sig.returnType = ret
def ZZ (p : Program) (l : Launch) (e : Env) (R : Room) (s : State) (m : MethodId) (args : Array Value) (below : List Frame) (meth : Method) (c : Code) (D : va_G) (A : Nat → Prop) (nL cells slots : Nat) (Qf : State → Prop) (bs : List va_W) (pc : Nat) (ls : List (Option Value)) (st : List Value) : Prop :=
  ∀ (H : Heap) (locs : List Loc) (la : Array Slot), va_P D vwCl bs.flatten H → va_D A bs.flatten → va_S A s.heap H locs → zL la nL ls → W p l e R s m args below meth c H locs cells slots Qf (F0 m pc la st)
def ZQ (D : va_G) (A : Nat → Prop) {S : Type} (rv : S → Option Value) (w1 : S → List va_W) (Q : S → Prop) : Array Value → State → Outcome → State → Prop := fun _ st o t => (∃ u : S, o = .returned (rv u) ∧ Q u ∧ va_P D vwCl (w1 u).flatten t.heap ∧ va_D A (w1 u).flatten) ∧ va_F A st t
def ZM {S : Type} (l : Launch) (D : va_G) (cI : ClassId) (y : MethodName) (cc : ByteArray) (nL : Nat) (ret : Option FieldType) (rm : Room) (av : List Value) (w0 : List va_W) (rv : S → Option Value) (w1 : S → List va_W) (Q : S → Prop) : Prop :=
  ∀ sz : Nat, Met l y (.code y cc nL ret :: wsL_law) rm (va_Pc av (fun U => U.heap.size = sz ∧ va_P D vwCl w0.flatten U.heap ∧ va_K D vwCl (z_tys cI) U ∧ z_nestOK U ∧ va_D (fun _ => True) w0.flatten)) (ZQ D (va_A w0.flatten sz) rv w1 Q) rm.cells rm.slots (va_A w0.flatten sz)
theorem z_vals {v : Value} {vs : List Value} (h : vs.all (fun v => v.category == 1) = true) : ∀ v ∈ vs, v.category = 1 := fun v hv => by simpa using List.all_eq_true.mp h v hv
/-- a method's contract, out of its walk -/
theorem z_body {S : Type} {l : Launch} {D : va_G} {cI : ClassId} {y : MethodName} {cc : ByteArray} {nL : Nat} {ret : Option FieldType} {rm : Room} {av : List Value} {w0 : List va_W} {rv : S → Option Value} {w1 : S → List va_W} {Q : S → Prop} (ls0 : List (Option Value))
    (hy : plainName y.cls = true) (hc : av.all (fun v => v.category == 1) = true) (hn : (lg_sl av).length ≤ nL) (hls : ls0 = av.map some ++ List.replicate (nL - av.length) none)
    (h : ∀ (p : Program) (e : Env) (s : State) (m : MethodId) (args : Array Value) (below : List Frame) (meth : Method) (c : Code) (A : Nat → Prop), ZC p s m args meth c y.cls cc nL ret D cI A → meth.name = y.name →
      ZZ p l e rm s m args below meth c D A nL 0 0 (MQ below (ZQ D A rv w1 Q) args s rm.cells rm.slots A) w0 0 ls0 []) : ZM l D cI y cc nL ret rm av w0 rv w1 Q := by
  intro sz
  refine Met.ofW (cc := cc) (maxL := nL) (ret := ret) hy rfl ?_
  intro p e s m args below meth c s₁ B hml hv
  obtain ⟨rfl, hsz, hP, hK, hN, hD0⟩ := hv
  subst hsz
  have hts := atoms_spec (ws := .code y cc nL ret :: wsL_law) B.pre
  have hown : s.vm.findClass y.cls = some m.cls := findClass_of_methodNamed B.named
  have hD := hD0.self (sz := s.heap.size)
  have hA : ∀ q : Nat, s.heap.size ≤ q → va_A w0.flatten s.heap.size q := fun q h => Or.inr h
  have hin := (name_of_methodNamed B.named B.method).1
  rw [lg_entry_eq]
  exact h p e s m _ below meth c _ ⟨⟨B.exec, B.bytes, hml, hown, fun w hw => hts w (List.mem_cons_of_mem _ hw)⟩, hK, hN, hA, B.notSynchronized, B.returns⟩ hin s.heap [] _ hP hD va_S.rf (zL.entry av (z_vals (v := .int 0) hc) hn ls0 hls)
section ZR
variable {p : Program} {l : Launch} {e : Env} {R : Room} {s : State} {m : MethodId} {args : Array Value} {below : List Frame} {meth : Method} {c : Code} {own : String} {cc : ByteArray} {nL : Nat} {ret : Option FieldType} {D : va_G} {cI : ClassId} {A : Nat → Prop} {cells slots : Nat} {Qf : State → Prop} {bs : List va_W} {pc : Nat} {ls : List (Option Value)} {st : List Value}

theorem z_iconst (C : ZC p s m args meth c own cc nL ret D cI A) {n : Int} (hdg : decode cc pc = .ok (.iconst n, 1)) (v : Int32) (hv : Int32.ofInt n = v) (kk : ZZ p l e R s m args below meth c D A nL cells slots Qf bs (pc + 1) ls (.int v :: st)) : ZZ p l e R s m args below meth c D A nL cells slots Qf bs pc ls st := by
  intro H locs la hP hD hS hl
  obtain ⟨⟨hx, hb, hml, hown, hts⟩, hK, hN, hA, hlk, hrt⟩ := C
  exact lv_iconst hx hb hdg hv (kk H locs la hP hD hS hl)
theorem z_bipush (C : ZC p s m args meth c own cc nL ret D cI A) {n : Int} (hdg : decode cc pc = .ok (.bipush n, 2)) (v : Int32) (hv : (Int8.ofInt n).toInt32 = v) (kk : ZZ p l e R s m args below meth c D A nL cells slots Qf bs (pc + 2) ls (.int v :: st)) : ZZ p l e R s m args below meth c D A nL cells slots Qf bs pc ls st := by
  intro H locs la hP hD hS hl
  obtain ⟨⟨hx, hb, hml, hown, hts⟩, hK, hN, hA, hlk, hrt⟩ := C
  exact lv_bipush hx hb hdg hv (kk H locs la hP hD hS hl)
theorem z_sipush (C : ZC p s m args meth c own cc nL ret D cI A) {n : Int} (hdg : decode cc pc = .ok (.sipush n, 3)) (v : Int32) (hv : (Int16.ofInt n).toInt32 = v) (kk : ZZ p l e R s m args below meth c D A nL cells slots Qf bs (pc + 3) ls (.int v :: st)) : ZZ p l e R s m args below meth c D A nL cells slots Qf bs pc ls st := by
  intro H locs la hP hD hS hl
  obtain ⟨⟨hx, hb, hml, hown, hts⟩, hK, hN, hA, hlk, hrt⟩ := C
  exact lv_sipush hx hb hdg hv (kk H locs la hP hD hS hl)
theorem z_iload_n (C : ZC p s m args meth c own cc nL ret D cI A) {k : Fin 4} (hdg : decode cc pc = .ok (.iload_n k, 1)) {x : Int32} (hl0 : ls[(k : Nat)]? = some (some (.int x))) (kk : ZZ p l e R s m args below meth c D A nL cells slots Qf bs (pc + 1) ls (.int x :: st)) : ZZ p l e R s m args below meth c D A nL cells slots Qf bs pc ls st := by
  intro H locs la hP hD hS hl
  obtain ⟨⟨hx, hb, hml, hown, hts⟩, hK, hN, hA, hlk, hrt⟩ := C
  exact lv_iload_n hx hb hdg rfl (hl.at hl0) (kk H locs la hP hD hS hl)
theorem z_iload (C : ZC p s m args meth c own cc nL ret D cI A) {i : Nat} (hdg : decode cc pc = .ok (.iload i, 2)) {x : Int32} (hl0 : ls[i]? = some (some (.int x))) (kk : ZZ p l e R s m args below meth c D A nL cells slots Qf bs (pc + 2) ls (.int x :: st)) : ZZ p l e R s m args below meth c D A nL cells slots Qf bs pc ls st := by
  intro H locs la hP hD hS hl
  obtain ⟨⟨hx, hb, hml, hown, hts⟩, hK, hN, hA, hlk, hrt⟩ := C
  exact lv_iload hx hb hdg (hl.at hl0) (kk H locs la hP hD hS hl)
theorem z_istore_n (C : ZC p s m args meth c own cc nL ret D cI A) {k : Fin 4} {x : Int32} (hdg : decode cc pc = .ok (.istore_n k, 1)) (ls1 : List (Option Value)) (hn : (k : Nat) < nL) (hls : ls.set (k : Nat) (some (.int x)) = ls1) (kk : ZZ p l e R s m args below meth c D A nL cells slots Qf bs (pc + 1) ls1 st) : ZZ p l e R s m args below meth c D A nL cells slots Qf bs pc ls (.int x :: st) := by
  intro H locs la hP hD hS hl
  obtain ⟨⟨hx, hb, hml, hown, hts⟩, hK, hN, hA, hlk, hrt⟩ := C
  subst hls
  exact lv_istore_n hx hb hdg rfl hl.1 hn rfl (fun la2 h2 => kk H locs la2 hP hD hS (hl.set h2 rfl))
theorem z_istore (C : ZC p s m args meth c own cc nL ret D cI A) {i : Nat} {x : Int32} (hdg : decode cc pc = .ok (.istore i, 2)) (ls1 : List (Option Value)) (hn : i < nL) (hls : ls.set i (some (.int x)) = ls1) (kk : ZZ p l e R s m args below meth c D A nL cells slots Qf bs (pc + 2) ls1 st) : ZZ p l e R s m args below meth c D A nL cells slots Qf bs pc ls (.int x :: st) := by
  intro H locs la hP hD hS hl
  obtain ⟨⟨hx, hb, hml, hown, hts⟩, hK, hN, hA, hlk, hrt⟩ := C
  subst hls
  exact lv_istore hx hb hdg hl.1 hn rfl (fun la2 h2 => kk H locs la2 hP hD hS (hl.set h2 rfl))
theorem z_aload_n (C : ZC p s m args meth c own cc nL ret D cI A) {k : Fin 4} (hdg : decode cc pc = .ok (.aload_n k, 1)) {x : Nat} (hl0 : ls[(k : Nat)]? = some (some (.ref x))) (kk : ZZ p l e R s m args below meth c D A nL cells slots Qf bs (pc + 1) ls (.ref x :: st)) : ZZ p l e R s m args below meth c D A nL cells slots Qf bs pc ls st := by
  intro H locs la hP hD hS hl
  obtain ⟨⟨hx, hb, hml, hown, hts⟩, hK, hN, hA, hlk, hrt⟩ := C
  exact lv_aload_n hx hb hdg rfl (hl.at hl0) (kk H locs la hP hD hS hl)
theorem z_aload (C : ZC p s m args meth c own cc nL ret D cI A) {i : Nat} (hdg : decode cc pc = .ok (.aload i, 2)) {x : Nat} (hl0 : ls[i]? = some (some (.ref x))) (kk : ZZ p l e R s m args below meth c D A nL cells slots Qf bs (pc + 2) ls (.ref x :: st)) : ZZ p l e R s m args below meth c D A nL cells slots Qf bs pc ls st := by
  intro H locs la hP hD hS hl
  obtain ⟨⟨hx, hb, hml, hown, hts⟩, hK, hN, hA, hlk, hrt⟩ := C
  exact lv_aload hx hb hdg (hl.at hl0) (kk H locs la hP hD hS hl)
theorem z_astore_n (C : ZC p s m args meth c own cc nL ret D cI A) {k : Fin 4} {x : Nat} (hdg : decode cc pc = .ok (.astore_n k, 1)) (ls1 : List (Option Value)) (hn : (k : Nat) < nL) (hls : ls.set (k : Nat) (some (.ref x)) = ls1) (kk : ZZ p l e R s m args below meth c D A nL cells slots Qf bs (pc + 1) ls1 st) : ZZ p l e R s m args below meth c D A nL cells slots Qf bs pc ls (.ref x :: st) := by
  intro H locs la hP hD hS hl
  obtain ⟨⟨hx, hb, hml, hown, hts⟩, hK, hN, hA, hlk, hrt⟩ := C
  subst hls
  exact lv_astore_n hx hb hdg rfl hl.1 hn rfl (fun la2 h2 => kk H locs la2 hP hD hS (hl.set h2 rfl))
theorem z_astore (C : ZC p s m args meth c own cc nL ret D cI A) {i : Nat} {x : Nat} (hdg : decode cc pc = .ok (.astore i, 2)) (ls1 : List (Option Value)) (hn : i < nL) (hls : ls.set i (some (.ref x)) = ls1) (kk : ZZ p l e R s m args below meth c D A nL cells slots Qf bs (pc + 2) ls1 st) : ZZ p l e R s m args below meth c D A nL cells slots Qf bs pc ls (.ref x :: st) := by
  intro H locs la hP hD hS hl
  obtain ⟨⟨hx, hb, hml, hown, hts⟩, hK, hN, hA, hlk, hrt⟩ := C
  subst hls
  exact lv_astore hx hb hdg hl.1 hn rfl (fun la2 h2 => kk H locs la2 hP hD hS (hl.set h2 rfl))
theorem z_iinc (C : ZC p s m args meth c own cc nL ret D cI A) {i : Nat} {n : Int} {x : Int32} (hdg : decode cc pc = .ok (.iinc i n, 3)) (hl0 : ls[i]? = some (some (.int x))) (v : Int32) (hv : x + Int32.ofInt n = v) (ls1 : List (Option Value)) (hn : i < nL) (hls : ls.set i (some (.int v)) = ls1) (kk : ZZ p l e R s m args below meth c D A nL cells slots Qf bs (pc + 3) ls1 st) : ZZ p l e R s m args below meth c D A nL cells slots Qf bs pc ls st := by
  intro H locs la hP hD hS hl
  obtain ⟨⟨hx, hb, hml, hown, hts⟩, hK, hN, hA, hlk, hrt⟩ := C
  subst hls
  obtain ⟨k, hk⟩ := List.getElem?_of_mem ((z_pairs_mem ls 0 (j := i) (w := .int x)).mpr ⟨Nat.zero_le _, by simpa using hl0⟩)
  exact lv_iinc hx hb hdg hl.1 hk hv hn rfl (fun la2 h2 => kk H locs la2 hP hD hS (hl.set h2 rfl))
theorem z_iadd (C : ZC p s m args meth c own cc nL ret D cI A) {x y : Int32} (hdg : decode cc pc = .ok (.iadd, 1)) (kk : ZZ p l e R s m args below meth c D A nL cells slots Qf bs (pc + 1) ls (.int (x + y) :: st)) : ZZ p l e R s m args below meth c D A nL cells slots Qf bs pc ls (.int y :: .int x :: st) := by
  intro H locs la hP hD hS hl
  obtain ⟨⟨hx, hb, hml, hown, hts⟩, hK, hN, hA, hlk, hrt⟩ := C
  exact lv_iadd hx hb hdg (kk H locs la hP hD hS hl)
theorem z_isub (C : ZC p s m args meth c own cc nL ret D cI A) {x y : Int32} (hdg : decode cc pc = .ok (.isub, 1)) (kk : ZZ p l e R s m args below meth c D A nL cells slots Qf bs (pc + 1) ls (.int (x - y) :: st)) : ZZ p l e R s m args below meth c D A nL cells slots Qf bs pc ls (.int y :: .int x :: st) := by
  intro H locs la hP hD hS hl
  obtain ⟨⟨hx, hb, hml, hown, hts⟩, hK, hN, hA, hlk, hrt⟩ := C
  exact lv_isub hx hb hdg (kk H locs la hP hD hS hl)
theorem z_imul (C : ZC p s m args meth c own cc nL ret D cI A) {x y : Int32} (hdg : decode cc pc = .ok (.imul, 1)) (kk : ZZ p l e R s m args below meth c D A nL cells slots Qf bs (pc + 1) ls (.int (x * y) :: st)) : ZZ p l e R s m args below meth c D A nL cells slots Qf bs pc ls (.int y :: .int x :: st) := by
  intro H locs la hP hD hS hl
  obtain ⟨⟨hx, hb, hml, hown, hts⟩, hK, hN, hA, hlk, hrt⟩ := C
  exact lv_imul hx hb hdg (kk H locs la hP hD hS hl)
theorem z_iand (C : ZC p s m args meth c own cc nL ret D cI A) {x y : Int32} (hdg : decode cc pc = .ok (.iand, 1)) (kk : ZZ p l e R s m args below meth c D A nL cells slots Qf bs (pc + 1) ls (.int (x &&& y) :: st)) : ZZ p l e R s m args below meth c D A nL cells slots Qf bs pc ls (.int y :: .int x :: st) := by
  intro H locs la hP hD hS hl
  obtain ⟨⟨hx, hb, hml, hown, hts⟩, hK, hN, hA, hlk, hrt⟩ := C
  exact lv_iand hx hb hdg (kk H locs la hP hD hS hl)
theorem z_ior (C : ZC p s m args meth c own cc nL ret D cI A) {x y : Int32} (hdg : decode cc pc = .ok (.ior, 1)) (kk : ZZ p l e R s m args below meth c D A nL cells slots Qf bs (pc + 1) ls (.int (x ||| y) :: st)) : ZZ p l e R s m args below meth c D A nL cells slots Qf bs pc ls (.int y :: .int x :: st) := by
  intro H locs la hP hD hS hl
  obtain ⟨⟨hx, hb, hml, hown, hts⟩, hK, hN, hA, hlk, hrt⟩ := C
  exact lv_ior hx hb hdg (kk H locs la hP hD hS hl)
theorem z_idiv (C : ZC p s m args meth c own cc nL ret D cI A) {x y : Int32} (hdg : decode cc pc = .ok (.idiv, 1)) (hne : ¬ y = 0) (kk : ZZ p l e R s m args below meth c D A nL cells slots Qf bs (pc + 1) ls (.int (x / y) :: st)) : ZZ p l e R s m args below meth c D A nL cells slots Qf bs pc ls (.int y :: .int x :: st) := by
  intro H locs la hP hD hS hl
  obtain ⟨⟨hx, hb, hml, hown, hts⟩, hK, hN, hA, hlk, hrt⟩ := C
  exact lv_idiv hx hb hdg hne (kk H locs la hP hD hS hl)
theorem z_irem (C : ZC p s m args meth c own cc nL ret D cI A) {x y : Int32} (hdg : decode cc pc = .ok (.irem, 1)) (hne : ¬ y = 0) (kk : ZZ p l e R s m args below meth c D A nL cells slots Qf bs (pc + 1) ls (.int ((x - x / y * y)) :: st)) : ZZ p l e R s m args below meth c D A nL cells slots Qf bs pc ls (.int y :: .int x :: st) := by
  intro H locs la hP hD hS hl
  obtain ⟨⟨hx, hb, hml, hown, hts⟩, hK, hN, hA, hlk, hrt⟩ := C
  exact lv_irem hx hb hdg hne (kk H locs la hP hD hS hl)
theorem z_ishl (C : ZC p s m args meth c own cc nL ret D cI A) {x y : Int32} (hdg : decode cc pc = .ok (.ishl, 1)) (kk : ZZ p l e R s m args below meth c D A nL cells slots Qf bs (pc + 1) ls (.int ((x <<< (y &&& 31))) :: st)) : ZZ p l e R s m args below meth c D A nL cells slots Qf bs pc ls (.int y :: .int x :: st) := by
  intro H locs la hP hD hS hl
  obtain ⟨⟨hx, hb, hml, hown, hts⟩, hK, hN, hA, hlk, hrt⟩ := C
  exact lv_ishl hx hb hdg (kk H locs la hP hD hS hl)
theorem z_ishr (C : ZC p s m args meth c own cc nL ret D cI A) {x y : Int32} (hdg : decode cc pc = .ok (.ishr, 1)) (kk : ZZ p l e R s m args below meth c D A nL cells slots Qf bs (pc + 1) ls (.int ((x >>> (y &&& 31))) :: st)) : ZZ p l e R s m args below meth c D A nL cells slots Qf bs pc ls (.int y :: .int x :: st) := by
  intro H locs la hP hD hS hl
  obtain ⟨⟨hx, hb, hml, hown, hts⟩, hK, hN, hA, hlk, hrt⟩ := C
  exact lv_ishr hx hb hdg (kk H locs la hP hD hS hl)
theorem z_dup (C : ZC p s m args meth c own cc nL ret D cI A) {va : Value} (hdg : decode cc pc = .ok (.dup, 1)) (hva : va.category = 1) (kk : ZZ p l e R s m args below meth c D A nL cells slots Qf bs (pc + 1) ls (va :: va :: st)) : ZZ p l e R s m args below meth c D A nL cells slots Qf bs pc ls (va :: st) := by
  intro H locs la hP hD hS hl
  obtain ⟨⟨hx, hb, hml, hown, hts⟩, hK, hN, hA, hlk, hrt⟩ := C
  exact lv_dup hx hb hdg hva (kk H locs la hP hD hS hl)
theorem z_dup2 (C : ZC p s m args meth c own cc nL ret D cI A) {va vb : Value} (hdg : decode cc pc = .ok (.dup2, 1)) (hva : va.category = 1) (hvb : vb.category = 1) (kk : ZZ p l e R s m args below meth c D A nL cells slots Qf bs (pc + 1) ls (va :: vb :: va :: vb :: st)) : ZZ p l e R s m args below meth c D A nL cells slots Qf bs pc ls (va :: vb :: st) := by
  intro H locs la hP hD hS hl
  obtain ⟨⟨hx, hb, hml, hown, hts⟩, hK, hN, hA, hlk, hrt⟩ := C
  exact lv_dup2_11 hx hb hdg hva hvb (kk H locs la hP hD hS hl)
theorem z_pop (C : ZC p s m args meth c own cc nL ret D cI A) {va : Value} (hdg : decode cc pc = .ok (.pop, 1)) (hva : va.category = 1) (kk : ZZ p l e R s m args below meth c D A nL cells slots Qf bs (pc + 1) ls st) : ZZ p l e R s m args below meth c D A nL cells slots Qf bs pc ls (va :: st) := by
  intro H locs la hP hD hS hl
  obtain ⟨⟨hx, hb, hml, hown, hts⟩, hK, hN, hA, hlk, hrt⟩ := C
  exact lv_pop hx hb hdg hva (kk H locs la hP hD hS hl)
theorem z_name (C : ZC p s m args meth c own cc nL ret D cI A) {x : Int32} (kk : ∀ y : Int32, y = x → ZZ p l e R s m args below meth c D A nL cells slots Qf bs pc ls (.int y :: st)) : ZZ p l e R s m args below meth c D A nL cells slots Qf bs pc ls (.int x :: st) := by
  intro H locs la hP hD hS hl
  obtain ⟨⟨hx, hb, hml, hown, hts⟩, hK, hN, hA, hlk, hrt⟩ := C
  exact kk x rfl H locs la hP hD hS hl
theorem z_icmp_eq (C : ZC p s m args meth c own cc nL ret D cI A) {x y : Int32} {off : Int} (hdg : decode cc pc = .ok (.if_icmp .eq off, 3)) (tgt : Nat) (ht : (pc : Int) + off = (tgt : Int)) (kt : x = y → ZZ p l e R s m args below meth c D A nL cells slots Qf bs tgt ls st) (kf : ¬ x = y → ZZ p l e R s m args below meth c D A nL cells slots Qf bs (pc + 3) ls st) : ZZ p l e R s m args below meth c D A nL cells slots Qf bs pc ls (.int y :: .int x :: st) := by
  intro H locs la hP hD hS hl
  obtain ⟨⟨hx, hb, hml, hown, hts⟩, hK, hN, hA, hlk, hrt⟩ := C
  exact lv_icmp_eq hx hb hdg ht (fun h => kt h H locs la hP hD hS hl) (fun h => kf h H locs la hP hD hS hl)
theorem z_if_eq (C : ZC p s m args meth c own cc nL ret D cI A) {x : Int32} {off : Int} (hdg : decode cc pc = .ok (.ifCond .eq off, 3)) (tgt : Nat) (ht : (pc : Int) + off = (tgt : Int)) (kt : x = 0 → ZZ p l e R s m args below meth c D A nL cells slots Qf bs tgt ls st) (kf : ¬ x = 0 → ZZ p l e R s m args below meth c D A nL cells slots Qf bs (pc + 3) ls st) : ZZ p l e R s m args below meth c D A nL cells slots Qf bs pc ls (.int x :: st) := by
  intro H locs la hP hD hS hl
  obtain ⟨⟨hx, hb, hml, hown, hts⟩, hK, hN, hA, hlk, hrt⟩ := C
  exact lv_if_eq hx hb hdg ht (fun h => kt h H locs la hP hD hS hl) (fun h => kf h H locs la hP hD hS hl)
theorem z_icmp_ne (C : ZC p s m args meth c own cc nL ret D cI A) {x y : Int32} {off : Int} (hdg : decode cc pc = .ok (.if_icmp .ne off, 3)) (tgt : Nat) (ht : (pc : Int) + off = (tgt : Int)) (kt : ¬ x = y → ZZ p l e R s m args below meth c D A nL cells slots Qf bs tgt ls st) (kf : x = y → ZZ p l e R s m args below meth c D A nL cells slots Qf bs (pc + 3) ls st) : ZZ p l e R s m args below meth c D A nL cells slots Qf bs pc ls (.int y :: .int x :: st) := by
  intro H locs la hP hD hS hl
  obtain ⟨⟨hx, hb, hml, hown, hts⟩, hK, hN, hA, hlk, hrt⟩ := C
  exact lv_icmp_ne hx hb hdg ht (fun h => kt h H locs la hP hD hS hl) (fun h => kf h H locs la hP hD hS hl)
theorem z_if_ne (C : ZC p s m args meth c own cc nL ret D cI A) {x : Int32} {off : Int} (hdg : decode cc pc = .ok (.ifCond .ne off, 3)) (tgt : Nat) (ht : (pc : Int) + off = (tgt : Int)) (kt : ¬ x = 0 → ZZ p l e R s m args below meth c D A nL cells slots Qf bs tgt ls st) (kf : x = 0 → ZZ p l e R s m args below meth c D A nL cells slots Qf bs (pc + 3) ls st) : ZZ p l e R s m args below meth c D A nL cells slots Qf bs pc ls (.int x :: st) := by
  intro H locs la hP hD hS hl
  obtain ⟨⟨hx, hb, hml, hown, hts⟩, hK, hN, hA, hlk, hrt⟩ := C
  exact lv_if_ne hx hb hdg ht (fun h => kt h H locs la hP hD hS hl) (fun h => kf h H locs la hP hD hS hl)
theorem z_icmp_lt (C : ZC p s m args meth c own cc nL ret D cI A) {x y : Int32} {off : Int} (hdg : decode cc pc = .ok (.if_icmp .lt off, 3)) (tgt : Nat) (ht : (pc : Int) + off = (tgt : Int)) (kt : x < y → ZZ p l e R s m args below meth c D A nL cells slots Qf bs tgt ls st) (kf : ¬ x < y → ZZ p l e R s m args below meth c D A nL cells slots Qf bs (pc + 3) ls st) : ZZ p l e R s m args below meth c D A nL cells slots Qf bs pc ls (.int y :: .int x :: st) := by
  intro H locs la hP hD hS hl
  obtain ⟨⟨hx, hb, hml, hown, hts⟩, hK, hN, hA, hlk, hrt⟩ := C
  exact lv_icmp_lt hx hb hdg ht (fun h => kt h H locs la hP hD hS hl) (fun h => kf h H locs la hP hD hS hl)
theorem z_if_lt (C : ZC p s m args meth c own cc nL ret D cI A) {x : Int32} {off : Int} (hdg : decode cc pc = .ok (.ifCond .lt off, 3)) (tgt : Nat) (ht : (pc : Int) + off = (tgt : Int)) (kt : x < 0 → ZZ p l e R s m args below meth c D A nL cells slots Qf bs tgt ls st) (kf : ¬ x < 0 → ZZ p l e R s m args below meth c D A nL cells slots Qf bs (pc + 3) ls st) : ZZ p l e R s m args below meth c D A nL cells slots Qf bs pc ls (.int x :: st) := by
  intro H locs la hP hD hS hl
  obtain ⟨⟨hx, hb, hml, hown, hts⟩, hK, hN, hA, hlk, hrt⟩ := C
  exact lv_if_lt hx hb hdg ht (fun h => kt h H locs la hP hD hS hl) (fun h => kf h H locs la hP hD hS hl)
theorem z_icmp_ge (C : ZC p s m args meth c own cc nL ret D cI A) {x y : Int32} {off : Int} (hdg : decode cc pc = .ok (.if_icmp .ge off, 3)) (tgt : Nat) (ht : (pc : Int) + off = (tgt : Int)) (kt : y ≤ x → ZZ p l e R s m args below meth c D A nL cells slots Qf bs tgt ls st) (kf : ¬ y ≤ x → ZZ p l e R s m args below meth c D A nL cells slots Qf bs (pc + 3) ls st) : ZZ p l e R s m args below meth c D A nL cells slots Qf bs pc ls (.int y :: .int x :: st) := by
  intro H locs la hP hD hS hl
  obtain ⟨⟨hx, hb, hml, hown, hts⟩, hK, hN, hA, hlk, hrt⟩ := C
  exact lv_icmp_ge hx hb hdg ht (fun h => kt h H locs la hP hD hS hl) (fun h => kf h H locs la hP hD hS hl)
theorem z_if_ge (C : ZC p s m args meth c own cc nL ret D cI A) {x : Int32} {off : Int} (hdg : decode cc pc = .ok (.ifCond .ge off, 3)) (tgt : Nat) (ht : (pc : Int) + off = (tgt : Int)) (kt : 0 ≤ x → ZZ p l e R s m args below meth c D A nL cells slots Qf bs tgt ls st) (kf : ¬ 0 ≤ x → ZZ p l e R s m args below meth c D A nL cells slots Qf bs (pc + 3) ls st) : ZZ p l e R s m args below meth c D A nL cells slots Qf bs pc ls (.int x :: st) := by
  intro H locs la hP hD hS hl
  obtain ⟨⟨hx, hb, hml, hown, hts⟩, hK, hN, hA, hlk, hrt⟩ := C
  exact lv_if_ge hx hb hdg ht (fun h => kt h H locs la hP hD hS hl) (fun h => kf h H locs la hP hD hS hl)
theorem z_icmp_gt (C : ZC p s m args meth c own cc nL ret D cI A) {x y : Int32} {off : Int} (hdg : decode cc pc = .ok (.if_icmp .gt off, 3)) (tgt : Nat) (ht : (pc : Int) + off = (tgt : Int)) (kt : y < x → ZZ p l e R s m args below meth c D A nL cells slots Qf bs tgt ls st) (kf : ¬ y < x → ZZ p l e R s m args below meth c D A nL cells slots Qf bs (pc + 3) ls st) : ZZ p l e R s m args below meth c D A nL cells slots Qf bs pc ls (.int y :: .int x :: st) := by
  intro H locs la hP hD hS hl
  obtain ⟨⟨hx, hb, hml, hown, hts⟩, hK, hN, hA, hlk, hrt⟩ := C
  exact lv_icmp_gt hx hb hdg ht (fun h => kt h H locs la hP hD hS hl) (fun h => kf h H locs la hP hD hS hl)
theorem z_if_gt (C : ZC p s m args meth c own cc nL ret D cI A) {x : Int32} {off : Int} (hdg : decode cc pc = .ok (.ifCond .gt off, 3)) (tgt : Nat) (ht : (pc : Int) + off = (tgt : Int)) (kt : 0 < x → ZZ p l e R s m args below meth c D A nL cells slots Qf bs tgt ls st) (kf : ¬ 0 < x → ZZ p l e R s m args below meth c D A nL cells slots Qf bs (pc + 3) ls st) : ZZ p l e R s m args below meth c D A nL cells slots Qf bs pc ls (.int x :: st) := by
  intro H locs la hP hD hS hl
  obtain ⟨⟨hx, hb, hml, hown, hts⟩, hK, hN, hA, hlk, hrt⟩ := C
  exact lv_if_gt hx hb hdg ht (fun h => kt h H locs la hP hD hS hl) (fun h => kf h H locs la hP hD hS hl)
theorem z_icmp_le (C : ZC p s m args meth c own cc nL ret D cI A) {x y : Int32} {off : Int} (hdg : decode cc pc = .ok (.if_icmp .le off, 3)) (tgt : Nat) (ht : (pc : Int) + off = (tgt : Int)) (kt : x ≤ y → ZZ p l e R s m args below meth c D A nL cells slots Qf bs tgt ls st) (kf : ¬ x ≤ y → ZZ p l e R s m args below meth c D A nL cells slots Qf bs (pc + 3) ls st) : ZZ p l e R s m args below meth c D A nL cells slots Qf bs pc ls (.int y :: .int x :: st) := by
  intro H locs la hP hD hS hl
  obtain ⟨⟨hx, hb, hml, hown, hts⟩, hK, hN, hA, hlk, hrt⟩ := C
  exact lv_icmp_le hx hb hdg ht (fun h => kt h H locs la hP hD hS hl) (fun h => kf h H locs la hP hD hS hl)
theorem z_if_le (C : ZC p s m args meth c own cc nL ret D cI A) {x : Int32} {off : Int} (hdg : decode cc pc = .ok (.ifCond .le off, 3)) (tgt : Nat) (ht : (pc : Int) + off = (tgt : Int)) (kt : x ≤ 0 → ZZ p l e R s m args below meth c D A nL cells slots Qf bs tgt ls st) (kf : ¬ x ≤ 0 → ZZ p l e R s m args below meth c D A nL cells slots Qf bs (pc + 3) ls st) : ZZ p l e R s m args below meth c D A nL cells slots Qf bs pc ls (.int x :: st) := by
  intro H locs la hP hD hS hl
  obtain ⟨⟨hx, hb, hml, hown, hts⟩, hK, hN, hA, hlk, hrt⟩ := C
  exact lv_if_le hx hb hdg ht (fun h => kt h H locs la hP hD hS hl) (fun h => kf h H locs la hP hD hS hl)
theorem z_goto (C : ZC p s m args meth c own cc nL ret D cI A) {off : Int} (hdg : decode cc pc = .ok (.goto off, 3)) (tgt : Nat) (ht : (pc : Int) + off = (tgt : Int)) (kk : ZZ p l e R s m args below meth c D A nL cells slots Qf bs tgt ls st) : ZZ p l e R s m args below meth c D A nL cells slots Qf bs pc ls st := by
  intro H locs la hP hD hS hl
  obtain ⟨⟨hx, hb, hml, hown, hts⟩, hK, hN, hA, hlk, hrt⟩ := C
  exact lv_goto hx hb hdg ht (kk H locs la hP hD hS hl)
theorem z_tableIn (C : ZC p s m args meth c own cc nL ret D cI A) {dflt lo hi : Int} {offs : Array Int} {len : Nat} {x : Int32} (hdg : decode cc pc = .ok (.tableswitch dflt lo hi offs, len)) (h1 : ¬ x.toInt < lo) (h2 : ¬ hi < x.toInt) (off : Int) (ho : offs[(x.toInt - lo).toNat]? = some off) (tgt : Nat) (ht : (pc : Int) + off = (tgt : Int)) (kk : ZZ p l e R s m args below meth c D A nL cells slots Qf bs tgt ls st) : ZZ p l e R s m args below meth c D A nL cells slots Qf bs pc ls (.int x :: st) := by
  intro H locs la hP hD hS hl
  obtain ⟨⟨hx, hb, hml, hown, hts⟩, hK, hN, hA, hlk, hrt⟩ := C
  exact lv_tableIn hx hb hdg h1 h2 ho ht (kk H locs la hP hD hS hl)
theorem z_tableOut (C : ZC p s m args meth c own cc nL ret D cI A) {dflt lo hi : Int} {offs : Array Int} {len : Nat} {x : Int32} (hdg : decode cc pc = .ok (.tableswitch dflt lo hi offs, len)) (h : x.toInt < lo ∨ hi < x.toInt) (tgt : Nat) (ht : (pc : Int) + dflt = (tgt : Int)) (kk : ZZ p l e R s m args below meth c D A nL cells slots Qf bs tgt ls st) : ZZ p l e R s m args below meth c D A nL cells slots Qf bs pc ls (.int x :: st) := by
  intro H locs la hP hD hS hl
  obtain ⟨⟨hx, hb, hml, hown, hts⟩, hK, hN, hA, hlk, hrt⟩ := C
  exact lv_tableOut hx hb hdg h ht (kk H locs la hP hD hS hl)
theorem z_lookup (C : ZC p s m args meth c own cc nL ret D cI A) {dflt : Int} {ps : Array (Int × Int)} {len : Nat} {x : Int32} (hdg : decode cc pc = .ok (.lookupswitch dflt ps, len)) (hp : (ps.toList.zip (ps.toList.drop 1)).all (fun (a, next) => a.1 < next.1) = true) (off : Int) (ho : Op.lookupswitch.offset ps.toList dflt x.toInt = off) (tgt : Nat) (ht : (pc : Int) + off = (tgt : Int)) (kk : ZZ p l e R s m args below meth c D A nL cells slots Qf bs tgt ls st) : ZZ p l e R s m args below meth c D A nL cells slots Qf bs pc ls (.int x :: st) := by
  intro H locs la hP hD hS hl
  obtain ⟨⟨hx, hb, hml, hown, hts⟩, hK, hN, hA, hlk, hrt⟩ := C
  exact lv_lookup hx hb hdg hp ho ht (kk H locs la hP hD hS hl)
theorem z_ls (C : ZC p s m args meth c own cc nL ret D cI A) (bk : List Bool) (ls1 : List (Option Value)) (hls : z_mask bk ls = ls1) (kk : ZZ p l e R s m args below meth c D A nL cells slots Qf bs pc ls1 st) : ZZ p l e R s m args below meth c D A nL cells slots Qf bs pc ls st := by
  intro H locs la hP hD hS hl
  obtain ⟨⟨hx, hb, hml, hown, hts⟩, hK, hN, hA, hlk, hrt⟩ := C
  subst hls
  exact kk H locs la hP hD hS (hl.sub (z_mask_sub bk ls))
theorem z_perm (C : ZC p s m args meth c own cc nL ret D cI A) (bs1 : List va_W) (hp : bs.Perm bs1) (kk : ZZ p l e R s m args below meth c D A nL cells slots Qf bs1 pc ls st) : ZZ p l e R s m args below meth c D A nL cells slots Qf bs pc ls st := by
  intro H locs la hP hD hS hl
  obtain ⟨⟨hx, hb, hml, hown, hts⟩, hK, hN, hA, hlk, hrt⟩ := C
  exact kk H locs la (z_Pp hp.flatten hP) (z_Dp hp.flatten hD) hS hl
theorem z_eq (C : ZC p s m args meth c own cc nL ret D cI A) (bs1 : List va_W) (hp : bs.flatten = bs1.flatten) (kk : ZZ p l e R s m args below meth c D A nL cells slots Qf bs1 pc ls st) : ZZ p l e R s m args below meth c D A nL cells slots Qf bs pc ls st := by
  intro H locs la hP hD hS hl
  obtain ⟨⟨hx, hb, hml, hown, hts⟩, hK, hN, hA, hlk, hrt⟩ := C
  exact kk H locs la (hp ▸ hP) (hp ▸ hD) hS hl
theorem z_get (C : ZC p s m args meth c own cc nL ret D cI A) {Cn : String} {T : u_T} {N ci index : Nat} (hin : ∀ w ∈ u_ws Cn T N, w ∈ wsL_law) (hc : vwCl[ci]? = some (Cn, T, N)) (k : Nat) (hk : k < N) (hw : Cond.fieldLink own index (T k).1 (T k).2.1 (T k).2.2.1 ∈ wsL_law) (hdg : decode cc pc = .ok (.getfield index, 3)) (bi qi : Nat) {w : va_W} (hbi : bs[bi]? = some w) {a : Nat} {fs : List Value} (hqi : w[qi]? = some (a, .inr (ci, fs))) {v : Value} (hv : fs[k]? = some v) (kk : ZZ p l e R s m args below meth c D A nL cells slots Qf bs (pc + 3) ls (v :: st)) : ZZ p l e R s m args below meth c D A nL cells slots Qf bs pc ls (.ref a :: st) := by
  intro H locs la hP hD hS hl
  obtain ⟨⟨hx, hb, hml, hown, hts⟩, hK, hN, hA, hlk, hrt⟩ := C
  obtain ⟨q0, h0, -⟩ := z_flat_set bs bi qi hbi hqi
  exact va_get hx hb hts hin hown hK hP q0 h0 hc k hk (hts _ hw) (fun _ h9 => h9) hv hdg (kk H locs la hP hD hS hl)
theorem z_getN (C : ZC p s m args meth c own cc nL ret D cI A) {Cn : String} {T : u_T} {N ci index : Nat} {host : String} (hin : ∀ w ∈ u_ws Cn T N, w ∈ wsL_law) (hc : vwCl[ci]? = some (Cn, T, N)) (k : Nat) (hk : k < N) (hw : Cond.fieldLinkNest own index (T k).1 (T k).2.1 (T k).2.2.1 host ∈ z_nest) (hdg : decode cc pc = .ok (.getfield index, 3)) (bi qi : Nat) {w : va_W} (hbi : bs[bi]? = some w) {a : Nat} {fs : List Value} (hqi : w[qi]? = some (a, .inr (ci, fs))) {v : Value} (hv : fs[k]? = some v) (kk : ZZ p l e R s m args below meth c D A nL cells slots Qf bs (pc + 3) ls (v :: st)) : ZZ p l e R s m args below meth c D A nL cells slots Qf bs pc ls (.ref a :: st) := by
  intro H locs la hP hD hS hl
  obtain ⟨⟨hx, hb, hml, hown, hts⟩, hK, hN, hA, hlk, hrt⟩ := C
  obtain ⟨q0, h0, -⟩ := z_flat_set bs bi qi hbi hqi
  exact va_getN hx hb hts hin hown hK hP q0 h0 hc k hk (va_Nw.use rfl (hN _ hw)) (fun _ h9 => h9) hv hdg (kk H locs la hP hD hS hl)
theorem z_put (C : ZC p s m args meth c own cc nL ret D cI A) {Cn : String} {T : u_T} {N ci index : Nat} (hin : ∀ w ∈ u_ws Cn T N, w ∈ wsL_law) (hc : vwCl[ci]? = some (Cn, T, N)) (ty0 : Nat → FieldType) (hty : ∀ k, k < N → parseFieldDescriptor (T k).2.2.1 = some (ty0 k)) (hnm : ∀ a, a < N → ∀ b, b < N → a ≠ b → (T a).2.1 ≠ (T b).2.1) (k : Nat) (hk : k < N) (hw : Cond.fieldLink own index (T k).1 (T k).2.1 (T k).2.2.1 ∈ wsL_law) (hfin : (T k).2.2.2 = false) {ty : FieldType} {v : Value} (hd : ty0 k = ty) (hn : narrow ty v = v) (hfit : fits ty v = true) (hdg : decode cc pc = .ok (.putfield index, 3)) (bi qi : Nat) {w : va_W} (hbi : bs[bi]? = some w) {a : Nat} {fs : List Value} (hqi : w[qi]? = some (a, .inr (ci, fs))) (hl0 : k < fs.length) (bs1 : List va_W) (hbs : bs.set bi (w.set qi (a, .inr (ci, fs.set k v))) = bs1) (kk : ZZ p l e R s m args below meth c D A nL cells slots Qf bs1 (pc + 3) ls st) : ZZ p l e R s m args below meth c D A nL cells slots Qf bs pc ls (v :: .ref a :: st) := by
  intro H locs la hP hD hS hl
  obtain ⟨⟨hx, hb, hml, hown, hts⟩, hK, hN, hA, hlk, hrt⟩ := C
  subst hbs
  obtain ⟨q0, h0, h1⟩ := z_flat_set bs bi qi hbi hqi
  refine va_put hx hb hts hin ty0 hty hnm hown hK hP hD hS q0 h0 hc k hk (hts _ hw) (fun _ h9 => h9) hfin (by rw [hty k hk, hd]) hn hfit hl0 hdg (fun H1 locs1 hP hD hS => ?_)
  rw [h1] at hP hD
  exact kk H1 locs1 la hP hD hS hl
theorem z_putF (C : ZC p s m args meth c own cc nL ret D cI A) {Cn : String} {T : u_T} {N ci index : Nat} (hin : ∀ w ∈ u_ws Cn T N, w ∈ wsL_law) (hc : vwCl[ci]? = some (Cn, T, N)) (ty0 : Nat → FieldType) (hty : ∀ k, k < N → parseFieldDescriptor (T k).2.2.1 = some (ty0 k)) (hnm : ∀ a, a < N → ∀ b, b < N → a ≠ b → (T a).2.1 ≠ (T b).2.1) (k : Nat) (hk : k < N) (hw : Cond.fieldLink own index (T k).1 (T k).2.1 (T k).2.2.1 ∈ wsL_law) (hfin : (T k).2.2.2 = true) (hin2 : meth.name = "<init>") (hdecl : (T k).1 = own) {ty : FieldType} {v : Value} (hd : ty0 k = ty) (hn : narrow ty v = v) (hfit : fits ty v = true) (hdg : decode cc pc = .ok (.putfield index, 3)) (bi qi : Nat) {w : va_W} (hbi : bs[bi]? = some w) {a : Nat} {fs : List Value} (hqi : w[qi]? = some (a, .inr (ci, fs))) (hl0 : k < fs.length) (bs1 : List va_W) (hbs : bs.set bi (w.set qi (a, .inr (ci, fs.set k v))) = bs1) (kk : ZZ p l e R s m args below meth c D A nL cells slots Qf bs1 (pc + 3) ls st) : ZZ p l e R s m args below meth c D A nL cells slots Qf bs pc ls (v :: .ref a :: st) := by
  intro H locs la hP hD hS hl
  obtain ⟨⟨hx, hb, hml, hown, hts⟩, hK, hN, hA, hlk, hrt⟩ := C
  subst hbs
  obtain ⟨q0, h0, h1⟩ := z_flat_set bs bi qi hbi hqi
  refine va_putF hx hb hts hin ty0 hty hnm hown hK hP hD hS q0 h0 hc k hk (hts _ hw) (fun _ h9 => h9) hfin hin2 hdecl (by rw [hty k hk, hd]) hn hfit hl0 hdg (fun H1 locs1 hP hD hS => ?_)
  rw [h1] at hP hD
  exact kk H1 locs1 la hP hD hS hl
theorem z_putN (C : ZC p s m args meth c own cc nL ret D cI A) {Cn : String} {T : u_T} {N ci index : Nat} {host : String} (hin : ∀ w ∈ u_ws Cn T N, w ∈ wsL_law) (hc : vwCl[ci]? = some (Cn, T, N)) (ty0 : Nat → FieldType) (hty : ∀ k, k < N → parseFieldDescriptor (T k).2.2.1 = some (ty0 k)) (hnm : ∀ a, a < N → ∀ b, b < N → a ≠ b → (T a).2.1 ≠ (T b).2.1) (k : Nat) (hk : k < N) (hw : Cond.fieldLinkNest own index (T k).1 (T k).2.1 (T k).2.2.1 host ∈ z_nest) (hfin : (T k).2.2.2 = false) {ty : FieldType} {v : Value} (hd : ty0 k = ty) (hn : narrow ty v = v) (hfit : fits ty v = true) (hdg : decode cc pc = .ok (.putfield index, 3)) (bi qi : Nat) {w : va_W} (hbi : bs[bi]? = some w) {a : Nat} {fs : List Value} (hqi : w[qi]? = some (a, .inr (ci, fs))) (hl0 : k < fs.length) (bs1 : List va_W) (hbs : bs.set bi (w.set qi (a, .inr (ci, fs.set k v))) = bs1) (kk : ZZ p l e R s m args below meth c D A nL cells slots Qf bs1 (pc + 3) ls st) : ZZ p l e R s m args below meth c D A nL cells slots Qf bs pc ls (v :: .ref a :: st) := by
  intro H locs la hP hD hS hl
  obtain ⟨⟨hx, hb, hml, hown, hts⟩, hK, hN, hA, hlk, hrt⟩ := C
  subst hbs
  obtain ⟨q0, h0, h1⟩ := z_flat_set bs bi qi hbi hqi
  refine va_putN hx hb hts hin ty0 hty hnm hown hK hP hD hS q0 h0 hc k hk (va_Nw.use rfl (hN _ hw)) (fun _ h9 => h9) hfin (by rw [hty k hk, hd]) hn hfit hl0 hdg (fun H1 locs1 hP hD hS => ?_)
  rw [h1] at hP hD
  exact kk H1 locs1 la hP hD hS hl
theorem z_alen (C : ZC p s m args meth c own cc nL ret D cI A) (hdg : decode cc pc = .ok (.arraylength, 1)) (bi qi : Nat) {w : va_W} (hbi : bs[bi]? = some w) {a : Nat} {x : vp_A} (hqi : w[qi]? = some (a, .inl (cI, x))) (v : Int32) (hv : nI x.1 = v) (kk : ZZ p l e R s m args below meth c D A nL cells slots Qf bs (pc + 1) ls (.int v :: st)) : ZZ p l e R s m args below meth c D A nL cells slots Qf bs pc ls (.ref a :: st) := by
  intro H locs la hP hD hS hl
  obtain ⟨⟨hx, hb, hml, hown, hts⟩, hK, hN, hA, hlk, hrt⟩ := C
  obtain ⟨q0, h0, -⟩ := z_flat_set bs bi qi hbi hqi
  exact va_alen hx hb hK hP q0 0 h0 rfl hv hdg (kk H locs la hP hD hS hl)
theorem z_iald (C : ZC p s m args meth c own cc nL ret D cI A) (hdg : decode cc pc = .ok (.iaload, 1)) (bi qi : Nat) {w : va_W} (hbi : bs[bi]? = some w) {a n : Nat} {f : Nat → Int32} (hqi : w[qi]? = some (a, .inl (cI, n, .inl f))) {i : Int32} (hi : vp_in i n) (kk : ZZ p l e R s m args below meth c D A nL cells slots Qf bs (pc + 1) ls (.int (f i.toNatClampNeg) :: st)) : ZZ p l e R s m args below meth c D A nL cells slots Qf bs pc ls (.int i :: .ref a :: st) := by
  intro H locs la hP hD hS hl
  obtain ⟨⟨hx, hb, hml, hown, hts⟩, hK, hN, hA, hlk, hrt⟩ := C
  obtain ⟨q0, h0, -⟩ := z_flat_set bs bi qi hbi hqi
  exact va_iald hx hb hK hP q0 0 h0 rfl hi hdg (kk H locs la hP hD hS hl)
theorem z_iast (C : ZC p s m args meth c own cc nL ret D cI A) (hdg : decode cc pc = .ok (.iastore, 1)) (bi qi : Nat) {w : va_W} (hbi : bs[bi]? = some w) {a n : Nat} {f : Nat → Int32} (hqi : w[qi]? = some (a, .inl (cI, n, .inl f))) {i x : Int32} (hi : vp_in i n) (bs1 : List va_W) (hbs : bs.set bi (w.set qi (a, .inl (cI, n, .inl (upd f i.toNatClampNeg x)))) = bs1) (kk : ZZ p l e R s m args below meth c D A nL cells slots Qf bs1 (pc + 1) ls st) : ZZ p l e R s m args below meth c D A nL cells slots Qf bs pc ls (.int x :: .int i :: .ref a :: st) := by
  intro H locs la hP hD hS hl
  obtain ⟨⟨hx, hb, hml, hown, hts⟩, hK, hN, hA, hlk, hrt⟩ := C
  subst hbs
  obtain ⟨q0, h0, h1⟩ := z_flat_set bs bi qi hbi hqi
  refine va_iast hx hb hK hP hD hS q0 0 h0 rfl hi hdg (fun H1 locs1 hP hD hS => ?_)
  rw [h1] at hP hD
  exact kk H1 locs1 la hP hD hS hl
end ZR
end
section
/-! calls, returns, new objects, loops over ZZ -/
section ZCALL
variable {p : Program} {l : Launch} {e : Env} {R : Room} {s : State} {m : MethodId} {args : Array Value} {below : List Frame} {meth : Method} {c : Code} {own : String} {cc : ByteArray} {nL : Nat} {ret : Option FieldType} {D : va_G} {cI : ClassId} {A : Nat → Prop} {cells slots : Nat} {Qf : State → Prop} {bs : List va_W} {pc : Nat} {ls : List (Option Value)} {st : List Value}
theorem z_after {S : Type} {wc wr : List va_W} {w1 : S → List va_W} {rv : S → Option Value} {Q : S → Prop} {a : Array Value} {rest : List Value} {mc ms : Nat} {H : Heap} {locs : List Loc} {la : Array Slot}
    (hA : ∀ q : Nat, s.heap.size ≤ q → A q) (hp : bs.Perm (wc ++ wr)) (hP : va_P D vwCl bs.flatten H) (hD : va_D A bs.flatten) (hS : va_S A s.heap H locs) (hl : zL la nL ls)
    (hr : va_P D vwCl wc.flatten H → va_D A wc.flatten → va_Run p l e R s m args below meth c H locs cells slots mc ms (F0 m pc la st) rest (ZQ D (va_A wc.flatten H.size) rv w1 Q a) (va_A wc.flatten H.size))
    (kk : ∀ u : S, Q u → ZZ p l e R s m args below meth c D A nL (cells + mc) (slots + ms) Qf (w1 u ++ wr) (pc + 3) ls ((rv u).toList ++ rest)) : W p l e R s m args below meth c H locs cells slots Qf (F0 m pc la st) := by
  have hp2 : bs.flatten.Perm (wc.flatten ++ wr.flatten) := by rw [← List.flatten_append]; exact hp.flatten
  have hP2 := z_Pp hp2 hP
  have hD2 := z_Dp hp2 hD
  have hlt : ∀ q ∈ wr.flatten, q.1 < H.size := fun q hq => (z_P.mp hP2 q (List.mem_append_right _ hq)).lt
  have hF : ∀ q, va_A wc.flatten H.size q → A q := by
    intro q hq
    rcases z_Aiff.mp hq with h | h
    · obtain ⟨x, hx, rfl⟩ := List.mem_map.mp h
      exact (z_D.mp hD2).2 x (List.mem_append_left _ hx)
    · exact hA q (Nat.le_trans hS.1 h)
  intro T hT X
  obtain ⟨v, st₀, t, T', L, h0, X', hL, e1, e2, ⟨⟨u, hv, hq, hP1, hD1⟩, hz, hk⟩, stp⟩ := hr (z_Pl hP2) (z_Dl hD2) T hT X
  have hv2 : v = rv u := by injection hv
  subst hv2
  rw [h0] at hz hk
  rw [← e1] at hz hP1
  have hk2 : ∀ q : Nat, q < H.size → ¬ va_A wc.flatten H.size q → T'.heap[q]? = H[q]? := fun q h1 h2 => by rw [e1]; exact hk q h1 h2
  obtain ⟨hP3, hD3⟩ := z_join hP2 hD2 hlt hk2 hF hP1 hD1
  rw [← List.flatten_append] at hP3 hD3
  obtain ⟨t2, a1, b1⟩ := kk u hq T'.heap (locs ++ L) la hP3 hD3
    ⟨Nat.le_trans hS.1 hz, fun q h1 h2 => by rw [hk2 q (Nat.lt_of_lt_of_le h1 hS.1) (fun z => h2 (hF q z))]; exact hS.2.1 q h1 h2, fun q hq => by
      rcases List.mem_append.mp hq with h | h
      · exact hS.2.2 q h
      · exact hF _ (hL q h)⟩ hl T' rfl X'
  exact ⟨t2, stp t2 a1, b1⟩
theorem z_blind {D : va_G} {cI : ClassId} {av : List Value} {w0 : va_W} {sz : Nat} : FrameBlind (va_Pc av (fun U => U.heap.size = sz ∧ va_P D vwCl w0 U.heap ∧ va_K D vwCl (z_tys cI) U ∧ z_nestOK U ∧ va_D (fun _ => True) w0)) := by
  intro a U g mk q
  obtain ⟨q0, q1, qP, qK, qN, qD⟩ := q
  exact ⟨q0, q1, qP, va_K.moved (u := U) (U := U.calling g mk a) (Vm.Alike.refl U.vm) qK, z_nestOK.same (u := U) (U := U.calling g mk a) rfl qN, qD⟩
def zY (y : MethodName) (cc : ByteArray) (nL : Nat) (ret : Option FieldType) : Prop := Cond.code y cc nL ret ∈ wsL_law ∧ Cond.initialized y.cls ∈ wsL_law ∧ y.cls ≠ "java/lang/invoke/MethodHandle" ∧ y.cls ≠ "java/lang/invoke/VarHandle"
def zYV (y : MethodName) (cc : ByteArray) (nL : Nat) (ret : Option FieldType) : Prop := zY y cc nL ret ∧ Cond.instanceMethod y ∈ wsL_law ∧ Cond.selects y.cls y y ∈ wsL_law
def zYS (y : MethodName) (cc : ByteArray) (nL : Nat) (ret : Option FieldType) : Prop := zY y cc nL ret ∧ Cond.static y ∈ wsL_law
def zYI (y : MethodName) (cc : ByteArray) (nL : Nat) : Prop := zY y cc nL none ∧ Cond.instanceMethod y ∈ wsL_law ∧ y.name = "<init>"
theorem z_goodIn {y : MethodName} {cc : ByteArray} {nL : Nat} {ret : Option FieldType} (h : Cond.code y cc nL ret ∈ wsL_law) : GoodIn wsL_law (.code y cc nL ret :: wsL_law) := by
  intro w hw
  rcases List.mem_cons.mp hw with h1 | h1
  · subst h1; exact ⟨h, z_good h⟩
  · exact ⟨h1, z_good h1⟩
theorem z_callB {y : MethodName} {yc : ByteArray} {yL : Nat} {yr : Option FieldType} {rm : Room} {idx n : Nat} (hts : ∀ w ∈ wsL_law, w.before args s = true) (hy : zY y yc yL yr) (hlk : Cond.methodLink own idx y ∈ wsL_law) (hn : (parseMethodDescriptor y.desc).map (fun d => d.parameters.length) = some n) (hR : rm.frames + 1 ≤ R.frames ∧ 8 + (yL + 11) + rm.locals ≤ R.locals) :
    CallB R s args own idx y yc yL yr (.code y yc yL yr :: wsL_law) rm rm.cells rm.slots n :=
  callB_of n hts (z_goodIn hy.1) rfl rfl rfl (hts _ hy.2.1) (hts _ hlk) ⟨hy.2.2.1, hy.2.2.2, hn⟩ hR
theorem z_pre {D : va_G} {cI : ClassId} {w0 : List va_W} {H : Heap} {av : List Value} (hK : va_K D vwCl (z_tys cI) s) (hN : z_nestOK s) (hP : va_P D vwCl w0.flatten H) (hD : va_D A w0.flatten) (U : State) (hU : U.heap = H) (hW : s.WarmedH U.vm) :
    va_Pc av (fun U => U.heap.size = H.size ∧ va_P D vwCl w0.flatten U.heap ∧ va_K D vwCl (z_tys cI) U ∧ z_nestOK U ∧ va_D (fun _ => True) w0.flatten) av.toArray U :=
  ⟨rfl, by rw [hU], by rw [hU]; exact hP, va_K.moved hW.alike hK, z_nestOK.warm hW hN, hD.weaken (fun _ _ _ _ => trivial)⟩

theorem z_callV (C : ZC p s m args meth c own cc nL ret D cI A) {S : Type} {y : MethodName} {yc : ByteArray} {yL : Nat} {yr : Option FieldType} {rm : Room} {wc wr : List va_W} {rv : S → Option Value} {w1 : S → List va_W} {Q : S → Prop} {As rest : List Value} {idx : Nat} {b ci N : Nat} {T : u_T} {fs : List Value} (hci : vwCl[ci]? = some (y.cls, T, N)) (hrc : wc.flatten[0]? = some (b, .inr (ci, fs))) (hM : ZM l D cI y yc yL yr rm (.ref b :: As) wc rv w1 Q) (hy : zYV y yc yL yr) (hlk : Cond.methodLink own idx y ∈ wsL_law) (hdg : decode cc pc = .ok (.invokevirtual idx, 3)) (hst : st = As.reverse ++ .ref b :: rest) (hn : (parseMethodDescriptor y.desc).map (fun d => d.parameters.length) = some As.length) (hR : rm.frames + 1 ≤ R.frames ∧ 8 + (yL + 11) + rm.locals ≤ R.locals) (hroom : cells + rm.cells ≤ R.cells ∧ slots + rm.slots ≤ R.slots) (hrest : (rest.map fun v => v.category).sum ≤ 8) (hp : bs.Perm (wc ++ wr)) (kk : ∀ u : S, Q u → ZZ p l e R s m args below meth c D A nL (cells + rm.cells) (slots + rm.slots) Qf (w1 u ++ wr) (pc + 3) ls ((rv u).toList ++ rest)) : ZZ p l e R s m args below meth c D A nL cells slots Qf bs pc ls st := by
  intro H locs la hP hD hS hl
  obtain ⟨⟨hx, hb, hml, hown, hts⟩, hK, hN, hA, hlk0, hrt⟩ := C
  subst hst
  refine z_after (a := (Value.ref b :: As).toArray) (mc := rm.cells) (ms := rm.slots) (rest := rest) (w1 := w1) (rv := rv) (Q := Q) hA hp hP hD hS hl (fun hPc hDc => ?_) kk
  exact va_runV ⟨hx, hb, hml, hown, hts⟩ (hM H.size) ⟨z_callB hts hy.1 hlk hn hR, hts _ hy.2.1, hts _ hy.2.2⟩ ⟨z_blind, va_recv hK hPc hci hrc, fun U hU hW => z_pre hK hN hPc hDc U hU hW⟩ rfl rfl hl.1.1 rfl (lv_room hrest) hdg hroom
theorem z_callS (C : ZC p s m args meth c own cc nL ret D cI A) {S : Type} {y : MethodName} {yc : ByteArray} {yL : Nat} {yr : Option FieldType} {rm : Room} {wc wr : List va_W} {rv : S → Option Value} {w1 : S → List va_W} {Q : S → Prop} {As rest : List Value} {idx : Nat} (hM : ZM l D cI y yc yL yr rm As wc rv w1 Q) (hy : zYS y yc yL yr) (hlk : Cond.methodLink own idx y ∈ wsL_law) (hdg : decode cc pc = .ok (.invokestatic idx, 3)) (hst : st = As.reverse ++ rest) (hn : (parseMethodDescriptor y.desc).map (fun d => d.parameters.length) = some As.length) (hR : rm.frames + 1 ≤ R.frames ∧ 8 + (yL + 11) + rm.locals ≤ R.locals) (hroom : cells + rm.cells ≤ R.cells ∧ slots + rm.slots ≤ R.slots) (hrest : (rest.map fun v => v.category).sum ≤ 8) (hp : bs.Perm (wc ++ wr)) (kk : ∀ u : S, Q u → ZZ p l e R s m args below meth c D A nL (cells + rm.cells) (slots + rm.slots) Qf (w1 u ++ wr) (pc + 3) ls ((rv u).toList ++ rest)) : ZZ p l e R s m args below meth c D A nL cells slots Qf bs pc ls st := by
  intro H locs la hP hD hS hl
  obtain ⟨⟨hx, hb, hml, hown, hts⟩, hK, hN, hA, hlk0, hrt⟩ := C
  subst hst
  refine z_after (a := As.toArray) (mc := rm.cells) (ms := rm.slots) (rest := rest) (w1 := w1) (rv := rv) (Q := Q) hA hp hP hD hS hl (fun hPc hDc => ?_) kk
  exact va_runS ⟨hx, hb, hml, hown, hts⟩ (hM H.size) ⟨z_callB hts hy.1 hlk hn hR, hts _ hy.2⟩ ⟨z_blind, fun U hU hW => z_pre hK hN hPc hDc U hU hW⟩ rfl rfl hl.1.1 rfl (lv_room hrest) hdg hroom
theorem z_callSN (C : ZC p s m args meth c own cc nL ret D cI A) {S : Type} {y : MethodName} {yc : ByteArray} {yL : Nat} {yr : Option FieldType} {rm : Room} {wc wr : List va_W} {rv : S → Option Value} {w1 : S → List va_W} {Q : S → Prop} {As rest : List Value} {idx : Nat} {host : String} (hM : ZM l D cI y yc yL yr rm As wc rv w1 Q) (hy : zYS y yc yL yr) (hlk : Cond.methodLinkNest own idx y host ∈ z_nest) (hdg : decode cc pc = .ok (.invokestatic idx, 3)) (hst : st = As.reverse ++ rest) (hn : (parseMethodDescriptor y.desc).map (fun d => d.parameters.length) = some As.length) (hR : rm.frames + 1 ≤ R.frames ∧ 8 + (yL + 11) + rm.locals ≤ R.locals) (hroom : cells + rm.cells ≤ R.cells ∧ slots + rm.slots ≤ R.slots) (hrest : (rest.map fun v => v.category).sum ≤ 8) (hp : bs.Perm (wc ++ wr)) (kk : ∀ u : S, Q u → ZZ p l e R s m args below meth c D A nL (cells + rm.cells) (slots + rm.slots) Qf (w1 u ++ wr) (pc + 3) ls ((rv u).toList ++ rest)) : ZZ p l e R s m args below meth c D A nL cells slots Qf bs pc ls st := by
  intro H locs la hP hD hS hl
  obtain ⟨⟨hx, hb, hml, hown, hts⟩, hK, hN, hA, hlk0, hrt⟩ := C
  subst hst
  refine z_after (a := As.toArray) (mc := rm.cells) (ms := rm.slots) (rest := rest) (w1 := w1) (rv := rv) (Q := Q) hA hp hP hD hS hl (fun hPc hDc => ?_) kk
  exact va_runSN ⟨hx, hb, hml, hown, hts⟩ (hM H.size) ⟨va_cnB As.length hts (z_goodIn hy.1.1) rfl rfl rfl (hN _ hlk) (hts _ hy.1.2.1) ⟨hy.1.2.2.1, hy.1.2.2.2, hn⟩ hR, hts _ hy.2, trivial⟩ ⟨z_blind, fun U hU hW => z_pre hK hN hPc hDc U hU hW⟩ rfl rfl hl.1.1 rfl (lv_room hrest) hdg hroom
theorem z_callI (C : ZC p s m args meth c own cc nL ret D cI A) {S : Type} {y : MethodName} {yc : ByteArray} {yL : Nat} {yr : Option FieldType} {rm : Room} {wc wr : List va_W} {rv : S → Option Value} {w1 : S → List va_W} {Q : S → Prop} {As rest : List Value} {idx : Nat} {b : Nat} (hM : ZM l D cI y yc yL none rm (.ref b :: As) wc rv w1 Q) (hy : zYI y yc yL) (hlk : Cond.methodLink own idx y ∈ wsL_law) (hdg : decode cc pc = .ok (.invokespecial idx, 3)) (hst : st = As.reverse ++ .ref b :: rest) (hn : (parseMethodDescriptor y.desc).map (fun d => d.parameters.length) = some As.length) (hR : rm.frames + 1 ≤ R.frames ∧ 8 + (yL + 11) + rm.locals ≤ R.locals) (hroom : cells + rm.cells ≤ R.cells ∧ slots + rm.slots ≤ R.slots) (hrest : (rest.map fun v => v.category).sum ≤ 8) (hp : bs.Perm (wc ++ wr)) (kk : ∀ u : S, Q u → ZZ p l e R s m args below meth c D A nL (cells + rm.cells) (slots + rm.slots) Qf (w1 u ++ wr) (pc + 3) ls ((rv u).toList ++ rest)) : ZZ p l e R s m args below meth c D A nL cells slots Qf bs pc ls st := by
  intro H locs la hP hD hS hl
  obtain ⟨⟨hx, hb, hml, hown, hts⟩, hK, hN, hA, hlk0, hrt⟩ := C
  subst hst
  refine z_after (a := (Value.ref b :: As).toArray) (mc := rm.cells) (ms := rm.slots) (rest := rest) (w1 := w1) (rv := rv) (Q := Q) hA hp hP hD hS hl (fun hPc hDc => ?_) kk
  exact va_runI ⟨hx, hb, hml, hown, hts⟩ (hM H.size) ⟨z_callB hts hy.1 hlk hn hR, hy.2.2, hts _ hy.2.1⟩ ⟨z_blind, fun U hU hW => z_pre hK hN hPc hDc U hU hW⟩ rfl rfl hl.1.1 rfl (lv_room hrest) hdg hroom
theorem z_mmin (C : ZC p s m args meth c own cc nL ret D cI A) {idx : Nat} (hlk : Cond.methodLink own idx Lib.Math.min.name ∈ wsL_law) (hlk2 : Cond.static Lib.Math.min.name ∈ wsL_law) (hlk3 : Cond.initialized "java/lang/Math" ∈ wsL_law) (hlk4 : Cond.code Lib.Math.min.name Lib.Math.min.code 2 (some .int) ∈ wsL_law) (hfr : 1 ≤ R.frames) (hlo : (st.map fun v => v.category).sum + 13 ≤ R.locals) (hroom : cells ≤ R.cells ∧ slots ≤ R.slots) {x y : Int32} (hdg : decode cc pc = .ok (.invokestatic idx, 3)) (kk : ZZ p l e R s m args below meth c D A nL cells slots Qf bs (pc + 3) ls (.int (if y < x then y else x) :: st)) : ZZ p l e R s m args below meth c D A nL cells slots Qf bs pc ls (.int y :: .int x :: st) := by
  intro H locs la hP hD hS hl
  obtain ⟨⟨hx, hb, hml, hown, hts⟩, hK, hN, hA, hlk0, hrt⟩ := C
  exact va_mmin hx hb (hml.trans hl.1.1.symm) hown (hts _ hlk) (hts _ hlk2) (hts _ hlk3) (hts _ hlk4) hfr hlo hroom.1 hroom.2 hdg (kk H locs la hP hD hS hl)
theorem z_mmax (C : ZC p s m args meth c own cc nL ret D cI A) {idx : Nat} (hlk : Cond.methodLink own idx Lib.Math.max.name ∈ wsL_law) (hlk2 : Cond.static Lib.Math.max.name ∈ wsL_law) (hlk3 : Cond.initialized "java/lang/Math" ∈ wsL_law) (hlk4 : Cond.code Lib.Math.max.name Lib.Math.max.code 2 (some .int) ∈ wsL_law) (hfr : 1 ≤ R.frames) (hlo : (st.map fun v => v.category).sum + 13 ≤ R.locals) (hroom : cells ≤ R.cells ∧ slots ≤ R.slots) {x y : Int32} (hdg : decode cc pc = .ok (.invokestatic idx, 3)) (kk : ZZ p l e R s m args below meth c D A nL cells slots Qf bs (pc + 3) ls (.int (if x < y then y else x) :: st)) : ZZ p l e R s m args below meth c D A nL cells slots Qf bs pc ls (.int y :: .int x :: st) := by
  intro H locs la hP hD hS hl
  obtain ⟨⟨hx, hb, hml, hown, hts⟩, hK, hN, hA, hlk0, hrt⟩ := C
  exact va_mmax hx hb (hml.trans hl.1.1.symm) hown (hts _ hlk) (hts _ hlk2) (hts _ hlk3) (hts _ hlk4) hfr hlo hroom.1 hroom.2 hdg (kk H locs la hP hD hS hl)
theorem z_objInit (C : ZC p s m args meth c own cc nL ret D cI A) {idx b : Nat} {yc : ByteArray} (hlk : Cond.methodLink own idx objectInit ∈ wsL_law) (hlk2 : Cond.instanceMethod objectInit ∈ wsL_law) (hlk3 : Cond.code objectInit ⟨#[0xb1]⟩ 1 none ∈ wsL_law) (hdg : decode cc pc = .ok (.invokespecial idx, 3)) (hfr : 1 ≤ R.frames) (hlo : 12 ≤ R.locals) (kk : ZZ p l e R s m args below meth c D A nL cells slots Qf bs (pc + 3) ls []) : ZZ p l e R s m args below meth c D A nL cells slots Qf bs pc ls [.ref b] := by
  intro H locs la hP hD hS hl
  obtain ⟨⟨hx, hb, hml, hown, hts⟩, hK, hN, hA, hlk0, hrt⟩ := C
  refine W.objInit hx hb hown (hts _ hlk) (hts _ hlk2) (hts _ hlk3) rfl (by rw [hml]; exact hl.1.1) rfl hdg hfr hlo ?_
  exact W.eq (g2 := F0 m (pc + 3) la []) rfl (kk H locs la hP hD hS hl)
theorem z_new (C : ZC p s m args meth c own cc nL ret D cI A) {Cn : String} {T : u_T} {N ci index : Nat} (hin : ∀ w ∈ u_ws Cn T N, w ∈ wsL_law) (hc : vwCl[ci]? = some (Cn, T, N)) (ty : Nat → FieldType) (hty : ∀ k, k < N → parseFieldDescriptor (T k).2.2.1 = some (ty k)) (hlk : Cond.classLink own index Cn ∈ wsL_law) (hlk2 : Cond.instantiable Cn N ∈ wsL_law) (hlk3 : Cond.initialized Cn ∈ wsL_law) (fs : List Value) (hfs : ∀ j, j < N → defaultValue (ty j) = vp_V fs j) (hroom : cells + 1 ≤ R.cells ∧ slots + N ≤ R.slots) (hdg : decode cc pc = .ok (.new index, 3)) (kk : ∀ q : Nat, ZZ p l e R s m args below meth c D A nL (cells + 1) (slots + N) Qf (bs ++ [[(q, .inr (ci, fs))]]) (pc + 3) ls (.ref q :: st)) : ZZ p l e R s m args below meth c D A nL cells slots Qf bs pc ls st := by
  intro H locs la hP hD hS hl
  obtain ⟨⟨hx, hb, hml, hown, hts⟩, hK, hN, hA, hlk0, hrt⟩ := C
  refine va_new hx hb hts hin ty hty hown (hts _ hlk) (hts _ hlk2) (hts _ hlk3) hK hP hD hS hA hc hfs hroom.1 hroom.2 hdg (fun q H1 hP1 hD1 hS1 => ?_)
  refine kk q H1 locs la ?_ ?_ hS1 hl
  · rw [List.flatten_append]; simpa using hP1
  · rw [List.flatten_append]; simpa using hD1
theorem z_newa (C : ZC p s m args meth c own cc nL ret D cI A) (hlk : Cond.arrayClass .int ∈ wsL_law) {n : Int32} (N : Nat) (hn : ¬ n < 0) (hNn : n.toNatClampNeg = N) (hbytes : N * 4 ≤ 536870912) (hroom : cells + 1 ≤ R.cells ∧ slots + N ≤ R.slots) (hdg : decode cc pc = .ok (.newarray .int, 2)) (kk : ∀ q : Nat, ZZ p l e R s m args below meth c D A nL (cells + 1) (slots + N) Qf (bs ++ [[(q, .inl (cI, N, .inl (fun _ => 0)))]]) (pc + 2) ls (.ref q :: st)) : ZZ p l e R s m args below meth c D A nL cells slots Qf bs pc ls (.int n :: st) := by
  intro H locs la hP hD hS hl
  obtain ⟨⟨hx, hb, hml, hown, hts⟩, hK, hN, hA, hlk0, hrt⟩ := C
  refine va_newa (atype := .int) (ty := .int) (a0 := (N, .inl (fun _ => 0))) hx hb (hts _ hlk) rfl hK hP hD hS hA (fun _ => rfl) hn hNn hbytes hroom.1 hroom.2 hdg (fun q cA H1 hK1 hP1 hD1 hS1 => ?_)
  have h1 := (hK.2 0 (cI, .int) rfl).2
  have h2 := (hK1.2 1 (cA, .int) rfl).2
  have h3 : cA = cI := by
    have e1 : s.vm.findClass ("[" ++ FieldType.int.toString) = some cI := h1
    have e2 : s.vm.findClass ("[" ++ FieldType.int.toString) = some cA := h2
    rw [e1] at e2
    exact (Option.some.inj e2).symm
  subst h3
  refine kk q H1 locs la ?_ ?_ hS1 hl
  · rw [List.flatten_append]; simpa using hP1
  · rw [List.flatten_append]; simpa using hD1
theorem z_iret (C : ZC p s m args meth c own cc nL ret D cI A) {S : Type} {rv : S → Option Value} {w1 : S → List va_W} {Q : S → Prop} {v : Int32} (hr0 : ret = some .int) (u : S) (hrv : rv u = some (.int v)) (hQ : Q u) (hbs : bs.flatten = (w1 u).flatten) (hdg : decode cc pc = .ok (.ireturn, 1)) : ZZ p l e R s m args below meth c D A nL cells slots (MQ below (ZQ D A rv w1 Q) args s cells slots A) bs pc ls [.int v] := by
  intro H locs la hP hD hS hl
  obtain ⟨⟨hx, hb, hml, hown, hts⟩, hK, hN, hA, hlk0, hrt⟩ := C
  exact W.iret hx hb (hrt.trans hr0) (fun t ht hW => ⟨⟨u, hrv ▸ rfl, hQ, by rw [ht]; exact hbs ▸ hP, hbs ▸ hD⟩, hS.F ht⟩) hS.2.2 hdg hlk0
theorem z_zret (C : ZC p s m args meth c own cc nL ret D cI A) {S : Type} {rv : S → Option Value} {w1 : S → List va_W} {Q : S → Prop} {v : Int32} (hr0 : ret = some .boolean) (hn : narrow .boolean (.int v) = .int v) (u : S) (hrv : rv u = some (.int v)) (hQ : Q u) (hbs : bs.flatten = (w1 u).flatten) (hdg : decode cc pc = .ok (.ireturn, 1)) : ZZ p l e R s m args below meth c D A nL cells slots (MQ below (ZQ D A rv w1 Q) args s cells slots A) bs pc ls [.int v] := by
  intro H locs la hP hD hS hl
  obtain ⟨⟨hx, hb, hml, hown, hts⟩, hK, hN, hA, hlk0, hrt⟩ := C
  exact W.zret hx hb (hrt.trans hr0) hn (fun t ht hW => ⟨⟨u, hrv ▸ rfl, hQ, by rw [ht]; exact hbs ▸ hP, hbs ▸ hD⟩, hS.F ht⟩) hS.2.2 hdg hlk0
theorem z_aret (C : ZC p s m args meth c own cc nL ret D cI A) {S : Type} {rv : S → Option Value} {w1 : S → List va_W} {Q : S → Prop} {v : Nat} {rt : String} (hr0 : ret = some (.object rt)) (u : S) (hrv : rv u = some (.ref v)) (hQ : Q u) (hbs : bs.flatten = (w1 u).flatten) (hdg : decode cc pc = .ok (.areturn, 1)) : ZZ p l e R s m args below meth c D A nL cells slots (MQ below (ZQ D A rv w1 Q) args s cells slots A) bs pc ls [.ref v] := by
  intro H locs la hP hD hS hl
  obtain ⟨⟨hx, hb, hml, hown, hts⟩, hK, hN, hA, hlk0, hrt⟩ := C
  exact W.aret hx hb (hrt.trans hr0) (Or.inl ⟨_, rfl⟩) (Or.inr ⟨_, rfl⟩) (fun t ht hW => ⟨⟨u, hrv ▸ rfl, hQ, by rw [ht]; exact hbs ▸ hP, hbs ▸ hD⟩, hS.F ht⟩) hS.2.2 hdg hlk0
theorem z_vret (C : ZC p s m args meth c own cc nL ret D cI A) {S : Type} {rv : S → Option Value} {w1 : S → List va_W} {Q : S → Prop} (hr0 : ret = none) (u : S) (hrv : rv u = none) (hQ : Q u) (hbs : bs.flatten = (w1 u).flatten) (hdg : decode cc pc = .ok (.return_, 1)) : ZZ p l e R s m args below meth c D A nL cells slots (MQ below (ZQ D A rv w1 Q) args s cells slots A) bs pc ls [] := by
  intro H locs la hP hD hS hl
  obtain ⟨⟨hx, hb, hml, hown, hts⟩, hK, hN, hA, hlk0, hrt⟩ := C
  exact W.vret hx hb (hrt.trans hr0) (fun t ht hW => ⟨⟨u, hrv ▸ rfl, hQ, by rw [ht]; exact hbs ▸ hP, hbs ▸ hD⟩, hS.F ht⟩) hS.2.2 hdg hlk0
end ZCALL
def zIter1 {A1 : Type} (B : (A1 → Prop) → A1 → Prop) : Nat → A1 → Prop
  | 0, _ => False
  | n + 1, x1 => B (zIter1 B n) x1
def zLoop1 {A1 : Type} (B : (A1 → Prop) → A1 → Prop) (x1 : A1) : Prop := ∃ n : Nat, zIter1 B n x1
theorem zLoop1_w {A1 : Type} {B : (A1 → Prop) → A1 → Prop} (P : A1 → Prop) (h : ∀ K : A1 → Prop, (∀ (x1 : A1), K x1 → P x1) → ∀ (x1 : A1), B K x1 → P x1) : ∀ (x1 : A1), zLoop1 B x1 → P x1 := by
  have key : ∀ (n : Nat) (x1 : A1), zIter1 B n x1 → P x1 := by
    intro n
    induction n with
    | zero => intro x1 h0; exact absurd h0 (by simp [zIter1])
    | succ n ih => intro x1 h0; exact h _ ih x1 h0
  intro x1 ⟨n, hn⟩
  exact key n x1 hn
theorem zLoop1_i {A1 : Type} {B : (A1 → Prop) → A1 → Prop} (I : A1 → Prop) (μ : A1 → Nat) (h : ∀ (K : A1 → Prop) (x1 : A1), I x1 → (∀ (y1 : A1), I y1 → μ y1 < μ x1 → K y1) → B K x1) : ∀ (x1 : A1), I x1 → zLoop1 B x1 := by
  have key : ∀ (n : Nat) (x1 : A1), I x1 → μ x1 < n → zIter1 B n x1 := by
    intro n
    induction n with
    | zero => intro x1 _ h1; exact absurd h1 (Nat.not_lt_zero _)
    | succ n ih => intro x1 h0 h1; exact h _ x1 h0 (fun y1 h2 h3 => ih y1 h2 (by omega))
  intro x1 h0
  exact ⟨μ x1 + 1, key _ x1 h0 (Nat.lt_succ_self _)⟩
def zIter2 {A1 A2 : Type} (B : (A1 → A2 → Prop) → A1 → A2 → Prop) : Nat → A1 → A2 → Prop
  | 0, _, _ => False
  | n + 1, x1, x2 => B (zIter2 B n) x1 x2
def zLoop2 {A1 A2 : Type} (B : (A1 → A2 → Prop) → A1 → A2 → Prop) (x1 : A1) (x2 : A2) : Prop := ∃ n : Nat, zIter2 B n x1 x2
theorem zLoop2_w {A1 A2 : Type} {B : (A1 → A2 → Prop) → A1 → A2 → Prop} (P : A1 → A2 → Prop) (h : ∀ K : A1 → A2 → Prop, (∀ (x1 : A1) (x2 : A2), K x1 x2 → P x1 x2) → ∀ (x1 : A1) (x2 : A2), B K x1 x2 → P x1 x2) : ∀ (x1 : A1) (x2 : A2), zLoop2 B x1 x2 → P x1 x2 := by
  have key : ∀ (n : Nat) (x1 : A1) (x2 : A2), zIter2 B n x1 x2 → P x1 x2 := by
    intro n
    induction n with
    | zero => intro x1 x2 h0; exact absurd h0 (by simp [zIter2])
    | succ n ih => intro x1 x2 h0; exact h _ ih x1 x2 h0
  intro x1 x2 ⟨n, hn⟩
  exact key n x1 x2 hn
theorem zLoop2_i {A1 A2 : Type} {B : (A1 → A2 → Prop) → A1 → A2 → Prop} (I : A1 → A2 → Prop) (μ : A1 → A2 → Nat) (h : ∀ (K : A1 → A2 → Prop) (x1 : A1) (x2 : A2), I x1 x2 → (∀ (y1 : A1) (y2 : A2), I y1 y2 → μ y1 y2 < μ x1 x2 → K y1 y2) → B K x1 x2) : ∀ (x1 : A1) (x2 : A2), I x1 x2 → zLoop2 B x1 x2 := by
  have key : ∀ (n : Nat) (x1 : A1) (x2 : A2), I x1 x2 → μ x1 x2 < n → zIter2 B n x1 x2 := by
    intro n
    induction n with
    | zero => intro x1 x2 _ h1; exact absurd h1 (Nat.not_lt_zero _)
    | succ n ih => intro x1 x2 h0 h1; exact h _ x1 x2 h0 (fun y1 y2 h2 h3 => ih y1 y2 h2 (by omega))
  intro x1 x2 h0
  exact ⟨μ x1 x2 + 1, key _ x1 x2 h0 (Nat.lt_succ_self _)⟩
def zIter3 {A1 A2 A3 : Type} (B : (A1 → A2 → A3 → Prop) → A1 → A2 → A3 → Prop) : Nat → A1 → A2 → A3 → Prop
  | 0, _, _, _ => False
  | n + 1, x1, x2, x3 => B (zIter3 B n) x1 x2 x3
def zLoop3 {A1 A2 A3 : Type} (B : (A1 → A2 → A3 → Prop) → A1 → A2 → A3 → Prop) (x1 : A1) (x2 : A2) (x3 : A3) : Prop := ∃ n : Nat, zIter3 B n x1 x2 x3
theorem zLoop3_w {A1 A2 A3 : Type} {B : (A1 → A2 → A3 → Prop) → A1 → A2 → A3 → Prop} (P : A1 → A2 → A3 → Prop) (h : ∀ K : A1 → A2 → A3 → Prop, (∀ (x1 : A1) (x2 : A2) (x3 : A3), K x1 x2 x3 → P x1 x2 x3) → ∀ (x1 : A1) (x2 : A2) (x3 : A3), B K x1 x2 x3 → P x1 x2 x3) : ∀ (x1 : A1) (x2 : A2) (x3 : A3), zLoop3 B x1 x2 x3 → P x1 x2 x3 := by
  have key : ∀ (n : Nat) (x1 : A1) (x2 : A2) (x3 : A3), zIter3 B n x1 x2 x3 → P x1 x2 x3 := by
    intro n
    induction n with
    | zero => intro x1 x2 x3 h0; exact absurd h0 (by simp [zIter3])
    | succ n ih => intro x1 x2 x3 h0; exact h _ ih x1 x2 x3 h0
  intro x1 x2 x3 ⟨n, hn⟩
  exact key n x1 x2 x3 hn
theorem zLoop3_i {A1 A2 A3 : Type} {B : (A1 → A2 → A3 → Prop) → A1 → A2 → A3 → Prop} (I : A1 → A2 → A3 → Prop) (μ : A1 → A2 → A3 → Nat) (h : ∀ (K : A1 → A2 → A3 → Prop) (x1 : A1) (x2 : A2) (x3 : A3), I x1 x2 x3 → (∀ (y1 : A1) (y2 : A2) (y3 : A3), I y1 y2 y3 → μ y1 y2 y3 < μ x1 x2 x3 → K y1 y2 y3) → B K x1 x2 x3) : ∀ (x1 : A1) (x2 : A2) (x3 : A3), I x1 x2 x3 → zLoop3 B x1 x2 x3 := by
  have key : ∀ (n : Nat) (x1 : A1) (x2 : A2) (x3 : A3), I x1 x2 x3 → μ x1 x2 x3 < n → zIter3 B n x1 x2 x3 := by
    intro n
    induction n with
    | zero => intro x1 x2 x3 _ h1; exact absurd h1 (Nat.not_lt_zero _)
    | succ n ih => intro x1 x2 x3 h0 h1; exact h _ x1 x2 x3 h0 (fun y1 y2 y3 h2 h3 => ih y1 y2 y3 h2 (by omega))
  intro x1 x2 x3 h0
  exact ⟨μ x1 x2 x3 + 1, key _ x1 x2 x3 h0 (Nat.lt_succ_self _)⟩
def zIter4 {A1 A2 A3 A4 : Type} (B : (A1 → A2 → A3 → A4 → Prop) → A1 → A2 → A3 → A4 → Prop) : Nat → A1 → A2 → A3 → A4 → Prop
  | 0, _, _, _, _ => False
  | n + 1, x1, x2, x3, x4 => B (zIter4 B n) x1 x2 x3 x4
def zLoop4 {A1 A2 A3 A4 : Type} (B : (A1 → A2 → A3 → A4 → Prop) → A1 → A2 → A3 → A4 → Prop) (x1 : A1) (x2 : A2) (x3 : A3) (x4 : A4) : Prop := ∃ n : Nat, zIter4 B n x1 x2 x3 x4
theorem zLoop4_w {A1 A2 A3 A4 : Type} {B : (A1 → A2 → A3 → A4 → Prop) → A1 → A2 → A3 → A4 → Prop} (P : A1 → A2 → A3 → A4 → Prop) (h : ∀ K : A1 → A2 → A3 → A4 → Prop, (∀ (x1 : A1) (x2 : A2) (x3 : A3) (x4 : A4), K x1 x2 x3 x4 → P x1 x2 x3 x4) → ∀ (x1 : A1) (x2 : A2) (x3 : A3) (x4 : A4), B K x1 x2 x3 x4 → P x1 x2 x3 x4) : ∀ (x1 : A1) (x2 : A2) (x3 : A3) (x4 : A4), zLoop4 B x1 x2 x3 x4 → P x1 x2 x3 x4 := by
  have key : ∀ (n : Nat) (x1 : A1) (x2 : A2) (x3 : A3) (x4 : A4), zIter4 B n x1 x2 x3 x4 → P x1 x2 x3 x4 := by
    intro n
    induction n with
    | zero => intro x1 x2 x3 x4 h0; exact absurd h0 (by simp [zIter4])
    | succ n ih => intro x1 x2 x3 x4 h0; exact h _ ih x1 x2 x3 x4 h0
  intro x1 x2 x3 x4 ⟨n, hn⟩
  exact key n x1 x2 x3 x4 hn
theorem zLoop4_i {A1 A2 A3 A4 : Type} {B : (A1 → A2 → A3 → A4 → Prop) → A1 → A2 → A3 → A4 → Prop} (I : A1 → A2 → A3 → A4 → Prop) (μ : A1 → A2 → A3 → A4 → Nat) (h : ∀ (K : A1 → A2 → A3 → A4 → Prop) (x1 : A1) (x2 : A2) (x3 : A3) (x4 : A4), I x1 x2 x3 x4 → (∀ (y1 : A1) (y2 : A2) (y3 : A3) (y4 : A4), I y1 y2 y3 y4 → μ y1 y2 y3 y4 < μ x1 x2 x3 x4 → K y1 y2 y3 y4) → B K x1 x2 x3 x4) : ∀ (x1 : A1) (x2 : A2) (x3 : A3) (x4 : A4), I x1 x2 x3 x4 → zLoop4 B x1 x2 x3 x4 := by
  have key : ∀ (n : Nat) (x1 : A1) (x2 : A2) (x3 : A3) (x4 : A4), I x1 x2 x3 x4 → μ x1 x2 x3 x4 < n → zIter4 B n x1 x2 x3 x4 := by
    intro n
    induction n with
    | zero => intro x1 x2 x3 x4 _ h1; exact absurd h1 (Nat.not_lt_zero _)
    | succ n ih => intro x1 x2 x3 x4 h0 h1; exact h _ x1 x2 x3 x4 h0 (fun y1 y2 y3 y4 h2 h3 => ih y1 y2 y3 y4 h2 (by omega))
  intro x1 x2 x3 x4 h0
  exact ⟨μ x1 x2 x3 x4 + 1, key _ x1 x2 x3 x4 h0 (Nat.lt_succ_self _)⟩
def zIter5 {A1 A2 A3 A4 A5 : Type} (B : (A1 → A2 → A3 → A4 → A5 → Prop) → A1 → A2 → A3 → A4 → A5 → Prop) : Nat → A1 → A2 → A3 → A4 → A5 → Prop
  | 0, _, _, _, _, _ => False
  | n + 1, x1, x2, x3, x4, x5 => B (zIter5 B n) x1 x2 x3 x4 x5
def zLoop5 {A1 A2 A3 A4 A5 : Type} (B : (A1 → A2 → A3 → A4 → A5 → Prop) → A1 → A2 → A3 → A4 → A5 → Prop) (x1 : A1) (x2 : A2) (x3 : A3) (x4 : A4) (x5 : A5) : Prop := ∃ n : Nat, zIter5 B n x1 x2 x3 x4 x5
theorem zLoop5_w {A1 A2 A3 A4 A5 : Type} {B : (A1 → A2 → A3 → A4 → A5 → Prop) → A1 → A2 → A3 → A4 → A5 → Prop} (P : A1 → A2 → A3 → A4 → A5 → Prop) (h : ∀ K : A1 → A2 → A3 → A4 → A5 → Prop, (∀ (x1 : A1) (x2 : A2) (x3 : A3) (x4 : A4) (x5 : A5), K x1 x2 x3 x4 x5 → P x1 x2 x3 x4 x5) → ∀ (x1 : A1) (x2 : A2) (x3 : A3) (x4 : A4) (x5 : A5), B K x1 x2 x3 x4 x5 → P x1 x2 x3 x4 x5) : ∀ (x1 : A1) (x2 : A2) (x3 : A3) (x4 : A4) (x5 : A5), zLoop5 B x1 x2 x3 x4 x5 → P x1 x2 x3 x4 x5 := by
  have key : ∀ (n : Nat) (x1 : A1) (x2 : A2) (x3 : A3) (x4 : A4) (x5 : A5), zIter5 B n x1 x2 x3 x4 x5 → P x1 x2 x3 x4 x5 := by
    intro n
    induction n with
    | zero => intro x1 x2 x3 x4 x5 h0; exact absurd h0 (by simp [zIter5])
    | succ n ih => intro x1 x2 x3 x4 x5 h0; exact h _ ih x1 x2 x3 x4 x5 h0
  intro x1 x2 x3 x4 x5 ⟨n, hn⟩
  exact key n x1 x2 x3 x4 x5 hn
theorem zLoop5_i {A1 A2 A3 A4 A5 : Type} {B : (A1 → A2 → A3 → A4 → A5 → Prop) → A1 → A2 → A3 → A4 → A5 → Prop} (I : A1 → A2 → A3 → A4 → A5 → Prop) (μ : A1 → A2 → A3 → A4 → A5 → Nat) (h : ∀ (K : A1 → A2 → A3 → A4 → A5 → Prop) (x1 : A1) (x2 : A2) (x3 : A3) (x4 : A4) (x5 : A5), I x1 x2 x3 x4 x5 → (∀ (y1 : A1) (y2 : A2) (y3 : A3) (y4 : A4) (y5 : A5), I y1 y2 y3 y4 y5 → μ y1 y2 y3 y4 y5 < μ x1 x2 x3 x4 x5 → K y1 y2 y3 y4 y5) → B K x1 x2 x3 x4 x5) : ∀ (x1 : A1) (x2 : A2) (x3 : A3) (x4 : A4) (x5 : A5), I x1 x2 x3 x4 x5 → zLoop5 B x1 x2 x3 x4 x5 := by
  have key : ∀ (n : Nat) (x1 : A1) (x2 : A2) (x3 : A3) (x4 : A4) (x5 : A5), I x1 x2 x3 x4 x5 → μ x1 x2 x3 x4 x5 < n → zIter5 B n x1 x2 x3 x4 x5 := by
    intro n
    induction n with
    | zero => intro x1 x2 x3 x4 x5 _ h1; exact absurd h1 (Nat.not_lt_zero _)
    | succ n ih => intro x1 x2 x3 x4 x5 h0 h1; exact h _ x1 x2 x3 x4 x5 h0 (fun y1 y2 y3 y4 y5 h2 h3 => ih y1 y2 y3 y4 y5 h2 (by omega))
  intro x1 x2 x3 x4 x5 h0
  exact ⟨μ x1 x2 x3 x4 x5 + 1, key _ x1 x2 x3 x4 x5 h0 (Nat.lt_succ_self _)⟩
def zIter6 {A1 A2 A3 A4 A5 A6 : Type} (B : (A1 → A2 → A3 → A4 → A5 → A6 → Prop) → A1 → A2 → A3 → A4 → A5 → A6 → Prop) : Nat → A1 → A2 → A3 → A4 → A5 → A6 → Prop
  | 0, _, _, _, _, _, _ => False
  | n + 1, x1, x2, x3, x4, x5, x6 => B (zIter6 B n) x1 x2 x3 x4 x5 x6
def zLoop6 {A1 A2 A3 A4 A5 A6 : Type} (B : (A1 → A2 → A3 → A4 → A5 → A6 → Prop) → A1 → A2 → A3 → A4 → A5 → A6 → Prop) (x1 : A1) (x2 : A2) (x3 : A3) (x4 : A4) (x5 : A5) (x6 : A6) : Prop := ∃ n : Nat, zIter6 B n x1 x2 x3 x4 x5 x6
theorem zLoop6_w {A1 A2 A3 A4 A5 A6 : Type} {B : (A1 → A2 → A3 → A4 → A5 → A6 → Prop) → A1 → A2 → A3 → A4 → A5 → A6 → Prop} (P : A1 → A2 → A3 → A4 → A5 → A6 → Prop) (h : ∀ K : A1 → A2 → A3 → A4 → A5 → A6 → Prop, (∀ (x1 : A1) (x2 : A2) (x3 : A3) (x4 : A4) (x5 : A5) (x6 : A6), K x1 x2 x3 x4 x5 x6 → P x1 x2 x3 x4 x5 x6) → ∀ (x1 : A1) (x2 : A2) (x3 : A3) (x4 : A4) (x5 : A5) (x6 : A6), B K x1 x2 x3 x4 x5 x6 → P x1 x2 x3 x4 x5 x6) : ∀ (x1 : A1) (x2 : A2) (x3 : A3) (x4 : A4) (x5 : A5) (x6 : A6), zLoop6 B x1 x2 x3 x4 x5 x6 → P x1 x2 x3 x4 x5 x6 := by
  have key : ∀ (n : Nat) (x1 : A1) (x2 : A2) (x3 : A3) (x4 : A4) (x5 : A5) (x6 : A6), zIter6 B n x1 x2 x3 x4 x5 x6 → P x1 x2 x3 x4 x5 x6 := by
    intro n
    induction n with
    | zero => intro x1 x2 x3 x4 x5 x6 h0; exact absurd h0 (by simp [zIter6])
    | succ n ih => intro x1 x2 x3 x4 x5 x6 h0; exact h _ ih x1 x2 x3 x4 x5 x6 h0
  intro x1 x2 x3 x4 x5 x6 ⟨n, hn⟩
  exact key n x1 x2 x3 x4 x5 x6 hn
theorem zLoop6_i {A1 A2 A3 A4 A5 A6 : Type} {B : (A1 → A2 → A3 → A4 → A5 → A6 → Prop) → A1 → A2 → A3 → A4 → A5 → A6 → Prop} (I : A1 → A2 → A3 → A4 → A5 → A6 → Prop) (μ : A1 → A2 → A3 → A4 → A5 → A6 → Nat) (h : ∀ (K : A1 → A2 → A3 → A4 → A5 → A6 → Prop) (x1 : A1) (x2 : A2) (x3 : A3) (x4 : A4) (x5 : A5) (x6 : A6), I x1 x2 x3 x4 x5 x6 → (∀ (y1 : A1) (y2 : A2) (y3 : A3) (y4 : A4) (y5 : A5) (y6 : A6), I y1 y2 y3 y4 y5 y6 → μ y1 y2 y3 y4 y5 y6 < μ x1 x2 x3 x4 x5 x6 → K y1 y2 y3 y4 y5 y6) → B K x1 x2 x3 x4 x5 x6) : ∀ (x1 : A1) (x2 : A2) (x3 : A3) (x4 : A4) (x5 : A5) (x6 : A6), I x1 x2 x3 x4 x5 x6 → zLoop6 B x1 x2 x3 x4 x5 x6 := by
  have key : ∀ (n : Nat) (x1 : A1) (x2 : A2) (x3 : A3) (x4 : A4) (x5 : A5) (x6 : A6), I x1 x2 x3 x4 x5 x6 → μ x1 x2 x3 x4 x5 x6 < n → zIter6 B n x1 x2 x3 x4 x5 x6 := by
    intro n
    induction n with
    | zero => intro x1 x2 x3 x4 x5 x6 _ h1; exact absurd h1 (Nat.not_lt_zero _)
    | succ n ih => intro x1 x2 x3 x4 x5 x6 h0 h1; exact h _ x1 x2 x3 x4 x5 x6 h0 (fun y1 y2 y3 y4 y5 y6 h2 h3 => ih y1 y2 y3 y4 y5 y6 h2 (by omega))
  intro x1 x2 x3 x4 x5 x6 h0
  exact ⟨μ x1 x2 x3 x4 x5 x6 + 1, key _ x1 x2 x3 x4 x5 x6 h0 (Nat.lt_succ_self _)⟩
end
