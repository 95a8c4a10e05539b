theorem dX7_init_0 : decode cX7_init 0 = .ok (.aload_n 0, 1) := by decide +kernel
theorem dX7_init_1 : decode cX7_init 1 = .ok (.invokespecial 1, 3) := by decide +kernel
theorem dX7_init_4 : decode cX7_init 4 = .ok (.aload_n 0, 1) := by decide +kernel
theorem dX7_init_5 : decode cX7_init 5 = .ok (.sipush 445, 3) := by decide +kernel
theorem dX7_init_8 : decode cX7_init 8 = .ok (.newarray .int, 2) := by decide +kernel
theorem dX7_init_10 : decode cX7_init 10 = .ok (.putfield 7, 3) := by decide +kernel
theorem dX7_init_13 : decode cX7_init 13 = .ok (.aload_n 0, 1) := by decide +kernel
theorem dX7_init_14 : decode cX7_init 14 = .ok (.sipush 445, 3) := by decide +kernel
theorem dX7_init_17 : decode cX7_init 17 = .ok (.newarray .int, 2) := by decide +kernel
theorem dX7_init_19 : decode cX7_init 19 = .ok (.putfield 13, 3) := by decide +kernel
theorem dX7_init_22 : decode cX7_init 22 = .ok (.aload_n 0, 1) := by decide +kernel
theorem dX7_init_23 : decode cX7_init 23 = .ok (.sipush 1780, 3) := by decide +kernel
theorem dX7_init_26 : decode cX7_init 26 = .ok (.newarray .int, 2) := by decide +kernel
theorem dX7_init_28 : decode cX7_init 28 = .ok (.putfield 16, 3) := by decide +kernel
theorem dX7_init_31 : decode cX7_init 31 = .ok (.aload_n 0, 1) := by decide +kernel
theorem dX7_init_32 : decode cX7_init 32 = .ok (.bipush 60, 2) := by decide +kernel
theorem dX7_init_34 : decode cX7_init 34 = .ok (.newarray .int, 2) := by decide +kernel
theorem dX7_init_36 : decode cX7_init 36 = .ok (.putfield 19, 3) := by decide +kernel
theorem dX7_init_39 : decode cX7_init 39 = .ok (.aload_n 0, 1) := by decide +kernel
theorem dX7_init_40 : decode cX7_init 40 = .ok (.bipush 96, 2) := by decide +kernel
theorem dX7_init_42 : decode cX7_init 42 = .ok (.newarray .int, 2) := by decide +kernel
theorem dX7_init_44 : decode cX7_init 44 = .ok (.putfield 22, 3) := by decide +kernel
theorem dX7_init_47 : decode cX7_init 47 = .ok (.aload_n 0, 1) := by decide +kernel
theorem dX7_init_48 : decode cX7_init 48 = .ok (.bipush 96, 2) := by decide +kernel
theorem dX7_init_50 : decode cX7_init 50 = .ok (.newarray .int, 2) := by decide +kernel
theorem dX7_init_52 : decode cX7_init 52 = .ok (.putfield 25, 3) := by decide +kernel
theorem dX7_init_55 : decode cX7_init 55 = .ok (.aload_n 0, 1) := by decide +kernel
theorem dX7_init_56 : decode cX7_init 56 = .ok (.bipush 96, 2) := by decide +kernel
theorem dX7_init_58 : decode cX7_init 58 = .ok (.newarray .int, 2) := by decide +kernel
theorem dX7_init_60 : decode cX7_init 60 = .ok (.putfield 28, 3) := by decide +kernel
theorem dX7_init_63 : decode cX7_init 63 = .ok (.aload_n 0, 1) := by decide +kernel
theorem dX7_init_64 : decode cX7_init 64 = .ok (.iconst 4, 1) := by decide +kernel
theorem dX7_init_65 : decode cX7_init 65 = .ok (.newarray .int, 2) := by decide +kernel
theorem dX7_init_67 : decode cX7_init 67 = .ok (.putfield 31, 3) := by decide +kernel
theorem dX7_init_70 : decode cX7_init 70 = .ok (.aload_n 0, 1) := by decide +kernel
theorem dX7_init_71 : decode cX7_init 71 = .ok (.getfield 7, 3) := by decide +kernel
theorem dX7_init_74 : decode cX7_init 74 = .ok (.iconst 0, 1) := by decide +kernel
theorem dX7_init_75 : decode cX7_init 75 = .ok (.iconst 0, 1) := by decide +kernel
theorem dX7_init_76 : decode cX7_init 76 = .ok (.iastore, 1) := by decide +kernel
theorem dX7_init_77 : decode cX7_init 77 = .ok (.return_, 1) := by decide +kernel
theorem dX7_in_0 : decode cX7_in 0 = .ok (.iload_n 0, 1) := by decide +kernel
theorem dX7_in_1 : decode cX7_in 1 = .ok (.iload_n 1, 1) := by decide +kernel
theorem dX7_in_2 : decode cX7_in 2 = .ok (.if_icmp .lt 12, 3) := by decide +kernel
theorem dX7_in_5 : decode cX7_in 5 = .ok (.iload_n 0, 1) := by decide +kernel
theorem dX7_in_6 : decode cX7_in 6 = .ok (.iload_n 2, 1) := by decide +kernel
theorem dX7_in_7 : decode cX7_in 7 = .ok (.if_icmp .gt 7, 3) := by decide +kernel
theorem dX7_in_10 : decode cX7_in 10 = .ok (.iconst 1, 1) := by decide +kernel
theorem dX7_in_11 : decode cX7_in 11 = .ok (.goto 4, 3) := by decide +kernel
theorem dX7_in_14 : decode cX7_in 14 = .ok (.iconst 0, 1) := by decide +kernel
theorem dX7_in_15 : decode cX7_in 15 = .ok (.ireturn, 1) := by decide +kernel
theorem dX7_isEditor_0 : decode cX7_isEditor 0 = .ok (.iload_n 0, 1) := by decide +kernel
theorem dX7_isEditor_1 : decode cX7_isEditor 1 = .ok (.iconst 0, 1) := by decide +kernel
theorem dX7_isEditor_2 : decode cX7_isEditor 2 = .ok (.iconst 2, 1) := by decide +kernel
theorem dX7_isEditor_3 : decode cX7_isEditor 3 = .ok (.invokestatic 34, 3) := by decide +kernel
theorem dX7_isEditor_6 : decode cX7_isEditor 6 = .ok (.ireturn, 1) := by decide +kernel
theorem dX7_of_0 : decode cX7_of 0 = .ok (.bipush 97, 2) := by decide +kernel
theorem dX7_of_2 : decode cX7_of 2 = .ok (.bipush 116, 2) := by decide +kernel
theorem dX7_of_4 : decode cX7_of 4 = .ok (.iload_n 0, 1) := by decide +kernel
theorem dX7_of_5 : decode cX7_of 5 = .ok (.imul, 1) := by decide +kernel
theorem dX7_of_6 : decode cX7_of 6 = .ok (.iadd, 1) := by decide +kernel
theorem dX7_of_7 : decode cX7_of 7 = .ok (.iload_n 1, 1) := by decide +kernel
theorem dX7_of_8 : decode cX7_of 8 = .ok (.iadd, 1) := by decide +kernel
theorem dX7_of_9 : decode cX7_of 9 = .ok (.ireturn, 1) := by decide +kernel
theorem dX7_know_0 : decode cX7_know 0 = .ok (.aload_n 0, 1) := by decide +kernel
theorem dX7_know_1 : decode cX7_know 1 = .ok (.getfield 38, 3) := by decide +kernel
theorem dX7_know_4 : decode cX7_know 4 = .ok (.iconst 4, 1) := by decide +kernel
theorem dX7_know_5 : decode cX7_know 5 = .ok (.if_icmp .ne 44, 3) := by decide +kernel
theorem dX7_know_8 : decode cX7_know 8 = .ok (.iconst 0, 1) := by decide +kernel
theorem dX7_know_9 : decode cX7_know 9 = .ok (.istore_n 1, 1) := by decide +kernel
theorem dX7_know_10 : decode cX7_know 10 = .ok (.iload_n 1, 1) := by decide +kernel
theorem dX7_know_11 : decode cX7_know 11 = .ok (.sipush 1335, 3) := by decide +kernel
theorem dX7_know_14 : decode cX7_know 14 = .ok (.if_icmp .ge 25, 3) := by decide +kernel
theorem dX7_know_17 : decode cX7_know 17 = .ok (.aload_n 0, 1) := by decide +kernel
theorem dX7_know_18 : decode cX7_know 18 = .ok (.getfield 16, 3) := by decide +kernel
theorem dX7_know_21 : decode cX7_know 21 = .ok (.iload_n 1, 1) := by decide +kernel
theorem dX7_know_22 : decode cX7_know 22 = .ok (.aload_n 0, 1) := by decide +kernel
theorem dX7_know_23 : decode cX7_know 23 = .ok (.getfield 16, 3) := by decide +kernel
theorem dX7_know_26 : decode cX7_know 26 = .ok (.sipush 445, 3) := by decide +kernel
theorem dX7_know_29 : decode cX7_know 29 = .ok (.iload_n 1, 1) := by decide +kernel
theorem dX7_know_30 : decode cX7_know 30 = .ok (.iadd, 1) := by decide +kernel
theorem dX7_know_31 : decode cX7_know 31 = .ok (.iaload, 1) := by decide +kernel
theorem dX7_know_32 : decode cX7_know 32 = .ok (.iastore, 1) := by decide +kernel
theorem dX7_know_33 : decode cX7_know 33 = .ok (.iinc 1 1, 3) := by decide +kernel
theorem dX7_know_36 : decode cX7_know 36 = .ok (.goto (-26), 3) := by decide +kernel
theorem dX7_know_39 : decode cX7_know 39 = .ok (.aload_n 0, 1) := by decide +kernel
theorem dX7_know_40 : decode cX7_know 40 = .ok (.dup, 1) := by decide +kernel
theorem dX7_know_41 : decode cX7_know 41 = .ok (.getfield 38, 3) := by decide +kernel
theorem dX7_know_44 : decode cX7_know 44 = .ok (.iconst 1, 1) := by decide +kernel
theorem dX7_know_45 : decode cX7_know 45 = .ok (.isub, 1) := by decide +kernel
theorem dX7_know_46 : decode cX7_know 46 = .ok (.putfield 38, 3) := by decide +kernel
theorem dX7_know_49 : decode cX7_know 49 = .ok (.iconst 0, 1) := by decide +kernel
theorem dX7_know_50 : decode cX7_know 50 = .ok (.istore_n 1, 1) := by decide +kernel
theorem dX7_know_51 : decode cX7_know 51 = .ok (.iload_n 1, 1) := by decide +kernel
theorem dX7_know_52 : decode cX7_know 52 = .ok (.sipush 445, 3) := by decide +kernel
theorem dX7_know_55 : decode cX7_know 55 = .ok (.if_icmp .ge 30, 3) := by decide +kernel
theorem dX7_know_58 : decode cX7_know 58 = .ok (.aload_n 0, 1) := by decide +kernel
theorem dX7_know_59 : decode cX7_know 59 = .ok (.getfield 16, 3) := by decide +kernel
theorem dX7_know_62 : decode cX7_know 62 = .ok (.sipush 445, 3) := by decide +kernel
theorem dX7_know_65 : decode cX7_know 65 = .ok (.aload_n 0, 1) := by decide +kernel
theorem dX7_know_66 : decode cX7_know 66 = .ok (.getfield 38, 3) := by decide +kernel
theorem dX7_know_69 : decode cX7_know 69 = .ok (.imul, 1) := by decide +kernel
theorem dX7_know_70 : decode cX7_know 70 = .ok (.iload_n 1, 1) := by decide +kernel
theorem dX7_know_71 : decode cX7_know 71 = .ok (.iadd, 1) := by decide +kernel
theorem dX7_know_72 : decode cX7_know 72 = .ok (.aload_n 0, 1) := by decide +kernel
theorem dX7_know_73 : decode cX7_know 73 = .ok (.getfield 7, 3) := by decide +kernel
theorem dX7_know_76 : decode cX7_know 76 = .ok (.iload_n 1, 1) := by decide +kernel
theorem dX7_know_77 : decode cX7_know 77 = .ok (.iaload, 1) := by decide +kernel
theorem dX7_know_78 : decode cX7_know 78 = .ok (.iastore, 1) := by decide +kernel
theorem dX7_know_79 : decode cX7_know 79 = .ok (.iinc 1 1, 3) := by decide +kernel
theorem dX7_know_82 : decode cX7_know 82 = .ok (.goto (-31), 3) := by decide +kernel
theorem dX7_know_85 : decode cX7_know 85 = .ok (.aload_n 0, 1) := by decide +kernel
theorem dX7_know_86 : decode cX7_know 86 = .ok (.dup, 1) := by decide +kernel
theorem dX7_know_87 : decode cX7_know 87 = .ok (.getfield 38, 3) := by decide +kernel
theorem dX7_know_90 : decode cX7_know 90 = .ok (.iconst 1, 1) := by decide +kernel
theorem dX7_know_91 : decode cX7_know 91 = .ok (.iadd, 1) := by decide +kernel
theorem dX7_know_92 : decode cX7_know 92 = .ok (.putfield 38, 3) := by decide +kernel
theorem dX7_know_95 : decode cX7_know 95 = .ok (.return_, 1) := by decide +kernel
theorem dX7_putAside_0 : decode cX7_putAside 0 = .ok (.iconst 0, 1) := by decide +kernel
theorem dX7_putAside_1 : decode cX7_putAside 1 = .ok (.istore_n 1, 1) := by decide +kernel
theorem dX7_putAside_2 : decode cX7_putAside 2 = .ok (.iload_n 1, 1) := by decide +kernel
theorem dX7_putAside_3 : decode cX7_putAside 3 = .ok (.sipush 445, 3) := by decide +kernel
theorem dX7_putAside_6 : decode cX7_putAside 6 = .ok (.if_icmp .ge 21, 3) := by decide +kernel
theorem dX7_putAside_9 : decode cX7_putAside 9 = .ok (.aload_n 0, 1) := by decide +kernel
theorem dX7_putAside_10 : decode cX7_putAside 10 = .ok (.getfield 13, 3) := by decide +kernel
theorem dX7_putAside_13 : decode cX7_putAside 13 = .ok (.iload_n 1, 1) := by decide +kernel
theorem dX7_putAside_14 : decode cX7_putAside 14 = .ok (.aload_n 0, 1) := by decide +kernel
theorem dX7_putAside_15 : decode cX7_putAside 15 = .ok (.getfield 7, 3) := by decide +kernel
theorem dX7_putAside_18 : decode cX7_putAside 18 = .ok (.iload_n 1, 1) := by decide +kernel
theorem dX7_putAside_19 : decode cX7_putAside 19 = .ok (.iaload, 1) := by decide +kernel
theorem dX7_putAside_20 : decode cX7_putAside 20 = .ok (.iastore, 1) := by decide +kernel
theorem dX7_putAside_21 : decode cX7_putAside 21 = .ok (.iinc 1 1, 3) := by decide +kernel
theorem dX7_putAside_24 : decode cX7_putAside 24 = .ok (.goto (-22), 3) := by decide +kernel
theorem dX7_putAside_27 : decode cX7_putAside 27 = .ok (.return_, 1) := by decide +kernel
theorem dX7_putBack_0 : decode cX7_putBack 0 = .ok (.iconst 0, 1) := by decide +kernel
theorem dX7_putBack_1 : decode cX7_putBack 1 = .ok (.istore_n 1, 1) := by decide +kernel
theorem dX7_putBack_2 : decode cX7_putBack 2 = .ok (.iload_n 1, 1) := by decide +kernel
theorem dX7_putBack_3 : decode cX7_putBack 3 = .ok (.sipush 445, 3) := by decide +kernel
theorem dX7_putBack_6 : decode cX7_putBack 6 = .ok (.if_icmp .ge 21, 3) := by decide +kernel
theorem dX7_putBack_9 : decode cX7_putBack 9 = .ok (.aload_n 0, 1) := by decide +kernel
theorem dX7_putBack_10 : decode cX7_putBack 10 = .ok (.getfield 7, 3) := by decide +kernel
theorem dX7_putBack_13 : decode cX7_putBack 13 = .ok (.iload_n 1, 1) := by decide +kernel
theorem dX7_putBack_14 : decode cX7_putBack 14 = .ok (.aload_n 0, 1) := by decide +kernel
theorem dX7_putBack_15 : decode cX7_putBack 15 = .ok (.getfield 13, 3) := by decide +kernel
theorem dX7_putBack_18 : decode cX7_putBack 18 = .ok (.iload_n 1, 1) := by decide +kernel
theorem dX7_putBack_19 : decode cX7_putBack 19 = .ok (.iaload, 1) := by decide +kernel
theorem dX7_putBack_20 : decode cX7_putBack 20 = .ok (.iastore, 1) := by decide +kernel
theorem dX7_putBack_21 : decode cX7_putBack 21 = .ok (.iinc 1 1, 3) := by decide +kernel
theorem dX7_putBack_24 : decode cX7_putBack 24 = .ok (.goto (-22), 3) := by decide +kernel
theorem dX7_putBack_27 : decode cX7_putBack 27 = .ok (.return_, 1) := by decide +kernel
theorem dX7_made_0 : decode cX7_made 0 = .ok (.iload_n 0, 1) := by decide +kernel
theorem dX7_made_1 : decode cX7_made 1 = .ok (.sipush 128, 3) := by decide +kernel
theorem dX7_made_4 : decode cX7_made 4 = .ok (.imul, 1) := by decide +kernel
theorem dX7_made_5 : decode cX7_made 5 = .ok (.iload_n 1, 1) := by decide +kernel
theorem dX7_made_6 : decode cX7_made 6 = .ok (.iadd, 1) := by decide +kernel
theorem dX7_made_7 : decode cX7_made 7 = .ok (.bipush 32, 2) := by decide +kernel
theorem dX7_made_9 : decode cX7_made 9 = .ok (.imul, 1) := by decide +kernel
theorem dX7_made_10 : decode cX7_made 10 = .ok (.iload_n 2, 1) := by decide +kernel
theorem dX7_made_11 : decode cX7_made 11 = .ok (.iadd, 1) := by decide +kernel
theorem dX7_made_12 : decode cX7_made 12 = .ok (.iconst 4, 1) := by decide +kernel
theorem dX7_made_13 : decode cX7_made 13 = .ok (.imul, 1) := by decide +kernel
theorem dX7_made_14 : decode cX7_made 14 = .ok (.iload_n 3, 1) := by decide +kernel
theorem dX7_made_15 : decode cX7_made 15 = .ok (.iadd, 1) := by decide +kernel
theorem dX7_made_16 : decode cX7_made 16 = .ok (.ireturn, 1) := by decide +kernel
theorem dX7_kindOf_0 : decode cX7_kindOf 0 = .ok (.iload_n 0, 1) := by decide +kernel
theorem dX7_kindOf_1 : decode cX7_kindOf 1 = .ok (.sipush 16384, 3) := by decide +kernel
theorem dX7_kindOf_4 : decode cX7_kindOf 4 = .ok (.idiv, 1) := by decide +kernel
theorem dX7_kindOf_5 : decode cX7_kindOf 5 = .ok (.ireturn, 1) := by decide +kernel
theorem dX7_placeOf_0 : decode cX7_placeOf 0 = .ok (.iload_n 0, 1) := by decide +kernel
theorem dX7_placeOf_1 : decode cX7_placeOf 1 = .ok (.sipush 128, 3) := by decide +kernel
theorem dX7_placeOf_4 : decode cX7_placeOf 4 = .ok (.idiv, 1) := by decide +kernel
theorem dX7_placeOf_5 : decode cX7_placeOf 5 = .ok (.sipush 128, 3) := by decide +kernel
theorem dX7_placeOf_8 : decode cX7_placeOf 8 = .ok (.irem, 1) := by decide +kernel
theorem dX7_placeOf_9 : decode cX7_placeOf 9 = .ok (.ireturn, 1) := by decide +kernel
theorem dX7_letterOf_0 : decode cX7_letterOf 0 = .ok (.iload_n 0, 1) := by decide +kernel
theorem dX7_letterOf_1 : decode cX7_letterOf 1 = .ok (.iconst 4, 1) := by decide +kernel
theorem dX7_letterOf_2 : decode cX7_letterOf 2 = .ok (.idiv, 1) := by decide +kernel
theorem dX7_letterOf_3 : decode cX7_letterOf 3 = .ok (.bipush 32, 2) := by decide +kernel
theorem dX7_letterOf_5 : decode cX7_letterOf 5 = .ok (.irem, 1) := by decide +kernel
theorem dX7_letterOf_6 : decode cX7_letterOf 6 = .ok (.ireturn, 1) := by decide +kernel
theorem dX7_editorBy_0 : decode cX7_editorBy 0 = .ok (.iload_n 0, 1) := by decide +kernel
theorem dX7_editorBy_1 : decode cX7_editorBy 1 = .ok (.iconst 4, 1) := by decide +kernel
theorem dX7_editorBy_2 : decode cX7_editorBy 2 = .ok (.irem, 1) := by decide +kernel
theorem dX7_editorBy_3 : decode cX7_editorBy 3 = .ok (.ireturn, 1) := by decide +kernel
theorem dX7_reshaped_0 : decode cX7_reshaped 0 = .ok (.iload_n 0, 1) := by decide +kernel
theorem dX7_reshaped_1 : decode cX7_reshaped 1 = .ok (.invokestatic 42, 3) := by decide +kernel
theorem dX7_reshaped_4 : decode cX7_reshaped 4 = .ok (.istore_n 2, 1) := by decide +kernel
theorem dX7_reshaped_5 : decode cX7_reshaped 5 = .ok (.iload_n 1, 1) := by decide +kernel
theorem dX7_reshaped_6 : decode cX7_reshaped 6 = .ok (.invokestatic 42, 3) := by decide +kernel
theorem dX7_reshaped_9 : decode cX7_reshaped 9 = .ok (.istore_n 3, 1) := by decide +kernel
theorem dX7_reshaped_10 : decode cX7_reshaped 10 = .ok (.iload_n 0, 1) := by decide +kernel
theorem dX7_reshaped_11 : decode cX7_reshaped 11 = .ok (.invokestatic 46, 3) := by decide +kernel
theorem dX7_reshaped_14 : decode cX7_reshaped 14 = .ok (.iconst 1, 1) := by decide +kernel
theorem dX7_reshaped_15 : decode cX7_reshaped 15 = .ok (.if_icmp .ne 7, 3) := by decide +kernel
theorem dX7_reshaped_18 : decode cX7_reshaped 18 = .ok (.iconst 1, 1) := by decide +kernel
theorem dX7_reshaped_19 : decode cX7_reshaped 19 = .ok (.goto 4, 3) := by decide +kernel
theorem dX7_reshaped_22 : decode cX7_reshaped 22 = .ok (.iconst 0, 1) := by decide +kernel
theorem dX7_reshaped_23 : decode cX7_reshaped 23 = .ok (.istore 4, 2) := by decide +kernel
theorem dX7_reshaped_25 : decode cX7_reshaped 25 = .ok (.iload_n 0, 1) := by decide +kernel
theorem dX7_reshaped_26 : decode cX7_reshaped 26 = .ok (.invokestatic 46, 3) := by decide +kernel
theorem dX7_reshaped_29 : decode cX7_reshaped 29 = .ok (.ifCond .eq 10, 3) := by decide +kernel
theorem dX7_reshaped_32 : decode cX7_reshaped 32 = .ok (.iload_n 1, 1) := by decide +kernel
theorem dX7_reshaped_33 : decode cX7_reshaped 33 = .ok (.invokestatic 46, 3) := by decide +kernel
theorem dX7_reshaped_36 : decode cX7_reshaped 36 = .ok (.ifCond .ne 5, 3) := by decide +kernel
theorem dX7_reshaped_39 : decode cX7_reshaped 39 = .ok (.iload_n 0, 1) := by decide +kernel
theorem dX7_reshaped_40 : decode cX7_reshaped 40 = .ok (.ireturn, 1) := by decide +kernel
theorem dX7_reshaped_41 : decode cX7_reshaped 41 = .ok (.iload_n 1, 1) := by decide +kernel
theorem dX7_reshaped_42 : decode cX7_reshaped 42 = .ok (.invokestatic 46, 3) := by decide +kernel
theorem dX7_reshaped_45 : decode cX7_reshaped 45 = .ok (.iconst 1, 1) := by decide +kernel
theorem dX7_reshaped_46 : decode cX7_reshaped 46 = .ok (.if_icmp .ne 64, 3) := by decide +kernel
theorem dX7_reshaped_49 : decode cX7_reshaped 49 = .ok (.iload_n 3, 1) := by decide +kernel
theorem dX7_reshaped_50 : decode cX7_reshaped 50 = .ok (.iload_n 2, 1) := by decide +kernel
theorem dX7_reshaped_51 : decode cX7_reshaped 51 = .ok (.if_icmp .lt 24, 3) := by decide +kernel
theorem dX7_reshaped_54 : decode cX7_reshaped 54 = .ok (.iload_n 3, 1) := by decide +kernel
theorem dX7_reshaped_55 : decode cX7_reshaped 55 = .ok (.iload_n 2, 1) := by decide +kernel
theorem dX7_reshaped_56 : decode cX7_reshaped 56 = .ok (.if_icmp .ne 23, 3) := by decide +kernel
theorem dX7_reshaped_59 : decode cX7_reshaped 59 = .ok (.iload 4, 2) := by decide +kernel
theorem dX7_reshaped_61 : decode cX7_reshaped 61 = .ok (.ifCond .eq 14, 3) := by decide +kernel
theorem dX7_reshaped_64 : decode cX7_reshaped 64 = .ok (.iload_n 1, 1) := by decide +kernel
theorem dX7_reshaped_65 : decode cX7_reshaped 65 = .ok (.invokestatic 49, 3) := by decide +kernel
theorem dX7_reshaped_68 : decode cX7_reshaped 68 = .ok (.iload_n 0, 1) := by decide +kernel
theorem dX7_reshaped_69 : decode cX7_reshaped 69 = .ok (.invokestatic 49, 3) := by decide +kernel
theorem dX7_reshaped_72 : decode cX7_reshaped 72 = .ok (.if_icmp .ge 7, 3) := by decide +kernel
theorem dX7_reshaped_75 : decode cX7_reshaped 75 = .ok (.iconst 1, 1) := by decide +kernel
theorem dX7_reshaped_76 : decode cX7_reshaped 76 = .ok (.goto 4, 3) := by decide +kernel
theorem dX7_reshaped_79 : decode cX7_reshaped 79 = .ok (.iconst 0, 1) := by decide +kernel
theorem dX7_reshaped_80 : decode cX7_reshaped 80 = .ok (.istore 5, 2) := by decide +kernel
theorem dX7_reshaped_82 : decode cX7_reshaped 82 = .ok (.iload 5, 2) := by decide +kernel
theorem dX7_reshaped_84 : decode cX7_reshaped 84 = .ok (.ifCond .eq 24, 3) := by decide +kernel
theorem dX7_reshaped_87 : decode cX7_reshaped 87 = .ok (.iload_n 0, 1) := by decide +kernel
theorem dX7_reshaped_88 : decode cX7_reshaped 88 = .ok (.invokestatic 46, 3) := by decide +kernel
theorem dX7_reshaped_91 : decode cX7_reshaped 91 = .ok (.iload_n 2, 1) := by decide +kernel
theorem dX7_reshaped_92 : decode cX7_reshaped 92 = .ok (.iconst 1, 1) := by decide +kernel
theorem dX7_reshaped_93 : decode cX7_reshaped 93 = .ok (.iadd, 1) := by decide +kernel
theorem dX7_reshaped_94 : decode cX7_reshaped 94 = .ok (.iload_n 0, 1) := by decide +kernel
theorem dX7_reshaped_95 : decode cX7_reshaped 95 = .ok (.invokestatic 52, 3) := by decide +kernel
theorem dX7_reshaped_98 : decode cX7_reshaped 98 = .ok (.iload_n 0, 1) := by decide +kernel
theorem dX7_reshaped_99 : decode cX7_reshaped 99 = .ok (.invokestatic 49, 3) := by decide +kernel
theorem dX7_reshaped_102 : decode cX7_reshaped 102 = .ok (.invokestatic 55, 3) := by decide +kernel
theorem dX7_reshaped_105 : decode cX7_reshaped 105 = .ok (.goto 4, 3) := by decide +kernel
theorem dX7_reshaped_108 : decode cX7_reshaped 108 = .ok (.iload_n 0, 1) := by decide +kernel
theorem dX7_reshaped_109 : decode cX7_reshaped 109 = .ok (.ireturn, 1) := by decide +kernel
theorem dX7_reshaped_110 : decode cX7_reshaped 110 = .ok (.iload_n 3, 1) := by decide +kernel
theorem dX7_reshaped_111 : decode cX7_reshaped 111 = .ok (.iload_n 2, 1) := by decide +kernel
theorem dX7_reshaped_112 : decode cX7_reshaped 112 = .ok (.if_icmp .ge 22, 3) := by decide +kernel
theorem dX7_reshaped_115 : decode cX7_reshaped 115 = .ok (.iload_n 0, 1) := by decide +kernel
theorem dX7_reshaped_116 : decode cX7_reshaped 116 = .ok (.invokestatic 46, 3) := by decide +kernel
theorem dX7_reshaped_119 : decode cX7_reshaped 119 = .ok (.iload_n 2, 1) := by decide +kernel
theorem dX7_reshaped_120 : decode cX7_reshaped 120 = .ok (.iconst 1, 1) := by decide +kernel
theorem dX7_reshaped_121 : decode cX7_reshaped 121 = .ok (.isub, 1) := by decide +kernel
theorem dX7_reshaped_122 : decode cX7_reshaped 122 = .ok (.iload_n 0, 1) := by decide +kernel
theorem dX7_reshaped_123 : decode cX7_reshaped 123 = .ok (.invokestatic 52, 3) := by decide +kernel
theorem dX7_reshaped_126 : decode cX7_reshaped 126 = .ok (.iload_n 0, 1) := by decide +kernel
theorem dX7_reshaped_127 : decode cX7_reshaped 127 = .ok (.invokestatic 49, 3) := by decide +kernel
theorem dX7_reshaped_130 : decode cX7_reshaped 130 = .ok (.invokestatic 55, 3) := by decide +kernel
theorem dX7_reshaped_133 : decode cX7_reshaped 133 = .ok (.ireturn, 1) := by decide +kernel
theorem dX7_reshaped_134 : decode cX7_reshaped 134 = .ok (.iload_n 3, 1) := by decide +kernel
theorem dX7_reshaped_135 : decode cX7_reshaped 135 = .ok (.iload_n 2, 1) := by decide +kernel
theorem dX7_reshaped_136 : decode cX7_reshaped 136 = .ok (.if_icmp .ne 21, 3) := by decide +kernel
theorem dX7_reshaped_139 : decode cX7_reshaped 139 = .ok (.iload 4, 2) := by decide +kernel
theorem dX7_reshaped_141 : decode cX7_reshaped 141 = .ok (.ifCond .ne 16, 3) := by decide +kernel
theorem dX7_reshaped_144 : decode cX7_reshaped 144 = .ok (.iconst 0, 1) := by decide +kernel
theorem dX7_reshaped_145 : decode cX7_reshaped 145 = .ok (.iconst 0, 1) := by decide +kernel
theorem dX7_reshaped_146 : decode cX7_reshaped 146 = .ok (.iconst 0, 1) := by decide +kernel
theorem dX7_reshaped_147 : decode cX7_reshaped 147 = .ok (.iload_n 0, 1) := by decide +kernel
theorem dX7_reshaped_148 : decode cX7_reshaped 148 = .ok (.invokestatic 49, 3) := by decide +kernel
theorem dX7_reshaped_151 : decode cX7_reshaped 151 = .ok (.invokestatic 55, 3) := by decide +kernel
theorem dX7_reshaped_154 : decode cX7_reshaped 154 = .ok (.goto 4, 3) := by decide +kernel
theorem dX7_reshaped_157 : decode cX7_reshaped 157 = .ok (.iload_n 0, 1) := by decide +kernel
theorem dX7_reshaped_158 : decode cX7_reshaped 158 = .ok (.ireturn, 1) := by decide +kernel
theorem dX7_perform_0 : decode cX7_perform 0 = .ok (.iload_n 2, 1) := by decide +kernel
theorem dX7_perform_1 : decode cX7_perform 1 = .ok (.invokestatic 42, 3) := by decide +kernel
theorem dX7_perform_4 : decode cX7_perform 4 = .ok (.istore_n 3, 1) := by decide +kernel
theorem dX7_perform_5 : decode cX7_perform 5 = .ok (.aload_n 0, 1) := by decide +kernel
theorem dX7_perform_6 : decode cX7_perform 6 = .ok (.getfield 7, 3) := by decide +kernel
theorem dX7_perform_9 : decode cX7_perform 9 = .ok (.iload_n 1, 1) := by decide +kernel
theorem dX7_perform_10 : decode cX7_perform 10 = .ok (.iconst 0, 1) := by decide +kernel
theorem dX7_perform_11 : decode cX7_perform 11 = .ok (.invokestatic 59, 3) := by decide +kernel
theorem dX7_perform_14 : decode cX7_perform 14 = .ok (.iaload, 1) := by decide +kernel
theorem dX7_perform_15 : decode cX7_perform 15 = .ok (.istore 4, 2) := by decide +kernel
theorem dX7_perform_17 : decode cX7_perform 17 = .ok (.iload_n 2, 1) := by decide +kernel
theorem dX7_perform_18 : decode cX7_perform 18 = .ok (.invokestatic 46, 3) := by decide +kernel
theorem dX7_perform_21 : decode cX7_perform 21 = .ok (.iconst 1, 1) := by decide +kernel
theorem dX7_perform_22 : decode cX7_perform 22 = .ok (.if_icmp .ne 114, 3) := by decide +kernel
theorem dX7_perform_25 : decode cX7_perform 25 = .ok (.iload 4, 2) := by decide +kernel
theorem dX7_perform_27 : decode cX7_perform 27 = .ok (.istore 5, 2) := by decide +kernel
theorem dX7_perform_29 : decode cX7_perform 29 = .ok (.iload 5, 2) := by decide +kernel
theorem dX7_perform_31 : decode cX7_perform 31 = .ok (.iload_n 3, 1) := by decide +kernel
theorem dX7_perform_32 : decode cX7_perform 32 = .ok (.if_icmp .le 37, 3) := by decide +kernel
theorem dX7_perform_35 : decode cX7_perform 35 = .ok (.aload_n 0, 1) := by decide +kernel
theorem dX7_perform_36 : decode cX7_perform 36 = .ok (.getfield 7, 3) := by decide +kernel
theorem dX7_perform_39 : decode cX7_perform 39 = .ok (.iload_n 1, 1) := by decide +kernel
theorem dX7_perform_40 : decode cX7_perform 40 = .ok (.iconst 1, 1) := by decide +kernel
theorem dX7_perform_41 : decode cX7_perform 41 = .ok (.iload 5, 2) := by decide +kernel
theorem dX7_perform_43 : decode cX7_perform 43 = .ok (.iadd, 1) := by decide +kernel
theorem dX7_perform_44 : decode cX7_perform 44 = .ok (.invokestatic 59, 3) := by decide +kernel
theorem dX7_perform_47 : decode cX7_perform 47 = .ok (.aload_n 0, 1) := by decide +kernel
theorem dX7_perform_48 : decode cX7_perform 48 = .ok (.getfield 7, 3) := by decide +kernel
theorem dX7_perform_51 : decode cX7_perform 51 = .ok (.iload_n 1, 1) := by decide +kernel
theorem dX7_perform_52 : decode cX7_perform 52 = .ok (.iconst 1, 1) := by decide +kernel
theorem dX7_perform_53 : decode cX7_perform 53 = .ok (.iload 5, 2) := by decide +kernel
theorem dX7_perform_55 : decode cX7_perform 55 = .ok (.iadd, 1) := by decide +kernel
theorem dX7_perform_56 : decode cX7_perform 56 = .ok (.iconst 1, 1) := by decide +kernel
theorem dX7_perform_57 : decode cX7_perform 57 = .ok (.isub, 1) := by decide +kernel
theorem dX7_perform_58 : decode cX7_perform 58 = .ok (.invokestatic 59, 3) := by decide +kernel
theorem dX7_perform_61 : decode cX7_perform 61 = .ok (.iaload, 1) := by decide +kernel
theorem dX7_perform_62 : decode cX7_perform 62 = .ok (.iastore, 1) := by decide +kernel
theorem dX7_perform_63 : decode cX7_perform 63 = .ok (.iinc 5 (-1), 3) := by decide +kernel
theorem dX7_perform_66 : decode cX7_perform 66 = .ok (.goto (-37), 3) := by decide +kernel
theorem dX7_perform_69 : decode cX7_perform 69 = .ok (.aload_n 0, 1) := by decide +kernel
theorem dX7_perform_70 : decode cX7_perform 70 = .ok (.getfield 7, 3) := by decide +kernel
theorem dX7_perform_73 : decode cX7_perform 73 = .ok (.iload_n 1, 1) := by decide +kernel
theorem dX7_perform_74 : decode cX7_perform 74 = .ok (.iconst 1, 1) := by decide +kernel
theorem dX7_perform_75 : decode cX7_perform 75 = .ok (.iload_n 3, 1) := by decide +kernel
theorem dX7_perform_76 : decode cX7_perform 76 = .ok (.iadd, 1) := by decide +kernel
theorem dX7_perform_77 : decode cX7_perform 77 = .ok (.invokestatic 59, 3) := by decide +kernel
theorem dX7_perform_80 : decode cX7_perform 80 = .ok (.iload_n 2, 1) := by decide +kernel
theorem dX7_perform_81 : decode cX7_perform 81 = .ok (.invokestatic 52, 3) := by decide +kernel
theorem dX7_perform_84 : decode cX7_perform 84 = .ok (.iastore, 1) := by decide +kernel
theorem dX7_perform_85 : decode cX7_perform 85 = .ok (.aload_n 0, 1) := by decide +kernel
theorem dX7_perform_86 : decode cX7_perform 86 = .ok (.getfield 7, 3) := by decide +kernel
theorem dX7_perform_89 : decode cX7_perform 89 = .ok (.iload_n 1, 1) := by decide +kernel
theorem dX7_perform_90 : decode cX7_perform 90 = .ok (.iconst 0, 1) := by decide +kernel
theorem dX7_perform_91 : decode cX7_perform 91 = .ok (.invokestatic 59, 3) := by decide +kernel
theorem dX7_perform_94 : decode cX7_perform 94 = .ok (.dup2, 1) := by decide +kernel
theorem dX7_perform_95 : decode cX7_perform 95 = .ok (.iaload, 1) := by decide +kernel
theorem dX7_perform_96 : decode cX7_perform 96 = .ok (.iconst 1, 1) := by decide +kernel
theorem dX7_perform_97 : decode cX7_perform 97 = .ok (.iadd, 1) := by decide +kernel
theorem dX7_perform_98 : decode cX7_perform 98 = .ok (.iastore, 1) := by decide +kernel
theorem dX7_perform_99 : decode cX7_perform 99 = .ok (.aload_n 0, 1) := by decide +kernel
theorem dX7_perform_100 : decode cX7_perform 100 = .ok (.getfield 7, 3) := by decide +kernel
theorem dX7_perform_103 : decode cX7_perform 103 = .ok (.iload_n 1, 1) := by decide +kernel
theorem dX7_perform_104 : decode cX7_perform 104 = .ok (.bipush 114, 2) := by decide +kernel
theorem dX7_perform_106 : decode cX7_perform 106 = .ok (.invokestatic 59, 3) := by decide +kernel
theorem dX7_perform_109 : decode cX7_perform 109 = .ok (.dup2, 1) := by decide +kernel
theorem dX7_perform_110 : decode cX7_perform 110 = .ok (.iaload, 1) := by decide +kernel
theorem dX7_perform_111 : decode cX7_perform 111 = .ok (.iload_n 3, 1) := by decide +kernel
theorem dX7_perform_112 : decode cX7_perform 112 = .ok (.aload_n 0, 1) := by decide +kernel
theorem dX7_perform_113 : decode cX7_perform 113 = .ok (.getfield 7, 3) := by decide +kernel
theorem dX7_perform_116 : decode cX7_perform 116 = .ok (.iload_n 1, 1) := by decide +kernel
theorem dX7_perform_117 : decode cX7_perform 117 = .ok (.bipush 114, 2) := by decide +kernel
theorem dX7_perform_119 : decode cX7_perform 119 = .ok (.invokestatic 59, 3) := by decide +kernel
theorem dX7_perform_122 : decode cX7_perform 122 = .ok (.iaload, 1) := by decide +kernel
theorem dX7_perform_123 : decode cX7_perform 123 = .ok (.if_icmp .gt 7, 3) := by decide +kernel
theorem dX7_perform_126 : decode cX7_perform 126 = .ok (.iconst 1, 1) := by decide +kernel
theorem dX7_perform_127 : decode cX7_perform 127 = .ok (.goto 4, 3) := by decide +kernel
theorem dX7_perform_130 : decode cX7_perform 130 = .ok (.iconst 0, 1) := by decide +kernel
theorem dX7_perform_131 : decode cX7_perform 131 = .ok (.iadd, 1) := by decide +kernel
theorem dX7_perform_132 : decode cX7_perform 132 = .ok (.iastore, 1) := by decide +kernel
theorem dX7_perform_133 : decode cX7_perform 133 = .ok (.goto 105, 3) := by decide +kernel
theorem dX7_perform_136 : decode cX7_perform 136 = .ok (.iload_n 2, 1) := by decide +kernel
theorem dX7_perform_137 : decode cX7_perform 137 = .ok (.invokestatic 46, 3) := by decide +kernel
theorem dX7_perform_140 : decode cX7_perform 140 = .ok (.iconst 2, 1) := by decide +kernel
theorem dX7_perform_141 : decode cX7_perform 141 = .ok (.if_icmp .ne 97, 3) := by decide +kernel
theorem dX7_perform_144 : decode cX7_perform 144 = .ok (.iload_n 3, 1) := by decide +kernel
theorem dX7_perform_145 : decode cX7_perform 145 = .ok (.istore 5, 2) := by decide +kernel
theorem dX7_perform_147 : decode cX7_perform 147 = .ok (.iload 5, 2) := by decide +kernel
theorem dX7_perform_149 : decode cX7_perform 149 = .ok (.iload 4, 2) := by decide +kernel
theorem dX7_perform_151 : decode cX7_perform 151 = .ok (.iconst 1, 1) := by decide +kernel
theorem dX7_perform_152 : decode cX7_perform 152 = .ok (.isub, 1) := by decide +kernel
theorem dX7_perform_153 : decode cX7_perform 153 = .ok (.if_icmp .ge 37, 3) := by decide +kernel
theorem dX7_perform_156 : decode cX7_perform 156 = .ok (.aload_n 0, 1) := by decide +kernel
theorem dX7_perform_157 : decode cX7_perform 157 = .ok (.getfield 7, 3) := by decide +kernel
theorem dX7_perform_160 : decode cX7_perform 160 = .ok (.iload_n 1, 1) := by decide +kernel
theorem dX7_perform_161 : decode cX7_perform 161 = .ok (.iconst 1, 1) := by decide +kernel
theorem dX7_perform_162 : decode cX7_perform 162 = .ok (.iload 5, 2) := by decide +kernel
theorem dX7_perform_164 : decode cX7_perform 164 = .ok (.iadd, 1) := by decide +kernel
theorem dX7_perform_165 : decode cX7_perform 165 = .ok (.invokestatic 59, 3) := by decide +kernel
theorem dX7_perform_168 : decode cX7_perform 168 = .ok (.aload_n 0, 1) := by decide +kernel
theorem dX7_perform_169 : decode cX7_perform 169 = .ok (.getfield 7, 3) := by decide +kernel
theorem dX7_perform_172 : decode cX7_perform 172 = .ok (.iload_n 1, 1) := by decide +kernel
theorem dX7_perform_173 : decode cX7_perform 173 = .ok (.iconst 1, 1) := by decide +kernel
theorem dX7_perform_174 : decode cX7_perform 174 = .ok (.iload 5, 2) := by decide +kernel
theorem dX7_perform_176 : decode cX7_perform 176 = .ok (.iadd, 1) := by decide +kernel
theorem dX7_perform_177 : decode cX7_perform 177 = .ok (.iconst 1, 1) := by decide +kernel
theorem dX7_perform_178 : decode cX7_perform 178 = .ok (.iadd, 1) := by decide +kernel
theorem dX7_perform_179 : decode cX7_perform 179 = .ok (.invokestatic 59, 3) := by decide +kernel
theorem dX7_perform_182 : decode cX7_perform 182 = .ok (.iaload, 1) := by decide +kernel
theorem dX7_perform_183 : decode cX7_perform 183 = .ok (.iastore, 1) := by decide +kernel
theorem dX7_perform_184 : decode cX7_perform 184 = .ok (.iinc 5 1, 3) := by decide +kernel
theorem dX7_perform_187 : decode cX7_perform 187 = .ok (.goto (-40), 3) := by decide +kernel
theorem dX7_perform_190 : decode cX7_perform 190 = .ok (.aload_n 0, 1) := by decide +kernel
theorem dX7_perform_191 : decode cX7_perform 191 = .ok (.getfield 7, 3) := by decide +kernel
theorem dX7_perform_194 : decode cX7_perform 194 = .ok (.iload_n 1, 1) := by decide +kernel
theorem dX7_perform_195 : decode cX7_perform 195 = .ok (.iconst 0, 1) := by decide +kernel
theorem dX7_perform_196 : decode cX7_perform 196 = .ok (.invokestatic 59, 3) := by decide +kernel
theorem dX7_perform_199 : decode cX7_perform 199 = .ok (.dup2, 1) := by decide +kernel
theorem dX7_perform_200 : decode cX7_perform 200 = .ok (.iaload, 1) := by decide +kernel
theorem dX7_perform_201 : decode cX7_perform 201 = .ok (.iconst 1, 1) := by decide +kernel
theorem dX7_perform_202 : decode cX7_perform 202 = .ok (.isub, 1) := by decide +kernel
theorem dX7_perform_203 : decode cX7_perform 203 = .ok (.iastore, 1) := by decide +kernel
theorem dX7_perform_204 : decode cX7_perform 204 = .ok (.aload_n 0, 1) := by decide +kernel
theorem dX7_perform_205 : decode cX7_perform 205 = .ok (.getfield 7, 3) := by decide +kernel
theorem dX7_perform_208 : decode cX7_perform 208 = .ok (.iload_n 1, 1) := by decide +kernel
theorem dX7_perform_209 : decode cX7_perform 209 = .ok (.bipush 114, 2) := by decide +kernel
theorem dX7_perform_211 : decode cX7_perform 211 = .ok (.invokestatic 59, 3) := by decide +kernel
theorem dX7_perform_214 : decode cX7_perform 214 = .ok (.dup2, 1) := by decide +kernel
theorem dX7_perform_215 : decode cX7_perform 215 = .ok (.iaload, 1) := by decide +kernel
theorem dX7_perform_216 : decode cX7_perform 216 = .ok (.iload_n 3, 1) := by decide +kernel
theorem dX7_perform_217 : decode cX7_perform 217 = .ok (.aload_n 0, 1) := by decide +kernel
theorem dX7_perform_218 : decode cX7_perform 218 = .ok (.getfield 7, 3) := by decide +kernel
theorem dX7_perform_221 : decode cX7_perform 221 = .ok (.iload_n 1, 1) := by decide +kernel
theorem dX7_perform_222 : decode cX7_perform 222 = .ok (.bipush 114, 2) := by decide +kernel
theorem dX7_perform_224 : decode cX7_perform 224 = .ok (.invokestatic 59, 3) := by decide +kernel
theorem dX7_perform_227 : decode cX7_perform 227 = .ok (.iaload, 1) := by decide +kernel
theorem dX7_perform_228 : decode cX7_perform 228 = .ok (.if_icmp .ge 7, 3) := by decide +kernel
theorem dX7_perform_231 : decode cX7_perform 231 = .ok (.iconst 1, 1) := by decide +kernel
theorem dX7_perform_232 : decode cX7_perform 232 = .ok (.goto 4, 3) := by decide +kernel
theorem dX7_perform_235 : decode cX7_perform 235 = .ok (.iconst 0, 1) := by decide +kernel
theorem dX7_perform_236 : decode cX7_perform 236 = .ok (.isub, 1) := by decide +kernel
theorem dX7_perform_237 : decode cX7_perform 237 = .ok (.iastore, 1) := by decide +kernel
theorem dX7_perform_238 : decode cX7_perform 238 = .ok (.iconst 0, 1) := by decide +kernel
theorem dX7_perform_239 : decode cX7_perform 239 = .ok (.istore 5, 2) := by decide +kernel
theorem dX7_perform_241 : decode cX7_perform 241 = .ok (.iload 5, 2) := by decide +kernel
theorem dX7_perform_243 : decode cX7_perform 243 = .ok (.aload_n 0, 1) := by decide +kernel
theorem dX7_perform_244 : decode cX7_perform 244 = .ok (.getfield 7, 3) := by decide +kernel
theorem dX7_perform_247 : decode cX7_perform 247 = .ok (.iload_n 1, 1) := by decide +kernel
theorem dX7_perform_248 : decode cX7_perform 248 = .ok (.bipush 104, 2) := by decide +kernel
theorem dX7_perform_250 : decode cX7_perform 250 = .ok (.invokestatic 59, 3) := by decide +kernel
theorem dX7_perform_253 : decode cX7_perform 253 = .ok (.iaload, 1) := by decide +kernel
theorem dX7_perform_254 : decode cX7_perform 254 = .ok (.if_icmp .ge 41, 3) := by decide +kernel
theorem dX7_perform_257 : decode cX7_perform 257 = .ok (.aload_n 0, 1) := by decide +kernel
theorem dX7_perform_258 : decode cX7_perform 258 = .ok (.getfield 7, 3) := by decide +kernel
theorem dX7_perform_261 : decode cX7_perform 261 = .ok (.iload_n 1, 1) := by decide +kernel
theorem dX7_perform_262 : decode cX7_perform 262 = .ok (.bipush 105, 2) := by decide +kernel
theorem dX7_perform_264 : decode cX7_perform 264 = .ok (.iload 5, 2) := by decide +kernel
theorem dX7_perform_266 : decode cX7_perform 266 = .ok (.iadd, 1) := by decide +kernel
theorem dX7_perform_267 : decode cX7_perform 267 = .ok (.invokestatic 59, 3) := by decide +kernel
theorem dX7_perform_270 : decode cX7_perform 270 = .ok (.aload_n 0, 1) := by decide +kernel
theorem dX7_perform_271 : decode cX7_perform 271 = .ok (.getfield 7, 3) := by decide +kernel
theorem dX7_perform_274 : decode cX7_perform 274 = .ok (.iload_n 1, 1) := by decide +kernel
theorem dX7_perform_275 : decode cX7_perform 275 = .ok (.bipush 105, 2) := by decide +kernel
theorem dX7_perform_277 : decode cX7_perform 277 = .ok (.iload 5, 2) := by decide +kernel
theorem dX7_perform_279 : decode cX7_perform 279 = .ok (.iadd, 1) := by decide +kernel
theorem dX7_perform_280 : decode cX7_perform 280 = .ok (.invokestatic 59, 3) := by decide +kernel
theorem dX7_perform_283 : decode cX7_perform 283 = .ok (.iaload, 1) := by decide +kernel
theorem dX7_perform_284 : decode cX7_perform 284 = .ok (.iload_n 2, 1) := by decide +kernel
theorem dX7_perform_285 : decode cX7_perform 285 = .ok (.invokestatic 63, 3) := by decide +kernel
theorem dX7_perform_288 : decode cX7_perform 288 = .ok (.iastore, 1) := by decide +kernel
theorem dX7_perform_289 : decode cX7_perform 289 = .ok (.iinc 5 1, 3) := by decide +kernel
theorem dX7_perform_292 : decode cX7_perform 292 = .ok (.goto (-51), 3) := by decide +kernel
theorem dX7_perform_295 : decode cX7_perform 295 = .ok (.return_, 1) := by decide +kernel
theorem dX7_writes_0 : decode cX7_writes 0 = .ok (.aload_n 0, 1) := by decide +kernel
theorem dX7_writes_1 : decode cX7_writes 1 = .ok (.iload_n 1, 1) := by decide +kernel
theorem dX7_writes_2 : decode cX7_writes 2 = .ok (.iload_n 2, 1) := by decide +kernel
theorem dX7_writes_3 : decode cX7_writes 3 = .ok (.invokevirtual 66, 3) := by decide +kernel
theorem dX7_writes_6 : decode cX7_writes 6 = .ok (.aload_n 0, 1) := by decide +kernel
theorem dX7_writes_7 : decode cX7_writes 7 = .ok (.getfield 7, 3) := by decide +kernel
theorem dX7_writes_10 : decode cX7_writes 10 = .ok (.iload_n 1, 1) := by decide +kernel
theorem dX7_writes_11 : decode cX7_writes 11 = .ok (.bipush 98, 2) := by decide +kernel
theorem dX7_writes_13 : decode cX7_writes 13 = .ok (.aload_n 0, 1) := by decide +kernel
theorem dX7_writes_14 : decode cX7_writes 14 = .ok (.getfield 7, 3) := by decide +kernel
theorem dX7_writes_17 : decode cX7_writes 17 = .ok (.iload_n 1, 1) := by decide +kernel
theorem dX7_writes_18 : decode cX7_writes 18 = .ok (.bipush 97, 2) := by decide +kernel
theorem dX7_writes_20 : decode cX7_writes 20 = .ok (.invokestatic 59, 3) := by decide +kernel
theorem dX7_writes_23 : decode cX7_writes 23 = .ok (.iaload, 1) := by decide +kernel
theorem dX7_writes_24 : decode cX7_writes 24 = .ok (.iadd, 1) := by decide +kernel
theorem dX7_writes_25 : decode cX7_writes 25 = .ok (.invokestatic 59, 3) := by decide +kernel
theorem dX7_writes_28 : decode cX7_writes 28 = .ok (.iload_n 2, 1) := by decide +kernel
theorem dX7_writes_29 : decode cX7_writes 29 = .ok (.iastore, 1) := by decide +kernel
theorem dX7_writes_30 : decode cX7_writes 30 = .ok (.aload_n 0, 1) := by decide +kernel
theorem dX7_writes_31 : decode cX7_writes 31 = .ok (.getfield 7, 3) := by decide +kernel
theorem dX7_writes_34 : decode cX7_writes 34 = .ok (.iload_n 1, 1) := by decide +kernel
theorem dX7_writes_35 : decode cX7_writes 35 = .ok (.bipush 97, 2) := by decide +kernel
theorem dX7_writes_37 : decode cX7_writes 37 = .ok (.invokestatic 59, 3) := by decide +kernel
theorem dX7_writes_40 : decode cX7_writes 40 = .ok (.dup2, 1) := by decide +kernel
theorem dX7_writes_41 : decode cX7_writes 41 = .ok (.iaload, 1) := by decide +kernel
theorem dX7_writes_42 : decode cX7_writes 42 = .ok (.iconst 1, 1) := by decide +kernel
theorem dX7_writes_43 : decode cX7_writes 43 = .ok (.iadd, 1) := by decide +kernel
theorem dX7_writes_44 : decode cX7_writes 44 = .ok (.iastore, 1) := by decide +kernel
theorem dX7_writes_45 : decode cX7_writes 45 = .ok (.aload_n 0, 1) := by decide +kernel
theorem dX7_writes_46 : decode cX7_writes 46 = .ok (.getfield 7, 3) := by decide +kernel
theorem dX7_writes_49 : decode cX7_writes 49 = .ok (.iload_n 1, 1) := by decide +kernel
theorem dX7_writes_50 : decode cX7_writes 50 = .ok (.bipush 115, 2) := by decide +kernel
theorem dX7_writes_52 : decode cX7_writes 52 = .ok (.invokestatic 59, 3) := by decide +kernel
theorem dX7_writes_55 : decode cX7_writes 55 = .ok (.dup2, 1) := by decide +kernel
theorem dX7_writes_56 : decode cX7_writes 56 = .ok (.iaload, 1) := by decide +kernel
theorem dX7_writes_57 : decode cX7_writes 57 = .ok (.iconst 1, 1) := by decide +kernel
theorem dX7_writes_58 : decode cX7_writes 58 = .ok (.iadd, 1) := by decide +kernel
theorem dX7_writes_59 : decode cX7_writes 59 = .ok (.iastore, 1) := by decide +kernel
theorem dX7_writes_60 : decode cX7_writes 60 = .ok (.return_, 1) := by decide +kernel
theorem dX7_keep_0 : decode cX7_keep 0 = .ok (.aload_n 0, 1) := by decide +kernel
theorem dX7_keep_1 : decode cX7_keep 1 = .ok (.getfield 7, 3) := by decide +kernel
theorem dX7_keep_4 : decode cX7_keep 4 = .ok (.iload_n 1, 1) := by decide +kernel
theorem dX7_keep_5 : decode cX7_keep 5 = .ok (.bipush 105, 2) := by decide +kernel
theorem dX7_keep_7 : decode cX7_keep 7 = .ok (.aload_n 0, 1) := by decide +kernel
theorem dX7_keep_8 : decode cX7_keep 8 = .ok (.getfield 7, 3) := by decide +kernel
theorem dX7_keep_11 : decode cX7_keep 11 = .ok (.iload_n 1, 1) := by decide +kernel
theorem dX7_keep_12 : decode cX7_keep 12 = .ok (.bipush 104, 2) := by decide +kernel
theorem dX7_keep_14 : decode cX7_keep 14 = .ok (.invokestatic 59, 3) := by decide +kernel
theorem dX7_keep_17 : decode cX7_keep 17 = .ok (.iaload, 1) := by decide +kernel
theorem dX7_keep_18 : decode cX7_keep 18 = .ok (.iadd, 1) := by decide +kernel
theorem dX7_keep_19 : decode cX7_keep 19 = .ok (.invokestatic 59, 3) := by decide +kernel
theorem dX7_keep_22 : decode cX7_keep 22 = .ok (.iload_n 2, 1) := by decide +kernel
theorem dX7_keep_23 : decode cX7_keep 23 = .ok (.iastore, 1) := by decide +kernel
theorem dX7_keep_24 : decode cX7_keep 24 = .ok (.aload_n 0, 1) := by decide +kernel
theorem dX7_keep_25 : decode cX7_keep 25 = .ok (.getfield 7, 3) := by decide +kernel
theorem dX7_keep_28 : decode cX7_keep 28 = .ok (.iload_n 1, 1) := by decide +kernel
theorem dX7_keep_29 : decode cX7_keep 29 = .ok (.bipush 104, 2) := by decide +kernel
theorem dX7_keep_31 : decode cX7_keep 31 = .ok (.invokestatic 59, 3) := by decide +kernel
theorem dX7_keep_34 : decode cX7_keep 34 = .ok (.dup2, 1) := by decide +kernel
theorem dX7_keep_35 : decode cX7_keep 35 = .ok (.iaload, 1) := by decide +kernel
theorem dX7_keep_36 : decode cX7_keep 36 = .ok (.iconst 1, 1) := by decide +kernel
theorem dX7_keep_37 : decode cX7_keep 37 = .ok (.iadd, 1) := by decide +kernel
theorem dX7_keep_38 : decode cX7_keep 38 = .ok (.iastore, 1) := by decide +kernel
theorem dX7_keep_39 : decode cX7_keep 39 = .ok (.aload_n 0, 1) := by decide +kernel
theorem dX7_keep_40 : decode cX7_keep 40 = .ok (.getfield 7, 3) := by decide +kernel
theorem dX7_keep_43 : decode cX7_keep 43 = .ok (.iload_n 1, 1) := by decide +kernel
theorem dX7_keep_44 : decode cX7_keep 44 = .ok (.bipush 104, 2) := by decide +kernel
theorem dX7_keep_46 : decode cX7_keep 46 = .ok (.invokestatic 59, 3) := by decide +kernel
theorem dX7_keep_49 : decode cX7_keep 49 = .ok (.iaload, 1) := by decide +kernel
theorem dX7_keep_50 : decode cX7_keep 50 = .ok (.bipush 6, 2) := by decide +kernel
theorem dX7_keep_52 : decode cX7_keep 52 = .ok (.if_icmp .le 60, 3) := by decide +kernel
theorem dX7_keep_55 : decode cX7_keep 55 = .ok (.iconst 0, 1) := by decide +kernel
theorem dX7_keep_56 : decode cX7_keep 56 = .ok (.istore_n 3, 1) := by decide +kernel
theorem dX7_keep_57 : decode cX7_keep 57 = .ok (.iload_n 3, 1) := by decide +kernel
theorem dX7_keep_58 : decode cX7_keep 58 = .ok (.bipush 6, 2) := by decide +kernel
theorem dX7_keep_60 : decode cX7_keep 60 = .ok (.if_icmp .ge 37, 3) := by decide +kernel
theorem dX7_keep_63 : decode cX7_keep 63 = .ok (.aload_n 0, 1) := by decide +kernel
theorem dX7_keep_64 : decode cX7_keep 64 = .ok (.getfield 7, 3) := by decide +kernel
theorem dX7_keep_67 : decode cX7_keep 67 = .ok (.iload_n 1, 1) := by decide +kernel
theorem dX7_keep_68 : decode cX7_keep 68 = .ok (.bipush 105, 2) := by decide +kernel
theorem dX7_keep_70 : decode cX7_keep 70 = .ok (.iload_n 3, 1) := by decide +kernel
theorem dX7_keep_71 : decode cX7_keep 71 = .ok (.iadd, 1) := by decide +kernel
theorem dX7_keep_72 : decode cX7_keep 72 = .ok (.invokestatic 59, 3) := by decide +kernel
theorem dX7_keep_75 : decode cX7_keep 75 = .ok (.aload_n 0, 1) := by decide +kernel
theorem dX7_keep_76 : decode cX7_keep 76 = .ok (.getfield 7, 3) := by decide +kernel
theorem dX7_keep_79 : decode cX7_keep 79 = .ok (.iload_n 1, 1) := by decide +kernel
theorem dX7_keep_80 : decode cX7_keep 80 = .ok (.bipush 105, 2) := by decide +kernel
theorem dX7_keep_82 : decode cX7_keep 82 = .ok (.iload_n 3, 1) := by decide +kernel
theorem dX7_keep_83 : decode cX7_keep 83 = .ok (.iadd, 1) := by decide +kernel
theorem dX7_keep_84 : decode cX7_keep 84 = .ok (.iconst 1, 1) := by decide +kernel
theorem dX7_keep_85 : decode cX7_keep 85 = .ok (.iadd, 1) := by decide +kernel
theorem dX7_keep_86 : decode cX7_keep 86 = .ok (.invokestatic 59, 3) := by decide +kernel
theorem dX7_keep_89 : decode cX7_keep 89 = .ok (.iaload, 1) := by decide +kernel
theorem dX7_keep_90 : decode cX7_keep 90 = .ok (.iastore, 1) := by decide +kernel
theorem dX7_keep_91 : decode cX7_keep 91 = .ok (.iinc 3 1, 3) := by decide +kernel
theorem dX7_keep_94 : decode cX7_keep 94 = .ok (.goto (-37), 3) := by decide +kernel
theorem dX7_keep_97 : decode cX7_keep 97 = .ok (.aload_n 0, 1) := by decide +kernel
theorem dX7_keep_98 : decode cX7_keep 98 = .ok (.getfield 7, 3) := by decide +kernel
theorem dX7_keep_101 : decode cX7_keep 101 = .ok (.iload_n 1, 1) := by decide +kernel
theorem dX7_keep_102 : decode cX7_keep 102 = .ok (.bipush 104, 2) := by decide +kernel
theorem dX7_keep_104 : decode cX7_keep 104 = .ok (.invokestatic 59, 3) := by decide +kernel
theorem dX7_keep_107 : decode cX7_keep 107 = .ok (.dup2, 1) := by decide +kernel
theorem dX7_keep_108 : decode cX7_keep 108 = .ok (.iaload, 1) := by decide +kernel
theorem dX7_keep_109 : decode cX7_keep 109 = .ok (.iconst 1, 1) := by decide +kernel
theorem dX7_keep_110 : decode cX7_keep 110 = .ok (.isub, 1) := by decide +kernel
theorem dX7_keep_111 : decode cX7_keep 111 = .ok (.iastore, 1) := by decide +kernel
theorem dX7_keep_112 : decode cX7_keep 112 = .ok (.return_, 1) := by decide +kernel
theorem dX7_insertFault_0 : decode cX7_insertFault 0 = .ok (.iload_n 1, 1) := by decide +kernel
theorem dX7_insertFault_1 : decode cX7_insertFault 1 = .ok (.invokestatic 70, 3) := by decide +kernel
theorem dX7_insertFault_4 : decode cX7_insertFault 4 = .ok (.ifCond .eq 31, 3) := by decide +kernel
theorem dX7_insertFault_7 : decode cX7_insertFault 7 = .ok (.iload_n 2, 1) := by decide +kernel
theorem dX7_insertFault_8 : decode cX7_insertFault 8 = .ok (.iconst 0, 1) := by decide +kernel
theorem dX7_insertFault_9 : decode cX7_insertFault 9 = .ok (.aload_n 0, 1) := by decide +kernel
theorem dX7_insertFault_10 : decode cX7_insertFault 10 = .ok (.getfield 7, 3) := by decide +kernel
theorem dX7_insertFault_13 : decode cX7_insertFault 13 = .ok (.iload_n 1, 1) := by decide +kernel
theorem dX7_insertFault_14 : decode cX7_insertFault 14 = .ok (.iconst 0, 1) := by decide +kernel
theorem dX7_insertFault_15 : decode cX7_insertFault 15 = .ok (.invokestatic 59, 3) := by decide +kernel
theorem dX7_insertFault_18 : decode cX7_insertFault 18 = .ok (.iaload, 1) := by decide +kernel
theorem dX7_insertFault_19 : decode cX7_insertFault 19 = .ok (.invokestatic 34, 3) := by decide +kernel
theorem dX7_insertFault_22 : decode cX7_insertFault 22 = .ok (.ifCond .eq 13, 3) := by decide +kernel
theorem dX7_insertFault_25 : decode cX7_insertFault 25 = .ok (.iload_n 3, 1) := by decide +kernel
theorem dX7_insertFault_26 : decode cX7_insertFault 26 = .ok (.iconst 0, 1) := by decide +kernel
theorem dX7_insertFault_27 : decode cX7_insertFault 27 = .ok (.bipush 25, 2) := by decide +kernel
theorem dX7_insertFault_29 : decode cX7_insertFault 29 = .ok (.invokestatic 34, 3) := by decide +kernel
theorem dX7_insertFault_32 : decode cX7_insertFault 32 = .ok (.ifCond .ne 5, 3) := by decide +kernel
theorem dX7_insertFault_35 : decode cX7_insertFault 35 = .ok (.iconst (-1), 1) := by decide +kernel
theorem dX7_insertFault_36 : decode cX7_insertFault 36 = .ok (.ireturn, 1) := by decide +kernel
theorem dX7_insertFault_37 : decode cX7_insertFault 37 = .ok (.aload_n 0, 1) := by decide +kernel
theorem dX7_insertFault_38 : decode cX7_insertFault 38 = .ok (.getfield 7, 3) := by decide +kernel
theorem dX7_insertFault_41 : decode cX7_insertFault 41 = .ok (.iload_n 1, 1) := by decide +kernel
theorem dX7_insertFault_42 : decode cX7_insertFault 42 = .ok (.iconst 0, 1) := by decide +kernel
theorem dX7_insertFault_43 : decode cX7_insertFault 43 = .ok (.invokestatic 59, 3) := by decide +kernel
theorem dX7_insertFault_46 : decode cX7_insertFault 46 = .ok (.iaload, 1) := by decide +kernel
theorem dX7_insertFault_47 : decode cX7_insertFault 47 = .ok (.bipush 30, 2) := by decide +kernel
theorem dX7_insertFault_49 : decode cX7_insertFault 49 = .ok (.if_icmp .ge 19, 3) := by decide +kernel
theorem dX7_insertFault_52 : decode cX7_insertFault 52 = .ok (.aload_n 0, 1) := by decide +kernel
theorem dX7_insertFault_53 : decode cX7_insertFault 53 = .ok (.getfield 7, 3) := by decide +kernel
theorem dX7_insertFault_56 : decode cX7_insertFault 56 = .ok (.iload_n 1, 1) := by decide +kernel
theorem dX7_insertFault_57 : decode cX7_insertFault 57 = .ok (.bipush 97, 2) := by decide +kernel
theorem dX7_insertFault_59 : decode cX7_insertFault 59 = .ok (.invokestatic 59, 3) := by decide +kernel
theorem dX7_insertFault_62 : decode cX7_insertFault 62 = .ok (.iaload, 1) := by decide +kernel
theorem dX7_insertFault_63 : decode cX7_insertFault 63 = .ok (.bipush 6, 2) := by decide +kernel
theorem dX7_insertFault_65 : decode cX7_insertFault 65 = .ok (.if_icmp .ne 8, 3) := by decide +kernel
theorem dX7_insertFault_68 : decode cX7_insertFault 68 = .ok (.bipush (-3), 2) := by decide +kernel
theorem dX7_insertFault_70 : decode cX7_insertFault 70 = .ok (.goto 4, 3) := by decide +kernel
theorem dX7_insertFault_73 : decode cX7_insertFault 73 = .ok (.iconst 0, 1) := by decide +kernel
theorem dX7_insertFault_74 : decode cX7_insertFault 74 = .ok (.ireturn, 1) := by decide +kernel
theorem dX7_inserts_0 : decode cX7_inserts 0 = .ok (.aload_n 0, 1) := by decide +kernel
theorem dX7_inserts_1 : decode cX7_inserts 1 = .ok (.iload_n 1, 1) := by decide +kernel
theorem dX7_inserts_2 : decode cX7_inserts 2 = .ok (.iconst 1, 1) := by decide +kernel
theorem dX7_inserts_3 : decode cX7_inserts 3 = .ok (.iload_n 2, 1) := by decide +kernel
theorem dX7_inserts_4 : decode cX7_inserts 4 = .ok (.iload_n 3, 1) := by decide +kernel
theorem dX7_inserts_5 : decode cX7_inserts 5 = .ok (.iload_n 1, 1) := by decide +kernel
theorem dX7_inserts_6 : decode cX7_inserts 6 = .ok (.invokestatic 55, 3) := by decide +kernel
theorem dX7_inserts_9 : decode cX7_inserts 9 = .ok (.invokevirtual 74, 3) := by decide +kernel
theorem dX7_inserts_12 : decode cX7_inserts 12 = .ok (.aload_n 0, 1) := by decide +kernel
theorem dX7_inserts_13 : decode cX7_inserts 13 = .ok (.iload_n 1, 1) := by decide +kernel
theorem dX7_inserts_14 : decode cX7_inserts 14 = .ok (.iconst 2, 1) := by decide +kernel
theorem dX7_inserts_15 : decode cX7_inserts 15 = .ok (.iload_n 2, 1) := by decide +kernel
theorem dX7_inserts_16 : decode cX7_inserts 16 = .ok (.iconst 0, 1) := by decide +kernel
theorem dX7_inserts_17 : decode cX7_inserts 17 = .ok (.iload_n 1, 1) := by decide +kernel
theorem dX7_inserts_18 : decode cX7_inserts 18 = .ok (.invokestatic 55, 3) := by decide +kernel
theorem dX7_inserts_21 : decode cX7_inserts 21 = .ok (.invokevirtual 77, 3) := by decide +kernel
theorem dX7_inserts_24 : decode cX7_inserts 24 = .ok (.aload_n 0, 1) := by decide +kernel
theorem dX7_inserts_25 : decode cX7_inserts 25 = .ok (.getfield 7, 3) := by decide +kernel
theorem dX7_inserts_28 : decode cX7_inserts 28 = .ok (.iload_n 1, 1) := by decide +kernel
theorem dX7_inserts_29 : decode cX7_inserts 29 = .ok (.iconst 0, 1) := by decide +kernel
theorem dX7_inserts_30 : decode cX7_inserts 30 = .ok (.invokestatic 59, 3) := by decide +kernel
theorem dX7_inserts_33 : decode cX7_inserts 33 = .ok (.iaload, 1) := by decide +kernel
theorem dX7_inserts_34 : decode cX7_inserts 34 = .ok (.ireturn, 1) := by decide +kernel
theorem dX7_deleteFault_0 : decode cX7_deleteFault 0 = .ok (.iload_n 1, 1) := by decide +kernel
theorem dX7_deleteFault_1 : decode cX7_deleteFault 1 = .ok (.invokestatic 70, 3) := by decide +kernel
theorem dX7_deleteFault_4 : decode cX7_deleteFault 4 = .ok (.ifCond .eq 23, 3) := by decide +kernel
theorem dX7_deleteFault_7 : decode cX7_deleteFault 7 = .ok (.iload_n 2, 1) := by decide +kernel
theorem dX7_deleteFault_8 : decode cX7_deleteFault 8 = .ok (.iconst 0, 1) := by decide +kernel
theorem dX7_deleteFault_9 : decode cX7_deleteFault 9 = .ok (.aload_n 0, 1) := by decide +kernel
theorem dX7_deleteFault_10 : decode cX7_deleteFault 10 = .ok (.getfield 7, 3) := by decide +kernel
theorem dX7_deleteFault_13 : decode cX7_deleteFault 13 = .ok (.iload_n 1, 1) := by decide +kernel
theorem dX7_deleteFault_14 : decode cX7_deleteFault 14 = .ok (.iconst 0, 1) := by decide +kernel
theorem dX7_deleteFault_15 : decode cX7_deleteFault 15 = .ok (.invokestatic 59, 3) := by decide +kernel
theorem dX7_deleteFault_18 : decode cX7_deleteFault 18 = .ok (.iaload, 1) := by decide +kernel
theorem dX7_deleteFault_19 : decode cX7_deleteFault 19 = .ok (.iconst 1, 1) := by decide +kernel
theorem dX7_deleteFault_20 : decode cX7_deleteFault 20 = .ok (.isub, 1) := by decide +kernel
theorem dX7_deleteFault_21 : decode cX7_deleteFault 21 = .ok (.invokestatic 34, 3) := by decide +kernel
theorem dX7_deleteFault_24 : decode cX7_deleteFault 24 = .ok (.ifCond .ne 5, 3) := by decide +kernel
theorem dX7_deleteFault_27 : decode cX7_deleteFault 27 = .ok (.iconst (-1), 1) := by decide +kernel
theorem dX7_deleteFault_28 : decode cX7_deleteFault 28 = .ok (.ireturn, 1) := by decide +kernel
theorem dX7_deleteFault_29 : decode cX7_deleteFault 29 = .ok (.aload_n 0, 1) := by decide +kernel
theorem dX7_deleteFault_30 : decode cX7_deleteFault 30 = .ok (.getfield 7, 3) := by decide +kernel
theorem dX7_deleteFault_33 : decode cX7_deleteFault 33 = .ok (.iload_n 1, 1) := by decide +kernel
theorem dX7_deleteFault_34 : decode cX7_deleteFault 34 = .ok (.bipush 97, 2) := by decide +kernel
theorem dX7_deleteFault_36 : decode cX7_deleteFault 36 = .ok (.invokestatic 59, 3) := by decide +kernel
theorem dX7_deleteFault_39 : decode cX7_deleteFault 39 = .ok (.iaload, 1) := by decide +kernel
theorem dX7_deleteFault_40 : decode cX7_deleteFault 40 = .ok (.bipush 6, 2) := by decide +kernel
theorem dX7_deleteFault_42 : decode cX7_deleteFault 42 = .ok (.if_icmp .ne 8, 3) := by decide +kernel
theorem dX7_deleteFault_45 : decode cX7_deleteFault 45 = .ok (.bipush (-3), 2) := by decide +kernel
theorem dX7_deleteFault_47 : decode cX7_deleteFault 47 = .ok (.goto 4, 3) := by decide +kernel
theorem dX7_deleteFault_50 : decode cX7_deleteFault 50 = .ok (.iconst 0, 1) := by decide +kernel
theorem dX7_deleteFault_51 : decode cX7_deleteFault 51 = .ok (.ireturn, 1) := by decide +kernel
theorem dX7_deletes_0 : decode cX7_deletes 0 = .ok (.aload_n 0, 1) := by decide +kernel
theorem dX7_deletes_1 : decode cX7_deletes 1 = .ok (.getfield 7, 3) := by decide +kernel
theorem dX7_deletes_4 : decode cX7_deletes 4 = .ok (.iload_n 1, 1) := by decide +kernel
theorem dX7_deletes_5 : decode cX7_deletes 5 = .ok (.iconst 1, 1) := by decide +kernel
theorem dX7_deletes_6 : decode cX7_deletes 6 = .ok (.iload_n 2, 1) := by decide +kernel
theorem dX7_deletes_7 : decode cX7_deletes 7 = .ok (.iadd, 1) := by decide +kernel
theorem dX7_deletes_8 : decode cX7_deletes 8 = .ok (.invokestatic 59, 3) := by decide +kernel
theorem dX7_deletes_11 : decode cX7_deletes 11 = .ok (.iaload, 1) := by decide +kernel
theorem dX7_deletes_12 : decode cX7_deletes 12 = .ok (.istore_n 3, 1) := by decide +kernel
theorem dX7_deletes_13 : decode cX7_deletes 13 = .ok (.aload_n 0, 1) := by decide +kernel
theorem dX7_deletes_14 : decode cX7_deletes 14 = .ok (.iload_n 1, 1) := by decide +kernel
theorem dX7_deletes_15 : decode cX7_deletes 15 = .ok (.iconst 2, 1) := by decide +kernel
theorem dX7_deletes_16 : decode cX7_deletes 16 = .ok (.iload_n 2, 1) := by decide +kernel
theorem dX7_deletes_17 : decode cX7_deletes 17 = .ok (.iconst 0, 1) := by decide +kernel
theorem dX7_deletes_18 : decode cX7_deletes 18 = .ok (.iload_n 1, 1) := by decide +kernel
theorem dX7_deletes_19 : decode cX7_deletes 19 = .ok (.invokestatic 55, 3) := by decide +kernel
theorem dX7_deletes_22 : decode cX7_deletes 22 = .ok (.invokevirtual 74, 3) := by decide +kernel
theorem dX7_deletes_25 : decode cX7_deletes 25 = .ok (.aload_n 0, 1) := by decide +kernel
theorem dX7_deletes_26 : decode cX7_deletes 26 = .ok (.iload_n 1, 1) := by decide +kernel
theorem dX7_deletes_27 : decode cX7_deletes 27 = .ok (.iconst 1, 1) := by decide +kernel
theorem dX7_deletes_28 : decode cX7_deletes 28 = .ok (.iload_n 2, 1) := by decide +kernel
theorem dX7_deletes_29 : decode cX7_deletes 29 = .ok (.iload_n 3, 1) := by decide +kernel
theorem dX7_deletes_30 : decode cX7_deletes 30 = .ok (.iload_n 1, 1) := by decide +kernel
theorem dX7_deletes_31 : decode cX7_deletes 31 = .ok (.invokestatic 55, 3) := by decide +kernel
theorem dX7_deletes_34 : decode cX7_deletes 34 = .ok (.invokevirtual 77, 3) := by decide +kernel
theorem dX7_deletes_37 : decode cX7_deletes 37 = .ok (.iload_n 3, 1) := by decide +kernel
theorem dX7_deletes_38 : decode cX7_deletes 38 = .ok (.ireturn, 1) := by decide +kernel
theorem dX7_backFault_0 : decode cX7_backFault 0 = .ok (.iload_n 1, 1) := by decide +kernel
theorem dX7_backFault_1 : decode cX7_backFault 1 = .ok (.invokestatic 70, 3) := by decide +kernel
theorem dX7_backFault_4 : decode cX7_backFault 4 = .ok (.ifCond .ne 5, 3) := by decide +kernel
theorem dX7_backFault_7 : decode cX7_backFault 7 = .ok (.iconst (-1), 1) := by decide +kernel
theorem dX7_backFault_8 : decode cX7_backFault 8 = .ok (.ireturn, 1) := by decide +kernel
theorem dX7_backFault_9 : decode cX7_backFault 9 = .ok (.aload_n 0, 1) := by decide +kernel
theorem dX7_backFault_10 : decode cX7_backFault 10 = .ok (.getfield 7, 3) := by decide +kernel
theorem dX7_backFault_13 : decode cX7_backFault 13 = .ok (.iload_n 1, 1) := by decide +kernel
theorem dX7_backFault_14 : decode cX7_backFault 14 = .ok (.bipush 104, 2) := by decide +kernel
theorem dX7_backFault_16 : decode cX7_backFault 16 = .ok (.invokestatic 59, 3) := by decide +kernel
theorem dX7_backFault_19 : decode cX7_backFault 19 = .ok (.iaload, 1) := by decide +kernel
theorem dX7_backFault_20 : decode cX7_backFault 20 = .ok (.istore_n 2, 1) := by decide +kernel
theorem dX7_backFault_21 : decode cX7_backFault 21 = .ok (.iload_n 2, 1) := by decide +kernel
theorem dX7_backFault_22 : decode cX7_backFault 22 = .ok (.ifCond .ne 6, 3) := by decide +kernel
theorem dX7_backFault_25 : decode cX7_backFault 25 = .ok (.bipush (-2), 2) := by decide +kernel
theorem dX7_backFault_27 : decode cX7_backFault 27 = .ok (.ireturn, 1) := by decide +kernel
theorem dX7_backFault_28 : decode cX7_backFault 28 = .ok (.aload_n 0, 1) := by decide +kernel
theorem dX7_backFault_29 : decode cX7_backFault 29 = .ok (.getfield 7, 3) := by decide +kernel
theorem dX7_backFault_32 : decode cX7_backFault 32 = .ok (.iload_n 1, 1) := by decide +kernel
theorem dX7_backFault_33 : decode cX7_backFault 33 = .ok (.bipush 105, 2) := by decide +kernel
theorem dX7_backFault_35 : decode cX7_backFault 35 = .ok (.iload_n 2, 1) := by decide +kernel
theorem dX7_backFault_36 : decode cX7_backFault 36 = .ok (.iadd, 1) := by decide +kernel
theorem dX7_backFault_37 : decode cX7_backFault 37 = .ok (.iconst 1, 1) := by decide +kernel
theorem dX7_backFault_38 : decode cX7_backFault 38 = .ok (.isub, 1) := by decide +kernel
theorem dX7_backFault_39 : decode cX7_backFault 39 = .ok (.invokestatic 59, 3) := by decide +kernel
theorem dX7_backFault_42 : decode cX7_backFault 42 = .ok (.iaload, 1) := by decide +kernel
theorem dX7_backFault_43 : decode cX7_backFault 43 = .ok (.invokestatic 46, 3) := by decide +kernel
theorem dX7_backFault_46 : decode cX7_backFault 46 = .ok (.iconst 1, 1) := by decide +kernel
theorem dX7_backFault_47 : decode cX7_backFault 47 = .ok (.if_icmp .ne 22, 3) := by decide +kernel
theorem dX7_backFault_50 : decode cX7_backFault 50 = .ok (.aload_n 0, 1) := by decide +kernel
theorem dX7_backFault_51 : decode cX7_backFault 51 = .ok (.getfield 7, 3) := by decide +kernel
theorem dX7_backFault_54 : decode cX7_backFault 54 = .ok (.iload_n 1, 1) := by decide +kernel
theorem dX7_backFault_55 : decode cX7_backFault 55 = .ok (.iconst 0, 1) := by decide +kernel
theorem dX7_backFault_56 : decode cX7_backFault 56 = .ok (.invokestatic 59, 3) := by decide +kernel
theorem dX7_backFault_59 : decode cX7_backFault 59 = .ok (.iaload, 1) := by decide +kernel
theorem dX7_backFault_60 : decode cX7_backFault 60 = .ok (.bipush 30, 2) := by decide +kernel
theorem dX7_backFault_62 : decode cX7_backFault 62 = .ok (.if_icmp .lt 7, 3) := by decide +kernel
theorem dX7_backFault_65 : decode cX7_backFault 65 = .ok (.iconst 1, 1) := by decide +kernel
theorem dX7_backFault_66 : decode cX7_backFault 66 = .ok (.goto 4, 3) := by decide +kernel
theorem dX7_backFault_69 : decode cX7_backFault 69 = .ok (.iconst 0, 1) := by decide +kernel
theorem dX7_backFault_70 : decode cX7_backFault 70 = .ok (.istore_n 3, 1) := by decide +kernel
theorem dX7_backFault_71 : decode cX7_backFault 71 = .ok (.aload_n 0, 1) := by decide +kernel
theorem dX7_backFault_72 : decode cX7_backFault 72 = .ok (.getfield 7, 3) := by decide +kernel
theorem dX7_backFault_75 : decode cX7_backFault 75 = .ok (.iload_n 1, 1) := by decide +kernel
theorem dX7_backFault_76 : decode cX7_backFault 76 = .ok (.bipush 97, 2) := by decide +kernel
theorem dX7_backFault_78 : decode cX7_backFault 78 = .ok (.invokestatic 59, 3) := by decide +kernel
theorem dX7_backFault_81 : decode cX7_backFault 81 = .ok (.iaload, 1) := by decide +kernel
theorem dX7_backFault_82 : decode cX7_backFault 82 = .ok (.bipush 6, 2) := by decide +kernel
theorem dX7_backFault_84 : decode cX7_backFault 84 = .ok (.if_icmp .eq 7, 3) := by decide +kernel
theorem dX7_backFault_87 : decode cX7_backFault 87 = .ok (.iload_n 3, 1) := by decide +kernel
theorem dX7_backFault_88 : decode cX7_backFault 88 = .ok (.ifCond .eq 8, 3) := by decide +kernel
theorem dX7_backFault_91 : decode cX7_backFault 91 = .ok (.bipush (-3), 2) := by decide +kernel
theorem dX7_backFault_93 : decode cX7_backFault 93 = .ok (.goto 4, 3) := by decide +kernel
theorem dX7_backFault_96 : decode cX7_backFault 96 = .ok (.iconst 0, 1) := by decide +kernel
theorem dX7_backFault_97 : decode cX7_backFault 97 = .ok (.ireturn, 1) := by decide +kernel
theorem dX7_backs_0 : decode cX7_backs 0 = .ok (.aload_n 0, 1) := by decide +kernel
theorem dX7_backs_1 : decode cX7_backs 1 = .ok (.getfield 7, 3) := by decide +kernel
theorem dX7_backs_4 : decode cX7_backs 4 = .ok (.iload_n 1, 1) := by decide +kernel
theorem dX7_backs_5 : decode cX7_backs 5 = .ok (.bipush 104, 2) := by decide +kernel
theorem dX7_backs_7 : decode cX7_backs 7 = .ok (.invokestatic 59, 3) := by decide +kernel
theorem dX7_backs_10 : decode cX7_backs 10 = .ok (.dup2, 1) := by decide +kernel
theorem dX7_backs_11 : decode cX7_backs 11 = .ok (.iaload, 1) := by decide +kernel
theorem dX7_backs_12 : decode cX7_backs 12 = .ok (.iconst 1, 1) := by decide +kernel
theorem dX7_backs_13 : decode cX7_backs 13 = .ok (.isub, 1) := by decide +kernel
theorem dX7_backs_14 : decode cX7_backs 14 = .ok (.iastore, 1) := by decide +kernel
theorem dX7_backs_15 : decode cX7_backs 15 = .ok (.aload_n 0, 1) := by decide +kernel
theorem dX7_backs_16 : decode cX7_backs 16 = .ok (.getfield 7, 3) := by decide +kernel
theorem dX7_backs_19 : decode cX7_backs 19 = .ok (.iload_n 1, 1) := by decide +kernel
theorem dX7_backs_20 : decode cX7_backs 20 = .ok (.bipush 105, 2) := by decide +kernel
theorem dX7_backs_22 : decode cX7_backs 22 = .ok (.aload_n 0, 1) := by decide +kernel
theorem dX7_backs_23 : decode cX7_backs 23 = .ok (.getfield 7, 3) := by decide +kernel
theorem dX7_backs_26 : decode cX7_backs 26 = .ok (.iload_n 1, 1) := by decide +kernel
theorem dX7_backs_27 : decode cX7_backs 27 = .ok (.bipush 104, 2) := by decide +kernel
theorem dX7_backs_29 : decode cX7_backs 29 = .ok (.invokestatic 59, 3) := by decide +kernel
theorem dX7_backs_32 : decode cX7_backs 32 = .ok (.iaload, 1) := by decide +kernel
theorem dX7_backs_33 : decode cX7_backs 33 = .ok (.iadd, 1) := by decide +kernel
theorem dX7_backs_34 : decode cX7_backs 34 = .ok (.invokestatic 59, 3) := by decide +kernel
theorem dX7_backs_37 : decode cX7_backs 37 = .ok (.iaload, 1) := by decide +kernel
theorem dX7_backs_38 : decode cX7_backs 38 = .ok (.istore_n 2, 1) := by decide +kernel
theorem dX7_backs_39 : decode cX7_backs 39 = .ok (.iload_n 2, 1) := by decide +kernel
theorem dX7_backs_40 : decode cX7_backs 40 = .ok (.invokestatic 46, 3) := by decide +kernel
theorem dX7_backs_43 : decode cX7_backs 43 = .ok (.ifCond .le 9, 3) := by decide +kernel
theorem dX7_backs_46 : decode cX7_backs 46 = .ok (.aload_n 0, 1) := by decide +kernel
theorem dX7_backs_47 : decode cX7_backs 47 = .ok (.iload_n 1, 1) := by decide +kernel
theorem dX7_backs_48 : decode cX7_backs 48 = .ok (.iload_n 2, 1) := by decide +kernel
theorem dX7_backs_49 : decode cX7_backs 49 = .ok (.invokevirtual 74, 3) := by decide +kernel
theorem dX7_backs_52 : decode cX7_backs 52 = .ok (.iload_n 2, 1) := by decide +kernel
theorem dX7_backs_53 : decode cX7_backs 53 = .ok (.invokestatic 46, 3) := by decide +kernel
theorem dX7_backs_56 : decode cX7_backs 56 = .ok (.ireturn, 1) := by decide +kernel
theorem dX7_behind_0 : decode cX7_behind 0 = .ok (.iload_n 2, 1) := by decide +kernel
theorem dX7_behind_1 : decode cX7_behind 1 = .ok (.istore_n 3, 1) := by decide +kernel
theorem dX7_behind_2 : decode cX7_behind 2 = .ok (.aload_n 0, 1) := by decide +kernel
theorem dX7_behind_3 : decode cX7_behind 3 = .ok (.getfield 7, 3) := by decide +kernel
theorem dX7_behind_6 : decode cX7_behind 6 = .ok (.iload_n 1, 1) := by decide +kernel
theorem dX7_behind_7 : decode cX7_behind 7 = .ok (.bipush 112, 2) := by decide +kernel
theorem dX7_behind_9 : decode cX7_behind 9 = .ok (.invokestatic 59, 3) := by decide +kernel
theorem dX7_behind_12 : decode cX7_behind 12 = .ok (.iaload, 1) := by decide +kernel
theorem dX7_behind_13 : decode cX7_behind 13 = .ok (.istore 4, 2) := by decide +kernel
theorem dX7_behind_15 : decode cX7_behind 15 = .ok (.iload 4, 2) := by decide +kernel
theorem dX7_behind_17 : decode cX7_behind 17 = .ok (.aload_n 0, 1) := by decide +kernel
theorem dX7_behind_18 : decode cX7_behind 18 = .ok (.getfield 7, 3) := by decide +kernel
theorem dX7_behind_21 : decode cX7_behind 21 = .ok (.iconst 0, 1) := by decide +kernel
theorem dX7_behind_22 : decode cX7_behind 22 = .ok (.iaload, 1) := by decide +kernel
theorem dX7_behind_23 : decode cX7_behind 23 = .ok (.if_icmp .ge 23, 3) := by decide +kernel
theorem dX7_behind_26 : decode cX7_behind 26 = .ok (.iload_n 3, 1) := by decide +kernel
theorem dX7_behind_27 : decode cX7_behind 27 = .ok (.aload_n 0, 1) := by decide +kernel
theorem dX7_behind_28 : decode cX7_behind 28 = .ok (.getfield 7, 3) := by decide +kernel
theorem dX7_behind_31 : decode cX7_behind 31 = .ok (.iconst 1, 1) := by decide +kernel
theorem dX7_behind_32 : decode cX7_behind 32 = .ok (.iload 4, 2) := by decide +kernel
theorem dX7_behind_34 : decode cX7_behind 34 = .ok (.iadd, 1) := by decide +kernel
theorem dX7_behind_35 : decode cX7_behind 35 = .ok (.iaload, 1) := by decide +kernel
theorem dX7_behind_36 : decode cX7_behind 36 = .ok (.invokestatic 63, 3) := by decide +kernel
theorem dX7_behind_39 : decode cX7_behind 39 = .ok (.istore_n 3, 1) := by decide +kernel
theorem dX7_behind_40 : decode cX7_behind 40 = .ok (.iinc 4 1, 3) := by decide +kernel
theorem dX7_behind_43 : decode cX7_behind 43 = .ok (.goto (-28), 3) := by decide +kernel
theorem dX7_behind_46 : decode cX7_behind 46 = .ok (.iload_n 3, 1) := by decide +kernel
theorem dX7_behind_47 : decode cX7_behind 47 = .ok (.ireturn, 1) := by decide +kernel
theorem dX7_canSend_0 : decode cX7_canSend 0 = .ok (.aload_n 0, 1) := by decide +kernel
theorem dX7_canSend_1 : decode cX7_canSend 1 = .ok (.getfield 7, 3) := by decide +kernel
theorem dX7_canSend_4 : decode cX7_canSend 4 = .ok (.iload_n 1, 1) := by decide +kernel
theorem dX7_canSend_5 : decode cX7_canSend 5 = .ok (.bipush 97, 2) := by decide +kernel
theorem dX7_canSend_7 : decode cX7_canSend 7 = .ok (.invokestatic 59, 3) := by decide +kernel
theorem dX7_canSend_10 : decode cX7_canSend 10 = .ok (.iaload, 1) := by decide +kernel
theorem dX7_canSend_11 : decode cX7_canSend 11 = .ok (.ifCond .le 21, 3) := by decide +kernel
theorem dX7_canSend_14 : decode cX7_canSend 14 = .ok (.aload_n 0, 1) := by decide +kernel
theorem dX7_canSend_15 : decode cX7_canSend 15 = .ok (.getfield 7, 3) := by decide +kernel
theorem dX7_canSend_18 : decode cX7_canSend 18 = .ok (.iload_n 1, 1) := by decide +kernel
theorem dX7_canSend_19 : decode cX7_canSend 19 = .ok (.bipush 113, 2) := by decide +kernel
theorem dX7_canSend_21 : decode cX7_canSend 21 = .ok (.invokestatic 59, 3) := by decide +kernel
theorem dX7_canSend_24 : decode cX7_canSend 24 = .ok (.iaload, 1) := by decide +kernel
theorem dX7_canSend_25 : decode cX7_canSend 25 = .ok (.ifCond .ne 7, 3) := by decide +kernel
theorem dX7_canSend_28 : decode cX7_canSend 28 = .ok (.iconst 1, 1) := by decide +kernel
theorem dX7_canSend_29 : decode cX7_canSend 29 = .ok (.goto 4, 3) := by decide +kernel
theorem dX7_canSend_32 : decode cX7_canSend 32 = .ok (.iconst 0, 1) := by decide +kernel
theorem dX7_canSend_33 : decode cX7_canSend 33 = .ok (.ireturn, 1) := by decide +kernel
theorem dX7_sendFault_0 : decode cX7_sendFault 0 = .ok (.iload_n 1, 1) := by decide +kernel
theorem dX7_sendFault_1 : decode cX7_sendFault 1 = .ok (.invokestatic 70, 3) := by decide +kernel
theorem dX7_sendFault_4 : decode cX7_sendFault 4 = .ok (.ifCond .ne 7, 3) := by decide +kernel
theorem dX7_sendFault_7 : decode cX7_sendFault 7 = .ok (.iconst (-1), 1) := by decide +kernel
theorem dX7_sendFault_8 : decode cX7_sendFault 8 = .ok (.goto 33, 3) := by decide +kernel
theorem dX7_sendFault_11 : decode cX7_sendFault 11 = .ok (.aload_n 0, 1) := by decide +kernel
theorem dX7_sendFault_12 : decode cX7_sendFault 12 = .ok (.iload_n 1, 1) := by decide +kernel
theorem dX7_sendFault_13 : decode cX7_sendFault 13 = .ok (.invokevirtual 80, 3) := by decide +kernel
theorem dX7_sendFault_16 : decode cX7_sendFault 16 = .ok (.ifCond .ne 8, 3) := by decide +kernel
theorem dX7_sendFault_19 : decode cX7_sendFault 19 = .ok (.bipush (-2), 2) := by decide +kernel
theorem dX7_sendFault_21 : decode cX7_sendFault 21 = .ok (.goto 20, 3) := by decide +kernel
theorem dX7_sendFault_24 : decode cX7_sendFault 24 = .ok (.aload_n 0, 1) := by decide +kernel
theorem dX7_sendFault_25 : decode cX7_sendFault 25 = .ok (.getfield 7, 3) := by decide +kernel
theorem dX7_sendFault_28 : decode cX7_sendFault 28 = .ok (.iconst 0, 1) := by decide +kernel
theorem dX7_sendFault_29 : decode cX7_sendFault 29 = .ok (.iaload, 1) := by decide +kernel
theorem dX7_sendFault_30 : decode cX7_sendFault 30 = .ok (.bipush 60, 2) := by decide +kernel
theorem dX7_sendFault_32 : decode cX7_sendFault 32 = .ok (.if_icmp .lt 8, 3) := by decide +kernel
theorem dX7_sendFault_35 : decode cX7_sendFault 35 = .ok (.bipush (-3), 2) := by decide +kernel
theorem dX7_sendFault_37 : decode cX7_sendFault 37 = .ok (.goto 4, 3) := by decide +kernel
theorem dX7_sendFault_40 : decode cX7_sendFault 40 = .ok (.iconst 0, 1) := by decide +kernel
theorem dX7_sendFault_41 : decode cX7_sendFault 41 = .ok (.ireturn, 1) := by decide +kernel
theorem dX7_sends_0 : decode cX7_sends 0 = .ok (.aload_n 0, 1) := by decide +kernel
theorem dX7_sends_1 : decode cX7_sends 1 = .ok (.getfield 7, 3) := by decide +kernel
theorem dX7_sends_4 : decode cX7_sends 4 = .ok (.iconst 1, 1) := by decide +kernel
theorem dX7_sends_5 : decode cX7_sends 5 = .ok (.aload_n 0, 1) := by decide +kernel
theorem dX7_sends_6 : decode cX7_sends 6 = .ok (.getfield 7, 3) := by decide +kernel
theorem dX7_sends_9 : decode cX7_sends 9 = .ok (.iconst 0, 1) := by decide +kernel
theorem dX7_sends_10 : decode cX7_sends 10 = .ok (.iaload, 1) := by decide +kernel
theorem dX7_sends_11 : decode cX7_sends 11 = .ok (.iadd, 1) := by decide +kernel
theorem dX7_sends_12 : decode cX7_sends 12 = .ok (.aload_n 0, 1) := by decide +kernel
theorem dX7_sends_13 : decode cX7_sends 13 = .ok (.iload_n 1, 1) := by decide +kernel
theorem dX7_sends_14 : decode cX7_sends 14 = .ok (.aload_n 0, 1) := by decide +kernel
theorem dX7_sends_15 : decode cX7_sends 15 = .ok (.getfield 7, 3) := by decide +kernel
theorem dX7_sends_18 : decode cX7_sends 18 = .ok (.iload_n 1, 1) := by decide +kernel
theorem dX7_sends_19 : decode cX7_sends 19 = .ok (.bipush 98, 2) := by decide +kernel
theorem dX7_sends_21 : decode cX7_sends 21 = .ok (.invokestatic 59, 3) := by decide +kernel
theorem dX7_sends_24 : decode cX7_sends 24 = .ok (.iaload, 1) := by decide +kernel
theorem dX7_sends_25 : decode cX7_sends 25 = .ok (.invokevirtual 83, 3) := by decide +kernel
theorem dX7_sends_28 : decode cX7_sends 28 = .ok (.iastore, 1) := by decide +kernel
theorem dX7_sends_29 : decode cX7_sends 29 = .ok (.aload_n 0, 1) := by decide +kernel
theorem dX7_sends_30 : decode cX7_sends 30 = .ok (.getfield 7, 3) := by decide +kernel
theorem dX7_sends_33 : decode cX7_sends 33 = .ok (.iconst 0, 1) := by decide +kernel
theorem dX7_sends_34 : decode cX7_sends 34 = .ok (.dup2, 1) := by decide +kernel
theorem dX7_sends_35 : decode cX7_sends 35 = .ok (.iaload, 1) := by decide +kernel
theorem dX7_sends_36 : decode cX7_sends 36 = .ok (.iconst 1, 1) := by decide +kernel
theorem dX7_sends_37 : decode cX7_sends 37 = .ok (.iadd, 1) := by decide +kernel
theorem dX7_sends_38 : decode cX7_sends 38 = .ok (.iastore, 1) := by decide +kernel
theorem dX7_sends_39 : decode cX7_sends 39 = .ok (.aload_n 0, 1) := by decide +kernel
theorem dX7_sends_40 : decode cX7_sends 40 = .ok (.getfield 7, 3) := by decide +kernel
theorem dX7_sends_43 : decode cX7_sends 43 = .ok (.iload_n 1, 1) := by decide +kernel
theorem dX7_sends_44 : decode cX7_sends 44 = .ok (.bipush 113, 2) := by decide +kernel
theorem dX7_sends_46 : decode cX7_sends 46 = .ok (.invokestatic 59, 3) := by decide +kernel
theorem dX7_sends_49 : decode cX7_sends 49 = .ok (.iconst 1, 1) := by decide +kernel
theorem dX7_sends_50 : decode cX7_sends 50 = .ok (.iastore, 1) := by decide +kernel
theorem dX7_sends_51 : decode cX7_sends 51 = .ok (.aload_n 0, 1) := by decide +kernel
theorem dX7_sends_52 : decode cX7_sends 52 = .ok (.getfield 7, 3) := by decide +kernel
theorem dX7_sends_55 : decode cX7_sends 55 = .ok (.iconst 0, 1) := by decide +kernel
theorem dX7_sends_56 : decode cX7_sends 56 = .ok (.iaload, 1) := by decide +kernel
theorem dX7_sends_57 : decode cX7_sends 57 = .ok (.ireturn, 1) := by decide +kernel
theorem dX7_hearFault_0 : decode cX7_hearFault 0 = .ok (.iload_n 1, 1) := by decide +kernel
theorem dX7_hearFault_1 : decode cX7_hearFault 1 = .ok (.invokestatic 70, 3) := by decide +kernel
theorem dX7_hearFault_4 : decode cX7_hearFault 4 = .ok (.ifCond .ne 7, 3) := by decide +kernel
theorem dX7_hearFault_7 : decode cX7_hearFault 7 = .ok (.iconst (-1), 1) := by decide +kernel
theorem dX7_hearFault_8 : decode cX7_hearFault 8 = .ok (.goto 29, 3) := by decide +kernel
theorem dX7_hearFault_11 : decode cX7_hearFault 11 = .ok (.aload_n 0, 1) := by decide +kernel
theorem dX7_hearFault_12 : decode cX7_hearFault 12 = .ok (.getfield 7, 3) := by decide +kernel
theorem dX7_hearFault_15 : decode cX7_hearFault 15 = .ok (.iload_n 1, 1) := by decide +kernel
theorem dX7_hearFault_16 : decode cX7_hearFault 16 = .ok (.bipush 112, 2) := by decide +kernel
theorem dX7_hearFault_18 : decode cX7_hearFault 18 = .ok (.invokestatic 59, 3) := by decide +kernel
theorem dX7_hearFault_21 : decode cX7_hearFault 21 = .ok (.iaload, 1) := by decide +kernel
theorem dX7_hearFault_22 : decode cX7_hearFault 22 = .ok (.aload_n 0, 1) := by decide +kernel
theorem dX7_hearFault_23 : decode cX7_hearFault 23 = .ok (.getfield 7, 3) := by decide +kernel
theorem dX7_hearFault_26 : decode cX7_hearFault 26 = .ok (.iconst 0, 1) := by decide +kernel
theorem dX7_hearFault_27 : decode cX7_hearFault 27 = .ok (.iaload, 1) := by decide +kernel
theorem dX7_hearFault_28 : decode cX7_hearFault 28 = .ok (.if_icmp .ne 8, 3) := by decide +kernel
theorem dX7_hearFault_31 : decode cX7_hearFault 31 = .ok (.bipush (-2), 2) := by decide +kernel
theorem dX7_hearFault_33 : decode cX7_hearFault 33 = .ok (.goto 4, 3) := by decide +kernel
theorem dX7_hearFault_36 : decode cX7_hearFault 36 = .ok (.iconst 0, 1) := by decide +kernel
theorem dX7_hearFault_37 : decode cX7_hearFault 37 = .ok (.ireturn, 1) := by decide +kernel
theorem dX7_hears_0 : decode cX7_hears 0 = .ok (.aload_n 0, 1) := by decide +kernel
theorem dX7_hears_1 : decode cX7_hears 1 = .ok (.getfield 7, 3) := by decide +kernel
theorem dX7_hears_4 : decode cX7_hears 4 = .ok (.iconst 1, 1) := by decide +kernel
theorem dX7_hears_5 : decode cX7_hears 5 = .ok (.aload_n 0, 1) := by decide +kernel
theorem dX7_hears_6 : decode cX7_hears 6 = .ok (.getfield 7, 3) := by decide +kernel
theorem dX7_hears_9 : decode cX7_hears 9 = .ok (.iload_n 1, 1) := by decide +kernel
theorem dX7_hears_10 : decode cX7_hears 10 = .ok (.bipush 112, 2) := by decide +kernel
theorem dX7_hears_12 : decode cX7_hears 12 = .ok (.invokestatic 59, 3) := by decide +kernel
theorem dX7_hears_15 : decode cX7_hears 15 = .ok (.iaload, 1) := by decide +kernel
theorem dX7_hears_16 : decode cX7_hears 16 = .ok (.iadd, 1) := by decide +kernel
theorem dX7_hears_17 : decode cX7_hears 17 = .ok (.iaload, 1) := by decide +kernel
theorem dX7_hears_18 : decode cX7_hears 18 = .ok (.istore_n 2, 1) := by decide +kernel
theorem dX7_hears_19 : decode cX7_hears 19 = .ok (.aload_n 0, 1) := by decide +kernel
theorem dX7_hears_20 : decode cX7_hears 20 = .ok (.getfield 7, 3) := by decide +kernel
theorem dX7_hears_23 : decode cX7_hears 23 = .ok (.iload_n 1, 1) := by decide +kernel
theorem dX7_hears_24 : decode cX7_hears 24 = .ok (.bipush 112, 2) := by decide +kernel
theorem dX7_hears_26 : decode cX7_hears 26 = .ok (.invokestatic 59, 3) := by decide +kernel
theorem dX7_hears_29 : decode cX7_hears 29 = .ok (.dup2, 1) := by decide +kernel
theorem dX7_hears_30 : decode cX7_hears 30 = .ok (.iaload, 1) := by decide +kernel
theorem dX7_hears_31 : decode cX7_hears 31 = .ok (.iconst 1, 1) := by decide +kernel
theorem dX7_hears_32 : decode cX7_hears 32 = .ok (.iadd, 1) := by decide +kernel
theorem dX7_hears_33 : decode cX7_hears 33 = .ok (.iastore, 1) := by decide +kernel
theorem dX7_hears_34 : decode cX7_hears 34 = .ok (.iload_n 2, 1) := by decide +kernel
theorem dX7_hears_35 : decode cX7_hears 35 = .ok (.invokestatic 49, 3) := by decide +kernel
theorem dX7_hears_38 : decode cX7_hears 38 = .ok (.iload_n 1, 1) := by decide +kernel
theorem dX7_hears_39 : decode cX7_hears 39 = .ok (.if_icmp .ne 83, 3) := by decide +kernel
theorem dX7_hears_42 : decode cX7_hears 42 = .ok (.aload_n 0, 1) := by decide +kernel
theorem dX7_hears_43 : decode cX7_hears 43 = .ok (.getfield 7, 3) := by decide +kernel
theorem dX7_hears_46 : decode cX7_hears 46 = .ok (.iload_n 1, 1) := by decide +kernel
theorem dX7_hears_47 : decode cX7_hears 47 = .ok (.bipush 97, 2) := by decide +kernel
theorem dX7_hears_49 : decode cX7_hears 49 = .ok (.invokestatic 59, 3) := by decide +kernel
theorem dX7_hears_52 : decode cX7_hears 52 = .ok (.dup2, 1) := by decide +kernel
theorem dX7_hears_53 : decode cX7_hears 53 = .ok (.iaload, 1) := by decide +kernel
theorem dX7_hears_54 : decode cX7_hears 54 = .ok (.iconst 1, 1) := by decide +kernel
theorem dX7_hears_55 : decode cX7_hears 55 = .ok (.isub, 1) := by decide +kernel
theorem dX7_hears_56 : decode cX7_hears 56 = .ok (.iastore, 1) := by decide +kernel
theorem dX7_hears_57 : decode cX7_hears 57 = .ok (.aload_n 0, 1) := by decide +kernel
theorem dX7_hears_58 : decode cX7_hears 58 = .ok (.getfield 7, 3) := by decide +kernel
theorem dX7_hears_61 : decode cX7_hears 61 = .ok (.iload_n 1, 1) := by decide +kernel
theorem dX7_hears_62 : decode cX7_hears 62 = .ok (.bipush 113, 2) := by decide +kernel
theorem dX7_hears_64 : decode cX7_hears 64 = .ok (.invokestatic 59, 3) := by decide +kernel
theorem dX7_hears_67 : decode cX7_hears 67 = .ok (.iconst 0, 1) := by decide +kernel
theorem dX7_hears_68 : decode cX7_hears 68 = .ok (.iastore, 1) := by decide +kernel
theorem dX7_hears_69 : decode cX7_hears 69 = .ok (.iconst 0, 1) := by decide +kernel
theorem dX7_hears_70 : decode cX7_hears 70 = .ok (.istore_n 3, 1) := by decide +kernel
theorem dX7_hears_71 : decode cX7_hears 71 = .ok (.iload_n 3, 1) := by decide +kernel
theorem dX7_hears_72 : decode cX7_hears 72 = .ok (.aload_n 0, 1) := by decide +kernel
theorem dX7_hears_73 : decode cX7_hears 73 = .ok (.getfield 7, 3) := by decide +kernel
theorem dX7_hears_76 : decode cX7_hears 76 = .ok (.iload_n 1, 1) := by decide +kernel
theorem dX7_hears_77 : decode cX7_hears 77 = .ok (.bipush 97, 2) := by decide +kernel
theorem dX7_hears_79 : decode cX7_hears 79 = .ok (.invokestatic 59, 3) := by decide +kernel
theorem dX7_hears_82 : decode cX7_hears 82 = .ok (.iaload, 1) := by decide +kernel
theorem dX7_hears_83 : decode cX7_hears 83 = .ok (.if_icmp .ge 37, 3) := by decide +kernel
theorem dX7_hears_86 : decode cX7_hears 86 = .ok (.aload_n 0, 1) := by decide +kernel
theorem dX7_hears_87 : decode cX7_hears 87 = .ok (.getfield 7, 3) := by decide +kernel
theorem dX7_hears_90 : decode cX7_hears 90 = .ok (.iload_n 1, 1) := by decide +kernel
theorem dX7_hears_91 : decode cX7_hears 91 = .ok (.bipush 98, 2) := by decide +kernel
theorem dX7_hears_93 : decode cX7_hears 93 = .ok (.iload_n 3, 1) := by decide +kernel
theorem dX7_hears_94 : decode cX7_hears 94 = .ok (.iadd, 1) := by decide +kernel
theorem dX7_hears_95 : decode cX7_hears 95 = .ok (.invokestatic 59, 3) := by decide +kernel
theorem dX7_hears_98 : decode cX7_hears 98 = .ok (.aload_n 0, 1) := by decide +kernel
theorem dX7_hears_99 : decode cX7_hears 99 = .ok (.getfield 7, 3) := by decide +kernel
theorem dX7_hears_102 : decode cX7_hears 102 = .ok (.iload_n 1, 1) := by decide +kernel
theorem dX7_hears_103 : decode cX7_hears 103 = .ok (.bipush 98, 2) := by decide +kernel
theorem dX7_hears_105 : decode cX7_hears 105 = .ok (.iload_n 3, 1) := by decide +kernel
theorem dX7_hears_106 : decode cX7_hears 106 = .ok (.iadd, 1) := by decide +kernel
theorem dX7_hears_107 : decode cX7_hears 107 = .ok (.iconst 1, 1) := by decide +kernel
theorem dX7_hears_108 : decode cX7_hears 108 = .ok (.iadd, 1) := by decide +kernel
theorem dX7_hears_109 : decode cX7_hears 109 = .ok (.invokestatic 59, 3) := by decide +kernel
theorem dX7_hears_112 : decode cX7_hears 112 = .ok (.iaload, 1) := by decide +kernel
theorem dX7_hears_113 : decode cX7_hears 113 = .ok (.iastore, 1) := by decide +kernel
theorem dX7_hears_114 : decode cX7_hears 114 = .ok (.iinc 3 1, 3) := by decide +kernel
theorem dX7_hears_117 : decode cX7_hears 117 = .ok (.goto (-46), 3) := by decide +kernel
theorem dX7_hears_120 : decode cX7_hears 120 = .ok (.iconst 0, 1) := by decide +kernel
theorem dX7_hears_121 : decode cX7_hears 121 = .ok (.ireturn, 1) := by decide +kernel
theorem dX7_hears_122 : decode cX7_hears 122 = .ok (.iconst 0, 1) := by decide +kernel
theorem dX7_hears_123 : decode cX7_hears 123 = .ok (.istore_n 3, 1) := by decide +kernel
theorem dX7_hears_124 : decode cX7_hears 124 = .ok (.iload_n 3, 1) := by decide +kernel
theorem dX7_hears_125 : decode cX7_hears 125 = .ok (.aload_n 0, 1) := by decide +kernel
theorem dX7_hears_126 : decode cX7_hears 126 = .ok (.getfield 7, 3) := by decide +kernel
theorem dX7_hears_129 : decode cX7_hears 129 = .ok (.iload_n 1, 1) := by decide +kernel
theorem dX7_hears_130 : decode cX7_hears 130 = .ok (.bipush 97, 2) := by decide +kernel
theorem dX7_hears_132 : decode cX7_hears 132 = .ok (.invokestatic 59, 3) := by decide +kernel
theorem dX7_hears_135 : decode cX7_hears 135 = .ok (.iaload, 1) := by decide +kernel
theorem dX7_hears_136 : decode cX7_hears 136 = .ok (.if_icmp .ge 50, 3) := by decide +kernel
theorem dX7_hears_139 : decode cX7_hears 139 = .ok (.aload_n 0, 1) := by decide +kernel
theorem dX7_hears_140 : decode cX7_hears 140 = .ok (.getfield 7, 3) := by decide +kernel
theorem dX7_hears_143 : decode cX7_hears 143 = .ok (.iload_n 1, 1) := by decide +kernel
theorem dX7_hears_144 : decode cX7_hears 144 = .ok (.bipush 98, 2) := by decide +kernel
theorem dX7_hears_146 : decode cX7_hears 146 = .ok (.iload_n 3, 1) := by decide +kernel
theorem dX7_hears_147 : decode cX7_hears 147 = .ok (.iadd, 1) := by decide +kernel
theorem dX7_hears_148 : decode cX7_hears 148 = .ok (.invokestatic 59, 3) := by decide +kernel
theorem dX7_hears_151 : decode cX7_hears 151 = .ok (.iaload, 1) := by decide +kernel
theorem dX7_hears_152 : decode cX7_hears 152 = .ok (.istore 4, 2) := by decide +kernel
theorem dX7_hears_154 : decode cX7_hears 154 = .ok (.aload_n 0, 1) := by decide +kernel
theorem dX7_hears_155 : decode cX7_hears 155 = .ok (.getfield 7, 3) := by decide +kernel
theorem dX7_hears_158 : decode cX7_hears 158 = .ok (.iload_n 1, 1) := by decide +kernel
theorem dX7_hears_159 : decode cX7_hears 159 = .ok (.bipush 98, 2) := by decide +kernel
theorem dX7_hears_161 : decode cX7_hears 161 = .ok (.iload_n 3, 1) := by decide +kernel
theorem dX7_hears_162 : decode cX7_hears 162 = .ok (.iadd, 1) := by decide +kernel
theorem dX7_hears_163 : decode cX7_hears 163 = .ok (.invokestatic 59, 3) := by decide +kernel
theorem dX7_hears_166 : decode cX7_hears 166 = .ok (.iload 4, 2) := by decide +kernel
theorem dX7_hears_168 : decode cX7_hears 168 = .ok (.iload_n 2, 1) := by decide +kernel
theorem dX7_hears_169 : decode cX7_hears 169 = .ok (.invokestatic 63, 3) := by decide +kernel
theorem dX7_hears_172 : decode cX7_hears 172 = .ok (.iastore, 1) := by decide +kernel
theorem dX7_hears_173 : decode cX7_hears 173 = .ok (.iload_n 2, 1) := by decide +kernel
theorem dX7_hears_174 : decode cX7_hears 174 = .ok (.iload 4, 2) := by decide +kernel
theorem dX7_hears_176 : decode cX7_hears 176 = .ok (.invokestatic 63, 3) := by decide +kernel
theorem dX7_hears_179 : decode cX7_hears 179 = .ok (.istore_n 2, 1) := by decide +kernel
theorem dX7_hears_180 : decode cX7_hears 180 = .ok (.iinc 3 1, 3) := by decide +kernel
theorem dX7_hears_183 : decode cX7_hears 183 = .ok (.goto (-59), 3) := by decide +kernel
theorem dX7_hears_186 : decode cX7_hears 186 = .ok (.aload_n 0, 1) := by decide +kernel
theorem dX7_hears_187 : decode cX7_hears 187 = .ok (.iload_n 1, 1) := by decide +kernel
theorem dX7_hears_188 : decode cX7_hears 188 = .ok (.iload_n 2, 1) := by decide +kernel
theorem dX7_hears_189 : decode cX7_hears 189 = .ok (.invokevirtual 66, 3) := by decide +kernel
theorem dX7_hears_192 : decode cX7_hears 192 = .ok (.iload_n 2, 1) := by decide +kernel
theorem dX7_hears_193 : decode cX7_hears 193 = .ok (.invokestatic 46, 3) := by decide +kernel
theorem dX7_hears_196 : decode cX7_hears 196 = .ok (.ireturn, 1) := by decide +kernel
theorem dX7_hearsAll_0 : decode cX7_hearsAll 0 = .ok (.iconst 0, 1) := by decide +kernel
theorem dX7_hearsAll_1 : decode cX7_hearsAll 1 = .ok (.istore_n 2, 1) := by decide +kernel
theorem dX7_hearsAll_2 : decode cX7_hearsAll 2 = .ok (.aload_n 0, 1) := by decide +kernel
theorem dX7_hearsAll_3 : decode cX7_hearsAll 3 = .ok (.getfield 7, 3) := by decide +kernel
theorem dX7_hearsAll_6 : decode cX7_hearsAll 6 = .ok (.iload_n 1, 1) := by decide +kernel
theorem dX7_hearsAll_7 : decode cX7_hearsAll 7 = .ok (.bipush 112, 2) := by decide +kernel
theorem dX7_hearsAll_9 : decode cX7_hearsAll 9 = .ok (.invokestatic 59, 3) := by decide +kernel
theorem dX7_hearsAll_12 : decode cX7_hearsAll 12 = .ok (.iaload, 1) := by decide +kernel
theorem dX7_hearsAll_13 : decode cX7_hearsAll 13 = .ok (.aload_n 0, 1) := by decide +kernel
theorem dX7_hearsAll_14 : decode cX7_hearsAll 14 = .ok (.getfield 7, 3) := by decide +kernel
theorem dX7_hearsAll_17 : decode cX7_hearsAll 17 = .ok (.iconst 0, 1) := by decide +kernel
theorem dX7_hearsAll_18 : decode cX7_hearsAll 18 = .ok (.iaload, 1) := by decide +kernel
theorem dX7_hearsAll_19 : decode cX7_hearsAll 19 = .ok (.if_icmp .ge 15, 3) := by decide +kernel
theorem dX7_hearsAll_22 : decode cX7_hearsAll 22 = .ok (.aload_n 0, 1) := by decide +kernel
theorem dX7_hearsAll_23 : decode cX7_hearsAll 23 = .ok (.iload_n 1, 1) := by decide +kernel
theorem dX7_hearsAll_24 : decode cX7_hearsAll 24 = .ok (.invokevirtual 86, 3) := by decide +kernel
theorem dX7_hearsAll_27 : decode cX7_hearsAll 27 = .ok (.istore_n 3, 1) := by decide +kernel
theorem dX7_hearsAll_28 : decode cX7_hearsAll 28 = .ok (.iinc 2 1, 3) := by decide +kernel
theorem dX7_hearsAll_31 : decode cX7_hearsAll 31 = .ok (.goto (-29), 3) := by decide +kernel
theorem dX7_hearsAll_34 : decode cX7_hearsAll 34 = .ok (.iload_n 2, 1) := by decide +kernel
theorem dX7_hearsAll_35 : decode cX7_hearsAll 35 = .ok (.ireturn, 1) := by decide +kernel
theorem dX7_insert_0 : decode cX7_insert 0 = .ok (.aload_n 0, 1) := by decide +kernel
theorem dX7_insert_1 : decode cX7_insert 1 = .ok (.iload_n 1, 1) := by decide +kernel
theorem dX7_insert_2 : decode cX7_insert 2 = .ok (.iload_n 2, 1) := by decide +kernel
theorem dX7_insert_3 : decode cX7_insert 3 = .ok (.iload_n 3, 1) := by decide +kernel
theorem dX7_insert_4 : decode cX7_insert 4 = .ok (.invokevirtual 89, 3) := by decide +kernel
theorem dX7_insert_7 : decode cX7_insert 7 = .ok (.istore 4, 2) := by decide +kernel
theorem dX7_insert_9 : decode cX7_insert 9 = .ok (.iload 4, 2) := by decide +kernel
theorem dX7_insert_11 : decode cX7_insert 11 = .ok (.ifCond .ge 6, 3) := by decide +kernel
theorem dX7_insert_14 : decode cX7_insert 14 = .ok (.iload 4, 2) := by decide +kernel
theorem dX7_insert_16 : decode cX7_insert 16 = .ok (.ireturn, 1) := by decide +kernel
theorem dX7_insert_17 : decode cX7_insert 17 = .ok (.aload_n 0, 1) := by decide +kernel
theorem dX7_insert_18 : decode cX7_insert 18 = .ok (.invokevirtual 93, 3) := by decide +kernel
theorem dX7_insert_21 : decode cX7_insert 21 = .ok (.aload_n 0, 1) := by decide +kernel
theorem dX7_insert_22 : decode cX7_insert 22 = .ok (.iload_n 1, 1) := by decide +kernel
theorem dX7_insert_23 : decode cX7_insert 23 = .ok (.iload_n 2, 1) := by decide +kernel
theorem dX7_insert_24 : decode cX7_insert 24 = .ok (.iload_n 3, 1) := by decide +kernel
theorem dX7_insert_25 : decode cX7_insert 25 = .ok (.invokevirtual 96, 3) := by decide +kernel
theorem dX7_insert_28 : decode cX7_insert 28 = .ok (.ireturn, 1) := by decide +kernel
theorem dX7_delete_0 : decode cX7_delete 0 = .ok (.aload_n 0, 1) := by decide +kernel
theorem dX7_delete_1 : decode cX7_delete 1 = .ok (.iload_n 1, 1) := by decide +kernel
theorem dX7_delete_2 : decode cX7_delete 2 = .ok (.iload_n 2, 1) := by decide +kernel
theorem dX7_delete_3 : decode cX7_delete 3 = .ok (.invokevirtual 99, 3) := by decide +kernel
theorem dX7_delete_6 : decode cX7_delete 6 = .ok (.istore_n 3, 1) := by decide +kernel
theorem dX7_delete_7 : decode cX7_delete 7 = .ok (.iload_n 3, 1) := by decide +kernel
theorem dX7_delete_8 : decode cX7_delete 8 = .ok (.ifCond .ge 5, 3) := by decide +kernel
theorem dX7_delete_11 : decode cX7_delete 11 = .ok (.iload_n 3, 1) := by decide +kernel
theorem dX7_delete_12 : decode cX7_delete 12 = .ok (.ireturn, 1) := by decide +kernel
theorem dX7_delete_13 : decode cX7_delete 13 = .ok (.aload_n 0, 1) := by decide +kernel
theorem dX7_delete_14 : decode cX7_delete 14 = .ok (.invokevirtual 93, 3) := by decide +kernel
theorem dX7_delete_17 : decode cX7_delete 17 = .ok (.aload_n 0, 1) := by decide +kernel
theorem dX7_delete_18 : decode cX7_delete 18 = .ok (.iload_n 1, 1) := by decide +kernel
theorem dX7_delete_19 : decode cX7_delete 19 = .ok (.iload_n 2, 1) := by decide +kernel
theorem dX7_delete_20 : decode cX7_delete 20 = .ok (.invokevirtual 102, 3) := by decide +kernel
theorem dX7_delete_23 : decode cX7_delete 23 = .ok (.ireturn, 1) := by decide +kernel
theorem dX7_takeBack_0 : decode cX7_takeBack 0 = .ok (.aload_n 0, 1) := by decide +kernel
theorem dX7_takeBack_1 : decode cX7_takeBack 1 = .ok (.iload_n 1, 1) := by decide +kernel
theorem dX7_takeBack_2 : decode cX7_takeBack 2 = .ok (.invokevirtual 105, 3) := by decide +kernel
theorem dX7_takeBack_5 : decode cX7_takeBack 5 = .ok (.istore_n 2, 1) := by decide +kernel
theorem dX7_takeBack_6 : decode cX7_takeBack 6 = .ok (.iload_n 2, 1) := by decide +kernel
theorem dX7_takeBack_7 : decode cX7_takeBack 7 = .ok (.ifCond .ge 5, 3) := by decide +kernel
theorem dX7_takeBack_10 : decode cX7_takeBack 10 = .ok (.iload_n 2, 1) := by decide +kernel
theorem dX7_takeBack_11 : decode cX7_takeBack 11 = .ok (.ireturn, 1) := by decide +kernel
theorem dX7_takeBack_12 : decode cX7_takeBack 12 = .ok (.aload_n 0, 1) := by decide +kernel
theorem dX7_takeBack_13 : decode cX7_takeBack 13 = .ok (.invokevirtual 93, 3) := by decide +kernel
theorem dX7_takeBack_16 : decode cX7_takeBack 16 = .ok (.aload_n 0, 1) := by decide +kernel
theorem dX7_takeBack_17 : decode cX7_takeBack 17 = .ok (.iload_n 1, 1) := by decide +kernel
theorem dX7_takeBack_18 : decode cX7_takeBack 18 = .ok (.invokevirtual 108, 3) := by decide +kernel
theorem dX7_takeBack_21 : decode cX7_takeBack 21 = .ok (.ireturn, 1) := by decide +kernel
theorem dX7_mark_0 : decode cX7_mark 0 = .ok (.iload_n 1, 1) := by decide +kernel
theorem dX7_mark_1 : decode cX7_mark 1 = .ok (.invokestatic 70, 3) := by decide +kernel
theorem dX7_mark_4 : decode cX7_mark 4 = .ok (.ifCond .eq 21, 3) := by decide +kernel
theorem dX7_mark_7 : decode cX7_mark 7 = .ok (.iload_n 2, 1) := by decide +kernel
theorem dX7_mark_8 : decode cX7_mark 8 = .ok (.iconst 0, 1) := by decide +kernel
theorem dX7_mark_9 : decode cX7_mark 9 = .ok (.aload_n 0, 1) := by decide +kernel
theorem dX7_mark_10 : decode cX7_mark 10 = .ok (.getfield 7, 3) := by decide +kernel
theorem dX7_mark_13 : decode cX7_mark 13 = .ok (.iload_n 1, 1) := by decide +kernel
theorem dX7_mark_14 : decode cX7_mark 14 = .ok (.iconst 0, 1) := by decide +kernel
theorem dX7_mark_15 : decode cX7_mark 15 = .ok (.invokestatic 59, 3) := by decide +kernel
theorem dX7_mark_18 : decode cX7_mark 18 = .ok (.iaload, 1) := by decide +kernel
theorem dX7_mark_19 : decode cX7_mark 19 = .ok (.invokestatic 34, 3) := by decide +kernel
theorem dX7_mark_22 : decode cX7_mark 22 = .ok (.ifCond .ne 5, 3) := by decide +kernel
theorem dX7_mark_25 : decode cX7_mark 25 = .ok (.iconst (-1), 1) := by decide +kernel
theorem dX7_mark_26 : decode cX7_mark 26 = .ok (.ireturn, 1) := by decide +kernel
theorem dX7_mark_27 : decode cX7_mark 27 = .ok (.aload_n 0, 1) := by decide +kernel
theorem dX7_mark_28 : decode cX7_mark 28 = .ok (.invokevirtual 93, 3) := by decide +kernel
theorem dX7_mark_31 : decode cX7_mark 31 = .ok (.aload_n 0, 1) := by decide +kernel
theorem dX7_mark_32 : decode cX7_mark 32 = .ok (.getfield 7, 3) := by decide +kernel
theorem dX7_mark_35 : decode cX7_mark 35 = .ok (.iload_n 1, 1) := by decide +kernel
theorem dX7_mark_36 : decode cX7_mark 36 = .ok (.bipush 114, 2) := by decide +kernel
theorem dX7_mark_38 : decode cX7_mark 38 = .ok (.invokestatic 59, 3) := by decide +kernel
theorem dX7_mark_41 : decode cX7_mark 41 = .ok (.iaload, 1) := by decide +kernel
theorem dX7_mark_42 : decode cX7_mark 42 = .ok (.istore_n 3, 1) := by decide +kernel
theorem dX7_mark_43 : decode cX7_mark 43 = .ok (.aload_n 0, 1) := by decide +kernel
theorem dX7_mark_44 : decode cX7_mark 44 = .ok (.getfield 7, 3) := by decide +kernel
theorem dX7_mark_47 : decode cX7_mark 47 = .ok (.iload_n 1, 1) := by decide +kernel
theorem dX7_mark_48 : decode cX7_mark 48 = .ok (.bipush 114, 2) := by decide +kernel
theorem dX7_mark_50 : decode cX7_mark 50 = .ok (.invokestatic 59, 3) := by decide +kernel
theorem dX7_mark_53 : decode cX7_mark 53 = .ok (.iload_n 2, 1) := by decide +kernel
theorem dX7_mark_54 : decode cX7_mark 54 = .ok (.iastore, 1) := by decide +kernel
theorem dX7_mark_55 : decode cX7_mark 55 = .ok (.iload_n 3, 1) := by decide +kernel
theorem dX7_mark_56 : decode cX7_mark 56 = .ok (.ireturn, 1) := by decide +kernel
theorem dX7_send_0 : decode cX7_send 0 = .ok (.aload_n 0, 1) := by decide +kernel
theorem dX7_send_1 : decode cX7_send 1 = .ok (.iload_n 1, 1) := by decide +kernel
theorem dX7_send_2 : decode cX7_send 2 = .ok (.invokevirtual 111, 3) := by decide +kernel
theorem dX7_send_5 : decode cX7_send 5 = .ok (.istore_n 2, 1) := by decide +kernel
theorem dX7_send_6 : decode cX7_send 6 = .ok (.iload_n 2, 1) := by decide +kernel
theorem dX7_send_7 : decode cX7_send 7 = .ok (.ifCond .ge 5, 3) := by decide +kernel
theorem dX7_send_10 : decode cX7_send 10 = .ok (.iload_n 2, 1) := by decide +kernel
theorem dX7_send_11 : decode cX7_send 11 = .ok (.ireturn, 1) := by decide +kernel
theorem dX7_send_12 : decode cX7_send 12 = .ok (.aload_n 0, 1) := by decide +kernel
theorem dX7_send_13 : decode cX7_send 13 = .ok (.invokevirtual 93, 3) := by decide +kernel
theorem dX7_send_16 : decode cX7_send 16 = .ok (.aload_n 0, 1) := by decide +kernel
theorem dX7_send_17 : decode cX7_send 17 = .ok (.iload_n 1, 1) := by decide +kernel
theorem dX7_send_18 : decode cX7_send 18 = .ok (.invokevirtual 114, 3) := by decide +kernel
theorem dX7_send_21 : decode cX7_send 21 = .ok (.ireturn, 1) := by decide +kernel
theorem dX7_hear_0 : decode cX7_hear 0 = .ok (.aload_n 0, 1) := by decide +kernel
theorem dX7_hear_1 : decode cX7_hear 1 = .ok (.iload_n 1, 1) := by decide +kernel
theorem dX7_hear_2 : decode cX7_hear 2 = .ok (.invokevirtual 117, 3) := by decide +kernel
theorem dX7_hear_5 : decode cX7_hear 5 = .ok (.istore_n 2, 1) := by decide +kernel
theorem dX7_hear_6 : decode cX7_hear 6 = .ok (.iload_n 2, 1) := by decide +kernel
theorem dX7_hear_7 : decode cX7_hear 7 = .ok (.ifCond .ge 5, 3) := by decide +kernel
theorem dX7_hear_10 : decode cX7_hear 10 = .ok (.iload_n 2, 1) := by decide +kernel
theorem dX7_hear_11 : decode cX7_hear 11 = .ok (.ireturn, 1) := by decide +kernel
theorem dX7_hear_12 : decode cX7_hear 12 = .ok (.aload_n 0, 1) := by decide +kernel
theorem dX7_hear_13 : decode cX7_hear 13 = .ok (.invokevirtual 93, 3) := by decide +kernel
theorem dX7_hear_16 : decode cX7_hear 16 = .ok (.aload_n 0, 1) := by decide +kernel
theorem dX7_hear_17 : decode cX7_hear 17 = .ok (.iload_n 1, 1) := by decide +kernel
theorem dX7_hear_18 : decode cX7_hear 18 = .ok (.invokevirtual 86, 3) := by decide +kernel
theorem dX7_hear_21 : decode cX7_hear 21 = .ok (.ireturn, 1) := by decide +kernel
theorem dX7_hearAll_0 : decode cX7_hearAll 0 = .ok (.aload_n 0, 1) := by decide +kernel
theorem dX7_hearAll_1 : decode cX7_hearAll 1 = .ok (.iload_n 1, 1) := by decide +kernel
theorem dX7_hearAll_2 : decode cX7_hearAll 2 = .ok (.invokevirtual 117, 3) := by decide +kernel
theorem dX7_hearAll_5 : decode cX7_hearAll 5 = .ok (.istore_n 2, 1) := by decide +kernel
theorem dX7_hearAll_6 : decode cX7_hearAll 6 = .ok (.iload_n 2, 1) := by decide +kernel
theorem dX7_hearAll_7 : decode cX7_hearAll 7 = .ok (.ifCond .ge 5, 3) := by decide +kernel
theorem dX7_hearAll_10 : decode cX7_hearAll 10 = .ok (.iload_n 2, 1) := by decide +kernel
theorem dX7_hearAll_11 : decode cX7_hearAll 11 = .ok (.ireturn, 1) := by decide +kernel
theorem dX7_hearAll_12 : decode cX7_hearAll 12 = .ok (.aload_n 0, 1) := by decide +kernel
theorem dX7_hearAll_13 : decode cX7_hearAll 13 = .ok (.invokevirtual 93, 3) := by decide +kernel
theorem dX7_hearAll_16 : decode cX7_hearAll 16 = .ok (.aload_n 0, 1) := by decide +kernel
theorem dX7_hearAll_17 : decode cX7_hearAll 17 = .ok (.iload_n 1, 1) := by decide +kernel
theorem dX7_hearAll_18 : decode cX7_hearAll 18 = .ok (.invokevirtual 120, 3) := by decide +kernel
theorem dX7_hearAll_21 : decode cX7_hearAll 21 = .ok (.ireturn, 1) := by decide +kernel
theorem dX7_clear_0 : decode cX7_clear 0 = .ok (.aload_n 0, 1) := by decide +kernel
theorem dX7_clear_1 : decode cX7_clear 1 = .ok (.invokevirtual 93, 3) := by decide +kernel
theorem dX7_clear_4 : decode cX7_clear 4 = .ok (.aload_n 0, 1) := by decide +kernel
theorem dX7_clear_5 : decode cX7_clear 5 = .ok (.getfield 7, 3) := by decide +kernel
theorem dX7_clear_8 : decode cX7_clear 8 = .ok (.iconst 0, 1) := by decide +kernel
theorem dX7_clear_9 : decode cX7_clear 9 = .ok (.iaload, 1) := by decide +kernel
theorem dX7_clear_10 : decode cX7_clear 10 = .ok (.istore_n 1, 1) := by decide +kernel
theorem dX7_clear_11 : decode cX7_clear 11 = .ok (.iconst 0, 1) := by decide +kernel
theorem dX7_clear_12 : decode cX7_clear 12 = .ok (.istore_n 2, 1) := by decide +kernel
theorem dX7_clear_13 : decode cX7_clear 13 = .ok (.iload_n 2, 1) := by decide +kernel
theorem dX7_clear_14 : decode cX7_clear 14 = .ok (.sipush 445, 3) := by decide +kernel
theorem dX7_clear_17 : decode cX7_clear 17 = .ok (.if_icmp .ge 16, 3) := by decide +kernel
theorem dX7_clear_20 : decode cX7_clear 20 = .ok (.aload_n 0, 1) := by decide +kernel
theorem dX7_clear_21 : decode cX7_clear 21 = .ok (.getfield 7, 3) := by decide +kernel
theorem dX7_clear_24 : decode cX7_clear 24 = .ok (.iload_n 2, 1) := by decide +kernel
theorem dX7_clear_25 : decode cX7_clear 25 = .ok (.iconst 0, 1) := by decide +kernel
theorem dX7_clear_26 : decode cX7_clear 26 = .ok (.iastore, 1) := by decide +kernel
theorem dX7_clear_27 : decode cX7_clear 27 = .ok (.iinc 2 1, 3) := by decide +kernel
theorem dX7_clear_30 : decode cX7_clear 30 = .ok (.goto (-17), 3) := by decide +kernel
theorem dX7_clear_33 : decode cX7_clear 33 = .ok (.iload_n 1, 1) := by decide +kernel
theorem dX7_clear_34 : decode cX7_clear 34 = .ok (.ireturn, 1) := by decide +kernel
theorem dX7_lay_0 : decode cX7_lay 0 = .ok (.aload_n 0, 1) := by decide +kernel
theorem dX7_lay_1 : decode cX7_lay 1 = .ok (.iconst 0, 1) := by decide +kernel
theorem dX7_lay_2 : decode cX7_lay 2 = .ok (.putfield 123, 3) := by decide +kernel
theorem dX7_lay_5 : decode cX7_lay 5 = .ok (.iconst 0, 1) := by decide +kernel
theorem dX7_lay_6 : decode cX7_lay 6 = .ok (.istore_n 1, 1) := by decide +kernel
theorem dX7_lay_7 : decode cX7_lay 7 = .ok (.iload_n 1, 1) := by decide +kernel
theorem dX7_lay_8 : decode cX7_lay 8 = .ok (.aload_n 0, 1) := by decide +kernel
theorem dX7_lay_9 : decode cX7_lay 9 = .ok (.getfield 7, 3) := by decide +kernel
theorem dX7_lay_12 : decode cX7_lay 12 = .ok (.iconst 0, 1) := by decide +kernel
theorem dX7_lay_13 : decode cX7_lay 13 = .ok (.iaload, 1) := by decide +kernel
theorem dX7_lay_14 : decode cX7_lay 14 = .ok (.if_icmp .ge 184, 3) := by decide +kernel
theorem dX7_lay_17 : decode cX7_lay 17 = .ok (.aload_n 0, 1) := by decide +kernel
theorem dX7_lay_18 : decode cX7_lay 18 = .ok (.getfield 7, 3) := by decide +kernel
theorem dX7_lay_21 : decode cX7_lay 21 = .ok (.iconst 1, 1) := by decide +kernel
theorem dX7_lay_22 : decode cX7_lay 22 = .ok (.iload_n 1, 1) := by decide +kernel
theorem dX7_lay_23 : decode cX7_lay 23 = .ok (.iadd, 1) := by decide +kernel
theorem dX7_lay_24 : decode cX7_lay 24 = .ok (.iaload, 1) := by decide +kernel
theorem dX7_lay_25 : decode cX7_lay 25 = .ok (.istore_n 2, 1) := by decide +kernel
theorem dX7_lay_26 : decode cX7_lay 26 = .ok (.iload_n 2, 1) := by decide +kernel
theorem dX7_lay_27 : decode cX7_lay 27 = .ok (.invokestatic 42, 3) := by decide +kernel
theorem dX7_lay_30 : decode cX7_lay 30 = .ok (.istore_n 3, 1) := by decide +kernel
theorem dX7_lay_31 : decode cX7_lay 31 = .ok (.iload_n 2, 1) := by decide +kernel
theorem dX7_lay_32 : decode cX7_lay 32 = .ok (.invokestatic 46, 3) := by decide +kernel
theorem dX7_lay_35 : decode cX7_lay 35 = .ok (.iconst 1, 1) := by decide +kernel
theorem dX7_lay_36 : decode cX7_lay 36 = .ok (.if_icmp .ne 86, 3) := by decide +kernel
theorem dX7_lay_39 : decode cX7_lay 39 = .ok (.aload_n 0, 1) := by decide +kernel
theorem dX7_lay_40 : decode cX7_lay 40 = .ok (.getfield 123, 3) := by decide +kernel
theorem dX7_lay_43 : decode cX7_lay 43 = .ok (.istore 4, 2) := by decide +kernel
theorem dX7_lay_45 : decode cX7_lay 45 = .ok (.iload 4, 2) := by decide +kernel
theorem dX7_lay_47 : decode cX7_lay 47 = .ok (.iload_n 3, 1) := by decide +kernel
theorem dX7_lay_48 : decode cX7_lay 48 = .ok (.if_icmp .le 41, 3) := by decide +kernel
theorem dX7_lay_51 : decode cX7_lay 51 = .ok (.aload_n 0, 1) := by decide +kernel
theorem dX7_lay_52 : decode cX7_lay 52 = .ok (.getfield 22, 3) := by decide +kernel
theorem dX7_lay_55 : decode cX7_lay 55 = .ok (.iload 4, 2) := by decide +kernel
theorem dX7_lay_57 : decode cX7_lay 57 = .ok (.aload_n 0, 1) := by decide +kernel
theorem dX7_lay_58 : decode cX7_lay 58 = .ok (.getfield 22, 3) := by decide +kernel
theorem dX7_lay_61 : decode cX7_lay 61 = .ok (.iload 4, 2) := by decide +kernel
theorem dX7_lay_63 : decode cX7_lay 63 = .ok (.iconst 1, 1) := by decide +kernel
theorem dX7_lay_64 : decode cX7_lay 64 = .ok (.isub, 1) := by decide +kernel
theorem dX7_lay_65 : decode cX7_lay 65 = .ok (.iaload, 1) := by decide +kernel
theorem dX7_lay_66 : decode cX7_lay 66 = .ok (.iastore, 1) := by decide +kernel
theorem dX7_lay_67 : decode cX7_lay 67 = .ok (.aload_n 0, 1) := by decide +kernel
theorem dX7_lay_68 : decode cX7_lay 68 = .ok (.getfield 25, 3) := by decide +kernel
theorem dX7_lay_71 : decode cX7_lay 71 = .ok (.iload 4, 2) := by decide +kernel
theorem dX7_lay_73 : decode cX7_lay 73 = .ok (.aload_n 0, 1) := by decide +kernel
theorem dX7_lay_74 : decode cX7_lay 74 = .ok (.getfield 25, 3) := by decide +kernel
theorem dX7_lay_77 : decode cX7_lay 77 = .ok (.iload 4, 2) := by decide +kernel
theorem dX7_lay_79 : decode cX7_lay 79 = .ok (.iconst 1, 1) := by decide +kernel
theorem dX7_lay_80 : decode cX7_lay 80 = .ok (.isub, 1) := by decide +kernel
theorem dX7_lay_81 : decode cX7_lay 81 = .ok (.iaload, 1) := by decide +kernel
theorem dX7_lay_82 : decode cX7_lay 82 = .ok (.iastore, 1) := by decide +kernel
theorem dX7_lay_83 : decode cX7_lay 83 = .ok (.iinc 4 (-1), 3) := by decide +kernel
theorem dX7_lay_86 : decode cX7_lay 86 = .ok (.goto (-41), 3) := by decide +kernel
theorem dX7_lay_89 : decode cX7_lay 89 = .ok (.aload_n 0, 1) := by decide +kernel
theorem dX7_lay_90 : decode cX7_lay 90 = .ok (.getfield 22, 3) := by decide +kernel
theorem dX7_lay_93 : decode cX7_lay 93 = .ok (.iload_n 3, 1) := by decide +kernel
theorem dX7_lay_94 : decode cX7_lay 94 = .ok (.iload_n 2, 1) := by decide +kernel
theorem dX7_lay_95 : decode cX7_lay 95 = .ok (.invokestatic 52, 3) := by decide +kernel
theorem dX7_lay_98 : decode cX7_lay 98 = .ok (.iastore, 1) := by decide +kernel
theorem dX7_lay_99 : decode cX7_lay 99 = .ok (.aload_n 0, 1) := by decide +kernel
theorem dX7_lay_100 : decode cX7_lay 100 = .ok (.getfield 25, 3) := by decide +kernel
theorem dX7_lay_103 : decode cX7_lay 103 = .ok (.iload_n 3, 1) := by decide +kernel
theorem dX7_lay_104 : decode cX7_lay 104 = .ok (.iload_n 2, 1) := by decide +kernel
theorem dX7_lay_105 : decode cX7_lay 105 = .ok (.invokestatic 49, 3) := by decide +kernel
theorem dX7_lay_108 : decode cX7_lay 108 = .ok (.iastore, 1) := by decide +kernel
theorem dX7_lay_109 : decode cX7_lay 109 = .ok (.aload_n 0, 1) := by decide +kernel
theorem dX7_lay_110 : decode cX7_lay 110 = .ok (.dup, 1) := by decide +kernel
theorem dX7_lay_111 : decode cX7_lay 111 = .ok (.getfield 123, 3) := by decide +kernel
theorem dX7_lay_114 : decode cX7_lay 114 = .ok (.iconst 1, 1) := by decide +kernel
theorem dX7_lay_115 : decode cX7_lay 115 = .ok (.iadd, 1) := by decide +kernel
theorem dX7_lay_116 : decode cX7_lay 116 = .ok (.putfield 123, 3) := by decide +kernel
theorem dX7_lay_119 : decode cX7_lay 119 = .ok (.goto 73, 3) := by decide +kernel
theorem dX7_lay_122 : decode cX7_lay 122 = .ok (.iload_n 2, 1) := by decide +kernel
theorem dX7_lay_123 : decode cX7_lay 123 = .ok (.invokestatic 46, 3) := by decide +kernel
theorem dX7_lay_126 : decode cX7_lay 126 = .ok (.iconst 2, 1) := by decide +kernel
theorem dX7_lay_127 : decode cX7_lay 127 = .ok (.if_icmp .ne 65, 3) := by decide +kernel
theorem dX7_lay_130 : decode cX7_lay 130 = .ok (.iload_n 3, 1) := by decide +kernel
theorem dX7_lay_131 : decode cX7_lay 131 = .ok (.istore 4, 2) := by decide +kernel
theorem dX7_lay_133 : decode cX7_lay 133 = .ok (.iload 4, 2) := by decide +kernel
theorem dX7_lay_135 : decode cX7_lay 135 = .ok (.aload_n 0, 1) := by decide +kernel
theorem dX7_lay_136 : decode cX7_lay 136 = .ok (.getfield 123, 3) := by decide +kernel
theorem dX7_lay_139 : decode cX7_lay 139 = .ok (.iconst 1, 1) := by decide +kernel
theorem dX7_lay_140 : decode cX7_lay 140 = .ok (.isub, 1) := by decide +kernel
theorem dX7_lay_141 : decode cX7_lay 141 = .ok (.if_icmp .ge 41, 3) := by decide +kernel
theorem dX7_lay_144 : decode cX7_lay 144 = .ok (.aload_n 0, 1) := by decide +kernel
theorem dX7_lay_145 : decode cX7_lay 145 = .ok (.getfield 22, 3) := by decide +kernel
theorem dX7_lay_148 : decode cX7_lay 148 = .ok (.iload 4, 2) := by decide +kernel
theorem dX7_lay_150 : decode cX7_lay 150 = .ok (.aload_n 0, 1) := by decide +kernel
theorem dX7_lay_151 : decode cX7_lay 151 = .ok (.getfield 22, 3) := by decide +kernel
theorem dX7_lay_154 : decode cX7_lay 154 = .ok (.iload 4, 2) := by decide +kernel
theorem dX7_lay_156 : decode cX7_lay 156 = .ok (.iconst 1, 1) := by decide +kernel
theorem dX7_lay_157 : decode cX7_lay 157 = .ok (.iadd, 1) := by decide +kernel
theorem dX7_lay_158 : decode cX7_lay 158 = .ok (.iaload, 1) := by decide +kernel
theorem dX7_lay_159 : decode cX7_lay 159 = .ok (.iastore, 1) := by decide +kernel
theorem dX7_lay_160 : decode cX7_lay 160 = .ok (.aload_n 0, 1) := by decide +kernel
theorem dX7_lay_161 : decode cX7_lay 161 = .ok (.getfield 25, 3) := by decide +kernel
theorem dX7_lay_164 : decode cX7_lay 164 = .ok (.iload 4, 2) := by decide +kernel
theorem dX7_lay_166 : decode cX7_lay 166 = .ok (.aload_n 0, 1) := by decide +kernel
theorem dX7_lay_167 : decode cX7_lay 167 = .ok (.getfield 25, 3) := by decide +kernel
theorem dX7_lay_170 : decode cX7_lay 170 = .ok (.iload 4, 2) := by decide +kernel
theorem dX7_lay_172 : decode cX7_lay 172 = .ok (.iconst 1, 1) := by decide +kernel
theorem dX7_lay_173 : decode cX7_lay 173 = .ok (.iadd, 1) := by decide +kernel
theorem dX7_lay_174 : decode cX7_lay 174 = .ok (.iaload, 1) := by decide +kernel
theorem dX7_lay_175 : decode cX7_lay 175 = .ok (.iastore, 1) := by decide +kernel
theorem dX7_lay_176 : decode cX7_lay 176 = .ok (.iinc 4 1, 3) := by decide +kernel
theorem dX7_lay_179 : decode cX7_lay 179 = .ok (.goto (-46), 3) := by decide +kernel
theorem dX7_lay_182 : decode cX7_lay 182 = .ok (.aload_n 0, 1) := by decide +kernel
theorem dX7_lay_183 : decode cX7_lay 183 = .ok (.dup, 1) := by decide +kernel
theorem dX7_lay_184 : decode cX7_lay 184 = .ok (.getfield 123, 3) := by decide +kernel
theorem dX7_lay_187 : decode cX7_lay 187 = .ok (.iconst 1, 1) := by decide +kernel
theorem dX7_lay_188 : decode cX7_lay 188 = .ok (.isub, 1) := by decide +kernel
theorem dX7_lay_189 : decode cX7_lay 189 = .ok (.putfield 123, 3) := by decide +kernel
theorem dX7_lay_192 : decode cX7_lay 192 = .ok (.iinc 1 1, 3) := by decide +kernel
theorem dX7_lay_195 : decode cX7_lay 195 = .ok (.goto (-188), 3) := by decide +kernel
theorem dX7_lay_198 : decode cX7_lay 198 = .ok (.return_, 1) := by decide +kernel
theorem dX7_isSame_0 : decode cX7_isSame 0 = .ok (.aload_n 0, 1) := by decide +kernel
theorem dX7_isSame_1 : decode cX7_isSame 1 = .ok (.getfield 7, 3) := by decide +kernel
theorem dX7_isSame_4 : decode cX7_isSame 4 = .ok (.iload_n 1, 1) := by decide +kernel
theorem dX7_isSame_5 : decode cX7_isSame 5 = .ok (.iconst 0, 1) := by decide +kernel
theorem dX7_isSame_6 : decode cX7_isSame 6 = .ok (.invokestatic 59, 3) := by decide +kernel
theorem dX7_isSame_9 : decode cX7_isSame 9 = .ok (.iaload, 1) := by decide +kernel
theorem dX7_isSame_10 : decode cX7_isSame 10 = .ok (.aload_n 0, 1) := by decide +kernel
theorem dX7_isSame_11 : decode cX7_isSame 11 = .ok (.getfield 123, 3) := by decide +kernel
theorem dX7_isSame_14 : decode cX7_isSame 14 = .ok (.if_icmp .ne 7, 3) := by decide +kernel
theorem dX7_isSame_17 : decode cX7_isSame 17 = .ok (.iconst 1, 1) := by decide +kernel
theorem dX7_isSame_18 : decode cX7_isSame 18 = .ok (.goto 4, 3) := by decide +kernel
theorem dX7_isSame_21 : decode cX7_isSame 21 = .ok (.iconst 0, 1) := by decide +kernel
theorem dX7_isSame_22 : decode cX7_isSame 22 = .ok (.istore_n 2, 1) := by decide +kernel
theorem dX7_isSame_23 : decode cX7_isSame 23 = .ok (.iconst 0, 1) := by decide +kernel
theorem dX7_isSame_24 : decode cX7_isSame 24 = .ok (.istore_n 3, 1) := by decide +kernel
theorem dX7_isSame_25 : decode cX7_isSame 25 = .ok (.iload_n 3, 1) := by decide +kernel
theorem dX7_isSame_26 : decode cX7_isSame 26 = .ok (.aload_n 0, 1) := by decide +kernel
theorem dX7_isSame_27 : decode cX7_isSame 27 = .ok (.getfield 123, 3) := by decide +kernel
theorem dX7_isSame_30 : decode cX7_isSame 30 = .ok (.if_icmp .ge 40, 3) := by decide +kernel
theorem dX7_isSame_33 : decode cX7_isSame 33 = .ok (.iload_n 2, 1) := by decide +kernel
theorem dX7_isSame_34 : decode cX7_isSame 34 = .ok (.ifCond .eq 36, 3) := by decide +kernel
theorem dX7_isSame_37 : decode cX7_isSame 37 = .ok (.aload_n 0, 1) := by decide +kernel
theorem dX7_isSame_38 : decode cX7_isSame 38 = .ok (.getfield 7, 3) := by decide +kernel
theorem dX7_isSame_41 : decode cX7_isSame 41 = .ok (.iload_n 1, 1) := by decide +kernel
theorem dX7_isSame_42 : decode cX7_isSame 42 = .ok (.iconst 1, 1) := by decide +kernel
theorem dX7_isSame_43 : decode cX7_isSame 43 = .ok (.iload_n 3, 1) := by decide +kernel
theorem dX7_isSame_44 : decode cX7_isSame 44 = .ok (.iadd, 1) := by decide +kernel
theorem dX7_isSame_45 : decode cX7_isSame 45 = .ok (.invokestatic 59, 3) := by decide +kernel
theorem dX7_isSame_48 : decode cX7_isSame 48 = .ok (.iaload, 1) := by decide +kernel
theorem dX7_isSame_49 : decode cX7_isSame 49 = .ok (.aload_n 0, 1) := by decide +kernel
theorem dX7_isSame_50 : decode cX7_isSame 50 = .ok (.getfield 22, 3) := by decide +kernel
theorem dX7_isSame_53 : decode cX7_isSame 53 = .ok (.iload_n 3, 1) := by decide +kernel
theorem dX7_isSame_54 : decode cX7_isSame 54 = .ok (.iaload, 1) := by decide +kernel
theorem dX7_isSame_55 : decode cX7_isSame 55 = .ok (.if_icmp .ne 7, 3) := by decide +kernel
theorem dX7_isSame_58 : decode cX7_isSame 58 = .ok (.iconst 1, 1) := by decide +kernel
theorem dX7_isSame_59 : decode cX7_isSame 59 = .ok (.goto 4, 3) := by decide +kernel
theorem dX7_isSame_62 : decode cX7_isSame 62 = .ok (.iconst 0, 1) := by decide +kernel
theorem dX7_isSame_63 : decode cX7_isSame 63 = .ok (.istore_n 2, 1) := by decide +kernel
theorem dX7_isSame_64 : decode cX7_isSame 64 = .ok (.iinc 3 1, 3) := by decide +kernel
theorem dX7_isSame_67 : decode cX7_isSame 67 = .ok (.goto (-42), 3) := by decide +kernel
theorem dX7_isSame_70 : decode cX7_isSame 70 = .ok (.iload_n 2, 1) := by decide +kernel
theorem dX7_isSame_71 : decode cX7_isSame 71 = .ok (.ireturn, 1) := by decide +kernel
theorem dX7_letter_0 : decode cX7_letter 0 = .ok (.iload_n 1, 1) := by decide +kernel
theorem dX7_letter_1 : decode cX7_letter 1 = .ok (.iconst 0, 1) := by decide +kernel
theorem dX7_letter_2 : decode cX7_letter 2 = .ok (.iconst 3, 1) := by decide +kernel
theorem dX7_letter_3 : decode cX7_letter 3 = .ok (.invokestatic 34, 3) := by decide +kernel
theorem dX7_letter_6 : decode cX7_letter 6 = .ok (.ifCond .eq 7, 3) := by decide +kernel
theorem dX7_letter_9 : decode cX7_letter 9 = .ok (.iload_n 2, 1) := by decide +kernel
theorem dX7_letter_10 : decode cX7_letter 10 = .ok (.ifCond .ge 5, 3) := by decide +kernel
theorem dX7_letter_13 : decode cX7_letter 13 = .ok (.iconst (-1), 1) := by decide +kernel
theorem dX7_letter_14 : decode cX7_letter 14 = .ok (.ireturn, 1) := by decide +kernel
theorem dX7_letter_15 : decode cX7_letter 15 = .ok (.iload_n 1, 1) := by decide +kernel
theorem dX7_letter_16 : decode cX7_letter 16 = .ok (.iconst 3, 1) := by decide +kernel
theorem dX7_letter_17 : decode cX7_letter 17 = .ok (.if_icmp .ge 35, 3) := by decide +kernel
theorem dX7_letter_20 : decode cX7_letter 20 = .ok (.iload_n 2, 1) := by decide +kernel
theorem dX7_letter_21 : decode cX7_letter 21 = .ok (.aload_n 0, 1) := by decide +kernel
theorem dX7_letter_22 : decode cX7_letter 22 = .ok (.getfield 7, 3) := by decide +kernel
theorem dX7_letter_25 : decode cX7_letter 25 = .ok (.iload_n 1, 1) := by decide +kernel
theorem dX7_letter_26 : decode cX7_letter 26 = .ok (.iconst 0, 1) := by decide +kernel
theorem dX7_letter_27 : decode cX7_letter 27 = .ok (.invokestatic 59, 3) := by decide +kernel
theorem dX7_letter_30 : decode cX7_letter 30 = .ok (.iaload, 1) := by decide +kernel
theorem dX7_letter_31 : decode cX7_letter 31 = .ok (.if_icmp .ge 18, 3) := by decide +kernel
theorem dX7_letter_34 : decode cX7_letter 34 = .ok (.aload_n 0, 1) := by decide +kernel
theorem dX7_letter_35 : decode cX7_letter 35 = .ok (.getfield 7, 3) := by decide +kernel
theorem dX7_letter_38 : decode cX7_letter 38 = .ok (.iload_n 1, 1) := by decide +kernel
theorem dX7_letter_39 : decode cX7_letter 39 = .ok (.iconst 1, 1) := by decide +kernel
theorem dX7_letter_40 : decode cX7_letter 40 = .ok (.iload_n 2, 1) := by decide +kernel
theorem dX7_letter_41 : decode cX7_letter 41 = .ok (.iadd, 1) := by decide +kernel
theorem dX7_letter_42 : decode cX7_letter 42 = .ok (.invokestatic 59, 3) := by decide +kernel
theorem dX7_letter_45 : decode cX7_letter 45 = .ok (.iaload, 1) := by decide +kernel
theorem dX7_letter_46 : decode cX7_letter 46 = .ok (.goto 5, 3) := by decide +kernel
theorem dX7_letter_49 : decode cX7_letter 49 = .ok (.bipush (-4), 2) := by decide +kernel
theorem dX7_letter_51 : decode cX7_letter 51 = .ok (.ireturn, 1) := by decide +kernel
theorem dX7_letter_52 : decode cX7_letter 52 = .ok (.aload_n 0, 1) := by decide +kernel
theorem dX7_letter_53 : decode cX7_letter 53 = .ok (.invokevirtual 126, 3) := by decide +kernel
theorem dX7_letter_56 : decode cX7_letter 56 = .ok (.iload_n 2, 1) := by decide +kernel
theorem dX7_letter_57 : decode cX7_letter 57 = .ok (.aload_n 0, 1) := by decide +kernel
theorem dX7_letter_58 : decode cX7_letter 58 = .ok (.getfield 123, 3) := by decide +kernel
theorem dX7_letter_61 : decode cX7_letter 61 = .ok (.if_icmp .ge 12, 3) := by decide +kernel
theorem dX7_letter_64 : decode cX7_letter 64 = .ok (.aload_n 0, 1) := by decide +kernel
theorem dX7_letter_65 : decode cX7_letter 65 = .ok (.getfield 22, 3) := by decide +kernel
theorem dX7_letter_68 : decode cX7_letter 68 = .ok (.iload_n 2, 1) := by decide +kernel
theorem dX7_letter_69 : decode cX7_letter 69 = .ok (.iaload, 1) := by decide +kernel
theorem dX7_letter_70 : decode cX7_letter 70 = .ok (.goto 5, 3) := by decide +kernel
theorem dX7_letter_73 : decode cX7_letter 73 = .ok (.bipush (-4), 2) := by decide +kernel
theorem dX7_letter_75 : decode cX7_letter 75 = .ok (.ireturn, 1) := by decide +kernel
theorem dX7_editorOf_0 : decode cX7_editorOf 0 = .ok (.iload_n 1, 1) := by decide +kernel
theorem dX7_editorOf_1 : decode cX7_editorOf 1 = .ok (.invokestatic 70, 3) := by decide +kernel
theorem dX7_editorOf_4 : decode cX7_editorOf 4 = .ok (.ifCond .ne 5, 3) := by decide +kernel
theorem dX7_editorOf_7 : decode cX7_editorOf 7 = .ok (.iconst (-1), 1) := by decide +kernel
theorem dX7_editorOf_8 : decode cX7_editorOf 8 = .ok (.ireturn, 1) := by decide +kernel
theorem dX7_editorOf_9 : decode cX7_editorOf 9 = .ok (.iload_n 2, 1) := by decide +kernel
theorem dX7_editorOf_10 : decode cX7_editorOf 10 = .ok (.tableswitch 170 0 8 #[50, 61, 73, 85, 97, 116, 128, 140, 158], 50) := by decide +kernel
theorem dX7_editorOf_60 : decode cX7_editorOf 60 = .ok (.aload_n 0, 1) := by decide +kernel
theorem dX7_editorOf_61 : decode cX7_editorOf 61 = .ok (.getfield 7, 3) := by decide +kernel
theorem dX7_editorOf_64 : decode cX7_editorOf 64 = .ok (.iload_n 1, 1) := by decide +kernel
theorem dX7_editorOf_65 : decode cX7_editorOf 65 = .ok (.iconst 0, 1) := by decide +kernel
theorem dX7_editorOf_66 : decode cX7_editorOf 66 = .ok (.invokestatic 59, 3) := by decide +kernel
theorem dX7_editorOf_69 : decode cX7_editorOf 69 = .ok (.iaload, 1) := by decide +kernel
theorem dX7_editorOf_70 : decode cX7_editorOf 70 = .ok (.ireturn, 1) := by decide +kernel
theorem dX7_editorOf_71 : decode cX7_editorOf 71 = .ok (.aload_n 0, 1) := by decide +kernel
theorem dX7_editorOf_72 : decode cX7_editorOf 72 = .ok (.getfield 7, 3) := by decide +kernel
theorem dX7_editorOf_75 : decode cX7_editorOf 75 = .ok (.iload_n 1, 1) := by decide +kernel
theorem dX7_editorOf_76 : decode cX7_editorOf 76 = .ok (.bipush 97, 2) := by decide +kernel
theorem dX7_editorOf_78 : decode cX7_editorOf 78 = .ok (.invokestatic 59, 3) := by decide +kernel
theorem dX7_editorOf_81 : decode cX7_editorOf 81 = .ok (.iaload, 1) := by decide +kernel
theorem dX7_editorOf_82 : decode cX7_editorOf 82 = .ok (.ireturn, 1) := by decide +kernel
theorem dX7_editorOf_83 : decode cX7_editorOf 83 = .ok (.aload_n 0, 1) := by decide +kernel
theorem dX7_editorOf_84 : decode cX7_editorOf 84 = .ok (.getfield 7, 3) := by decide +kernel
theorem dX7_editorOf_87 : decode cX7_editorOf 87 = .ok (.iload_n 1, 1) := by decide +kernel
theorem dX7_editorOf_88 : decode cX7_editorOf 88 = .ok (.bipush 113, 2) := by decide +kernel
theorem dX7_editorOf_90 : decode cX7_editorOf 90 = .ok (.invokestatic 59, 3) := by decide +kernel
theorem dX7_editorOf_93 : decode cX7_editorOf 93 = .ok (.iaload, 1) := by decide +kernel
theorem dX7_editorOf_94 : decode cX7_editorOf 94 = .ok (.ireturn, 1) := by decide +kernel
theorem dX7_editorOf_95 : decode cX7_editorOf 95 = .ok (.aload_n 0, 1) := by decide +kernel
theorem dX7_editorOf_96 : decode cX7_editorOf 96 = .ok (.getfield 7, 3) := by decide +kernel
theorem dX7_editorOf_99 : decode cX7_editorOf 99 = .ok (.iload_n 1, 1) := by decide +kernel
theorem dX7_editorOf_100 : decode cX7_editorOf 100 = .ok (.bipush 112, 2) := by decide +kernel
theorem dX7_editorOf_102 : decode cX7_editorOf 102 = .ok (.invokestatic 59, 3) := by decide +kernel
theorem dX7_editorOf_105 : decode cX7_editorOf 105 = .ok (.iaload, 1) := by decide +kernel
theorem dX7_editorOf_106 : decode cX7_editorOf 106 = .ok (.ireturn, 1) := by decide +kernel
theorem dX7_editorOf_107 : decode cX7_editorOf 107 = .ok (.aload_n 0, 1) := by decide +kernel
theorem dX7_editorOf_108 : decode cX7_editorOf 108 = .ok (.getfield 7, 3) := by decide +kernel
theorem dX7_editorOf_111 : decode cX7_editorOf 111 = .ok (.iconst 0, 1) := by decide +kernel
theorem dX7_editorOf_112 : decode cX7_editorOf 112 = .ok (.iaload, 1) := by decide +kernel
theorem dX7_editorOf_113 : decode cX7_editorOf 113 = .ok (.aload_n 0, 1) := by decide +kernel
theorem dX7_editorOf_114 : decode cX7_editorOf 114 = .ok (.getfield 7, 3) := by decide +kernel
theorem dX7_editorOf_117 : decode cX7_editorOf 117 = .ok (.iload_n 1, 1) := by decide +kernel
theorem dX7_editorOf_118 : decode cX7_editorOf 118 = .ok (.bipush 112, 2) := by decide +kernel
theorem dX7_editorOf_120 : decode cX7_editorOf 120 = .ok (.invokestatic 59, 3) := by decide +kernel
theorem dX7_editorOf_123 : decode cX7_editorOf 123 = .ok (.iaload, 1) := by decide +kernel
theorem dX7_editorOf_124 : decode cX7_editorOf 124 = .ok (.isub, 1) := by decide +kernel
theorem dX7_editorOf_125 : decode cX7_editorOf 125 = .ok (.ireturn, 1) := by decide +kernel
theorem dX7_editorOf_126 : decode cX7_editorOf 126 = .ok (.aload_n 0, 1) := by decide +kernel
theorem dX7_editorOf_127 : decode cX7_editorOf 127 = .ok (.getfield 7, 3) := by decide +kernel
theorem dX7_editorOf_130 : decode cX7_editorOf 130 = .ok (.iload_n 1, 1) := by decide +kernel
theorem dX7_editorOf_131 : decode cX7_editorOf 131 = .ok (.bipush 114, 2) := by decide +kernel
theorem dX7_editorOf_133 : decode cX7_editorOf 133 = .ok (.invokestatic 59, 3) := by decide +kernel
theorem dX7_editorOf_136 : decode cX7_editorOf 136 = .ok (.iaload, 1) := by decide +kernel
theorem dX7_editorOf_137 : decode cX7_editorOf 137 = .ok (.ireturn, 1) := by decide +kernel
theorem dX7_editorOf_138 : decode cX7_editorOf 138 = .ok (.aload_n 0, 1) := by decide +kernel
theorem dX7_editorOf_139 : decode cX7_editorOf 139 = .ok (.getfield 7, 3) := by decide +kernel
theorem dX7_editorOf_142 : decode cX7_editorOf 142 = .ok (.iload_n 1, 1) := by decide +kernel
theorem dX7_editorOf_143 : decode cX7_editorOf 143 = .ok (.bipush 104, 2) := by decide +kernel
theorem dX7_editorOf_145 : decode cX7_editorOf 145 = .ok (.invokestatic 59, 3) := by decide +kernel
theorem dX7_editorOf_148 : decode cX7_editorOf 148 = .ok (.iaload, 1) := by decide +kernel
theorem dX7_editorOf_149 : decode cX7_editorOf 149 = .ok (.ireturn, 1) := by decide +kernel
theorem dX7_editorOf_150 : decode cX7_editorOf 150 = .ok (.aload_n 0, 1) := by decide +kernel
theorem dX7_editorOf_151 : decode cX7_editorOf 151 = .ok (.invokevirtual 126, 3) := by decide +kernel
theorem dX7_editorOf_154 : decode cX7_editorOf 154 = .ok (.aload_n 0, 1) := by decide +kernel
theorem dX7_editorOf_155 : decode cX7_editorOf 155 = .ok (.iload_n 1, 1) := by decide +kernel
theorem dX7_editorOf_156 : decode cX7_editorOf 156 = .ok (.invokevirtual 129, 3) := by decide +kernel
theorem dX7_editorOf_159 : decode cX7_editorOf 159 = .ok (.ifCond .eq 7, 3) := by decide +kernel
theorem dX7_editorOf_162 : decode cX7_editorOf 162 = .ok (.iconst 1, 1) := by decide +kernel
theorem dX7_editorOf_163 : decode cX7_editorOf 163 = .ok (.goto 4, 3) := by decide +kernel
theorem dX7_editorOf_166 : decode cX7_editorOf 166 = .ok (.iconst 0, 1) := by decide +kernel
theorem dX7_editorOf_167 : decode cX7_editorOf 167 = .ok (.ireturn, 1) := by decide +kernel
theorem dX7_editorOf_168 : decode cX7_editorOf 168 = .ok (.aload_n 0, 1) := by decide +kernel
theorem dX7_editorOf_169 : decode cX7_editorOf 169 = .ok (.getfield 7, 3) := by decide +kernel
theorem dX7_editorOf_172 : decode cX7_editorOf 172 = .ok (.iload_n 1, 1) := by decide +kernel
theorem dX7_editorOf_173 : decode cX7_editorOf 173 = .ok (.bipush 115, 2) := by decide +kernel
theorem dX7_editorOf_175 : decode cX7_editorOf 175 = .ok (.invokestatic 59, 3) := by decide +kernel
theorem dX7_editorOf_178 : decode cX7_editorOf 178 = .ok (.iaload, 1) := by decide +kernel
theorem dX7_editorOf_179 : decode cX7_editorOf 179 = .ok (.ireturn, 1) := by decide +kernel
theorem dX7_editorOf_180 : decode cX7_editorOf 180 = .ok (.iconst (-1), 1) := by decide +kernel
theorem dX7_editorOf_181 : decode cX7_editorOf 181 = .ok (.ireturn, 1) := by decide +kernel
theorem dX7_told_0 : decode cX7_told 0 = .ok (.iload_n 0, 1) := by decide +kernel
theorem dX7_told_1 : decode cX7_told 1 = .ok (.invokestatic 46, 3) := by decide +kernel
theorem dX7_told_4 : decode cX7_told 4 = .ok (.istore_n 2, 1) := by decide +kernel
theorem dX7_told_5 : decode cX7_told 5 = .ok (.iload_n 1, 1) := by decide +kernel
theorem dX7_told_6 : decode cX7_told 6 = .ok (.ifCond .ne 7, 3) := by decide +kernel
theorem dX7_told_9 : decode cX7_told 9 = .ok (.iload_n 2, 1) := by decide +kernel
theorem dX7_told_10 : decode cX7_told 10 = .ok (.goto 50, 3) := by decide +kernel
theorem dX7_told_13 : decode cX7_told 13 = .ok (.iload_n 1, 1) := by decide +kernel
theorem dX7_told_14 : decode cX7_told 14 = .ok (.iconst 1, 1) := by decide +kernel
theorem dX7_told_15 : decode cX7_told 15 = .ok (.if_icmp .ne 19, 3) := by decide +kernel
theorem dX7_told_18 : decode cX7_told 18 = .ok (.iload_n 2, 1) := by decide +kernel
theorem dX7_told_19 : decode cX7_told 19 = .ok (.ifCond .ne 8, 3) := by decide +kernel
theorem dX7_told_22 : decode cX7_told 22 = .ok (.bipush (-4), 2) := by decide +kernel
theorem dX7_told_24 : decode cX7_told 24 = .ok (.goto 36, 3) := by decide +kernel
theorem dX7_told_27 : decode cX7_told 27 = .ok (.iload_n 0, 1) := by decide +kernel
theorem dX7_told_28 : decode cX7_told 28 = .ok (.invokestatic 42, 3) := by decide +kernel
theorem dX7_told_31 : decode cX7_told 31 = .ok (.goto 29, 3) := by decide +kernel
theorem dX7_told_34 : decode cX7_told 34 = .ok (.iload_n 1, 1) := by decide +kernel
theorem dX7_told_35 : decode cX7_told 35 = .ok (.iconst 2, 1) := by decide +kernel
theorem dX7_told_36 : decode cX7_told 36 = .ok (.if_icmp .ne 20, 3) := by decide +kernel
theorem dX7_told_39 : decode cX7_told 39 = .ok (.iload_n 2, 1) := by decide +kernel
theorem dX7_told_40 : decode cX7_told 40 = .ok (.iconst 1, 1) := by decide +kernel
theorem dX7_told_41 : decode cX7_told 41 = .ok (.if_icmp .ne 10, 3) := by decide +kernel
theorem dX7_told_44 : decode cX7_told 44 = .ok (.iload_n 0, 1) := by decide +kernel
theorem dX7_told_45 : decode cX7_told 45 = .ok (.invokestatic 52, 3) := by decide +kernel
theorem dX7_told_48 : decode cX7_told 48 = .ok (.goto 12, 3) := by decide +kernel
theorem dX7_told_51 : decode cX7_told 51 = .ok (.bipush (-4), 2) := by decide +kernel
theorem dX7_told_53 : decode cX7_told 53 = .ok (.goto 7, 3) := by decide +kernel
theorem dX7_told_56 : decode cX7_told 56 = .ok (.iload_n 0, 1) := by decide +kernel
theorem dX7_told_57 : decode cX7_told 57 = .ok (.invokestatic 49, 3) := by decide +kernel
theorem dX7_told_60 : decode cX7_told 60 = .ok (.ireturn, 1) := by decide +kernel
theorem dX7_waitingOf_0 : decode cX7_waitingOf 0 = .ok (.iload_n 1, 1) := by decide +kernel
theorem dX7_waitingOf_1 : decode cX7_waitingOf 1 = .ok (.invokestatic 70, 3) := by decide +kernel
theorem dX7_waitingOf_4 : decode cX7_waitingOf 4 = .ok (.ifCond .eq 16, 3) := by decide +kernel
theorem dX7_waitingOf_7 : decode cX7_waitingOf 7 = .ok (.iload_n 2, 1) := by decide +kernel
theorem dX7_waitingOf_8 : decode cX7_waitingOf 8 = .ok (.ifCond .lt 12, 3) := by decide +kernel
theorem dX7_waitingOf_11 : decode cX7_waitingOf 11 = .ok (.iload_n 3, 1) := by decide +kernel
theorem dX7_waitingOf_12 : decode cX7_waitingOf 12 = .ok (.iconst 0, 1) := by decide +kernel
theorem dX7_waitingOf_13 : decode cX7_waitingOf 13 = .ok (.iconst 2, 1) := by decide +kernel
theorem dX7_waitingOf_14 : decode cX7_waitingOf 14 = .ok (.invokestatic 34, 3) := by decide +kernel
theorem dX7_waitingOf_17 : decode cX7_waitingOf 17 = .ok (.ifCond .ne 5, 3) := by decide +kernel
theorem dX7_waitingOf_20 : decode cX7_waitingOf 20 = .ok (.iconst (-1), 1) := by decide +kernel
theorem dX7_waitingOf_21 : decode cX7_waitingOf 21 = .ok (.ireturn, 1) := by decide +kernel
theorem dX7_waitingOf_22 : decode cX7_waitingOf 22 = .ok (.iload_n 2, 1) := by decide +kernel
theorem dX7_waitingOf_23 : decode cX7_waitingOf 23 = .ok (.aload_n 0, 1) := by decide +kernel
theorem dX7_waitingOf_24 : decode cX7_waitingOf 24 = .ok (.getfield 7, 3) := by decide +kernel
theorem dX7_waitingOf_27 : decode cX7_waitingOf 27 = .ok (.iload_n 1, 1) := by decide +kernel
theorem dX7_waitingOf_28 : decode cX7_waitingOf 28 = .ok (.bipush 97, 2) := by decide +kernel
theorem dX7_waitingOf_30 : decode cX7_waitingOf 30 = .ok (.invokestatic 59, 3) := by decide +kernel
theorem dX7_waitingOf_33 : decode cX7_waitingOf 33 = .ok (.iaload, 1) := by decide +kernel
theorem dX7_waitingOf_34 : decode cX7_waitingOf 34 = .ok (.if_icmp .ge 23, 3) := by decide +kernel
theorem dX7_waitingOf_37 : decode cX7_waitingOf 37 = .ok (.aload_n 0, 1) := by decide +kernel
theorem dX7_waitingOf_38 : decode cX7_waitingOf 38 = .ok (.getfield 7, 3) := by decide +kernel
theorem dX7_waitingOf_41 : decode cX7_waitingOf 41 = .ok (.iload_n 1, 1) := by decide +kernel
theorem dX7_waitingOf_42 : decode cX7_waitingOf 42 = .ok (.bipush 98, 2) := by decide +kernel
theorem dX7_waitingOf_44 : decode cX7_waitingOf 44 = .ok (.iload_n 2, 1) := by decide +kernel
theorem dX7_waitingOf_45 : decode cX7_waitingOf 45 = .ok (.iadd, 1) := by decide +kernel
theorem dX7_waitingOf_46 : decode cX7_waitingOf 46 = .ok (.invokestatic 59, 3) := by decide +kernel
theorem dX7_waitingOf_49 : decode cX7_waitingOf 49 = .ok (.iaload, 1) := by decide +kernel
theorem dX7_waitingOf_50 : decode cX7_waitingOf 50 = .ok (.iload_n 3, 1) := by decide +kernel
theorem dX7_waitingOf_51 : decode cX7_waitingOf 51 = .ok (.invokestatic 132, 3) := by decide +kernel
theorem dX7_waitingOf_54 : decode cX7_waitingOf 54 = .ok (.goto 5, 3) := by decide +kernel
theorem dX7_waitingOf_57 : decode cX7_waitingOf 57 = .ok (.bipush (-4), 2) := by decide +kernel
theorem dX7_waitingOf_59 : decode cX7_waitingOf 59 = .ok (.ireturn, 1) := by decide +kernel
theorem dX7_logOf_0 : decode cX7_logOf 0 = .ok (.iload_n 1, 1) := by decide +kernel
theorem dX7_logOf_1 : decode cX7_logOf 1 = .ok (.ifCond .lt 12, 3) := by decide +kernel
theorem dX7_logOf_4 : decode cX7_logOf 4 = .ok (.iload_n 2, 1) := by decide +kernel
theorem dX7_logOf_5 : decode cX7_logOf 5 = .ok (.iconst 0, 1) := by decide +kernel
theorem dX7_logOf_6 : decode cX7_logOf 6 = .ok (.iconst 3, 1) := by decide +kernel
theorem dX7_logOf_7 : decode cX7_logOf 7 = .ok (.invokestatic 34, 3) := by decide +kernel
theorem dX7_logOf_10 : decode cX7_logOf 10 = .ok (.ifCond .ne 5, 3) := by decide +kernel
theorem dX7_logOf_13 : decode cX7_logOf 13 = .ok (.iconst (-1), 1) := by decide +kernel
theorem dX7_logOf_14 : decode cX7_logOf 14 = .ok (.ireturn, 1) := by decide +kernel
theorem dX7_logOf_15 : decode cX7_logOf 15 = .ok (.iload_n 1, 1) := by decide +kernel
theorem dX7_logOf_16 : decode cX7_logOf 16 = .ok (.aload_n 0, 1) := by decide +kernel
theorem dX7_logOf_17 : decode cX7_logOf 17 = .ok (.getfield 7, 3) := by decide +kernel
theorem dX7_logOf_20 : decode cX7_logOf 20 = .ok (.iconst 0, 1) := by decide +kernel
theorem dX7_logOf_21 : decode cX7_logOf 21 = .ok (.iaload, 1) := by decide +kernel
theorem dX7_logOf_22 : decode cX7_logOf 22 = .ok (.if_icmp .ge 18, 3) := by decide +kernel
theorem dX7_logOf_25 : decode cX7_logOf 25 = .ok (.aload_n 0, 1) := by decide +kernel
theorem dX7_logOf_26 : decode cX7_logOf 26 = .ok (.getfield 7, 3) := by decide +kernel
theorem dX7_logOf_29 : decode cX7_logOf 29 = .ok (.iconst 1, 1) := by decide +kernel
theorem dX7_logOf_30 : decode cX7_logOf 30 = .ok (.iload_n 1, 1) := by decide +kernel
theorem dX7_logOf_31 : decode cX7_logOf 31 = .ok (.iadd, 1) := by decide +kernel
theorem dX7_logOf_32 : decode cX7_logOf 32 = .ok (.iaload, 1) := by decide +kernel
theorem dX7_logOf_33 : decode cX7_logOf 33 = .ok (.iload_n 2, 1) := by decide +kernel
theorem dX7_logOf_34 : decode cX7_logOf 34 = .ok (.invokestatic 132, 3) := by decide +kernel
theorem dX7_logOf_37 : decode cX7_logOf 37 = .ok (.goto 5, 3) := by decide +kernel
theorem dX7_logOf_40 : decode cX7_logOf 40 = .ok (.bipush (-4), 2) := by decide +kernel
theorem dX7_logOf_42 : decode cX7_logOf 42 = .ok (.ireturn, 1) := by decide +kernel
theorem dX7_by_0 : decode cX7_by 0 = .ok (.iload_n 1, 1) := by decide +kernel
theorem dX7_by_1 : decode cX7_by 1 = .ok (.ifCond .ge 5, 3) := by decide +kernel
theorem dX7_by_4 : decode cX7_by 4 = .ok (.iconst (-1), 1) := by decide +kernel
theorem dX7_by_5 : decode cX7_by 5 = .ok (.ireturn, 1) := by decide +kernel
theorem dX7_by_6 : decode cX7_by 6 = .ok (.aload_n 0, 1) := by decide +kernel
theorem dX7_by_7 : decode cX7_by 7 = .ok (.invokevirtual 126, 3) := by decide +kernel
theorem dX7_by_10 : decode cX7_by 10 = .ok (.iload_n 1, 1) := by decide +kernel
theorem dX7_by_11 : decode cX7_by 11 = .ok (.aload_n 0, 1) := by decide +kernel
theorem dX7_by_12 : decode cX7_by 12 = .ok (.getfield 123, 3) := by decide +kernel
theorem dX7_by_15 : decode cX7_by 15 = .ok (.if_icmp .ge 12, 3) := by decide +kernel
theorem dX7_by_18 : decode cX7_by 18 = .ok (.aload_n 0, 1) := by decide +kernel
theorem dX7_by_19 : decode cX7_by 19 = .ok (.getfield 25, 3) := by decide +kernel
theorem dX7_by_22 : decode cX7_by 22 = .ok (.iload_n 1, 1) := by decide +kernel
theorem dX7_by_23 : decode cX7_by 23 = .ok (.iaload, 1) := by decide +kernel
theorem dX7_by_24 : decode cX7_by 24 = .ok (.goto 5, 3) := by decide +kernel
theorem dX7_by_27 : decode cX7_by 27 = .ok (.bipush (-4), 2) := by decide +kernel
theorem dX7_by_29 : decode cX7_by 29 = .ok (.ireturn, 1) := by decide +kernel
theorem dX7_sum_0 : decode cX7_sum 0 = .ok (.iconst 0, 1) := by decide +kernel
theorem dX7_sum_1 : decode cX7_sum 1 = .ok (.istore_n 2, 1) := by decide +kernel
theorem dX7_sum_2 : decode cX7_sum 2 = .ok (.iconst 0, 1) := by decide +kernel
theorem dX7_sum_3 : decode cX7_sum 3 = .ok (.istore_n 3, 1) := by decide +kernel
theorem dX7_sum_4 : decode cX7_sum 4 = .ok (.iload_n 3, 1) := by decide +kernel
theorem dX7_sum_5 : decode cX7_sum 5 = .ok (.aload_n 0, 1) := by decide +kernel
theorem dX7_sum_6 : decode cX7_sum 6 = .ok (.getfield 7, 3) := by decide +kernel
theorem dX7_sum_9 : decode cX7_sum 9 = .ok (.iconst 0, 1) := by decide +kernel
theorem dX7_sum_10 : decode cX7_sum 10 = .ok (.iaload, 1) := by decide +kernel
theorem dX7_sum_11 : decode cX7_sum 11 = .ok (.if_icmp .ge 36, 3) := by decide +kernel
theorem dX7_sum_14 : decode cX7_sum 14 = .ok (.iload_n 1, 1) := by decide +kernel
theorem dX7_sum_15 : decode cX7_sum 15 = .ok (.iconst 2, 1) := by decide +kernel
theorem dX7_sum_16 : decode cX7_sum 16 = .ok (.if_icmp .ne 31, 3) := by decide +kernel
theorem dX7_sum_19 : decode cX7_sum 19 = .ok (.iload_n 2, 1) := by decide +kernel
theorem dX7_sum_20 : decode cX7_sum 20 = .ok (.aload_n 0, 1) := by decide +kernel
theorem dX7_sum_21 : decode cX7_sum 21 = .ok (.getfield 7, 3) := by decide +kernel
theorem dX7_sum_24 : decode cX7_sum 24 = .ok (.iconst 1, 1) := by decide +kernel
theorem dX7_sum_25 : decode cX7_sum 25 = .ok (.iload_n 3, 1) := by decide +kernel
theorem dX7_sum_26 : decode cX7_sum 26 = .ok (.iadd, 1) := by decide +kernel
theorem dX7_sum_27 : decode cX7_sum 27 = .ok (.iaload, 1) := by decide +kernel
theorem dX7_sum_28 : decode cX7_sum 28 = .ok (.invokestatic 46, 3) := by decide +kernel
theorem dX7_sum_31 : decode cX7_sum 31 = .ok (.ifCond .ne 7, 3) := by decide +kernel
theorem dX7_sum_34 : decode cX7_sum 34 = .ok (.iconst 1, 1) := by decide +kernel
theorem dX7_sum_35 : decode cX7_sum 35 = .ok (.goto 4, 3) := by decide +kernel
theorem dX7_sum_38 : decode cX7_sum 38 = .ok (.iconst 0, 1) := by decide +kernel
theorem dX7_sum_39 : decode cX7_sum 39 = .ok (.iadd, 1) := by decide +kernel
theorem dX7_sum_40 : decode cX7_sum 40 = .ok (.istore_n 2, 1) := by decide +kernel
theorem dX7_sum_41 : decode cX7_sum 41 = .ok (.iinc 3 1, 3) := by decide +kernel
theorem dX7_sum_44 : decode cX7_sum 44 = .ok (.goto (-40), 3) := by decide +kernel
theorem dX7_sum_47 : decode cX7_sum 47 = .ok (.iconst 0, 1) := by decide +kernel
theorem dX7_sum_48 : decode cX7_sum 48 = .ok (.istore_n 3, 1) := by decide +kernel
theorem dX7_sum_49 : decode cX7_sum 49 = .ok (.iload_n 3, 1) := by decide +kernel
theorem dX7_sum_50 : decode cX7_sum 50 = .ok (.iconst 3, 1) := by decide +kernel
theorem dX7_sum_51 : decode cX7_sum 51 = .ok (.if_icmp .ge 87, 3) := by decide +kernel
theorem dX7_sum_54 : decode cX7_sum 54 = .ok (.iload_n 1, 1) := by decide +kernel
theorem dX7_sum_55 : decode cX7_sum 55 = .ok (.iconst 2, 1) := by decide +kernel
theorem dX7_sum_56 : decode cX7_sum 56 = .ok (.if_icmp .le 82, 3) := by decide +kernel
theorem dX7_sum_59 : decode cX7_sum 59 = .ok (.aload_n 0, 1) := by decide +kernel
theorem dX7_sum_60 : decode cX7_sum 60 = .ok (.getfield 7, 3) := by decide +kernel
theorem dX7_sum_63 : decode cX7_sum 63 = .ok (.iload_n 3, 1) := by decide +kernel
theorem dX7_sum_64 : decode cX7_sum 64 = .ok (.bipush 112, 2) := by decide +kernel
theorem dX7_sum_66 : decode cX7_sum 66 = .ok (.invokestatic 59, 3) := by decide +kernel
theorem dX7_sum_69 : decode cX7_sum 69 = .ok (.iaload, 1) := by decide +kernel
theorem dX7_sum_70 : decode cX7_sum 70 = .ok (.aload_n 0, 1) := by decide +kernel
theorem dX7_sum_71 : decode cX7_sum 71 = .ok (.getfield 7, 3) := by decide +kernel
theorem dX7_sum_74 : decode cX7_sum 74 = .ok (.iconst 0, 1) := by decide +kernel
theorem dX7_sum_75 : decode cX7_sum 75 = .ok (.iaload, 1) := by decide +kernel
theorem dX7_sum_76 : decode cX7_sum 76 = .ok (.if_icmp .ne 21, 3) := by decide +kernel
theorem dX7_sum_79 : decode cX7_sum 79 = .ok (.aload_n 0, 1) := by decide +kernel
theorem dX7_sum_80 : decode cX7_sum 80 = .ok (.getfield 7, 3) := by decide +kernel
theorem dX7_sum_83 : decode cX7_sum 83 = .ok (.iload_n 3, 1) := by decide +kernel
theorem dX7_sum_84 : decode cX7_sum 84 = .ok (.bipush 97, 2) := by decide +kernel
theorem dX7_sum_86 : decode cX7_sum 86 = .ok (.invokestatic 59, 3) := by decide +kernel
theorem dX7_sum_89 : decode cX7_sum 89 = .ok (.iaload, 1) := by decide +kernel
theorem dX7_sum_90 : decode cX7_sum 90 = .ok (.ifCond .ne 7, 3) := by decide +kernel
theorem dX7_sum_93 : decode cX7_sum 93 = .ok (.iconst 1, 1) := by decide +kernel
theorem dX7_sum_94 : decode cX7_sum 94 = .ok (.goto 4, 3) := by decide +kernel
theorem dX7_sum_97 : decode cX7_sum 97 = .ok (.iconst 0, 1) := by decide +kernel
theorem dX7_sum_98 : decode cX7_sum 98 = .ok (.istore 4, 2) := by decide +kernel
theorem dX7_sum_100 : decode cX7_sum 100 = .ok (.iload_n 2, 1) := by decide +kernel
theorem dX7_sum_101 : decode cX7_sum 101 = .ok (.iload_n 1, 1) := by decide +kernel
theorem dX7_sum_102 : decode cX7_sum 102 = .ok (.iconst 3, 1) := by decide +kernel
theorem dX7_sum_103 : decode cX7_sum 103 = .ok (.if_icmp .ne 17, 3) := by decide +kernel
theorem dX7_sum_106 : decode cX7_sum 106 = .ok (.aload_n 0, 1) := by decide +kernel
theorem dX7_sum_107 : decode cX7_sum 107 = .ok (.getfield 7, 3) := by decide +kernel
theorem dX7_sum_110 : decode cX7_sum 110 = .ok (.iload_n 3, 1) := by decide +kernel
theorem dX7_sum_111 : decode cX7_sum 111 = .ok (.bipush 97, 2) := by decide +kernel
theorem dX7_sum_113 : decode cX7_sum 113 = .ok (.invokestatic 59, 3) := by decide +kernel
theorem dX7_sum_116 : decode cX7_sum 116 = .ok (.iaload, 1) := by decide +kernel
theorem dX7_sum_117 : decode cX7_sum 117 = .ok (.goto 13, 3) := by decide +kernel
theorem dX7_sum_120 : decode cX7_sum 120 = .ok (.iload 4, 2) := by decide +kernel
theorem dX7_sum_122 : decode cX7_sum 122 = .ok (.ifCond .eq 7, 3) := by decide +kernel
theorem dX7_sum_125 : decode cX7_sum 125 = .ok (.iconst 1, 1) := by decide +kernel
theorem dX7_sum_126 : decode cX7_sum 126 = .ok (.goto 4, 3) := by decide +kernel
theorem dX7_sum_129 : decode cX7_sum 129 = .ok (.iconst 0, 1) := by decide +kernel
theorem dX7_sum_130 : decode cX7_sum 130 = .ok (.iadd, 1) := by decide +kernel
theorem dX7_sum_131 : decode cX7_sum 131 = .ok (.istore_n 2, 1) := by decide +kernel
theorem dX7_sum_132 : decode cX7_sum 132 = .ok (.iinc 3 1, 3) := by decide +kernel
theorem dX7_sum_135 : decode cX7_sum 135 = .ok (.goto (-86), 3) := by decide +kernel
theorem dX7_sum_138 : decode cX7_sum 138 = .ok (.iload_n 2, 1) := by decide +kernel
theorem dX7_sum_139 : decode cX7_sum 139 = .ok (.ireturn, 1) := by decide +kernel
theorem dX7_count_0 : decode cX7_count 0 = .ok (.iload_n 1, 1) := by decide +kernel
theorem dX7_count_1 : decode cX7_count 1 = .ok (.tableswitch 75 0 6 #[43, 50, 59, 59, 59, 65, 70], 43) := by decide +kernel
theorem dX7_count_44 : decode cX7_count 44 = .ok (.aload_n 0, 1) := by decide +kernel
theorem dX7_count_45 : decode cX7_count 45 = .ok (.getfield 7, 3) := by decide +kernel
theorem dX7_count_48 : decode cX7_count 48 = .ok (.iconst 0, 1) := by decide +kernel
theorem dX7_count_49 : decode cX7_count 49 = .ok (.iaload, 1) := by decide +kernel
theorem dX7_count_50 : decode cX7_count 50 = .ok (.ireturn, 1) := by decide +kernel
theorem dX7_count_51 : decode cX7_count 51 = .ok (.aload_n 0, 1) := by decide +kernel
theorem dX7_count_52 : decode cX7_count 52 = .ok (.invokevirtual 126, 3) := by decide +kernel
theorem dX7_count_55 : decode cX7_count 55 = .ok (.aload_n 0, 1) := by decide +kernel
theorem dX7_count_56 : decode cX7_count 56 = .ok (.getfield 123, 3) := by decide +kernel
theorem dX7_count_59 : decode cX7_count 59 = .ok (.ireturn, 1) := by decide +kernel
theorem dX7_count_60 : decode cX7_count 60 = .ok (.aload_n 0, 1) := by decide +kernel
theorem dX7_count_61 : decode cX7_count 61 = .ok (.iload_n 1, 1) := by decide +kernel
theorem dX7_count_62 : decode cX7_count 62 = .ok (.invokevirtual 135, 3) := by decide +kernel
theorem dX7_count_65 : decode cX7_count 65 = .ok (.ireturn, 1) := by decide +kernel
theorem dX7_count_66 : decode cX7_count 66 = .ok (.aload_n 0, 1) := by decide +kernel
theorem dX7_count_67 : decode cX7_count 67 = .ok (.getfield 38, 3) := by decide +kernel
theorem dX7_count_70 : decode cX7_count 70 = .ok (.ireturn, 1) := by decide +kernel
theorem dX7_count_71 : decode cX7_count 71 = .ok (.aload_n 0, 1) := by decide +kernel
theorem dX7_count_72 : decode cX7_count 72 = .ok (.getfield 138, 3) := by decide +kernel
theorem dX7_count_75 : decode cX7_count 75 = .ok (.ireturn, 1) := by decide +kernel
theorem dX7_count_76 : decode cX7_count 76 = .ok (.iconst (-1), 1) := by decide +kernel
theorem dX7_count_77 : decode cX7_count 77 = .ok (.ireturn, 1) := by decide +kernel
theorem dX7_end_0 : decode cX7_end 0 = .ok (.aload_n 0, 1) := by decide +kernel
theorem dX7_end_1 : decode cX7_end 1 = .ok (.invokevirtual 141, 3) := by decide +kernel
theorem dX7_end_4 : decode cX7_end 4 = .ok (.iconst 0, 1) := by decide +kernel
theorem dX7_end_5 : decode cX7_end 5 = .ok (.istore_n 2, 1) := by decide +kernel
theorem dX7_end_6 : decode cX7_end 6 = .ok (.iload_n 2, 1) := by decide +kernel
theorem dX7_end_7 : decode cX7_end 7 = .ok (.iconst 3, 1) := by decide +kernel
theorem dX7_end_8 : decode cX7_end 8 = .ok (.if_icmp .ge 80, 3) := by decide +kernel
theorem dX7_end_11 : decode cX7_end 11 = .ok (.iload_n 1, 1) := by decide +kernel
theorem dX7_end_12 : decode cX7_end 12 = .ok (.ifCond .ne 7, 3) := by decide +kernel
theorem dX7_end_15 : decode cX7_end 15 = .ok (.iload_n 2, 1) := by decide +kernel
theorem dX7_end_16 : decode cX7_end 16 = .ok (.goto 6, 3) := by decide +kernel
theorem dX7_end_19 : decode cX7_end 19 = .ok (.iconst 2, 1) := by decide +kernel
theorem dX7_end_20 : decode cX7_end 20 = .ok (.iload_n 2, 1) := by decide +kernel
theorem dX7_end_21 : decode cX7_end 21 = .ok (.isub, 1) := by decide +kernel
theorem dX7_end_22 : decode cX7_end 22 = .ok (.istore_n 3, 1) := by decide +kernel
theorem dX7_end_23 : decode cX7_end 23 = .ok (.aload_n 0, 1) := by decide +kernel
theorem dX7_end_24 : decode cX7_end 24 = .ok (.getfield 7, 3) := by decide +kernel
theorem dX7_end_27 : decode cX7_end 27 = .ok (.iload_n 3, 1) := by decide +kernel
theorem dX7_end_28 : decode cX7_end 28 = .ok (.bipush 97, 2) := by decide +kernel
theorem dX7_end_30 : decode cX7_end 30 = .ok (.invokestatic 59, 3) := by decide +kernel
theorem dX7_end_33 : decode cX7_end 33 = .ok (.iaload, 1) := by decide +kernel
theorem dX7_end_34 : decode cX7_end 34 = .ok (.ifCond .gt 23, 3) := by decide +kernel
theorem dX7_end_37 : decode cX7_end 37 = .ok (.aload_n 0, 1) := by decide +kernel
theorem dX7_end_38 : decode cX7_end 38 = .ok (.getfield 7, 3) := by decide +kernel
theorem dX7_end_41 : decode cX7_end 41 = .ok (.iload_n 3, 1) := by decide +kernel
theorem dX7_end_42 : decode cX7_end 42 = .ok (.bipush 112, 2) := by decide +kernel
theorem dX7_end_44 : decode cX7_end 44 = .ok (.invokestatic 59, 3) := by decide +kernel
theorem dX7_end_47 : decode cX7_end 47 = .ok (.iaload, 1) := by decide +kernel
theorem dX7_end_48 : decode cX7_end 48 = .ok (.aload_n 0, 1) := by decide +kernel
theorem dX7_end_49 : decode cX7_end 49 = .ok (.getfield 7, 3) := by decide +kernel
theorem dX7_end_52 : decode cX7_end 52 = .ok (.iconst 0, 1) := by decide +kernel
theorem dX7_end_53 : decode cX7_end 53 = .ok (.iaload, 1) := by decide +kernel
theorem dX7_end_54 : decode cX7_end 54 = .ok (.if_icmp .ge 28, 3) := by decide +kernel
theorem dX7_end_57 : decode cX7_end 57 = .ok (.aload_n 0, 1) := by decide +kernel
theorem dX7_end_58 : decode cX7_end 58 = .ok (.iload_n 3, 1) := by decide +kernel
theorem dX7_end_59 : decode cX7_end 59 = .ok (.invokevirtual 80, 3) := by decide +kernel
theorem dX7_end_62 : decode cX7_end 62 = .ok (.ifCond .eq 10, 3) := by decide +kernel
theorem dX7_end_65 : decode cX7_end 65 = .ok (.aload_n 0, 1) := by decide +kernel
theorem dX7_end_66 : decode cX7_end 66 = .ok (.iload_n 3, 1) := by decide +kernel
theorem dX7_end_67 : decode cX7_end 67 = .ok (.invokevirtual 114, 3) := by decide +kernel
theorem dX7_end_70 : decode cX7_end 70 = .ok (.istore 4, 2) := by decide +kernel
theorem dX7_end_72 : decode cX7_end 72 = .ok (.aload_n 0, 1) := by decide +kernel
theorem dX7_end_73 : decode cX7_end 73 = .ok (.iload_n 3, 1) := by decide +kernel
theorem dX7_end_74 : decode cX7_end 74 = .ok (.invokevirtual 120, 3) := by decide +kernel
theorem dX7_end_77 : decode cX7_end 77 = .ok (.istore 4, 2) := by decide +kernel
theorem dX7_end_79 : decode cX7_end 79 = .ok (.goto (-56), 3) := by decide +kernel
theorem dX7_end_82 : decode cX7_end 82 = .ok (.iinc 2 1, 3) := by decide +kernel
theorem dX7_end_85 : decode cX7_end 85 = .ok (.goto (-79), 3) := by decide +kernel
theorem dX7_end_88 : decode cX7_end 88 = .ok (.aload_n 0, 1) := by decide +kernel
theorem dX7_end_89 : decode cX7_end 89 = .ok (.invokevirtual 126, 3) := by decide +kernel
theorem dX7_end_92 : decode cX7_end 92 = .ok (.aload_n 0, 1) := by decide +kernel
theorem dX7_end_93 : decode cX7_end 93 = .ok (.iconst 1, 1) := by decide +kernel
theorem dX7_end_94 : decode cX7_end 94 = .ok (.putfield 144, 3) := by decide +kernel
theorem dX7_end_97 : decode cX7_end 97 = .ok (.iconst 0, 1) := by decide +kernel
theorem dX7_end_98 : decode cX7_end 98 = .ok (.istore_n 2, 1) := by decide +kernel
theorem dX7_end_99 : decode cX7_end 99 = .ok (.iload_n 2, 1) := by decide +kernel
theorem dX7_end_100 : decode cX7_end 100 = .ok (.iconst 3, 1) := by decide +kernel
theorem dX7_end_101 : decode cX7_end 101 = .ok (.if_icmp .ge 39, 3) := by decide +kernel
theorem dX7_end_104 : decode cX7_end 104 = .ok (.aload_n 0, 1) := by decide +kernel
theorem dX7_end_105 : decode cX7_end 105 = .ok (.iload_n 2, 1) := by decide +kernel
theorem dX7_end_106 : decode cX7_end 106 = .ok (.invokevirtual 120, 3) := by decide +kernel
theorem dX7_end_109 : decode cX7_end 109 = .ok (.istore_n 3, 1) := by decide +kernel
theorem dX7_end_110 : decode cX7_end 110 = .ok (.aload_n 0, 1) := by decide +kernel
theorem dX7_end_111 : decode cX7_end 111 = .ok (.aload_n 0, 1) := by decide +kernel
theorem dX7_end_112 : decode cX7_end 112 = .ok (.getfield 144, 3) := by decide +kernel
theorem dX7_end_115 : decode cX7_end 115 = .ok (.ifCond .eq 15, 3) := by decide +kernel
theorem dX7_end_118 : decode cX7_end 118 = .ok (.aload_n 0, 1) := by decide +kernel
theorem dX7_end_119 : decode cX7_end 119 = .ok (.iload_n 2, 1) := by decide +kernel
theorem dX7_end_120 : decode cX7_end 120 = .ok (.invokevirtual 129, 3) := by decide +kernel
theorem dX7_end_123 : decode cX7_end 123 = .ok (.ifCond .eq 7, 3) := by decide +kernel
theorem dX7_end_126 : decode cX7_end 126 = .ok (.iconst 1, 1) := by decide +kernel
theorem dX7_end_127 : decode cX7_end 127 = .ok (.goto 4, 3) := by decide +kernel
theorem dX7_end_130 : decode cX7_end 130 = .ok (.iconst 0, 1) := by decide +kernel
theorem dX7_end_131 : decode cX7_end 131 = .ok (.putfield 144, 3) := by decide +kernel
theorem dX7_end_134 : decode cX7_end 134 = .ok (.iinc 2 1, 3) := by decide +kernel
theorem dX7_end_137 : decode cX7_end 137 = .ok (.goto (-38), 3) := by decide +kernel
theorem dX7_end_140 : decode cX7_end 140 = .ok (.aload_n 0, 1) := by decide +kernel
theorem dX7_end_141 : decode cX7_end 141 = .ok (.invokevirtual 148, 3) := by decide +kernel
theorem dX7_end_144 : decode cX7_end 144 = .ok (.return_, 1) := by decide +kernel
theorem dX7_inTheEnd_0 : decode cX7_inTheEnd 0 = .ok (.iload_n 1, 1) := by decide +kernel
theorem dX7_inTheEnd_1 : decode cX7_inTheEnd 1 = .ok (.iconst 0, 1) := by decide +kernel
theorem dX7_inTheEnd_2 : decode cX7_inTheEnd 2 = .ok (.iconst 1, 1) := by decide +kernel
theorem dX7_inTheEnd_3 : decode cX7_inTheEnd 3 = .ok (.invokestatic 34, 3) := by decide +kernel
theorem dX7_inTheEnd_6 : decode cX7_inTheEnd 6 = .ok (.ifCond .eq 7, 3) := by decide +kernel
theorem dX7_inTheEnd_9 : decode cX7_inTheEnd 9 = .ok (.iload_n 2, 1) := by decide +kernel
theorem dX7_inTheEnd_10 : decode cX7_inTheEnd 10 = .ok (.ifCond .ge 5, 3) := by decide +kernel
theorem dX7_inTheEnd_13 : decode cX7_inTheEnd 13 = .ok (.iconst (-1), 1) := by decide +kernel
theorem dX7_inTheEnd_14 : decode cX7_inTheEnd 14 = .ok (.ireturn, 1) := by decide +kernel
theorem dX7_inTheEnd_15 : decode cX7_inTheEnd 15 = .ok (.aload_n 0, 1) := by decide +kernel
theorem dX7_inTheEnd_16 : decode cX7_inTheEnd 16 = .ok (.iload_n 1, 1) := by decide +kernel
theorem dX7_inTheEnd_17 : decode cX7_inTheEnd 17 = .ok (.invokevirtual 151, 3) := by decide +kernel
theorem dX7_inTheEnd_20 : decode cX7_inTheEnd 20 = .ok (.iload_n 2, 1) := by decide +kernel
theorem dX7_inTheEnd_21 : decode cX7_inTheEnd 21 = .ok (.aload_n 0, 1) := by decide +kernel
theorem dX7_inTheEnd_22 : decode cX7_inTheEnd 22 = .ok (.getfield 123, 3) := by decide +kernel
theorem dX7_inTheEnd_25 : decode cX7_inTheEnd 25 = .ok (.if_icmp .ge 12, 3) := by decide +kernel
theorem dX7_inTheEnd_28 : decode cX7_inTheEnd 28 = .ok (.aload_n 0, 1) := by decide +kernel
theorem dX7_inTheEnd_29 : decode cX7_inTheEnd 29 = .ok (.getfield 22, 3) := by decide +kernel
theorem dX7_inTheEnd_32 : decode cX7_inTheEnd 32 = .ok (.iload_n 2, 1) := by decide +kernel
theorem dX7_inTheEnd_33 : decode cX7_inTheEnd 33 = .ok (.iaload, 1) := by decide +kernel
theorem dX7_inTheEnd_34 : decode cX7_inTheEnd 34 = .ok (.goto 5, 3) := by decide +kernel
theorem dX7_inTheEnd_37 : decode cX7_inTheEnd 37 = .ok (.bipush (-4), 2) := by decide +kernel
theorem dX7_inTheEnd_39 : decode cX7_inTheEnd 39 = .ok (.ireturn, 1) := by decide +kernel
theorem dX7_both_0 : decode cX7_both 0 = .ok (.iload_n 1, 1) := by decide +kernel
theorem dX7_both_1 : decode cX7_both 1 = .ok (.iconst 0, 1) := by decide +kernel
theorem dX7_both_2 : decode cX7_both 2 = .ok (.iconst 3, 1) := by decide +kernel
theorem dX7_both_3 : decode cX7_both 3 = .ok (.invokestatic 34, 3) := by decide +kernel
theorem dX7_both_6 : decode cX7_both 6 = .ok (.ifCond .ne 5, 3) := by decide +kernel
theorem dX7_both_9 : decode cX7_both 9 = .ok (.iconst (-1), 1) := by decide +kernel
theorem dX7_both_10 : decode cX7_both 10 = .ok (.ireturn, 1) := by decide +kernel
theorem dX7_both_11 : decode cX7_both 11 = .ok (.aload_n 0, 1) := by decide +kernel
theorem dX7_both_12 : decode cX7_both 12 = .ok (.iconst 0, 1) := by decide +kernel
theorem dX7_both_13 : decode cX7_both 13 = .ok (.invokevirtual 151, 3) := by decide +kernel
theorem dX7_both_16 : decode cX7_both 16 = .ok (.aload_n 0, 1) := by decide +kernel
theorem dX7_both_17 : decode cX7_both 17 = .ok (.getfield 123, 3) := by decide +kernel
theorem dX7_both_20 : decode cX7_both 20 = .ok (.istore_n 2, 1) := by decide +kernel
theorem dX7_both_21 : decode cX7_both 21 = .ok (.aload_n 0, 1) := by decide +kernel
theorem dX7_both_22 : decode cX7_both 22 = .ok (.getfield 144, 3) := by decide +kernel
theorem dX7_both_25 : decode cX7_both 25 = .ok (.istore_n 3, 1) := by decide +kernel
theorem dX7_both_26 : decode cX7_both 26 = .ok (.iconst 0, 1) := by decide +kernel
theorem dX7_both_27 : decode cX7_both 27 = .ok (.istore 4, 2) := by decide +kernel
theorem dX7_both_29 : decode cX7_both 29 = .ok (.iload 4, 2) := by decide +kernel
theorem dX7_both_31 : decode cX7_both 31 = .ok (.aload_n 0, 1) := by decide +kernel
theorem dX7_both_32 : decode cX7_both 32 = .ok (.getfield 123, 3) := by decide +kernel
theorem dX7_both_35 : decode cX7_both 35 = .ok (.if_icmp .ge 23, 3) := by decide +kernel
theorem dX7_both_38 : decode cX7_both 38 = .ok (.aload_n 0, 1) := by decide +kernel
theorem dX7_both_39 : decode cX7_both 39 = .ok (.getfield 28, 3) := by decide +kernel
theorem dX7_both_42 : decode cX7_both 42 = .ok (.iload 4, 2) := by decide +kernel
theorem dX7_both_44 : decode cX7_both 44 = .ok (.aload_n 0, 1) := by decide +kernel
theorem dX7_both_45 : decode cX7_both 45 = .ok (.getfield 22, 3) := by decide +kernel
theorem dX7_both_48 : decode cX7_both 48 = .ok (.iload 4, 2) := by decide +kernel
theorem dX7_both_50 : decode cX7_both 50 = .ok (.iaload, 1) := by decide +kernel
theorem dX7_both_51 : decode cX7_both 51 = .ok (.iastore, 1) := by decide +kernel
theorem dX7_both_52 : decode cX7_both 52 = .ok (.iinc 4 1, 3) := by decide +kernel
theorem dX7_both_55 : decode cX7_both 55 = .ok (.goto (-26), 3) := by decide +kernel
theorem dX7_both_58 : decode cX7_both 58 = .ok (.aload_n 0, 1) := by decide +kernel
theorem dX7_both_59 : decode cX7_both 59 = .ok (.iconst 1, 1) := by decide +kernel
theorem dX7_both_60 : decode cX7_both 60 = .ok (.invokevirtual 151, 3) := by decide +kernel
theorem dX7_both_63 : decode cX7_both 63 = .ok (.iload_n 2, 1) := by decide +kernel
theorem dX7_both_64 : decode cX7_both 64 = .ok (.aload_n 0, 1) := by decide +kernel
theorem dX7_both_65 : decode cX7_both 65 = .ok (.getfield 123, 3) := by decide +kernel
theorem dX7_both_68 : decode cX7_both 68 = .ok (.if_icmp .ne 7, 3) := by decide +kernel
theorem dX7_both_71 : decode cX7_both 71 = .ok (.iconst 1, 1) := by decide +kernel
theorem dX7_both_72 : decode cX7_both 72 = .ok (.goto 4, 3) := by decide +kernel
theorem dX7_both_75 : decode cX7_both 75 = .ok (.iconst 0, 1) := by decide +kernel
theorem dX7_both_76 : decode cX7_both 76 = .ok (.istore 4, 2) := by decide +kernel
theorem dX7_both_78 : decode cX7_both 78 = .ok (.iconst 0, 1) := by decide +kernel
theorem dX7_both_79 : decode cX7_both 79 = .ok (.istore 5, 2) := by decide +kernel
theorem dX7_both_81 : decode cX7_both 81 = .ok (.iload 5, 2) := by decide +kernel
theorem dX7_both_83 : decode cX7_both 83 = .ok (.aload_n 0, 1) := by decide +kernel
theorem dX7_both_84 : decode cX7_both 84 = .ok (.getfield 123, 3) := by decide +kernel
theorem dX7_both_87 : decode cX7_both 87 = .ok (.if_icmp .ge 38, 3) := by decide +kernel
theorem dX7_both_90 : decode cX7_both 90 = .ok (.iload 4, 2) := by decide +kernel
theorem dX7_both_92 : decode cX7_both 92 = .ok (.ifCond .eq 33, 3) := by decide +kernel
theorem dX7_both_95 : decode cX7_both 95 = .ok (.aload_n 0, 1) := by decide +kernel
theorem dX7_both_96 : decode cX7_both 96 = .ok (.getfield 28, 3) := by decide +kernel
theorem dX7_both_99 : decode cX7_both 99 = .ok (.iload 5, 2) := by decide +kernel
theorem dX7_both_101 : decode cX7_both 101 = .ok (.iaload, 1) := by decide +kernel
theorem dX7_both_102 : decode cX7_both 102 = .ok (.aload_n 0, 1) := by decide +kernel
theorem dX7_both_103 : decode cX7_both 103 = .ok (.getfield 22, 3) := by decide +kernel
theorem dX7_both_106 : decode cX7_both 106 = .ok (.iload 5, 2) := by decide +kernel
theorem dX7_both_108 : decode cX7_both 108 = .ok (.iaload, 1) := by decide +kernel
theorem dX7_both_109 : decode cX7_both 109 = .ok (.if_icmp .ne 7, 3) := by decide +kernel
theorem dX7_both_112 : decode cX7_both 112 = .ok (.iconst 1, 1) := by decide +kernel
theorem dX7_both_113 : decode cX7_both 113 = .ok (.goto 4, 3) := by decide +kernel
theorem dX7_both_116 : decode cX7_both 116 = .ok (.iconst 0, 1) := by decide +kernel
theorem dX7_both_117 : decode cX7_both 117 = .ok (.istore 4, 2) := by decide +kernel
theorem dX7_both_119 : decode cX7_both 119 = .ok (.iinc 5 1, 3) := by decide +kernel
theorem dX7_both_122 : decode cX7_both 122 = .ok (.goto (-41), 3) := by decide +kernel
theorem dX7_both_125 : decode cX7_both 125 = .ok (.iload_n 1, 1) := by decide +kernel
theorem dX7_both_126 : decode cX7_both 126 = .ok (.ifCond .ne 7, 3) := by decide +kernel
theorem dX7_both_129 : decode cX7_both 129 = .ok (.iload_n 2, 1) := by decide +kernel
theorem dX7_both_130 : decode cX7_both 130 = .ok (.goto 49, 3) := by decide +kernel
theorem dX7_both_133 : decode cX7_both 133 = .ok (.iload_n 1, 1) := by decide +kernel
theorem dX7_both_134 : decode cX7_both 134 = .ok (.iconst 1, 1) := by decide +kernel
theorem dX7_both_135 : decode cX7_both 135 = .ok (.if_icmp .ne 10, 3) := by decide +kernel
theorem dX7_both_138 : decode cX7_both 138 = .ok (.aload_n 0, 1) := by decide +kernel
theorem dX7_both_139 : decode cX7_both 139 = .ok (.getfield 123, 3) := by decide +kernel
theorem dX7_both_142 : decode cX7_both 142 = .ok (.goto 37, 3) := by decide +kernel
theorem dX7_both_145 : decode cX7_both 145 = .ok (.iload_n 1, 1) := by decide +kernel
theorem dX7_both_146 : decode cX7_both 146 = .ok (.iconst 2, 1) := by decide +kernel
theorem dX7_both_147 : decode cX7_both 147 = .ok (.if_icmp .ne 16, 3) := by decide +kernel
theorem dX7_both_150 : decode cX7_both 150 = .ok (.iload 4, 2) := by decide +kernel
theorem dX7_both_152 : decode cX7_both 152 = .ok (.ifCond .eq 7, 3) := by decide +kernel
theorem dX7_both_155 : decode cX7_both 155 = .ok (.iconst 1, 1) := by decide +kernel
theorem dX7_both_156 : decode cX7_both 156 = .ok (.goto 23, 3) := by decide +kernel
theorem dX7_both_159 : decode cX7_both 159 = .ok (.iconst 0, 1) := by decide +kernel
theorem dX7_both_160 : decode cX7_both 160 = .ok (.goto 19, 3) := by decide +kernel
theorem dX7_both_163 : decode cX7_both 163 = .ok (.iload_n 3, 1) := by decide +kernel
theorem dX7_both_164 : decode cX7_both 164 = .ok (.ifCond .eq 14, 3) := by decide +kernel
theorem dX7_both_167 : decode cX7_both 167 = .ok (.aload_n 0, 1) := by decide +kernel
theorem dX7_both_168 : decode cX7_both 168 = .ok (.getfield 144, 3) := by decide +kernel
theorem dX7_both_171 : decode cX7_both 171 = .ok (.ifCond .eq 7, 3) := by decide +kernel
theorem dX7_both_174 : decode cX7_both 174 = .ok (.iconst 1, 1) := by decide +kernel
theorem dX7_both_175 : decode cX7_both 175 = .ok (.goto 4, 3) := by decide +kernel
theorem dX7_both_178 : decode cX7_both 178 = .ok (.iconst 0, 1) := by decide +kernel
theorem dX7_both_179 : decode cX7_both 179 = .ok (.ireturn, 1) := by decide +kernel
theorem dX7_wouldSend_0 : decode cX7_wouldSend 0 = .ok (.iload_n 1, 1) := by decide +kernel
theorem dX7_wouldSend_1 : decode cX7_wouldSend 1 = .ok (.invokestatic 70, 3) := by decide +kernel
theorem dX7_wouldSend_4 : decode cX7_wouldSend 4 = .ok (.ifCond .eq 12, 3) := by decide +kernel
theorem dX7_wouldSend_7 : decode cX7_wouldSend 7 = .ok (.iload_n 2, 1) := by decide +kernel
theorem dX7_wouldSend_8 : decode cX7_wouldSend 8 = .ok (.iconst 0, 1) := by decide +kernel
theorem dX7_wouldSend_9 : decode cX7_wouldSend 9 = .ok (.iconst 1, 1) := by decide +kernel
theorem dX7_wouldSend_10 : decode cX7_wouldSend 10 = .ok (.invokestatic 34, 3) := by decide +kernel
theorem dX7_wouldSend_13 : decode cX7_wouldSend 13 = .ok (.ifCond .ne 5, 3) := by decide +kernel
theorem dX7_wouldSend_16 : decode cX7_wouldSend 16 = .ok (.iconst (-1), 1) := by decide +kernel
theorem dX7_wouldSend_17 : decode cX7_wouldSend 17 = .ok (.ireturn, 1) := by decide +kernel
theorem dX7_wouldSend_18 : decode cX7_wouldSend 18 = .ok (.aload_n 0, 1) := by decide +kernel
theorem dX7_wouldSend_19 : decode cX7_wouldSend 19 = .ok (.iload_n 1, 1) := by decide +kernel
theorem dX7_wouldSend_20 : decode cX7_wouldSend 20 = .ok (.invokevirtual 80, 3) := by decide +kernel
theorem dX7_wouldSend_23 : decode cX7_wouldSend 23 = .ok (.ifCond .eq 26, 3) := by decide +kernel
theorem dX7_wouldSend_26 : decode cX7_wouldSend 26 = .ok (.aload_n 0, 1) := by decide +kernel
theorem dX7_wouldSend_27 : decode cX7_wouldSend 27 = .ok (.iload_n 1, 1) := by decide +kernel
theorem dX7_wouldSend_28 : decode cX7_wouldSend 28 = .ok (.aload_n 0, 1) := by decide +kernel
theorem dX7_wouldSend_29 : decode cX7_wouldSend 29 = .ok (.getfield 7, 3) := by decide +kernel
theorem dX7_wouldSend_32 : decode cX7_wouldSend 32 = .ok (.iload_n 1, 1) := by decide +kernel
theorem dX7_wouldSend_33 : decode cX7_wouldSend 33 = .ok (.bipush 98, 2) := by decide +kernel
theorem dX7_wouldSend_35 : decode cX7_wouldSend 35 = .ok (.invokestatic 59, 3) := by decide +kernel
theorem dX7_wouldSend_38 : decode cX7_wouldSend 38 = .ok (.iaload, 1) := by decide +kernel
theorem dX7_wouldSend_39 : decode cX7_wouldSend 39 = .ok (.invokevirtual 83, 3) := by decide +kernel
theorem dX7_wouldSend_42 : decode cX7_wouldSend 42 = .ok (.iload_n 2, 1) := by decide +kernel
theorem dX7_wouldSend_43 : decode cX7_wouldSend 43 = .ok (.invokestatic 132, 3) := by decide +kernel
theorem dX7_wouldSend_46 : decode cX7_wouldSend 46 = .ok (.goto 5, 3) := by decide +kernel
theorem dX7_wouldSend_49 : decode cX7_wouldSend 49 = .ok (.bipush (-2), 2) := by decide +kernel
theorem dX7_wouldSend_51 : decode cX7_wouldSend 51 = .ok (.ireturn, 1) := by decide +kernel
theorem dX7_undo_0 : decode cX7_undo 0 = .ok (.aload_n 0, 1) := by decide +kernel
theorem dX7_undo_1 : decode cX7_undo 1 = .ok (.getfield 38, 3) := by decide +kernel
theorem dX7_undo_4 : decode cX7_undo 4 = .ok (.ifCond .ne 6, 3) := by decide +kernel
theorem dX7_undo_7 : decode cX7_undo 7 = .ok (.bipush (-2), 2) := by decide +kernel
theorem dX7_undo_9 : decode cX7_undo 9 = .ok (.ireturn, 1) := by decide +kernel
theorem dX7_undo_10 : decode cX7_undo 10 = .ok (.aload_n 0, 1) := by decide +kernel
theorem dX7_undo_11 : decode cX7_undo 11 = .ok (.dup, 1) := by decide +kernel
theorem dX7_undo_12 : decode cX7_undo 12 = .ok (.getfield 38, 3) := by decide +kernel
theorem dX7_undo_15 : decode cX7_undo 15 = .ok (.iconst 1, 1) := by decide +kernel
theorem dX7_undo_16 : decode cX7_undo 16 = .ok (.isub, 1) := by decide +kernel
theorem dX7_undo_17 : decode cX7_undo 17 = .ok (.putfield 38, 3) := by decide +kernel
theorem dX7_undo_20 : decode cX7_undo 20 = .ok (.iconst 0, 1) := by decide +kernel
theorem dX7_undo_21 : decode cX7_undo 21 = .ok (.istore_n 1, 1) := by decide +kernel
theorem dX7_undo_22 : decode cX7_undo 22 = .ok (.iload_n 1, 1) := by decide +kernel
theorem dX7_undo_23 : decode cX7_undo 23 = .ok (.sipush 445, 3) := by decide +kernel
theorem dX7_undo_26 : decode cX7_undo 26 = .ok (.if_icmp .ge 30, 3) := by decide +kernel
theorem dX7_undo_29 : decode cX7_undo 29 = .ok (.aload_n 0, 1) := by decide +kernel
theorem dX7_undo_30 : decode cX7_undo 30 = .ok (.getfield 7, 3) := by decide +kernel
theorem dX7_undo_33 : decode cX7_undo 33 = .ok (.iload_n 1, 1) := by decide +kernel
theorem dX7_undo_34 : decode cX7_undo 34 = .ok (.aload_n 0, 1) := by decide +kernel
theorem dX7_undo_35 : decode cX7_undo 35 = .ok (.getfield 16, 3) := by decide +kernel
theorem dX7_undo_38 : decode cX7_undo 38 = .ok (.sipush 445, 3) := by decide +kernel
theorem dX7_undo_41 : decode cX7_undo 41 = .ok (.aload_n 0, 1) := by decide +kernel
theorem dX7_undo_42 : decode cX7_undo 42 = .ok (.getfield 38, 3) := by decide +kernel
theorem dX7_undo_45 : decode cX7_undo 45 = .ok (.imul, 1) := by decide +kernel
theorem dX7_undo_46 : decode cX7_undo 46 = .ok (.iload_n 1, 1) := by decide +kernel
theorem dX7_undo_47 : decode cX7_undo 47 = .ok (.iadd, 1) := by decide +kernel
theorem dX7_undo_48 : decode cX7_undo 48 = .ok (.iaload, 1) := by decide +kernel
theorem dX7_undo_49 : decode cX7_undo 49 = .ok (.iastore, 1) := by decide +kernel
theorem dX7_undo_50 : decode cX7_undo 50 = .ok (.iinc 1 1, 3) := by decide +kernel
theorem dX7_undo_53 : decode cX7_undo 53 = .ok (.goto (-31), 3) := by decide +kernel
theorem dX7_undo_56 : decode cX7_undo 56 = .ok (.aload_n 0, 1) := by decide +kernel
theorem dX7_undo_57 : decode cX7_undo 57 = .ok (.getfield 38, 3) := by decide +kernel
theorem dX7_undo_60 : decode cX7_undo 60 = .ok (.ireturn, 1) := by decide +kernel
theorem dX7_type_0 : decode cX7_type 0 = .ok (.iload_n 1, 1) := by decide +kernel
theorem dX7_type_1 : decode cX7_type 1 = .ok (.bipush 32, 2) := by decide +kernel
theorem dX7_type_3 : decode cX7_type 3 = .ok (.bipush 126, 2) := by decide +kernel
theorem dX7_type_5 : decode cX7_type 5 = .ok (.invokestatic 34, 3) := by decide +kernel
theorem dX7_type_8 : decode cX7_type 8 = .ok (.ifCond .ne 5, 3) := by decide +kernel
theorem dX7_type_11 : decode cX7_type 11 = .ok (.iconst (-1), 1) := by decide +kernel
theorem dX7_type_12 : decode cX7_type 12 = .ok (.ireturn, 1) := by decide +kernel
theorem dX7_type_13 : decode cX7_type 13 = .ok (.aload_n 0, 1) := by decide +kernel
theorem dX7_type_14 : decode cX7_type 14 = .ok (.getfield 138, 3) := by decide +kernel
theorem dX7_type_17 : decode cX7_type 17 = .ok (.bipush 60, 2) := by decide +kernel
theorem dX7_type_19 : decode cX7_type 19 = .ok (.if_icmp .ne 6, 3) := by decide +kernel
theorem dX7_type_22 : decode cX7_type 22 = .ok (.bipush (-3), 2) := by decide +kernel
theorem dX7_type_24 : decode cX7_type 24 = .ok (.ireturn, 1) := by decide +kernel
theorem dX7_type_25 : decode cX7_type 25 = .ok (.aload_n 0, 1) := by decide +kernel
theorem dX7_type_26 : decode cX7_type 26 = .ok (.getfield 19, 3) := by decide +kernel
theorem dX7_type_29 : decode cX7_type 29 = .ok (.aload_n 0, 1) := by decide +kernel
theorem dX7_type_30 : decode cX7_type 30 = .ok (.getfield 138, 3) := by decide +kernel
theorem dX7_type_33 : decode cX7_type 33 = .ok (.iload_n 1, 1) := by decide +kernel
theorem dX7_type_34 : decode cX7_type 34 = .ok (.iastore, 1) := by decide +kernel
theorem dX7_type_35 : decode cX7_type 35 = .ok (.aload_n 0, 1) := by decide +kernel
theorem dX7_type_36 : decode cX7_type 36 = .ok (.dup, 1) := by decide +kernel
theorem dX7_type_37 : decode cX7_type 37 = .ok (.getfield 138, 3) := by decide +kernel
theorem dX7_type_40 : decode cX7_type 40 = .ok (.iconst 1, 1) := by decide +kernel
theorem dX7_type_41 : decode cX7_type 41 = .ok (.iadd, 1) := by decide +kernel
theorem dX7_type_42 : decode cX7_type 42 = .ok (.putfield 138, 3) := by decide +kernel
theorem dX7_type_45 : decode cX7_type 45 = .ok (.aload_n 0, 1) := by decide +kernel
theorem dX7_type_46 : decode cX7_type 46 = .ok (.getfield 138, 3) := by decide +kernel
theorem dX7_type_49 : decode cX7_type 49 = .ok (.ireturn, 1) := by decide +kernel
theorem dX7_clearText_0 : decode cX7_clearText 0 = .ok (.aload_n 0, 1) := by decide +kernel
theorem dX7_clearText_1 : decode cX7_clearText 1 = .ok (.getfield 138, 3) := by decide +kernel
theorem dX7_clearText_4 : decode cX7_clearText 4 = .ok (.istore_n 1, 1) := by decide +kernel
theorem dX7_clearText_5 : decode cX7_clearText 5 = .ok (.aload_n 0, 1) := by decide +kernel
theorem dX7_clearText_6 : decode cX7_clearText 6 = .ok (.iconst 0, 1) := by decide +kernel
theorem dX7_clearText_7 : decode cX7_clearText 7 = .ok (.putfield 138, 3) := by decide +kernel
theorem dX7_clearText_10 : decode cX7_clearText 10 = .ok (.iload_n 1, 1) := by decide +kernel
theorem dX7_clearText_11 : decode cX7_clearText 11 = .ok (.ireturn, 1) := by decide +kernel
theorem dX7_sign_0 : decode cX7_sign 0 = .ok (.aload_n 0, 1) := by decide +kernel
theorem dX7_sign_1 : decode cX7_sign 1 = .ok (.getfield 155, 3) := by decide +kernel
theorem dX7_sign_4 : decode cX7_sign 4 = .ok (.aload_n 0, 1) := by decide +kernel
theorem dX7_sign_5 : decode cX7_sign 5 = .ok (.getfield 138, 3) := by decide +kernel
theorem dX7_sign_8 : decode cX7_sign 8 = .ok (.if_icmp .ge 15, 3) := by decide +kernel
theorem dX7_sign_11 : decode cX7_sign 11 = .ok (.aload_n 0, 1) := by decide +kernel
theorem dX7_sign_12 : decode cX7_sign 12 = .ok (.getfield 19, 3) := by decide +kernel
theorem dX7_sign_15 : decode cX7_sign 15 = .ok (.aload_n 0, 1) := by decide +kernel
theorem dX7_sign_16 : decode cX7_sign 16 = .ok (.getfield 155, 3) := by decide +kernel
theorem dX7_sign_19 : decode cX7_sign 19 = .ok (.iaload, 1) := by decide +kernel
theorem dX7_sign_20 : decode cX7_sign 20 = .ok (.goto 4, 3) := by decide +kernel
theorem dX7_sign_23 : decode cX7_sign 23 = .ok (.iconst 0, 1) := by decide +kernel
theorem dX7_sign_24 : decode cX7_sign 24 = .ok (.istore_n 3, 1) := by decide +kernel
theorem dX7_sign_25 : decode cX7_sign 25 = .ok (.aload_n 0, 1) := by decide +kernel
theorem dX7_sign_26 : decode cX7_sign 26 = .ok (.aload_n 0, 1) := by decide +kernel
theorem dX7_sign_27 : decode cX7_sign 27 = .ok (.getfield 158, 3) := by decide +kernel
theorem dX7_sign_30 : decode cX7_sign 30 = .ok (.ifCond .ne 12, 3) := by decide +kernel
theorem dX7_sign_33 : decode cX7_sign 33 = .ok (.iload_n 3, 1) := by decide +kernel
theorem dX7_sign_34 : decode cX7_sign 34 = .ok (.iload_n 1, 1) := by decide +kernel
theorem dX7_sign_35 : decode cX7_sign 35 = .ok (.iload_n 2, 1) := by decide +kernel
theorem dX7_sign_36 : decode cX7_sign 36 = .ok (.invokestatic 34, 3) := by decide +kernel
theorem dX7_sign_39 : decode cX7_sign 39 = .ok (.ifCond .ne 7, 3) := by decide +kernel
theorem dX7_sign_42 : decode cX7_sign 42 = .ok (.iconst 1, 1) := by decide +kernel
theorem dX7_sign_43 : decode cX7_sign 43 = .ok (.goto 4, 3) := by decide +kernel
theorem dX7_sign_46 : decode cX7_sign 46 = .ok (.iconst 0, 1) := by decide +kernel
theorem dX7_sign_47 : decode cX7_sign 47 = .ok (.putfield 158, 3) := by decide +kernel
theorem dX7_sign_50 : decode cX7_sign 50 = .ok (.aload_n 0, 1) := by decide +kernel
theorem dX7_sign_51 : decode cX7_sign 51 = .ok (.dup, 1) := by decide +kernel
theorem dX7_sign_52 : decode cX7_sign 52 = .ok (.getfield 155, 3) := by decide +kernel
theorem dX7_sign_55 : decode cX7_sign 55 = .ok (.aload_n 0, 1) := by decide +kernel
theorem dX7_sign_56 : decode cX7_sign 56 = .ok (.getfield 158, 3) := by decide +kernel
theorem dX7_sign_59 : decode cX7_sign 59 = .ok (.ifCond .eq 7, 3) := by decide +kernel
theorem dX7_sign_62 : decode cX7_sign 62 = .ok (.iconst 0, 1) := by decide +kernel
theorem dX7_sign_63 : decode cX7_sign 63 = .ok (.goto 4, 3) := by decide +kernel
theorem dX7_sign_66 : decode cX7_sign 66 = .ok (.iconst 1, 1) := by decide +kernel
theorem dX7_sign_67 : decode cX7_sign 67 = .ok (.iadd, 1) := by decide +kernel
theorem dX7_sign_68 : decode cX7_sign 68 = .ok (.putfield 155, 3) := by decide +kernel
theorem dX7_sign_71 : decode cX7_sign 71 = .ok (.iload_n 3, 1) := by decide +kernel
theorem dX7_sign_72 : decode cX7_sign 72 = .ok (.ireturn, 1) := by decide +kernel
theorem dX7_number_0 : decode cX7_number 0 = .ok (.aload_n 0, 1) := by decide +kernel
theorem dX7_number_1 : decode cX7_number 1 = .ok (.bipush 48, 2) := by decide +kernel
theorem dX7_number_3 : decode cX7_number 3 = .ok (.bipush 57, 2) := by decide +kernel
theorem dX7_number_5 : decode cX7_number 5 = .ok (.invokevirtual 161, 3) := by decide +kernel
theorem dX7_number_8 : decode cX7_number 8 = .ok (.bipush 48, 2) := by decide +kernel
theorem dX7_number_10 : decode cX7_number 10 = .ok (.isub, 1) := by decide +kernel
theorem dX7_number_11 : decode cX7_number 11 = .ok (.istore_n 1, 1) := by decide +kernel
theorem dX7_number_12 : decode cX7_number 12 = .ok (.aload_n 0, 1) := by decide +kernel
theorem dX7_number_13 : decode cX7_number 13 = .ok (.getfield 158, 3) := by decide +kernel
theorem dX7_number_16 : decode cX7_number 16 = .ok (.ifCond .ne 37, 3) := by decide +kernel
theorem dX7_number_19 : decode cX7_number 19 = .ok (.aload_n 0, 1) := by decide +kernel
theorem dX7_number_20 : decode cX7_number 20 = .ok (.getfield 155, 3) := by decide +kernel
theorem dX7_number_23 : decode cX7_number 23 = .ok (.aload_n 0, 1) := by decide +kernel
theorem dX7_number_24 : decode cX7_number 24 = .ok (.getfield 138, 3) := by decide +kernel
theorem dX7_number_27 : decode cX7_number 27 = .ok (.if_icmp .ge 26, 3) := by decide +kernel
theorem dX7_number_30 : decode cX7_number 30 = .ok (.aload_n 0, 1) := by decide +kernel
theorem dX7_number_31 : decode cX7_number 31 = .ok (.getfield 19, 3) := by decide +kernel
theorem dX7_number_34 : decode cX7_number 34 = .ok (.aload_n 0, 1) := by decide +kernel
theorem dX7_number_35 : decode cX7_number 35 = .ok (.getfield 155, 3) := by decide +kernel
theorem dX7_number_38 : decode cX7_number 38 = .ok (.iaload, 1) := by decide +kernel
theorem dX7_number_39 : decode cX7_number 39 = .ok (.bipush 48, 2) := by decide +kernel
theorem dX7_number_41 : decode cX7_number 41 = .ok (.bipush 57, 2) := by decide +kernel
theorem dX7_number_43 : decode cX7_number 43 = .ok (.invokestatic 34, 3) := by decide +kernel
theorem dX7_number_46 : decode cX7_number 46 = .ok (.ifCond .eq 7, 3) := by decide +kernel
theorem dX7_number_49 : decode cX7_number 49 = .ok (.iconst 1, 1) := by decide +kernel
theorem dX7_number_50 : decode cX7_number 50 = .ok (.goto 4, 3) := by decide +kernel
theorem dX7_number_53 : decode cX7_number 53 = .ok (.iconst 0, 1) := by decide +kernel
theorem dX7_number_54 : decode cX7_number 54 = .ok (.istore_n 2, 1) := by decide +kernel
theorem dX7_number_55 : decode cX7_number 55 = .ok (.iload_n 2, 1) := by decide +kernel
theorem dX7_number_56 : decode cX7_number 56 = .ok (.ifCond .eq 22, 3) := by decide +kernel
theorem dX7_number_59 : decode cX7_number 59 = .ok (.bipush 10, 2) := by decide +kernel
theorem dX7_number_61 : decode cX7_number 61 = .ok (.iload_n 1, 1) := by decide +kernel
theorem dX7_number_62 : decode cX7_number 62 = .ok (.imul, 1) := by decide +kernel
theorem dX7_number_63 : decode cX7_number 63 = .ok (.aload_n 0, 1) := by decide +kernel
theorem dX7_number_64 : decode cX7_number 64 = .ok (.bipush 48, 2) := by decide +kernel
theorem dX7_number_66 : decode cX7_number 66 = .ok (.bipush 57, 2) := by decide +kernel
theorem dX7_number_68 : decode cX7_number 68 = .ok (.invokevirtual 161, 3) := by decide +kernel
theorem dX7_number_71 : decode cX7_number 71 = .ok (.iadd, 1) := by decide +kernel
theorem dX7_number_72 : decode cX7_number 72 = .ok (.bipush 48, 2) := by decide +kernel
theorem dX7_number_74 : decode cX7_number 74 = .ok (.isub, 1) := by decide +kernel
theorem dX7_number_75 : decode cX7_number 75 = .ok (.goto 4, 3) := by decide +kernel
theorem dX7_number_78 : decode cX7_number 78 = .ok (.iload_n 1, 1) := by decide +kernel
theorem dX7_number_79 : decode cX7_number 79 = .ok (.ireturn, 1) := by decide +kernel
theorem dX7_read_0 : decode cX7_read 0 = .ok (.aload_n 0, 1) := by decide +kernel
theorem dX7_read_1 : decode cX7_read 1 = .ok (.getfield 155, 3) := by decide +kernel
theorem dX7_read_4 : decode cX7_read 4 = .ok (.aload_n 0, 1) := by decide +kernel
theorem dX7_read_5 : decode cX7_read 5 = .ok (.getfield 138, 3) := by decide +kernel
theorem dX7_read_8 : decode cX7_read 8 = .ok (.if_icmp .ge 15, 3) := by decide +kernel
theorem dX7_read_11 : decode cX7_read 11 = .ok (.aload_n 0, 1) := by decide +kernel
theorem dX7_read_12 : decode cX7_read 12 = .ok (.getfield 19, 3) := by decide +kernel
theorem dX7_read_15 : decode cX7_read 15 = .ok (.aload_n 0, 1) := by decide +kernel
theorem dX7_read_16 : decode cX7_read 16 = .ok (.getfield 155, 3) := by decide +kernel
theorem dX7_read_19 : decode cX7_read 19 = .ok (.iaload, 1) := by decide +kernel
theorem dX7_read_20 : decode cX7_read 20 = .ok (.goto 4, 3) := by decide +kernel
theorem dX7_read_23 : decode cX7_read 23 = .ok (.iconst 0, 1) := by decide +kernel
theorem dX7_read_24 : decode cX7_read 24 = .ok (.istore_n 1, 1) := by decide +kernel
theorem dX7_read_25 : decode cX7_read 25 = .ok (.aload_n 0, 1) := by decide +kernel
theorem dX7_read_26 : decode cX7_read 26 = .ok (.iload_n 1, 1) := by decide +kernel
theorem dX7_read_27 : decode cX7_read 27 = .ok (.bipush 105, 2) := by decide +kernel
theorem dX7_read_29 : decode cX7_read 29 = .ok (.if_icmp .eq 31, 3) := by decide +kernel
theorem dX7_read_32 : decode cX7_read 32 = .ok (.iload_n 1, 1) := by decide +kernel
theorem dX7_read_33 : decode cX7_read 33 = .ok (.bipush 100, 2) := by decide +kernel
theorem dX7_read_35 : decode cX7_read 35 = .ok (.if_icmp .eq 25, 3) := by decide +kernel
theorem dX7_read_38 : decode cX7_read 38 = .ok (.iload_n 1, 1) := by decide +kernel
theorem dX7_read_39 : decode cX7_read 39 = .ok (.bipush 115, 2) := by decide +kernel
theorem dX7_read_41 : decode cX7_read 41 = .ok (.if_icmp .eq 19, 3) := by decide +kernel
theorem dX7_read_44 : decode cX7_read 44 = .ok (.iload_n 1, 1) := by decide +kernel
theorem dX7_read_45 : decode cX7_read 45 = .ok (.bipush 104, 2) := by decide +kernel
theorem dX7_read_47 : decode cX7_read 47 = .ok (.if_icmp .eq 13, 3) := by decide +kernel
theorem dX7_read_50 : decode cX7_read 50 = .ok (.iload_n 1, 1) := by decide +kernel
theorem dX7_read_51 : decode cX7_read 51 = .ok (.bipush 98, 2) := by decide +kernel
theorem dX7_read_53 : decode cX7_read 53 = .ok (.if_icmp .eq 7, 3) := by decide +kernel
theorem dX7_read_56 : decode cX7_read 56 = .ok (.iconst 1, 1) := by decide +kernel
theorem dX7_read_57 : decode cX7_read 57 = .ok (.goto 4, 3) := by decide +kernel
theorem dX7_read_60 : decode cX7_read 60 = .ok (.iconst 0, 1) := by decide +kernel
theorem dX7_read_61 : decode cX7_read 61 = .ok (.putfield 158, 3) := by decide +kernel
theorem dX7_read_64 : decode cX7_read 64 = .ok (.aload_n 0, 1) := by decide +kernel
theorem dX7_read_65 : decode cX7_read 65 = .ok (.dup, 1) := by decide +kernel
theorem dX7_read_66 : decode cX7_read 66 = .ok (.getfield 155, 3) := by decide +kernel
theorem dX7_read_69 : decode cX7_read 69 = .ok (.aload_n 0, 1) := by decide +kernel
theorem dX7_read_70 : decode cX7_read 70 = .ok (.getfield 158, 3) := by decide +kernel
theorem dX7_read_73 : decode cX7_read 73 = .ok (.ifCond .eq 7, 3) := by decide +kernel
theorem dX7_read_76 : decode cX7_read 76 = .ok (.iconst 0, 1) := by decide +kernel
theorem dX7_read_77 : decode cX7_read 77 = .ok (.goto 4, 3) := by decide +kernel
theorem dX7_read_80 : decode cX7_read 80 = .ok (.iconst 1, 1) := by decide +kernel
theorem dX7_read_81 : decode cX7_read 81 = .ok (.iadd, 1) := by decide +kernel
theorem dX7_read_82 : decode cX7_read 82 = .ok (.putfield 155, 3) := by decide +kernel
theorem dX7_read_85 : decode cX7_read 85 = .ok (.aload_n 0, 1) := by decide +kernel
theorem dX7_read_86 : decode cX7_read 86 = .ok (.getfield 31, 3) := by decide +kernel
theorem dX7_read_89 : decode cX7_read 89 = .ok (.iconst 0, 1) := by decide +kernel
theorem dX7_read_90 : decode cX7_read 90 = .ok (.iload_n 1, 1) := by decide +kernel
theorem dX7_read_91 : decode cX7_read 91 = .ok (.iastore, 1) := by decide +kernel
theorem dX7_read_92 : decode cX7_read 92 = .ok (.iload_n 1, 1) := by decide +kernel
theorem dX7_read_93 : decode cX7_read 93 = .ok (.bipush 105, 2) := by decide +kernel
theorem dX7_read_95 : decode cX7_read 95 = .ok (.if_icmp .ne 7, 3) := by decide +kernel
theorem dX7_read_98 : decode cX7_read 98 = .ok (.iconst 3, 1) := by decide +kernel
theorem dX7_read_99 : decode cX7_read 99 = .ok (.goto 14, 3) := by decide +kernel
theorem dX7_read_102 : decode cX7_read 102 = .ok (.iload_n 1, 1) := by decide +kernel
theorem dX7_read_103 : decode cX7_read 103 = .ok (.bipush 100, 2) := by decide +kernel
theorem dX7_read_105 : decode cX7_read 105 = .ok (.if_icmp .ne 7, 3) := by decide +kernel
theorem dX7_read_108 : decode cX7_read 108 = .ok (.iconst 2, 1) := by decide +kernel
theorem dX7_read_109 : decode cX7_read 109 = .ok (.goto 4, 3) := by decide +kernel
theorem dX7_read_112 : decode cX7_read 112 = .ok (.iconst 1, 1) := by decide +kernel
theorem dX7_read_113 : decode cX7_read 113 = .ok (.istore_n 2, 1) := by decide +kernel
theorem dX7_read_114 : decode cX7_read 114 = .ok (.iconst 1, 1) := by decide +kernel
theorem dX7_read_115 : decode cX7_read 115 = .ok (.istore_n 3, 1) := by decide +kernel
theorem dX7_read_116 : decode cX7_read 116 = .ok (.iload_n 3, 1) := by decide +kernel
theorem dX7_read_117 : decode cX7_read 117 = .ok (.iload_n 2, 1) := by decide +kernel
theorem dX7_read_118 : decode cX7_read 118 = .ok (.if_icmp .gt 56, 3) := by decide +kernel
theorem dX7_read_121 : decode cX7_read 121 = .ok (.aload_n 0, 1) := by decide +kernel
theorem dX7_read_122 : decode cX7_read 122 = .ok (.getfield 158, 3) := by decide +kernel
theorem dX7_read_125 : decode cX7_read 125 = .ok (.ifCond .ne 49, 3) := by decide +kernel
theorem dX7_read_128 : decode cX7_read 128 = .ok (.iload_n 3, 1) := by decide +kernel
theorem dX7_read_129 : decode cX7_read 129 = .ok (.iconst 1, 1) := by decide +kernel
theorem dX7_read_130 : decode cX7_read 130 = .ok (.if_icmp .le 14, 3) := by decide +kernel
theorem dX7_read_133 : decode cX7_read 133 = .ok (.aload_n 0, 1) := by decide +kernel
theorem dX7_read_134 : decode cX7_read 134 = .ok (.bipush 44, 2) := by decide +kernel
theorem dX7_read_136 : decode cX7_read 136 = .ok (.bipush 44, 2) := by decide +kernel
theorem dX7_read_138 : decode cX7_read 138 = .ok (.invokevirtual 161, 3) := by decide +kernel
theorem dX7_read_141 : decode cX7_read 141 = .ok (.goto 4, 3) := by decide +kernel
theorem dX7_read_144 : decode cX7_read 144 = .ok (.iconst 0, 1) := by decide +kernel
theorem dX7_read_145 : decode cX7_read 145 = .ok (.istore 4, 2) := by decide +kernel
theorem dX7_read_147 : decode cX7_read 147 = .ok (.aload_n 0, 1) := by decide +kernel
theorem dX7_read_148 : decode cX7_read 148 = .ok (.getfield 31, 3) := by decide +kernel
theorem dX7_read_151 : decode cX7_read 151 = .ok (.iload_n 3, 1) := by decide +kernel
theorem dX7_read_152 : decode cX7_read 152 = .ok (.aload_n 0, 1) := by decide +kernel
theorem dX7_read_153 : decode cX7_read 153 = .ok (.getfield 158, 3) := by decide +kernel
theorem dX7_read_156 : decode cX7_read 156 = .ok (.ifCond .eq 7, 3) := by decide +kernel
theorem dX7_read_159 : decode cX7_read 159 = .ok (.iconst 0, 1) := by decide +kernel
theorem dX7_read_160 : decode cX7_read 160 = .ok (.goto 7, 3) := by decide +kernel
theorem dX7_read_163 : decode cX7_read 163 = .ok (.aload_n 0, 1) := by decide +kernel
theorem dX7_read_164 : decode cX7_read 164 = .ok (.invokevirtual 164, 3) := by decide +kernel
theorem dX7_read_167 : decode cX7_read 167 = .ok (.iastore, 1) := by decide +kernel
theorem dX7_read_168 : decode cX7_read 168 = .ok (.iinc 3 1, 3) := by decide +kernel
theorem dX7_read_171 : decode cX7_read 171 = .ok (.goto (-55), 3) := by decide +kernel
theorem dX7_read_174 : decode cX7_read 174 = .ok (.aload_n 0, 1) := by decide +kernel
theorem dX7_read_175 : decode cX7_read 175 = .ok (.bipush 59, 2) := by decide +kernel
theorem dX7_read_177 : decode cX7_read 177 = .ok (.bipush 59, 2) := by decide +kernel
theorem dX7_read_179 : decode cX7_read 179 = .ok (.invokevirtual 161, 3) := by decide +kernel
theorem dX7_read_182 : decode cX7_read 182 = .ok (.istore_n 3, 1) := by decide +kernel
theorem dX7_read_183 : decode cX7_read 183 = .ok (.return_, 1) := by decide +kernel
theorem dX7_does_0 : decode cX7_does 0 = .ok (.aload_n 0, 1) := by decide +kernel
theorem dX7_does_1 : decode cX7_does 1 = .ok (.getfield 31, 3) := by decide +kernel
theorem dX7_does_4 : decode cX7_does 4 = .ok (.iconst 0, 1) := by decide +kernel
theorem dX7_does_5 : decode cX7_does 5 = .ok (.iaload, 1) := by decide +kernel
theorem dX7_does_6 : decode cX7_does 6 = .ok (.istore_n 1, 1) := by decide +kernel
theorem dX7_does_7 : decode cX7_does 7 = .ok (.aload_n 0, 1) := by decide +kernel
theorem dX7_does_8 : decode cX7_does 8 = .ok (.getfield 31, 3) := by decide +kernel
theorem dX7_does_11 : decode cX7_does 11 = .ok (.iconst 1, 1) := by decide +kernel
theorem dX7_does_12 : decode cX7_does 12 = .ok (.iaload, 1) := by decide +kernel
theorem dX7_does_13 : decode cX7_does 13 = .ok (.istore_n 2, 1) := by decide +kernel
theorem dX7_does_14 : decode cX7_does 14 = .ok (.aload_n 0, 1) := by decide +kernel
theorem dX7_does_15 : decode cX7_does 15 = .ok (.getfield 31, 3) := by decide +kernel
theorem dX7_does_18 : decode cX7_does 18 = .ok (.iconst 2, 1) := by decide +kernel
theorem dX7_does_19 : decode cX7_does 19 = .ok (.iaload, 1) := by decide +kernel
theorem dX7_does_20 : decode cX7_does 20 = .ok (.istore_n 3, 1) := by decide +kernel
theorem dX7_does_21 : decode cX7_does 21 = .ok (.iload_n 1, 1) := by decide +kernel
theorem dX7_does_22 : decode cX7_does 22 = .ok (.bipush 105, 2) := by decide +kernel
theorem dX7_does_24 : decode cX7_does 24 = .ok (.if_icmp .ne 18, 3) := by decide +kernel
theorem dX7_does_27 : decode cX7_does 27 = .ok (.aload_n 0, 1) := by decide +kernel
theorem dX7_does_28 : decode cX7_does 28 = .ok (.iload_n 2, 1) := by decide +kernel
theorem dX7_does_29 : decode cX7_does 29 = .ok (.iload_n 3, 1) := by decide +kernel
theorem dX7_does_30 : decode cX7_does 30 = .ok (.aload_n 0, 1) := by decide +kernel
theorem dX7_does_31 : decode cX7_does 31 = .ok (.getfield 31, 3) := by decide +kernel
theorem dX7_does_34 : decode cX7_does 34 = .ok (.iconst 3, 1) := by decide +kernel
theorem dX7_does_35 : decode cX7_does 35 = .ok (.iaload, 1) := by decide +kernel
theorem dX7_does_36 : decode cX7_does 36 = .ok (.invokevirtual 89, 3) := by decide +kernel
theorem dX7_does_39 : decode cX7_does 39 = .ok (.goto 51, 3) := by decide +kernel
theorem dX7_does_42 : decode cX7_does 42 = .ok (.iload_n 1, 1) := by decide +kernel
theorem dX7_does_43 : decode cX7_does 43 = .ok (.bipush 100, 2) := by decide +kernel
theorem dX7_does_45 : decode cX7_does 45 = .ok (.if_icmp .ne 12, 3) := by decide +kernel
theorem dX7_does_48 : decode cX7_does 48 = .ok (.aload_n 0, 1) := by decide +kernel
theorem dX7_does_49 : decode cX7_does 49 = .ok (.iload_n 2, 1) := by decide +kernel
theorem dX7_does_50 : decode cX7_does 50 = .ok (.iload_n 3, 1) := by decide +kernel
theorem dX7_does_51 : decode cX7_does 51 = .ok (.invokevirtual 99, 3) := by decide +kernel
theorem dX7_does_54 : decode cX7_does 54 = .ok (.goto 36, 3) := by decide +kernel
theorem dX7_does_57 : decode cX7_does 57 = .ok (.iload_n 1, 1) := by decide +kernel
theorem dX7_does_58 : decode cX7_does 58 = .ok (.bipush 115, 2) := by decide +kernel
theorem dX7_does_60 : decode cX7_does 60 = .ok (.if_icmp .ne 11, 3) := by decide +kernel
theorem dX7_does_63 : decode cX7_does 63 = .ok (.aload_n 0, 1) := by decide +kernel
theorem dX7_does_64 : decode cX7_does 64 = .ok (.iload_n 2, 1) := by decide +kernel
theorem dX7_does_65 : decode cX7_does 65 = .ok (.invokevirtual 111, 3) := by decide +kernel
theorem dX7_does_68 : decode cX7_does 68 = .ok (.goto 22, 3) := by decide +kernel
theorem dX7_does_71 : decode cX7_does 71 = .ok (.iload_n 1, 1) := by decide +kernel
theorem dX7_does_72 : decode cX7_does 72 = .ok (.bipush 104, 2) := by decide +kernel
theorem dX7_does_74 : decode cX7_does 74 = .ok (.if_icmp .ne 11, 3) := by decide +kernel
theorem dX7_does_77 : decode cX7_does 77 = .ok (.aload_n 0, 1) := by decide +kernel
theorem dX7_does_78 : decode cX7_does 78 = .ok (.iload_n 2, 1) := by decide +kernel
theorem dX7_does_79 : decode cX7_does 79 = .ok (.invokevirtual 117, 3) := by decide +kernel
theorem dX7_does_82 : decode cX7_does 82 = .ok (.goto 8, 3) := by decide +kernel
theorem dX7_does_85 : decode cX7_does 85 = .ok (.aload_n 0, 1) := by decide +kernel
theorem dX7_does_86 : decode cX7_does 86 = .ok (.iload_n 2, 1) := by decide +kernel
theorem dX7_does_87 : decode cX7_does 87 = .ok (.invokevirtual 105, 3) := by decide +kernel
theorem dX7_does_90 : decode cX7_does 90 = .ok (.istore 4, 2) := by decide +kernel
theorem dX7_does_92 : decode cX7_does 92 = .ok (.iload 4, 2) := by decide +kernel
theorem dX7_does_94 : decode cX7_does 94 = .ok (.ifCond .ne 74, 3) := by decide +kernel
theorem dX7_does_97 : decode cX7_does 97 = .ok (.iload_n 1, 1) := by decide +kernel
theorem dX7_does_98 : decode cX7_does 98 = .ok (.bipush 105, 2) := by decide +kernel
theorem dX7_does_100 : decode cX7_does 100 = .ok (.if_icmp .ne 18, 3) := by decide +kernel
theorem dX7_does_103 : decode cX7_does 103 = .ok (.aload_n 0, 1) := by decide +kernel
theorem dX7_does_104 : decode cX7_does 104 = .ok (.iload_n 2, 1) := by decide +kernel
theorem dX7_does_105 : decode cX7_does 105 = .ok (.iload_n 3, 1) := by decide +kernel
theorem dX7_does_106 : decode cX7_does 106 = .ok (.aload_n 0, 1) := by decide +kernel
theorem dX7_does_107 : decode cX7_does 107 = .ok (.getfield 31, 3) := by decide +kernel
theorem dX7_does_110 : decode cX7_does 110 = .ok (.iconst 3, 1) := by decide +kernel
theorem dX7_does_111 : decode cX7_does 111 = .ok (.iaload, 1) := by decide +kernel
theorem dX7_does_112 : decode cX7_does 112 = .ok (.invokevirtual 96, 3) := by decide +kernel
theorem dX7_does_115 : decode cX7_does 115 = .ok (.goto 51, 3) := by decide +kernel
theorem dX7_does_118 : decode cX7_does 118 = .ok (.iload_n 1, 1) := by decide +kernel
theorem dX7_does_119 : decode cX7_does 119 = .ok (.bipush 100, 2) := by decide +kernel
theorem dX7_does_121 : decode cX7_does 121 = .ok (.if_icmp .ne 12, 3) := by decide +kernel
theorem dX7_does_124 : decode cX7_does 124 = .ok (.aload_n 0, 1) := by decide +kernel
theorem dX7_does_125 : decode cX7_does 125 = .ok (.iload_n 2, 1) := by decide +kernel
theorem dX7_does_126 : decode cX7_does 126 = .ok (.iload_n 3, 1) := by decide +kernel
theorem dX7_does_127 : decode cX7_does 127 = .ok (.invokevirtual 102, 3) := by decide +kernel
theorem dX7_does_130 : decode cX7_does 130 = .ok (.goto 36, 3) := by decide +kernel
theorem dX7_does_133 : decode cX7_does 133 = .ok (.iload_n 1, 1) := by decide +kernel
theorem dX7_does_134 : decode cX7_does 134 = .ok (.bipush 115, 2) := by decide +kernel
theorem dX7_does_136 : decode cX7_does 136 = .ok (.if_icmp .ne 11, 3) := by decide +kernel
theorem dX7_does_139 : decode cX7_does 139 = .ok (.aload_n 0, 1) := by decide +kernel
theorem dX7_does_140 : decode cX7_does 140 = .ok (.iload_n 2, 1) := by decide +kernel
theorem dX7_does_141 : decode cX7_does 141 = .ok (.invokevirtual 114, 3) := by decide +kernel
theorem dX7_does_144 : decode cX7_does 144 = .ok (.goto 22, 3) := by decide +kernel
theorem dX7_does_147 : decode cX7_does 147 = .ok (.iload_n 1, 1) := by decide +kernel
theorem dX7_does_148 : decode cX7_does 148 = .ok (.bipush 104, 2) := by decide +kernel
theorem dX7_does_150 : decode cX7_does 150 = .ok (.if_icmp .ne 11, 3) := by decide +kernel
theorem dX7_does_153 : decode cX7_does 153 = .ok (.aload_n 0, 1) := by decide +kernel
theorem dX7_does_154 : decode cX7_does 154 = .ok (.iload_n 2, 1) := by decide +kernel
theorem dX7_does_155 : decode cX7_does 155 = .ok (.invokevirtual 86, 3) := by decide +kernel
theorem dX7_does_158 : decode cX7_does 158 = .ok (.goto 8, 3) := by decide +kernel
theorem dX7_does_161 : decode cX7_does 161 = .ok (.aload_n 0, 1) := by decide +kernel
theorem dX7_does_162 : decode cX7_does 162 = .ok (.iload_n 2, 1) := by decide +kernel
theorem dX7_does_163 : decode cX7_does 163 = .ok (.invokevirtual 108, 3) := by decide +kernel
theorem dX7_does_166 : decode cX7_does 166 = .ok (.istore 5, 2) := by decide +kernel
theorem dX7_does_168 : decode cX7_does 168 = .ok (.iload 4, 2) := by decide +kernel
theorem dX7_does_170 : decode cX7_does 170 = .ok (.ireturn, 1) := by decide +kernel
theorem dX7_go_0 : decode cX7_go 0 = .ok (.iconst 0, 1) := by decide +kernel
theorem dX7_go_1 : decode cX7_go 1 = .ok (.istore_n 1, 1) := by decide +kernel
theorem dX7_go_2 : decode cX7_go 2 = .ok (.aload_n 0, 1) := by decide +kernel
theorem dX7_go_3 : decode cX7_go 3 = .ok (.iconst 0, 1) := by decide +kernel
theorem dX7_go_4 : decode cX7_go 4 = .ok (.putfield 155, 3) := by decide +kernel
theorem dX7_go_7 : decode cX7_go 7 = .ok (.aload_n 0, 1) := by decide +kernel
theorem dX7_go_8 : decode cX7_go 8 = .ok (.iconst 0, 1) := by decide +kernel
theorem dX7_go_9 : decode cX7_go 9 = .ok (.putfield 168, 3) := by decide +kernel
theorem dX7_go_12 : decode cX7_go 12 = .ok (.aload_n 0, 1) := by decide +kernel
theorem dX7_go_13 : decode cX7_go 13 = .ok (.getfield 155, 3) := by decide +kernel
theorem dX7_go_16 : decode cX7_go 16 = .ok (.aload_n 0, 1) := by decide +kernel
theorem dX7_go_17 : decode cX7_go 17 = .ok (.getfield 138, 3) := by decide +kernel
theorem dX7_go_20 : decode cX7_go 20 = .ok (.if_icmp .ge 75, 3) := by decide +kernel
theorem dX7_go_23 : decode cX7_go 23 = .ok (.aload_n 0, 1) := by decide +kernel
theorem dX7_go_24 : decode cX7_go 24 = .ok (.getfield 168, 3) := by decide +kernel
theorem dX7_go_27 : decode cX7_go 27 = .ok (.ifCond .ne 68, 3) := by decide +kernel
theorem dX7_go_30 : decode cX7_go 30 = .ok (.aload_n 0, 1) := by decide +kernel
theorem dX7_go_31 : decode cX7_go 31 = .ok (.aload_n 0, 1) := by decide +kernel
theorem dX7_go_32 : decode cX7_go 32 = .ok (.getfield 155, 3) := by decide +kernel
theorem dX7_go_35 : decode cX7_go 35 = .ok (.putfield 171, 3) := by decide +kernel
theorem dX7_go_38 : decode cX7_go 38 = .ok (.aload_n 0, 1) := by decide +kernel
theorem dX7_go_39 : decode cX7_go 39 = .ok (.invokevirtual 174, 3) := by decide +kernel
theorem dX7_go_42 : decode cX7_go 42 = .ok (.aload_n 0, 1) := by decide +kernel
theorem dX7_go_43 : decode cX7_go 43 = .ok (.aload_n 0, 1) := by decide +kernel
theorem dX7_go_44 : decode cX7_go 44 = .ok (.getfield 158, 3) := by decide +kernel
theorem dX7_go_47 : decode cX7_go 47 = .ok (.ifCond .eq 8, 3) := by decide +kernel
theorem dX7_go_50 : decode cX7_go 50 = .ok (.bipush (-4), 2) := by decide +kernel
theorem dX7_go_52 : decode cX7_go 52 = .ok (.goto 7, 3) := by decide +kernel
theorem dX7_go_55 : decode cX7_go 55 = .ok (.aload_n 0, 1) := by decide +kernel
theorem dX7_go_56 : decode cX7_go 56 = .ok (.invokevirtual 177, 3) := by decide +kernel
theorem dX7_go_59 : decode cX7_go 59 = .ok (.putfield 180, 3) := by decide +kernel
theorem dX7_go_62 : decode cX7_go 62 = .ok (.aload_n 0, 1) := by decide +kernel
theorem dX7_go_63 : decode cX7_go 63 = .ok (.aload_n 0, 1) := by decide +kernel
theorem dX7_go_64 : decode cX7_go 64 = .ok (.getfield 158, 3) := by decide +kernel
theorem dX7_go_67 : decode cX7_go 67 = .ok (.ifCond .eq 7, 3) := by decide +kernel
theorem dX7_go_70 : decode cX7_go 70 = .ok (.iconst 1, 1) := by decide +kernel
theorem dX7_go_71 : decode cX7_go 71 = .ok (.goto 15, 3) := by decide +kernel
theorem dX7_go_74 : decode cX7_go 74 = .ok (.aload_n 0, 1) := by decide +kernel
theorem dX7_go_75 : decode cX7_go 75 = .ok (.getfield 180, 3) := by decide +kernel
theorem dX7_go_78 : decode cX7_go 78 = .ok (.ifCond .ge 7, 3) := by decide +kernel
theorem dX7_go_81 : decode cX7_go 81 = .ok (.iconst 2, 1) := by decide +kernel
theorem dX7_go_82 : decode cX7_go 82 = .ok (.goto 4, 3) := by decide +kernel
theorem dX7_go_85 : decode cX7_go 85 = .ok (.iconst 0, 1) := by decide +kernel
theorem dX7_go_86 : decode cX7_go 86 = .ok (.putfield 168, 3) := by decide +kernel
theorem dX7_go_89 : decode cX7_go 89 = .ok (.iinc 1 1, 3) := by decide +kernel
theorem dX7_go_92 : decode cX7_go 92 = .ok (.goto (-80), 3) := by decide +kernel
theorem dX7_go_95 : decode cX7_go 95 = .ok (.iload_n 1, 1) := by decide +kernel
theorem dX7_go_96 : decode cX7_go 96 = .ok (.ireturn, 1) := by decide +kernel
theorem dX7_look_0 : decode cX7_look 0 = .ok (.aload_n 0, 1) := by decide +kernel
theorem dX7_look_1 : decode cX7_look 1 = .ok (.invokevirtual 141, 3) := by decide +kernel
theorem dX7_look_4 : decode cX7_look 4 = .ok (.aload_n 0, 1) := by decide +kernel
theorem dX7_look_5 : decode cX7_look 5 = .ok (.invokevirtual 183, 3) := by decide +kernel
theorem dX7_look_8 : decode cX7_look 8 = .ok (.istore_n 1, 1) := by decide +kernel
theorem dX7_look_9 : decode cX7_look 9 = .ok (.aload_n 0, 1) := by decide +kernel
theorem dX7_look_10 : decode cX7_look 10 = .ok (.invokevirtual 148, 3) := by decide +kernel
theorem dX7_look_13 : decode cX7_look 13 = .ok (.return_, 1) := by decide +kernel
theorem dX7_fault_0 : decode cX7_fault 0 = .ok (.iload_n 1, 1) := by decide +kernel
theorem dX7_fault_1 : decode cX7_fault 1 = .ok (.iconst 0, 1) := by decide +kernel
theorem dX7_fault_2 : decode cX7_fault 2 = .ok (.iconst 2, 1) := by decide +kernel
theorem dX7_fault_3 : decode cX7_fault 3 = .ok (.invokestatic 34, 3) := by decide +kernel
theorem dX7_fault_6 : decode cX7_fault 6 = .ok (.ifCond .ne 5, 3) := by decide +kernel
theorem dX7_fault_9 : decode cX7_fault 9 = .ok (.iconst (-1), 1) := by decide +kernel
theorem dX7_fault_10 : decode cX7_fault 10 = .ok (.ireturn, 1) := by decide +kernel
theorem dX7_fault_11 : decode cX7_fault 11 = .ok (.aload_n 0, 1) := by decide +kernel
theorem dX7_fault_12 : decode cX7_fault 12 = .ok (.invokevirtual 186, 3) := by decide +kernel
theorem dX7_fault_15 : decode cX7_fault 15 = .ok (.aload_n 0, 1) := by decide +kernel
theorem dX7_fault_16 : decode cX7_fault 16 = .ok (.getfield 168, 3) := by decide +kernel
theorem dX7_fault_19 : decode cX7_fault 19 = .ok (.ifCond .ne 8, 3) := by decide +kernel
theorem dX7_fault_22 : decode cX7_fault 22 = .ok (.bipush (-4), 2) := by decide +kernel
theorem dX7_fault_24 : decode cX7_fault 24 = .ok (.goto 30, 3) := by decide +kernel
theorem dX7_fault_27 : decode cX7_fault 27 = .ok (.iload_n 1, 1) := by decide +kernel
theorem dX7_fault_28 : decode cX7_fault 28 = .ok (.ifCond .ne 10, 3) := by decide +kernel
theorem dX7_fault_31 : decode cX7_fault 31 = .ok (.aload_n 0, 1) := by decide +kernel
theorem dX7_fault_32 : decode cX7_fault 32 = .ok (.getfield 171, 3) := by decide +kernel
theorem dX7_fault_35 : decode cX7_fault 35 = .ok (.goto 19, 3) := by decide +kernel
theorem dX7_fault_38 : decode cX7_fault 38 = .ok (.iload_n 1, 1) := by decide +kernel
theorem dX7_fault_39 : decode cX7_fault 39 = .ok (.iconst 1, 1) := by decide +kernel
theorem dX7_fault_40 : decode cX7_fault 40 = .ok (.if_icmp .ne 10, 3) := by decide +kernel
theorem dX7_fault_43 : decode cX7_fault 43 = .ok (.aload_n 0, 1) := by decide +kernel
theorem dX7_fault_44 : decode cX7_fault 44 = .ok (.getfield 168, 3) := by decide +kernel
theorem dX7_fault_47 : decode cX7_fault 47 = .ok (.goto 7, 3) := by decide +kernel
theorem dX7_fault_50 : decode cX7_fault 50 = .ok (.aload_n 0, 1) := by decide +kernel
theorem dX7_fault_51 : decode cX7_fault 51 = .ok (.getfield 180, 3) := by decide +kernel
theorem dX7_fault_54 : decode cX7_fault 54 = .ok (.ireturn, 1) := by decide +kernel
theorem dX7_play_0 : decode cX7_play 0 = .ok (.aload_n 0, 1) := by decide +kernel
theorem dX7_play_1 : decode cX7_play 1 = .ok (.invokevirtual 186, 3) := by decide +kernel
theorem dX7_play_4 : decode cX7_play 4 = .ok (.aload_n 0, 1) := by decide +kernel
theorem dX7_play_5 : decode cX7_play 5 = .ok (.getfield 168, 3) := by decide +kernel
theorem dX7_play_8 : decode cX7_play 8 = .ok (.ifCond .le 6, 3) := by decide +kernel
theorem dX7_play_11 : decode cX7_play 11 = .ok (.bipush (-2), 2) := by decide +kernel
theorem dX7_play_13 : decode cX7_play 13 = .ok (.ireturn, 1) := by decide +kernel
theorem dX7_play_14 : decode cX7_play 14 = .ok (.aload_n 0, 1) := by decide +kernel
theorem dX7_play_15 : decode cX7_play 15 = .ok (.invokevirtual 93, 3) := by decide +kernel
theorem dX7_play_18 : decode cX7_play 18 = .ok (.aload_n 0, 1) := by decide +kernel
theorem dX7_play_19 : decode cX7_play 19 = .ok (.invokevirtual 183, 3) := by decide +kernel
theorem dX7_play_22 : decode cX7_play 22 = .ok (.ireturn, 1) := by decide +kernel
