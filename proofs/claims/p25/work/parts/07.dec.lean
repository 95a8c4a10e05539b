theorem dX0_of_0 : decode cX0_of 0 = .ok (.iload_n 0, 1) := by decide +kernel
theorem dX0_of_1 : decode cX0_of 1 = .ok (.iload_n 3, 1) := by decide +kernel
theorem dX0_of_2 : decode cX0_of 2 = .ok (.iconst 2, 1) := by decide +kernel
theorem dX0_of_3 : decode cX0_of 3 = .ok (.ishl, 1) := by decide +kernel
theorem dX0_of_4 : decode cX0_of 4 = .ok (.ior, 1) := by decide +kernel
theorem dX0_of_5 : decode cX0_of 5 = .ok (.iload_n 2, 1) := by decide +kernel
theorem dX0_of_6 : decode cX0_of 6 = .ok (.iconst 4, 1) := by decide +kernel
theorem dX0_of_7 : decode cX0_of 7 = .ok (.ishl, 1) := by decide +kernel
theorem dX0_of_8 : decode cX0_of 8 = .ok (.ior, 1) := by decide +kernel
theorem dX0_of_9 : decode cX0_of 9 = .ok (.iload_n 1, 1) := by decide +kernel
theorem dX0_of_10 : decode cX0_of 10 = .ok (.bipush 9, 2) := by decide +kernel
theorem dX0_of_12 : decode cX0_of 12 = .ok (.ishl, 1) := by decide +kernel
theorem dX0_of_13 : decode cX0_of 13 = .ok (.ior, 1) := by decide +kernel
theorem dX0_of_14 : decode cX0_of 14 = .ok (.ireturn, 1) := by decide +kernel
theorem dX0_kind_0 : decode cX0_kind 0 = .ok (.iload_n 0, 1) := by decide +kernel
theorem dX0_kind_1 : decode cX0_kind 1 = .ok (.iconst 3, 1) := by decide +kernel
theorem dX0_kind_2 : decode cX0_kind 2 = .ok (.iand, 1) := by decide +kernel
theorem dX0_kind_3 : decode cX0_kind 3 = .ok (.ireturn, 1) := by decide +kernel
theorem dX0_place_0 : decode cX0_place 0 = .ok (.iload_n 0, 1) := by decide +kernel
theorem dX0_place_1 : decode cX0_place 1 = .ok (.bipush 9, 2) := by decide +kernel
theorem dX0_place_3 : decode cX0_place 3 = .ok (.ishr, 1) := by decide +kernel
theorem dX0_place_4 : decode cX0_place 4 = .ok (.ireturn, 1) := by decide +kernel
theorem dX0_sign_0 : decode cX0_sign 0 = .ok (.iload_n 0, 1) := by decide +kernel
theorem dX0_sign_1 : decode cX0_sign 1 = .ok (.iconst 4, 1) := by decide +kernel
theorem dX0_sign_2 : decode cX0_sign 2 = .ok (.ishr, 1) := by decide +kernel
theorem dX0_sign_3 : decode cX0_sign 3 = .ok (.bipush 31, 2) := by decide +kernel
theorem dX0_sign_5 : decode cX0_sign 5 = .ok (.iand, 1) := by decide +kernel
theorem dX0_sign_6 : decode cX0_sign 6 = .ok (.ireturn, 1) := by decide +kernel
theorem dX0_writer_0 : decode cX0_writer 0 = .ok (.iload_n 0, 1) := by decide +kernel
theorem dX0_writer_1 : decode cX0_writer 1 = .ok (.bipush 12, 2) := by decide +kernel
theorem dX0_writer_3 : decode cX0_writer 3 = .ok (.iand, 1) := by decide +kernel
theorem dX0_writer_4 : decode cX0_writer 4 = .ok (.iconst 2, 1) := by decide +kernel
theorem dX0_writer_5 : decode cX0_writer 5 = .ok (.ishr, 1) := by decide +kernel
theorem dX0_writer_6 : decode cX0_writer 6 = .ok (.ireturn, 1) := by decide +kernel
theorem dX0_part_0 : decode cX0_part 0 = .ok (.iload_n 0, 1) := by decide +kernel
theorem dX0_part_1 : decode cX0_part 1 = .ok (.invokestatic 11, 3) := by decide +kernel
theorem dX0_part_4 : decode cX0_part 4 = .ok (.istore_n 2, 1) := by decide +kernel
theorem dX0_part_5 : decode cX0_part 5 = .ok (.iload_n 1, 1) := by decide +kernel
theorem dX0_part_6 : decode cX0_part 6 = .ok (.tableswitch 57 0 2 #[26, 28, 42], 26) := by decide +kernel
theorem dX0_part_32 : decode cX0_part 32 = .ok (.iload_n 2, 1) := by decide +kernel
theorem dX0_part_33 : decode cX0_part 33 = .ok (.ireturn, 1) := by decide +kernel
theorem dX0_part_34 : decode cX0_part 34 = .ok (.iload_n 2, 1) := by decide +kernel
theorem dX0_part_35 : decode cX0_part 35 = .ok (.ifCond .ne 8, 3) := by decide +kernel
theorem dX0_part_38 : decode cX0_part 38 = .ok (.bipush (-4), 2) := by decide +kernel
theorem dX0_part_40 : decode cX0_part 40 = .ok (.goto 7, 3) := by decide +kernel
theorem dX0_part_43 : decode cX0_part 43 = .ok (.iload_n 0, 1) := by decide +kernel
theorem dX0_part_44 : decode cX0_part 44 = .ok (.invokestatic 15, 3) := by decide +kernel
theorem dX0_part_47 : decode cX0_part 47 = .ok (.ireturn, 1) := by decide +kernel
theorem dX0_part_48 : decode cX0_part 48 = .ok (.iload_n 2, 1) := by decide +kernel
theorem dX0_part_49 : decode cX0_part 49 = .ok (.iconst 1, 1) := by decide +kernel
theorem dX0_part_50 : decode cX0_part 50 = .ok (.if_icmp .ne 10, 3) := by decide +kernel
theorem dX0_part_53 : decode cX0_part 53 = .ok (.iload_n 0, 1) := by decide +kernel
theorem dX0_part_54 : decode cX0_part 54 = .ok (.invokestatic 18, 3) := by decide +kernel
theorem dX0_part_57 : decode cX0_part 57 = .ok (.goto 5, 3) := by decide +kernel
theorem dX0_part_60 : decode cX0_part 60 = .ok (.bipush (-4), 2) := by decide +kernel
theorem dX0_part_62 : decode cX0_part 62 = .ok (.ireturn, 1) := by decide +kernel
theorem dX0_part_63 : decode cX0_part 63 = .ok (.iload_n 0, 1) := by decide +kernel
theorem dX0_part_64 : decode cX0_part 64 = .ok (.invokestatic 21, 3) := by decide +kernel
theorem dX0_part_67 : decode cX0_part 67 = .ok (.ireturn, 1) := by decide +kernel
theorem dX0_reshaped_0 : decode cX0_reshaped 0 = .ok (.iload_n 0, 1) := by decide +kernel
theorem dX0_reshaped_1 : decode cX0_reshaped 1 = .ok (.iconst 3, 1) := by decide +kernel
theorem dX0_reshaped_2 : decode cX0_reshaped 2 = .ok (.iand, 1) := by decide +kernel
theorem dX0_reshaped_3 : decode cX0_reshaped 3 = .ok (.istore_n 2, 1) := by decide +kernel
theorem dX0_reshaped_4 : decode cX0_reshaped 4 = .ok (.iload_n 1, 1) := by decide +kernel
theorem dX0_reshaped_5 : decode cX0_reshaped 5 = .ok (.iconst 3, 1) := by decide +kernel
theorem dX0_reshaped_6 : decode cX0_reshaped 6 = .ok (.iand, 1) := by decide +kernel
theorem dX0_reshaped_7 : decode cX0_reshaped 7 = .ok (.istore_n 3, 1) := by decide +kernel
theorem dX0_reshaped_8 : decode cX0_reshaped 8 = .ok (.iload_n 2, 1) := by decide +kernel
theorem dX0_reshaped_9 : decode cX0_reshaped 9 = .ok (.ifCond .eq 7, 3) := by decide +kernel
theorem dX0_reshaped_12 : decode cX0_reshaped 12 = .ok (.iload_n 3, 1) := by decide +kernel
theorem dX0_reshaped_13 : decode cX0_reshaped 13 = .ok (.ifCond .ne 5, 3) := by decide +kernel
theorem dX0_reshaped_16 : decode cX0_reshaped 16 = .ok (.iload_n 0, 1) := by decide +kernel
theorem dX0_reshaped_17 : decode cX0_reshaped 17 = .ok (.ireturn, 1) := by decide +kernel
theorem dX0_reshaped_18 : decode cX0_reshaped 18 = .ok (.iload_n 0, 1) := by decide +kernel
theorem dX0_reshaped_19 : decode cX0_reshaped 19 = .ok (.bipush 9, 2) := by decide +kernel
theorem dX0_reshaped_21 : decode cX0_reshaped 21 = .ok (.ishr, 1) := by decide +kernel
theorem dX0_reshaped_22 : decode cX0_reshaped 22 = .ok (.istore 4, 2) := by decide +kernel
theorem dX0_reshaped_24 : decode cX0_reshaped 24 = .ok (.iload_n 1, 1) := by decide +kernel
theorem dX0_reshaped_25 : decode cX0_reshaped 25 = .ok (.bipush 9, 2) := by decide +kernel
theorem dX0_reshaped_27 : decode cX0_reshaped 27 = .ok (.ishr, 1) := by decide +kernel
theorem dX0_reshaped_28 : decode cX0_reshaped 28 = .ok (.istore 5, 2) := by decide +kernel
theorem dX0_reshaped_30 : decode cX0_reshaped 30 = .ok (.iload 5, 2) := by decide +kernel
theorem dX0_reshaped_32 : decode cX0_reshaped 32 = .ok (.iload 4, 2) := by decide +kernel
theorem dX0_reshaped_34 : decode cX0_reshaped 34 = .ok (.if_icmp .ne 7, 3) := by decide +kernel
theorem dX0_reshaped_37 : decode cX0_reshaped 37 = .ok (.iconst 1, 1) := by decide +kernel
theorem dX0_reshaped_38 : decode cX0_reshaped 38 = .ok (.goto 4, 3) := by decide +kernel
theorem dX0_reshaped_41 : decode cX0_reshaped 41 = .ok (.iconst 0, 1) := by decide +kernel
theorem dX0_reshaped_42 : decode cX0_reshaped 42 = .ok (.istore 6, 2) := by decide +kernel
theorem dX0_reshaped_44 : decode cX0_reshaped 44 = .ok (.iload_n 3, 1) := by decide +kernel
theorem dX0_reshaped_45 : decode cX0_reshaped 45 = .ok (.iconst 1, 1) := by decide +kernel
theorem dX0_reshaped_46 : decode cX0_reshaped 46 = .ok (.if_icmp .ne 65, 3) := by decide +kernel
theorem dX0_reshaped_49 : decode cX0_reshaped 49 = .ok (.iload_n 1, 1) := by decide +kernel
theorem dX0_reshaped_50 : decode cX0_reshaped 50 = .ok (.bipush 12, 2) := by decide +kernel
theorem dX0_reshaped_52 : decode cX0_reshaped 52 = .ok (.iand, 1) := by decide +kernel
theorem dX0_reshaped_53 : decode cX0_reshaped 53 = .ok (.iload_n 0, 1) := by decide +kernel
theorem dX0_reshaped_54 : decode cX0_reshaped 54 = .ok (.bipush 12, 2) := by decide +kernel
theorem dX0_reshaped_56 : decode cX0_reshaped 56 = .ok (.iand, 1) := by decide +kernel
theorem dX0_reshaped_57 : decode cX0_reshaped 57 = .ok (.if_icmp .ge 7, 3) := by decide +kernel
theorem dX0_reshaped_60 : decode cX0_reshaped 60 = .ok (.iconst 1, 1) := by decide +kernel
theorem dX0_reshaped_61 : decode cX0_reshaped 61 = .ok (.goto 4, 3) := by decide +kernel
theorem dX0_reshaped_64 : decode cX0_reshaped 64 = .ok (.iconst 0, 1) := by decide +kernel
theorem dX0_reshaped_65 : decode cX0_reshaped 65 = .ok (.istore 7, 2) := by decide +kernel
theorem dX0_reshaped_67 : decode cX0_reshaped 67 = .ok (.iload 6, 2) := by decide +kernel
theorem dX0_reshaped_69 : decode cX0_reshaped 69 = .ok (.ifCond .eq 17, 3) := by decide +kernel
theorem dX0_reshaped_72 : decode cX0_reshaped 72 = .ok (.iload_n 2, 1) := by decide +kernel
theorem dX0_reshaped_73 : decode cX0_reshaped 73 = .ok (.iconst 2, 1) := by decide +kernel
theorem dX0_reshaped_74 : decode cX0_reshaped 74 = .ok (.if_icmp .eq 8, 3) := by decide +kernel
theorem dX0_reshaped_77 : decode cX0_reshaped 77 = .ok (.iload 7, 2) := by decide +kernel
theorem dX0_reshaped_79 : decode cX0_reshaped 79 = .ok (.ifCond .eq 7, 3) := by decide +kernel
theorem dX0_reshaped_82 : decode cX0_reshaped 82 = .ok (.iconst 1, 1) := by decide +kernel
theorem dX0_reshaped_83 : decode cX0_reshaped 83 = .ok (.goto 4, 3) := by decide +kernel
theorem dX0_reshaped_86 : decode cX0_reshaped 86 = .ok (.iconst 0, 1) := by decide +kernel
theorem dX0_reshaped_87 : decode cX0_reshaped 87 = .ok (.istore 8, 2) := by decide +kernel
theorem dX0_reshaped_89 : decode cX0_reshaped 89 = .ok (.iload 5, 2) := by decide +kernel
theorem dX0_reshaped_91 : decode cX0_reshaped 91 = .ok (.iload 4, 2) := by decide +kernel
theorem dX0_reshaped_93 : decode cX0_reshaped 93 = .ok (.if_icmp .lt 8, 3) := by decide +kernel
theorem dX0_reshaped_96 : decode cX0_reshaped 96 = .ok (.iload 8, 2) := by decide +kernel
theorem dX0_reshaped_98 : decode cX0_reshaped 98 = .ok (.ifCond .eq 11, 3) := by decide +kernel
theorem dX0_reshaped_101 : decode cX0_reshaped 101 = .ok (.iload_n 0, 1) := by decide +kernel
theorem dX0_reshaped_102 : decode cX0_reshaped 102 = .ok (.sipush 512, 3) := by decide +kernel
theorem dX0_reshaped_105 : decode cX0_reshaped 105 = .ok (.iadd, 1) := by decide +kernel
theorem dX0_reshaped_106 : decode cX0_reshaped 106 = .ok (.goto 4, 3) := by decide +kernel
theorem dX0_reshaped_109 : decode cX0_reshaped 109 = .ok (.iload_n 0, 1) := by decide +kernel
theorem dX0_reshaped_110 : decode cX0_reshaped 110 = .ok (.ireturn, 1) := by decide +kernel
theorem dX0_reshaped_111 : decode cX0_reshaped 111 = .ok (.iload 5, 2) := by decide +kernel
theorem dX0_reshaped_113 : decode cX0_reshaped 113 = .ok (.iload 4, 2) := by decide +kernel
theorem dX0_reshaped_115 : decode cX0_reshaped 115 = .ok (.if_icmp .ge 9, 3) := by decide +kernel
theorem dX0_reshaped_118 : decode cX0_reshaped 118 = .ok (.iload_n 0, 1) := by decide +kernel
theorem dX0_reshaped_119 : decode cX0_reshaped 119 = .ok (.sipush 512, 3) := by decide +kernel
theorem dX0_reshaped_122 : decode cX0_reshaped 122 = .ok (.isub, 1) := by decide +kernel
theorem dX0_reshaped_123 : decode cX0_reshaped 123 = .ok (.ireturn, 1) := by decide +kernel
theorem dX0_reshaped_124 : decode cX0_reshaped 124 = .ok (.iload 6, 2) := by decide +kernel
theorem dX0_reshaped_126 : decode cX0_reshaped 126 = .ok (.ifCond .eq 14, 3) := by decide +kernel
theorem dX0_reshaped_129 : decode cX0_reshaped 129 = .ok (.iload_n 2, 1) := by decide +kernel
theorem dX0_reshaped_130 : decode cX0_reshaped 130 = .ok (.iconst 2, 1) := by decide +kernel
theorem dX0_reshaped_131 : decode cX0_reshaped 131 = .ok (.if_icmp .ne 9, 3) := by decide +kernel
theorem dX0_reshaped_134 : decode cX0_reshaped 134 = .ok (.iload_n 0, 1) := by decide +kernel
theorem dX0_reshaped_135 : decode cX0_reshaped 135 = .ok (.iload_n 2, 1) := by decide +kernel
theorem dX0_reshaped_136 : decode cX0_reshaped 136 = .ok (.isub, 1) := by decide +kernel
theorem dX0_reshaped_137 : decode cX0_reshaped 137 = .ok (.goto 4, 3) := by decide +kernel
theorem dX0_reshaped_140 : decode cX0_reshaped 140 = .ok (.iload_n 0, 1) := by decide +kernel
theorem dX0_reshaped_141 : decode cX0_reshaped 141 = .ok (.ireturn, 1) := by decide +kernel
theorem dX0_passThrough_0 : decode cX0_passThrough 0 = .ok (.iload_n 1, 1) := by decide +kernel
theorem dX0_passThrough_1 : decode cX0_passThrough 1 = .ok (.istore_n 2, 1) := by decide +kernel
theorem dX0_passThrough_2 : decode cX0_passThrough 2 = .ok (.iconst 0, 1) := by decide +kernel
theorem dX0_passThrough_3 : decode cX0_passThrough 3 = .ok (.istore_n 3, 1) := by decide +kernel
theorem dX0_passThrough_4 : decode cX0_passThrough 4 = .ok (.iload_n 3, 1) := by decide +kernel
theorem dX0_passThrough_5 : decode cX0_passThrough 5 = .ok (.aload_n 0, 1) := by decide +kernel
theorem dX0_passThrough_6 : decode cX0_passThrough 6 = .ok (.invokevirtual 24, 3) := by decide +kernel
theorem dX0_passThrough_9 : decode cX0_passThrough 9 = .ok (.if_icmp .ge 34, 3) := by decide +kernel
theorem dX0_passThrough_12 : decode cX0_passThrough 12 = .ok (.aload_n 0, 1) := by decide +kernel
theorem dX0_passThrough_13 : decode cX0_passThrough 13 = .ok (.iload_n 3, 1) := by decide +kernel
theorem dX0_passThrough_14 : decode cX0_passThrough 14 = .ok (.invokevirtual 30, 3) := by decide +kernel
theorem dX0_passThrough_17 : decode cX0_passThrough 17 = .ok (.istore 4, 2) := by decide +kernel
theorem dX0_passThrough_19 : decode cX0_passThrough 19 = .ok (.aload_n 0, 1) := by decide +kernel
theorem dX0_passThrough_20 : decode cX0_passThrough 20 = .ok (.iload_n 3, 1) := by decide +kernel
theorem dX0_passThrough_21 : decode cX0_passThrough 21 = .ok (.iload 4, 2) := by decide +kernel
theorem dX0_passThrough_23 : decode cX0_passThrough 23 = .ok (.iload_n 2, 1) := by decide +kernel
theorem dX0_passThrough_24 : decode cX0_passThrough 24 = .ok (.invokestatic 33, 3) := by decide +kernel
theorem dX0_passThrough_27 : decode cX0_passThrough 27 = .ok (.invokevirtual 37, 3) := by decide +kernel
theorem dX0_passThrough_30 : decode cX0_passThrough 30 = .ok (.iload_n 2, 1) := by decide +kernel
theorem dX0_passThrough_31 : decode cX0_passThrough 31 = .ok (.iload 4, 2) := by decide +kernel
theorem dX0_passThrough_33 : decode cX0_passThrough 33 = .ok (.invokestatic 33, 3) := by decide +kernel
theorem dX0_passThrough_36 : decode cX0_passThrough 36 = .ok (.istore_n 2, 1) := by decide +kernel
theorem dX0_passThrough_37 : decode cX0_passThrough 37 = .ok (.iinc 3 1, 3) := by decide +kernel
theorem dX0_passThrough_40 : decode cX0_passThrough 40 = .ok (.goto (-36), 3) := by decide +kernel
theorem dX0_passThrough_43 : decode cX0_passThrough 43 = .ok (.iload_n 2, 1) := by decide +kernel
theorem dX0_passThrough_44 : decode cX0_passThrough 44 = .ok (.ireturn, 1) := by decide +kernel
theorem dX1_init_0 : decode cX1_init 0 = .ok (.aload_n 0, 1) := by decide +kernel
theorem dX1_init_1 : decode cX1_init 1 = .ok (.invokespecial 3, 3) := by decide +kernel
theorem dX1_init_4 : decode cX1_init 4 = .ok (.aload_n 0, 1) := by decide +kernel
theorem dX1_init_5 : decode cX1_init 5 = .ok (.new 9, 3) := by decide +kernel
theorem dX1_init_8 : decode cX1_init 8 = .ok (.dup, 1) := by decide +kernel
theorem dX1_init_9 : decode cX1_init 9 = .ok (.bipush 60, 2) := by decide +kernel
theorem dX1_init_11 : decode cX1_init 11 = .ok (.invokespecial 11, 3) := by decide +kernel
theorem dX1_init_14 : decode cX1_init 14 = .ok (.putfield 14, 3) := by decide +kernel
theorem dX1_init_17 : decode cX1_init 17 = .ok (.aload_n 0, 1) := by decide +kernel
theorem dX1_init_18 : decode cX1_init 18 = .ok (.new 9, 3) := by decide +kernel
theorem dX1_init_21 : decode cX1_init 21 = .ok (.dup, 1) := by decide +kernel
theorem dX1_init_22 : decode cX1_init 22 = .ok (.iconst 3, 1) := by decide +kernel
theorem dX1_init_23 : decode cX1_init 23 = .ok (.invokespecial 11, 3) := by decide +kernel
theorem dX1_init_26 : decode cX1_init 26 = .ok (.putfield 20, 3) := by decide +kernel
theorem dX1_init_29 : decode cX1_init 29 = .ok (.return_, 1) := by decide +kernel
theorem dX2_init_0 : decode cX2_init 0 = .ok (.aload_n 0, 1) := by decide +kernel
theorem dX2_init_1 : decode cX2_init 1 = .ok (.invokespecial 3, 3) := by decide +kernel
theorem dX2_init_4 : decode cX2_init 4 = .ok (.aload_n 0, 1) := by decide +kernel
theorem dX2_init_5 : decode cX2_init 5 = .ok (.iload_n 1, 1) := by decide +kernel
theorem dX2_init_6 : decode cX2_init 6 = .ok (.putfield 9, 3) := by decide +kernel
theorem dX2_init_9 : decode cX2_init 9 = .ok (.aload_n 0, 1) := by decide +kernel
theorem dX2_init_10 : decode cX2_init 10 = .ok (.new 15, 3) := by decide +kernel
theorem dX2_init_13 : decode cX2_init 13 = .ok (.dup, 1) := by decide +kernel
theorem dX2_init_14 : decode cX2_init 14 = .ok (.bipush 78, 2) := by decide +kernel
theorem dX2_init_16 : decode cX2_init 16 = .ok (.invokespecial 17, 3) := by decide +kernel
theorem dX2_init_19 : decode cX2_init 19 = .ok (.putfield 20, 3) := by decide +kernel
theorem dX2_init_22 : decode cX2_init 22 = .ok (.aload_n 0, 1) := by decide +kernel
theorem dX2_init_23 : decode cX2_init 23 = .ok (.new 15, 3) := by decide +kernel
theorem dX2_init_26 : decode cX2_init 26 = .ok (.dup, 1) := by decide +kernel
theorem dX2_init_27 : decode cX2_init 27 = .ok (.bipush 6, 2) := by decide +kernel
theorem dX2_init_29 : decode cX2_init 29 = .ok (.invokespecial 17, 3) := by decide +kernel
theorem dX2_init_32 : decode cX2_init 32 = .ok (.putfield 24, 3) := by decide +kernel
theorem dX2_init_35 : decode cX2_init 35 = .ok (.aload_n 0, 1) := by decide +kernel
theorem dX2_init_36 : decode cX2_init 36 = .ok (.new 15, 3) := by decide +kernel
theorem dX2_init_39 : decode cX2_init 39 = .ok (.dup, 1) := by decide +kernel
theorem dX2_init_40 : decode cX2_init 40 = .ok (.bipush 6, 2) := by decide +kernel
theorem dX2_init_42 : decode cX2_init 42 = .ok (.invokespecial 17, 3) := by decide +kernel
theorem dX2_init_45 : decode cX2_init 45 = .ok (.putfield 27, 3) := by decide +kernel
theorem dX2_init_48 : decode cX2_init 48 = .ok (.return_, 1) := by decide +kernel
theorem dX2_putIn_0 : decode cX2_putIn 0 = .ok (.iload_n 1, 1) := by decide +kernel
theorem dX2_putIn_1 : decode cX2_putIn 1 = .ok (.ifCond .lt 24, 3) := by decide +kernel
theorem dX2_putIn_4 : decode cX2_putIn 4 = .ok (.iload_n 1, 1) := by decide +kernel
theorem dX2_putIn_5 : decode cX2_putIn 5 = .ok (.aload_n 0, 1) := by decide +kernel
theorem dX2_putIn_6 : decode cX2_putIn 6 = .ok (.getfield 20, 3) := by decide +kernel
theorem dX2_putIn_9 : decode cX2_putIn 9 = .ok (.invokevirtual 30, 3) := by decide +kernel
theorem dX2_putIn_12 : decode cX2_putIn 12 = .ok (.if_icmp .gt 13, 3) := by decide +kernel
theorem dX2_putIn_15 : decode cX2_putIn 15 = .ok (.iload_n 2, 1) := by decide +kernel
theorem dX2_putIn_16 : decode cX2_putIn 16 = .ok (.ifCond .lt 9, 3) := by decide +kernel
theorem dX2_putIn_19 : decode cX2_putIn 19 = .ok (.iload_n 2, 1) := by decide +kernel
theorem dX2_putIn_20 : decode cX2_putIn 20 = .ok (.bipush 26, 2) := by decide +kernel
theorem dX2_putIn_22 : decode cX2_putIn 22 = .ok (.if_icmp .lt 5, 3) := by decide +kernel
theorem dX2_putIn_25 : decode cX2_putIn 25 = .ok (.iconst (-1), 1) := by decide +kernel
theorem dX2_putIn_26 : decode cX2_putIn 26 = .ok (.ireturn, 1) := by decide +kernel
theorem dX2_putIn_27 : decode cX2_putIn 27 = .ok (.aload_n 0, 1) := by decide +kernel
theorem dX2_putIn_28 : decode cX2_putIn 28 = .ok (.getfield 20, 3) := by decide +kernel
theorem dX2_putIn_31 : decode cX2_putIn 31 = .ok (.invokevirtual 30, 3) := by decide +kernel
theorem dX2_putIn_34 : decode cX2_putIn 34 = .ok (.bipush 30, 2) := by decide +kernel
theorem dX2_putIn_36 : decode cX2_putIn 36 = .ok (.if_icmp .ge 15, 3) := by decide +kernel
theorem dX2_putIn_39 : decode cX2_putIn 39 = .ok (.aload_n 0, 1) := by decide +kernel
theorem dX2_putIn_40 : decode cX2_putIn 40 = .ok (.getfield 24, 3) := by decide +kernel
theorem dX2_putIn_43 : decode cX2_putIn 43 = .ok (.invokevirtual 30, 3) := by decide +kernel
theorem dX2_putIn_46 : decode cX2_putIn 46 = .ok (.bipush 6, 2) := by decide +kernel
theorem dX2_putIn_48 : decode cX2_putIn 48 = .ok (.if_icmp .lt 6, 3) := by decide +kernel
theorem dX2_putIn_51 : decode cX2_putIn 51 = .ok (.bipush (-3), 2) := by decide +kernel
theorem dX2_putIn_53 : decode cX2_putIn 53 = .ok (.ireturn, 1) := by decide +kernel
theorem dX2_putIn_54 : decode cX2_putIn 54 = .ok (.aload_n 0, 1) := by decide +kernel
theorem dX2_putIn_55 : decode cX2_putIn 55 = .ok (.iconst 1, 1) := by decide +kernel
theorem dX2_putIn_56 : decode cX2_putIn 56 = .ok (.iload_n 1, 1) := by decide +kernel
theorem dX2_putIn_57 : decode cX2_putIn 57 = .ok (.iload_n 2, 1) := by decide +kernel
theorem dX2_putIn_58 : decode cX2_putIn 58 = .ok (.aload_n 0, 1) := by decide +kernel
theorem dX2_putIn_59 : decode cX2_putIn 59 = .ok (.getfield 9, 3) := by decide +kernel
theorem dX2_putIn_62 : decode cX2_putIn 62 = .ok (.invokestatic 34, 3) := by decide +kernel
theorem dX2_putIn_65 : decode cX2_putIn 65 = .ok (.invokevirtual 40, 3) := by decide +kernel
theorem dX2_putIn_68 : decode cX2_putIn 68 = .ok (.aload_n 0, 1) := by decide +kernel
theorem dX2_putIn_69 : decode cX2_putIn 69 = .ok (.iconst 2, 1) := by decide +kernel
theorem dX2_putIn_70 : decode cX2_putIn 70 = .ok (.iload_n 1, 1) := by decide +kernel
theorem dX2_putIn_71 : decode cX2_putIn 71 = .ok (.iconst 0, 1) := by decide +kernel
theorem dX2_putIn_72 : decode cX2_putIn 72 = .ok (.aload_n 0, 1) := by decide +kernel
theorem dX2_putIn_73 : decode cX2_putIn 73 = .ok (.getfield 9, 3) := by decide +kernel
theorem dX2_putIn_76 : decode cX2_putIn 76 = .ok (.invokestatic 34, 3) := by decide +kernel
theorem dX2_putIn_79 : decode cX2_putIn 79 = .ok (.invokevirtual 43, 3) := by decide +kernel
theorem dX2_putIn_82 : decode cX2_putIn 82 = .ok (.aload_n 0, 1) := by decide +kernel
theorem dX2_putIn_83 : decode cX2_putIn 83 = .ok (.getfield 20, 3) := by decide +kernel
theorem dX2_putIn_86 : decode cX2_putIn 86 = .ok (.invokevirtual 30, 3) := by decide +kernel
theorem dX2_putIn_89 : decode cX2_putIn 89 = .ok (.ireturn, 1) := by decide +kernel
theorem dX2_takeOut_0 : decode cX2_takeOut 0 = .ok (.iload_n 1, 1) := by decide +kernel
theorem dX2_takeOut_1 : decode cX2_takeOut 1 = .ok (.ifCond .lt 14, 3) := by decide +kernel
theorem dX2_takeOut_4 : decode cX2_takeOut 4 = .ok (.iload_n 1, 1) := by decide +kernel
theorem dX2_takeOut_5 : decode cX2_takeOut 5 = .ok (.aload_n 0, 1) := by decide +kernel
theorem dX2_takeOut_6 : decode cX2_takeOut 6 = .ok (.getfield 20, 3) := by decide +kernel
theorem dX2_takeOut_9 : decode cX2_takeOut 9 = .ok (.invokevirtual 30, 3) := by decide +kernel
theorem dX2_takeOut_12 : decode cX2_takeOut 12 = .ok (.if_icmp .lt 5, 3) := by decide +kernel
theorem dX2_takeOut_15 : decode cX2_takeOut 15 = .ok (.iconst (-1), 1) := by decide +kernel
theorem dX2_takeOut_16 : decode cX2_takeOut 16 = .ok (.ireturn, 1) := by decide +kernel
theorem dX2_takeOut_17 : decode cX2_takeOut 17 = .ok (.aload_n 0, 1) := by decide +kernel
theorem dX2_takeOut_18 : decode cX2_takeOut 18 = .ok (.getfield 24, 3) := by decide +kernel
theorem dX2_takeOut_21 : decode cX2_takeOut 21 = .ok (.invokevirtual 30, 3) := by decide +kernel
theorem dX2_takeOut_24 : decode cX2_takeOut 24 = .ok (.bipush 6, 2) := by decide +kernel
theorem dX2_takeOut_26 : decode cX2_takeOut 26 = .ok (.if_icmp .lt 6, 3) := by decide +kernel
theorem dX2_takeOut_29 : decode cX2_takeOut 29 = .ok (.bipush (-3), 2) := by decide +kernel
theorem dX2_takeOut_31 : decode cX2_takeOut 31 = .ok (.ireturn, 1) := by decide +kernel
theorem dX2_takeOut_32 : decode cX2_takeOut 32 = .ok (.aload_n 0, 1) := by decide +kernel
theorem dX2_takeOut_33 : decode cX2_takeOut 33 = .ok (.getfield 20, 3) := by decide +kernel
theorem dX2_takeOut_36 : decode cX2_takeOut 36 = .ok (.iload_n 1, 1) := by decide +kernel
theorem dX2_takeOut_37 : decode cX2_takeOut 37 = .ok (.invokevirtual 46, 3) := by decide +kernel
theorem dX2_takeOut_40 : decode cX2_takeOut 40 = .ok (.istore_n 2, 1) := by decide +kernel
theorem dX2_takeOut_41 : decode cX2_takeOut 41 = .ok (.aload_n 0, 1) := by decide +kernel
theorem dX2_takeOut_42 : decode cX2_takeOut 42 = .ok (.iconst 2, 1) := by decide +kernel
theorem dX2_takeOut_43 : decode cX2_takeOut 43 = .ok (.iload_n 1, 1) := by decide +kernel
theorem dX2_takeOut_44 : decode cX2_takeOut 44 = .ok (.iconst 0, 1) := by decide +kernel
theorem dX2_takeOut_45 : decode cX2_takeOut 45 = .ok (.aload_n 0, 1) := by decide +kernel
theorem dX2_takeOut_46 : decode cX2_takeOut 46 = .ok (.getfield 9, 3) := by decide +kernel
theorem dX2_takeOut_49 : decode cX2_takeOut 49 = .ok (.invokestatic 34, 3) := by decide +kernel
theorem dX2_takeOut_52 : decode cX2_takeOut 52 = .ok (.invokevirtual 40, 3) := by decide +kernel
theorem dX2_takeOut_55 : decode cX2_takeOut 55 = .ok (.aload_n 0, 1) := by decide +kernel
theorem dX2_takeOut_56 : decode cX2_takeOut 56 = .ok (.iconst 1, 1) := by decide +kernel
theorem dX2_takeOut_57 : decode cX2_takeOut 57 = .ok (.iload_n 1, 1) := by decide +kernel
theorem dX2_takeOut_58 : decode cX2_takeOut 58 = .ok (.iload_n 2, 1) := by decide +kernel
theorem dX2_takeOut_59 : decode cX2_takeOut 59 = .ok (.aload_n 0, 1) := by decide +kernel
theorem dX2_takeOut_60 : decode cX2_takeOut 60 = .ok (.getfield 9, 3) := by decide +kernel
theorem dX2_takeOut_63 : decode cX2_takeOut 63 = .ok (.invokestatic 34, 3) := by decide +kernel
theorem dX2_takeOut_66 : decode cX2_takeOut 66 = .ok (.invokevirtual 43, 3) := by decide +kernel
theorem dX2_takeOut_69 : decode cX2_takeOut 69 = .ok (.iload_n 2, 1) := by decide +kernel
theorem dX2_takeOut_70 : decode cX2_takeOut 70 = .ok (.ireturn, 1) := by decide +kernel
theorem dX2_goBack_0 : decode cX2_goBack 0 = .ok (.aload_n 0, 1) := by decide +kernel
theorem dX2_goBack_1 : decode cX2_goBack 1 = .ok (.getfield 27, 3) := by decide +kernel
theorem dX2_goBack_4 : decode cX2_goBack 4 = .ok (.invokevirtual 30, 3) := by decide +kernel
theorem dX2_goBack_7 : decode cX2_goBack 7 = .ok (.iconst 1, 1) := by decide +kernel
theorem dX2_goBack_8 : decode cX2_goBack 8 = .ok (.isub, 1) := by decide +kernel
theorem dX2_goBack_9 : decode cX2_goBack 9 = .ok (.istore_n 1, 1) := by decide +kernel
theorem dX2_goBack_10 : decode cX2_goBack 10 = .ok (.iload_n 1, 1) := by decide +kernel
theorem dX2_goBack_11 : decode cX2_goBack 11 = .ok (.ifCond .ge 6, 3) := by decide +kernel
theorem dX2_goBack_14 : decode cX2_goBack 14 = .ok (.bipush (-2), 2) := by decide +kernel
theorem dX2_goBack_16 : decode cX2_goBack 16 = .ok (.ireturn, 1) := by decide +kernel
theorem dX2_goBack_17 : decode cX2_goBack 17 = .ok (.aload_n 0, 1) := by decide +kernel
theorem dX2_goBack_18 : decode cX2_goBack 18 = .ok (.getfield 27, 3) := by decide +kernel
theorem dX2_goBack_21 : decode cX2_goBack 21 = .ok (.iload_n 1, 1) := by decide +kernel
theorem dX2_goBack_22 : decode cX2_goBack 22 = .ok (.invokevirtual 46, 3) := by decide +kernel
theorem dX2_goBack_25 : decode cX2_goBack 25 = .ok (.istore_n 2, 1) := by decide +kernel
theorem dX2_goBack_26 : decode cX2_goBack 26 = .ok (.iload_n 2, 1) := by decide +kernel
theorem dX2_goBack_27 : decode cX2_goBack 27 = .ok (.invokestatic 50, 3) := by decide +kernel
theorem dX2_goBack_30 : decode cX2_goBack 30 = .ok (.istore_n 3, 1) := by decide +kernel
theorem dX2_goBack_31 : decode cX2_goBack 31 = .ok (.aload_n 0, 1) := by decide +kernel
theorem dX2_goBack_32 : decode cX2_goBack 32 = .ok (.getfield 24, 3) := by decide +kernel
theorem dX2_goBack_35 : decode cX2_goBack 35 = .ok (.invokevirtual 30, 3) := by decide +kernel
theorem dX2_goBack_38 : decode cX2_goBack 38 = .ok (.bipush 6, 2) := by decide +kernel
theorem dX2_goBack_40 : decode cX2_goBack 40 = .ok (.if_icmp .ge 20, 3) := by decide +kernel
theorem dX2_goBack_43 : decode cX2_goBack 43 = .ok (.iload_n 3, 1) := by decide +kernel
theorem dX2_goBack_44 : decode cX2_goBack 44 = .ok (.iconst 1, 1) := by decide +kernel
theorem dX2_goBack_45 : decode cX2_goBack 45 = .ok (.if_icmp .ne 18, 3) := by decide +kernel
theorem dX2_goBack_48 : decode cX2_goBack 48 = .ok (.aload_n 0, 1) := by decide +kernel
theorem dX2_goBack_49 : decode cX2_goBack 49 = .ok (.getfield 20, 3) := by decide +kernel
theorem dX2_goBack_52 : decode cX2_goBack 52 = .ok (.invokevirtual 30, 3) := by decide +kernel
theorem dX2_goBack_55 : decode cX2_goBack 55 = .ok (.bipush 30, 2) := by decide +kernel
theorem dX2_goBack_57 : decode cX2_goBack 57 = .ok (.if_icmp .lt 6, 3) := by decide +kernel
theorem dX2_goBack_60 : decode cX2_goBack 60 = .ok (.bipush (-3), 2) := by decide +kernel
theorem dX2_goBack_62 : decode cX2_goBack 62 = .ok (.ireturn, 1) := by decide +kernel
theorem dX2_goBack_63 : decode cX2_goBack 63 = .ok (.aload_n 0, 1) := by decide +kernel
theorem dX2_goBack_64 : decode cX2_goBack 64 = .ok (.getfield 27, 3) := by decide +kernel
theorem dX2_goBack_67 : decode cX2_goBack 67 = .ok (.iload_n 1, 1) := by decide +kernel
theorem dX2_goBack_68 : decode cX2_goBack 68 = .ok (.invokevirtual 53, 3) := by decide +kernel
theorem dX2_goBack_71 : decode cX2_goBack 71 = .ok (.iload_n 3, 1) := by decide +kernel
theorem dX2_goBack_72 : decode cX2_goBack 72 = .ok (.ifCond .eq 8, 3) := by decide +kernel
theorem dX2_goBack_75 : decode cX2_goBack 75 = .ok (.aload_n 0, 1) := by decide +kernel
theorem dX2_goBack_76 : decode cX2_goBack 76 = .ok (.iload_n 2, 1) := by decide +kernel
theorem dX2_goBack_77 : decode cX2_goBack 77 = .ok (.invokevirtual 40, 3) := by decide +kernel
theorem dX2_goBack_80 : decode cX2_goBack 80 = .ok (.iload_n 3, 1) := by decide +kernel
theorem dX2_goBack_81 : decode cX2_goBack 81 = .ok (.ireturn, 1) := by decide +kernel
theorem dX2_setSpot_0 : decode cX2_setSpot 0 = .ok (.iload_n 1, 1) := by decide +kernel
theorem dX2_setSpot_1 : decode cX2_setSpot 1 = .ok (.ifCond .lt 14, 3) := by decide +kernel
theorem dX2_setSpot_4 : decode cX2_setSpot 4 = .ok (.iload_n 1, 1) := by decide +kernel
theorem dX2_setSpot_5 : decode cX2_setSpot 5 = .ok (.aload_n 0, 1) := by decide +kernel
theorem dX2_setSpot_6 : decode cX2_setSpot 6 = .ok (.getfield 20, 3) := by decide +kernel
theorem dX2_setSpot_9 : decode cX2_setSpot 9 = .ok (.invokevirtual 30, 3) := by decide +kernel
theorem dX2_setSpot_12 : decode cX2_setSpot 12 = .ok (.if_icmp .le 5, 3) := by decide +kernel
theorem dX2_setSpot_15 : decode cX2_setSpot 15 = .ok (.iconst (-1), 1) := by decide +kernel
theorem dX2_setSpot_16 : decode cX2_setSpot 16 = .ok (.ireturn, 1) := by decide +kernel
theorem dX2_setSpot_17 : decode cX2_setSpot 17 = .ok (.aload_n 0, 1) := by decide +kernel
theorem dX2_setSpot_18 : decode cX2_setSpot 18 = .ok (.getfield 56, 3) := by decide +kernel
theorem dX2_setSpot_21 : decode cX2_setSpot 21 = .ok (.istore_n 2, 1) := by decide +kernel
theorem dX2_setSpot_22 : decode cX2_setSpot 22 = .ok (.aload_n 0, 1) := by decide +kernel
theorem dX2_setSpot_23 : decode cX2_setSpot 23 = .ok (.iload_n 1, 1) := by decide +kernel
theorem dX2_setSpot_24 : decode cX2_setSpot 24 = .ok (.putfield 56, 3) := by decide +kernel
theorem dX2_setSpot_27 : decode cX2_setSpot 27 = .ok (.iload_n 2, 1) := by decide +kernel
theorem dX2_setSpot_28 : decode cX2_setSpot 28 = .ok (.ireturn, 1) := by decide +kernel
theorem dX2_canSend_0 : decode cX2_canSend 0 = .ok (.aload_n 0, 1) := by decide +kernel
theorem dX2_canSend_1 : decode cX2_canSend 1 = .ok (.getfield 24, 3) := by decide +kernel
theorem dX2_canSend_4 : decode cX2_canSend 4 = .ok (.invokevirtual 30, 3) := by decide +kernel
theorem dX2_canSend_7 : decode cX2_canSend 7 = .ok (.ifCond .le 14, 3) := by decide +kernel
theorem dX2_canSend_10 : decode cX2_canSend 10 = .ok (.aload_n 0, 1) := by decide +kernel
theorem dX2_canSend_11 : decode cX2_canSend 11 = .ok (.getfield 59, 3) := by decide +kernel
theorem dX2_canSend_14 : decode cX2_canSend 14 = .ok (.ifCond .ne 7, 3) := by decide +kernel
theorem dX2_canSend_17 : decode cX2_canSend 17 = .ok (.iconst 1, 1) := by decide +kernel
theorem dX2_canSend_18 : decode cX2_canSend 18 = .ok (.goto 4, 3) := by decide +kernel
theorem dX2_canSend_21 : decode cX2_canSend 21 = .ok (.iconst 0, 1) := by decide +kernel
theorem dX2_canSend_22 : decode cX2_canSend 22 = .ok (.ireturn, 1) := by decide +kernel
theorem dX2_outgoing_0 : decode cX2_outgoing 0 = .ok (.aload_n 0, 1) := by decide +kernel
theorem dX2_outgoing_1 : decode cX2_outgoing 1 = .ok (.getfield 24, 3) := by decide +kernel
theorem dX2_outgoing_4 : decode cX2_outgoing 4 = .ok (.iconst 0, 1) := by decide +kernel
theorem dX2_outgoing_5 : decode cX2_outgoing 5 = .ok (.invokevirtual 46, 3) := by decide +kernel
theorem dX2_outgoing_8 : decode cX2_outgoing 8 = .ok (.istore_n 2, 1) := by decide +kernel
theorem dX2_outgoing_9 : decode cX2_outgoing 9 = .ok (.aload_n 0, 1) := by decide +kernel
theorem dX2_outgoing_10 : decode cX2_outgoing 10 = .ok (.getfield 63, 3) := by decide +kernel
theorem dX2_outgoing_13 : decode cX2_outgoing 13 = .ok (.istore_n 3, 1) := by decide +kernel
theorem dX2_outgoing_14 : decode cX2_outgoing 14 = .ok (.iload_n 3, 1) := by decide +kernel
theorem dX2_outgoing_15 : decode cX2_outgoing 15 = .ok (.aload_n 1, 1) := by decide +kernel
theorem dX2_outgoing_16 : decode cX2_outgoing 16 = .ok (.invokevirtual 30, 3) := by decide +kernel
theorem dX2_outgoing_19 : decode cX2_outgoing 19 = .ok (.if_icmp .ge 19, 3) := by decide +kernel
theorem dX2_outgoing_22 : decode cX2_outgoing 22 = .ok (.iload_n 2, 1) := by decide +kernel
theorem dX2_outgoing_23 : decode cX2_outgoing 23 = .ok (.aload_n 1, 1) := by decide +kernel
theorem dX2_outgoing_24 : decode cX2_outgoing 24 = .ok (.iload_n 3, 1) := by decide +kernel
theorem dX2_outgoing_25 : decode cX2_outgoing 25 = .ok (.invokevirtual 46, 3) := by decide +kernel
theorem dX2_outgoing_28 : decode cX2_outgoing 28 = .ok (.invokestatic 66, 3) := by decide +kernel
theorem dX2_outgoing_31 : decode cX2_outgoing 31 = .ok (.istore_n 2, 1) := by decide +kernel
theorem dX2_outgoing_32 : decode cX2_outgoing 32 = .ok (.iinc 3 1, 3) := by decide +kernel
theorem dX2_outgoing_35 : decode cX2_outgoing 35 = .ok (.goto (-21), 3) := by decide +kernel
theorem dX2_outgoing_38 : decode cX2_outgoing 38 = .ok (.iload_n 2, 1) := by decide +kernel
theorem dX2_outgoing_39 : decode cX2_outgoing 39 = .ok (.ireturn, 1) := by decide +kernel
theorem dX2_hearNext_0 : decode cX2_hearNext 0 = .ok (.aload_n 0, 1) := by decide +kernel
theorem dX2_hearNext_1 : decode cX2_hearNext 1 = .ok (.getfield 63, 3) := by decide +kernel
theorem dX2_hearNext_4 : decode cX2_hearNext 4 = .ok (.aload_n 1, 1) := by decide +kernel
theorem dX2_hearNext_5 : decode cX2_hearNext 5 = .ok (.invokevirtual 30, 3) := by decide +kernel
theorem dX2_hearNext_8 : decode cX2_hearNext 8 = .ok (.if_icmp .lt 6, 3) := by decide +kernel
theorem dX2_hearNext_11 : decode cX2_hearNext 11 = .ok (.bipush (-2), 2) := by decide +kernel
theorem dX2_hearNext_13 : decode cX2_hearNext 13 = .ok (.ireturn, 1) := by decide +kernel
theorem dX2_hearNext_14 : decode cX2_hearNext 14 = .ok (.aload_n 1, 1) := by decide +kernel
theorem dX2_hearNext_15 : decode cX2_hearNext 15 = .ok (.aload_n 0, 1) := by decide +kernel
theorem dX2_hearNext_16 : decode cX2_hearNext 16 = .ok (.getfield 63, 3) := by decide +kernel
theorem dX2_hearNext_19 : decode cX2_hearNext 19 = .ok (.invokevirtual 46, 3) := by decide +kernel
theorem dX2_hearNext_22 : decode cX2_hearNext 22 = .ok (.istore_n 2, 1) := by decide +kernel
theorem dX2_hearNext_23 : decode cX2_hearNext 23 = .ok (.aload_n 0, 1) := by decide +kernel
theorem dX2_hearNext_24 : decode cX2_hearNext 24 = .ok (.dup, 1) := by decide +kernel
theorem dX2_hearNext_25 : decode cX2_hearNext 25 = .ok (.getfield 63, 3) := by decide +kernel
theorem dX2_hearNext_28 : decode cX2_hearNext 28 = .ok (.iconst 1, 1) := by decide +kernel
theorem dX2_hearNext_29 : decode cX2_hearNext 29 = .ok (.iadd, 1) := by decide +kernel
theorem dX2_hearNext_30 : decode cX2_hearNext 30 = .ok (.putfield 63, 3) := by decide +kernel
theorem dX2_hearNext_33 : decode cX2_hearNext 33 = .ok (.aload_n 0, 1) := by decide +kernel
theorem dX2_hearNext_34 : decode cX2_hearNext 34 = .ok (.getfield 59, 3) := by decide +kernel
theorem dX2_hearNext_37 : decode cX2_hearNext 37 = .ok (.ifCond .eq 29, 3) := by decide +kernel
theorem dX2_hearNext_40 : decode cX2_hearNext 40 = .ok (.iload_n 2, 1) := by decide +kernel
theorem dX2_hearNext_41 : decode cX2_hearNext 41 = .ok (.invokestatic 70, 3) := by decide +kernel
theorem dX2_hearNext_44 : decode cX2_hearNext 44 = .ok (.aload_n 0, 1) := by decide +kernel
theorem dX2_hearNext_45 : decode cX2_hearNext 45 = .ok (.getfield 9, 3) := by decide +kernel
theorem dX2_hearNext_48 : decode cX2_hearNext 48 = .ok (.if_icmp .ne 18, 3) := by decide +kernel
theorem dX2_hearNext_51 : decode cX2_hearNext 51 = .ok (.aload_n 0, 1) := by decide +kernel
theorem dX2_hearNext_52 : decode cX2_hearNext 52 = .ok (.getfield 24, 3) := by decide +kernel
theorem dX2_hearNext_55 : decode cX2_hearNext 55 = .ok (.iconst 0, 1) := by decide +kernel
theorem dX2_hearNext_56 : decode cX2_hearNext 56 = .ok (.invokevirtual 53, 3) := by decide +kernel
theorem dX2_hearNext_59 : decode cX2_hearNext 59 = .ok (.aload_n 0, 1) := by decide +kernel
theorem dX2_hearNext_60 : decode cX2_hearNext 60 = .ok (.iconst 0, 1) := by decide +kernel
theorem dX2_hearNext_61 : decode cX2_hearNext 61 = .ok (.putfield 59, 3) := by decide +kernel
theorem dX2_hearNext_64 : decode cX2_hearNext 64 = .ok (.iconst 0, 1) := by decide +kernel
theorem dX2_hearNext_65 : decode cX2_hearNext 65 = .ok (.ireturn, 1) := by decide +kernel
theorem dX2_hearNext_66 : decode cX2_hearNext 66 = .ok (.aload_n 0, 1) := by decide +kernel
theorem dX2_hearNext_67 : decode cX2_hearNext 67 = .ok (.getfield 24, 3) := by decide +kernel
theorem dX2_hearNext_70 : decode cX2_hearNext 70 = .ok (.iload_n 2, 1) := by decide +kernel
theorem dX2_hearNext_71 : decode cX2_hearNext 71 = .ok (.invokestatic 73, 3) := by decide +kernel
theorem dX2_hearNext_74 : decode cX2_hearNext 74 = .ok (.istore_n 3, 1) := by decide +kernel
theorem dX2_hearNext_75 : decode cX2_hearNext 75 = .ok (.aload_n 0, 1) := by decide +kernel
theorem dX2_hearNext_76 : decode cX2_hearNext 76 = .ok (.iload_n 3, 1) := by decide +kernel
theorem dX2_hearNext_77 : decode cX2_hearNext 77 = .ok (.invokevirtual 77, 3) := by decide +kernel
theorem dX2_hearNext_80 : decode cX2_hearNext 80 = .ok (.iload_n 3, 1) := by decide +kernel
theorem dX2_hearNext_81 : decode cX2_hearNext 81 = .ok (.invokestatic 50, 3) := by decide +kernel
theorem dX2_hearNext_84 : decode cX2_hearNext 84 = .ok (.ireturn, 1) := by decide +kernel
theorem dX2_hearRest_0 : decode cX2_hearRest 0 = .ok (.aload_n 1, 1) := by decide +kernel
theorem dX2_hearRest_1 : decode cX2_hearRest 1 = .ok (.invokevirtual 30, 3) := by decide +kernel
theorem dX2_hearRest_4 : decode cX2_hearRest 4 = .ok (.aload_n 0, 1) := by decide +kernel
theorem dX2_hearRest_5 : decode cX2_hearRest 5 = .ok (.getfield 63, 3) := by decide +kernel
theorem dX2_hearRest_8 : decode cX2_hearRest 8 = .ok (.isub, 1) := by decide +kernel
theorem dX2_hearRest_9 : decode cX2_hearRest 9 = .ok (.istore_n 2, 1) := by decide +kernel
theorem dX2_hearRest_10 : decode cX2_hearRest 10 = .ok (.iload_n 2, 1) := by decide +kernel
theorem dX2_hearRest_11 : decode cX2_hearRest 11 = .ok (.ifCond .gt 6, 3) := by decide +kernel
theorem dX2_hearRest_14 : decode cX2_hearRest 14 = .ok (.bipush (-2), 2) := by decide +kernel
theorem dX2_hearRest_16 : decode cX2_hearRest 16 = .ok (.ireturn, 1) := by decide +kernel
theorem dX2_hearRest_17 : decode cX2_hearRest 17 = .ok (.iconst 0, 1) := by decide +kernel
theorem dX2_hearRest_18 : decode cX2_hearRest 18 = .ok (.istore_n 3, 1) := by decide +kernel
theorem dX2_hearRest_19 : decode cX2_hearRest 19 = .ok (.iload_n 3, 1) := by decide +kernel
theorem dX2_hearRest_20 : decode cX2_hearRest 20 = .ok (.iload_n 2, 1) := by decide +kernel
theorem dX2_hearRest_21 : decode cX2_hearRest 21 = .ok (.if_icmp .ge 15, 3) := by decide +kernel
theorem dX2_hearRest_24 : decode cX2_hearRest 24 = .ok (.aload_n 0, 1) := by decide +kernel
theorem dX2_hearRest_25 : decode cX2_hearRest 25 = .ok (.aload_n 1, 1) := by decide +kernel
theorem dX2_hearRest_26 : decode cX2_hearRest 26 = .ok (.invokevirtual 80, 3) := by decide +kernel
theorem dX2_hearRest_29 : decode cX2_hearRest 29 = .ok (.pop, 1) := by decide +kernel
theorem dX2_hearRest_30 : decode cX2_hearRest 30 = .ok (.iinc 3 1, 3) := by decide +kernel
theorem dX2_hearRest_33 : decode cX2_hearRest 33 = .ok (.goto (-14), 3) := by decide +kernel
theorem dX2_hearRest_36 : decode cX2_hearRest 36 = .ok (.iload_n 2, 1) := by decide +kernel
theorem dX2_hearRest_37 : decode cX2_hearRest 37 = .ok (.ireturn, 1) := by decide +kernel
theorem dX2_isSettled_0 : decode cX2_isSettled 0 = .ok (.aload_n 0, 1) := by decide +kernel
theorem dX2_isSettled_1 : decode cX2_isSettled 1 = .ok (.getfield 24, 3) := by decide +kernel
theorem dX2_isSettled_4 : decode cX2_isSettled 4 = .ok (.invokevirtual 30, 3) := by decide +kernel
theorem dX2_isSettled_7 : decode cX2_isSettled 7 = .ok (.ifCond .ne 18, 3) := by decide +kernel
theorem dX2_isSettled_10 : decode cX2_isSettled 10 = .ok (.aload_n 0, 1) := by decide +kernel
theorem dX2_isSettled_11 : decode cX2_isSettled 11 = .ok (.getfield 63, 3) := by decide +kernel
theorem dX2_isSettled_14 : decode cX2_isSettled 14 = .ok (.aload_n 1, 1) := by decide +kernel
theorem dX2_isSettled_15 : decode cX2_isSettled 15 = .ok (.invokevirtual 30, 3) := by decide +kernel
theorem dX2_isSettled_18 : decode cX2_isSettled 18 = .ok (.if_icmp .lt 7, 3) := by decide +kernel
theorem dX2_isSettled_21 : decode cX2_isSettled 21 = .ok (.iconst 1, 1) := by decide +kernel
theorem dX2_isSettled_22 : decode cX2_isSettled 22 = .ok (.goto 4, 3) := by decide +kernel
theorem dX2_isSettled_25 : decode cX2_isSettled 25 = .ok (.iconst 0, 1) := by decide +kernel
theorem dX2_isSettled_26 : decode cX2_isSettled 26 = .ok (.ireturn, 1) := by decide +kernel
theorem dX2_copyEditor_0 : decode cX2_copyEditor 0 = .ok (.aload_n 0, 1) := by decide +kernel
theorem dX2_copyEditor_1 : decode cX2_copyEditor 1 = .ok (.getfield 20, 3) := by decide +kernel
theorem dX2_copyEditor_4 : decode cX2_copyEditor 4 = .ok (.aload_n 1, 1) := by decide +kernel
theorem dX2_copyEditor_5 : decode cX2_copyEditor 5 = .ok (.getfield 20, 3) := by decide +kernel
theorem dX2_copyEditor_8 : decode cX2_copyEditor 8 = .ok (.invokevirtual 90, 3) := by decide +kernel
theorem dX2_copyEditor_11 : decode cX2_copyEditor 11 = .ok (.aload_n 0, 1) := by decide +kernel
theorem dX2_copyEditor_12 : decode cX2_copyEditor 12 = .ok (.getfield 24, 3) := by decide +kernel
theorem dX2_copyEditor_15 : decode cX2_copyEditor 15 = .ok (.aload_n 1, 1) := by decide +kernel
theorem dX2_copyEditor_16 : decode cX2_copyEditor 16 = .ok (.getfield 24, 3) := by decide +kernel
theorem dX2_copyEditor_19 : decode cX2_copyEditor 19 = .ok (.invokevirtual 90, 3) := by decide +kernel
theorem dX2_copyEditor_22 : decode cX2_copyEditor 22 = .ok (.aload_n 0, 1) := by decide +kernel
theorem dX2_copyEditor_23 : decode cX2_copyEditor 23 = .ok (.getfield 27, 3) := by decide +kernel
theorem dX2_copyEditor_26 : decode cX2_copyEditor 26 = .ok (.aload_n 1, 1) := by decide +kernel
theorem dX2_copyEditor_27 : decode cX2_copyEditor 27 = .ok (.getfield 27, 3) := by decide +kernel
theorem dX2_copyEditor_30 : decode cX2_copyEditor 30 = .ok (.invokevirtual 90, 3) := by decide +kernel
theorem dX2_copyEditor_33 : decode cX2_copyEditor 33 = .ok (.aload_n 0, 1) := by decide +kernel
theorem dX2_copyEditor_34 : decode cX2_copyEditor 34 = .ok (.aload_n 1, 1) := by decide +kernel
theorem dX2_copyEditor_35 : decode cX2_copyEditor 35 = .ok (.getfield 59, 3) := by decide +kernel
theorem dX2_copyEditor_38 : decode cX2_copyEditor 38 = .ok (.putfield 59, 3) := by decide +kernel
theorem dX2_copyEditor_41 : decode cX2_copyEditor 41 = .ok (.aload_n 0, 1) := by decide +kernel
theorem dX2_copyEditor_42 : decode cX2_copyEditor 42 = .ok (.aload_n 1, 1) := by decide +kernel
theorem dX2_copyEditor_43 : decode cX2_copyEditor 43 = .ok (.getfield 63, 3) := by decide +kernel
theorem dX2_copyEditor_46 : decode cX2_copyEditor 46 = .ok (.putfield 63, 3) := by decide +kernel
theorem dX2_copyEditor_49 : decode cX2_copyEditor 49 = .ok (.aload_n 0, 1) := by decide +kernel
theorem dX2_copyEditor_50 : decode cX2_copyEditor 50 = .ok (.aload_n 1, 1) := by decide +kernel
theorem dX2_copyEditor_51 : decode cX2_copyEditor 51 = .ok (.getfield 56, 3) := by decide +kernel
theorem dX2_copyEditor_54 : decode cX2_copyEditor 54 = .ok (.putfield 56, 3) := by decide +kernel
theorem dX2_copyEditor_57 : decode cX2_copyEditor 57 = .ok (.aload_n 0, 1) := by decide +kernel
theorem dX2_copyEditor_58 : decode cX2_copyEditor 58 = .ok (.aload_n 1, 1) := by decide +kernel
theorem dX2_copyEditor_59 : decode cX2_copyEditor 59 = .ok (.getfield 87, 3) := by decide +kernel
theorem dX2_copyEditor_62 : decode cX2_copyEditor 62 = .ok (.putfield 87, 3) := by decide +kernel
theorem dX2_copyEditor_65 : decode cX2_copyEditor 65 = .ok (.return_, 1) := by decide +kernel
theorem dX2_write_0 : decode cX2_write 0 = .ok (.aload_n 0, 1) := by decide +kernel
theorem dX2_write_1 : decode cX2_write 1 = .ok (.iload_n 1, 1) := by decide +kernel
theorem dX2_write_2 : decode cX2_write 2 = .ok (.invokevirtual 77, 3) := by decide +kernel
theorem dX2_write_5 : decode cX2_write 5 = .ok (.aload_n 0, 1) := by decide +kernel
theorem dX2_write_6 : decode cX2_write 6 = .ok (.getfield 24, 3) := by decide +kernel
theorem dX2_write_9 : decode cX2_write 9 = .ok (.iload_n 1, 1) := by decide +kernel
theorem dX2_write_10 : decode cX2_write 10 = .ok (.invokevirtual 94, 3) := by decide +kernel
theorem dX2_write_13 : decode cX2_write 13 = .ok (.aload_n 0, 1) := by decide +kernel
theorem dX2_write_14 : decode cX2_write 14 = .ok (.dup, 1) := by decide +kernel
theorem dX2_write_15 : decode cX2_write 15 = .ok (.getfield 87, 3) := by decide +kernel
theorem dX2_write_18 : decode cX2_write 18 = .ok (.iconst 1, 1) := by decide +kernel
theorem dX2_write_19 : decode cX2_write 19 = .ok (.iadd, 1) := by decide +kernel
theorem dX2_write_20 : decode cX2_write 20 = .ok (.putfield 87, 3) := by decide +kernel
theorem dX2_write_23 : decode cX2_write 23 = .ok (.return_, 1) := by decide +kernel
theorem dX2_apply_0 : decode cX2_apply 0 = .ok (.iload_n 1, 1) := by decide +kernel
theorem dX2_apply_1 : decode cX2_apply 1 = .ok (.invokestatic 97, 3) := by decide +kernel
theorem dX2_apply_4 : decode cX2_apply 4 = .ok (.istore_n 2, 1) := by decide +kernel
theorem dX2_apply_5 : decode cX2_apply 5 = .ok (.iload_n 1, 1) := by decide +kernel
theorem dX2_apply_6 : decode cX2_apply 6 = .ok (.invokestatic 50, 3) := by decide +kernel
theorem dX2_apply_9 : decode cX2_apply 9 = .ok (.istore_n 3, 1) := by decide +kernel
theorem dX2_apply_10 : decode cX2_apply 10 = .ok (.iload_n 3, 1) := by decide +kernel
theorem dX2_apply_11 : decode cX2_apply 11 = .ok (.iconst 1, 1) := by decide +kernel
theorem dX2_apply_12 : decode cX2_apply 12 = .ok (.if_icmp .ne 40, 3) := by decide +kernel
theorem dX2_apply_15 : decode cX2_apply 15 = .ok (.aload_n 0, 1) := by decide +kernel
theorem dX2_apply_16 : decode cX2_apply 16 = .ok (.getfield 20, 3) := by decide +kernel
theorem dX2_apply_19 : decode cX2_apply 19 = .ok (.iload_n 2, 1) := by decide +kernel
theorem dX2_apply_20 : decode cX2_apply 20 = .ok (.iload_n 1, 1) := by decide +kernel
theorem dX2_apply_21 : decode cX2_apply 21 = .ok (.invokestatic 100, 3) := by decide +kernel
theorem dX2_apply_24 : decode cX2_apply 24 = .ok (.invokevirtual 103, 3) := by decide +kernel
theorem dX2_apply_27 : decode cX2_apply 27 = .ok (.aload_n 0, 1) := by decide +kernel
theorem dX2_apply_28 : decode cX2_apply 28 = .ok (.dup, 1) := by decide +kernel
theorem dX2_apply_29 : decode cX2_apply 29 = .ok (.getfield 56, 3) := by decide +kernel
theorem dX2_apply_32 : decode cX2_apply 32 = .ok (.iload_n 2, 1) := by decide +kernel
theorem dX2_apply_33 : decode cX2_apply 33 = .ok (.aload_n 0, 1) := by decide +kernel
theorem dX2_apply_34 : decode cX2_apply 34 = .ok (.getfield 56, 3) := by decide +kernel
theorem dX2_apply_37 : decode cX2_apply 37 = .ok (.if_icmp .gt 7, 3) := by decide +kernel
theorem dX2_apply_40 : decode cX2_apply 40 = .ok (.iconst 1, 1) := by decide +kernel
theorem dX2_apply_41 : decode cX2_apply 41 = .ok (.goto 4, 3) := by decide +kernel
theorem dX2_apply_44 : decode cX2_apply 44 = .ok (.iconst 0, 1) := by decide +kernel
theorem dX2_apply_45 : decode cX2_apply 45 = .ok (.iadd, 1) := by decide +kernel
theorem dX2_apply_46 : decode cX2_apply 46 = .ok (.putfield 56, 3) := by decide +kernel
theorem dX2_apply_49 : decode cX2_apply 49 = .ok (.goto 38, 3) := by decide +kernel
theorem dX2_apply_52 : decode cX2_apply 52 = .ok (.iload_n 3, 1) := by decide +kernel
theorem dX2_apply_53 : decode cX2_apply 53 = .ok (.iconst 2, 1) := by decide +kernel
theorem dX2_apply_54 : decode cX2_apply 54 = .ok (.if_icmp .ne 33, 3) := by decide +kernel
theorem dX2_apply_57 : decode cX2_apply 57 = .ok (.aload_n 0, 1) := by decide +kernel
theorem dX2_apply_58 : decode cX2_apply 58 = .ok (.getfield 20, 3) := by decide +kernel
theorem dX2_apply_61 : decode cX2_apply 61 = .ok (.iload_n 2, 1) := by decide +kernel
theorem dX2_apply_62 : decode cX2_apply 62 = .ok (.invokevirtual 53, 3) := by decide +kernel
theorem dX2_apply_65 : decode cX2_apply 65 = .ok (.aload_n 0, 1) := by decide +kernel
theorem dX2_apply_66 : decode cX2_apply 66 = .ok (.dup, 1) := by decide +kernel
theorem dX2_apply_67 : decode cX2_apply 67 = .ok (.getfield 56, 3) := by decide +kernel
theorem dX2_apply_70 : decode cX2_apply 70 = .ok (.iload_n 2, 1) := by decide +kernel
theorem dX2_apply_71 : decode cX2_apply 71 = .ok (.aload_n 0, 1) := by decide +kernel
theorem dX2_apply_72 : decode cX2_apply 72 = .ok (.getfield 56, 3) := by decide +kernel
theorem dX2_apply_75 : decode cX2_apply 75 = .ok (.if_icmp .ge 7, 3) := by decide +kernel
theorem dX2_apply_78 : decode cX2_apply 78 = .ok (.iconst 1, 1) := by decide +kernel
theorem dX2_apply_79 : decode cX2_apply 79 = .ok (.goto 4, 3) := by decide +kernel
theorem dX2_apply_82 : decode cX2_apply 82 = .ok (.iconst 0, 1) := by decide +kernel
theorem dX2_apply_83 : decode cX2_apply 83 = .ok (.isub, 1) := by decide +kernel
theorem dX2_apply_84 : decode cX2_apply 84 = .ok (.putfield 56, 3) := by decide +kernel
theorem dX2_apply_87 : decode cX2_apply 87 = .ok (.iconst 0, 1) := by decide +kernel
theorem dX2_apply_88 : decode cX2_apply 88 = .ok (.istore 4, 2) := by decide +kernel
theorem dX2_apply_90 : decode cX2_apply 90 = .ok (.iload 4, 2) := by decide +kernel
theorem dX2_apply_92 : decode cX2_apply 92 = .ok (.aload_n 0, 1) := by decide +kernel
theorem dX2_apply_93 : decode cX2_apply 93 = .ok (.getfield 27, 3) := by decide +kernel
theorem dX2_apply_96 : decode cX2_apply 96 = .ok (.invokevirtual 30, 3) := by decide +kernel
theorem dX2_apply_99 : decode cX2_apply 99 = .ok (.if_icmp .ge 31, 3) := by decide +kernel
theorem dX2_apply_102 : decode cX2_apply 102 = .ok (.aload_n 0, 1) := by decide +kernel
theorem dX2_apply_103 : decode cX2_apply 103 = .ok (.getfield 27, 3) := by decide +kernel
theorem dX2_apply_106 : decode cX2_apply 106 = .ok (.iload 4, 2) := by decide +kernel
theorem dX2_apply_108 : decode cX2_apply 108 = .ok (.aload_n 0, 1) := by decide +kernel
theorem dX2_apply_109 : decode cX2_apply 109 = .ok (.getfield 27, 3) := by decide +kernel
theorem dX2_apply_112 : decode cX2_apply 112 = .ok (.iload 4, 2) := by decide +kernel
theorem dX2_apply_114 : decode cX2_apply 114 = .ok (.invokevirtual 46, 3) := by decide +kernel
theorem dX2_apply_117 : decode cX2_apply 117 = .ok (.iload_n 1, 1) := by decide +kernel
theorem dX2_apply_118 : decode cX2_apply 118 = .ok (.invokestatic 66, 3) := by decide +kernel
theorem dX2_apply_121 : decode cX2_apply 121 = .ok (.invokevirtual 107, 3) := by decide +kernel
theorem dX2_apply_124 : decode cX2_apply 124 = .ok (.iinc 4 1, 3) := by decide +kernel
theorem dX2_apply_127 : decode cX2_apply 127 = .ok (.goto (-37), 3) := by decide +kernel
theorem dX2_apply_130 : decode cX2_apply 130 = .ok (.return_, 1) := by decide +kernel
theorem dX2_keepBack_0 : decode cX2_keepBack 0 = .ok (.aload_n 0, 1) := by decide +kernel
theorem dX2_keepBack_1 : decode cX2_keepBack 1 = .ok (.getfield 27, 3) := by decide +kernel
theorem dX2_keepBack_4 : decode cX2_keepBack 4 = .ok (.invokevirtual 30, 3) := by decide +kernel
theorem dX2_keepBack_7 : decode cX2_keepBack 7 = .ok (.bipush 6, 2) := by decide +kernel
theorem dX2_keepBack_9 : decode cX2_keepBack 9 = .ok (.if_icmp .lt 11, 3) := by decide +kernel
theorem dX2_keepBack_12 : decode cX2_keepBack 12 = .ok (.aload_n 0, 1) := by decide +kernel
theorem dX2_keepBack_13 : decode cX2_keepBack 13 = .ok (.getfield 27, 3) := by decide +kernel
theorem dX2_keepBack_16 : decode cX2_keepBack 16 = .ok (.iconst 0, 1) := by decide +kernel
theorem dX2_keepBack_17 : decode cX2_keepBack 17 = .ok (.invokevirtual 53, 3) := by decide +kernel
theorem dX2_keepBack_20 : decode cX2_keepBack 20 = .ok (.aload_n 0, 1) := by decide +kernel
theorem dX2_keepBack_21 : decode cX2_keepBack 21 = .ok (.getfield 27, 3) := by decide +kernel
theorem dX2_keepBack_24 : decode cX2_keepBack 24 = .ok (.iload_n 1, 1) := by decide +kernel
theorem dX2_keepBack_25 : decode cX2_keepBack 25 = .ok (.invokevirtual 94, 3) := by decide +kernel
theorem dX2_keepBack_28 : decode cX2_keepBack 28 = .ok (.return_, 1) := by decide +kernel
theorem dX3_init_0 : decode cX3_init 0 = .ok (.aload_n 0, 1) := by decide +kernel
theorem dX3_init_1 : decode cX3_init 1 = .ok (.invokespecial 3, 3) := by decide +kernel
theorem dX3_init_4 : decode cX3_init 4 = .ok (.aload_n 0, 1) := by decide +kernel
theorem dX3_init_5 : decode cX3_init 5 = .ok (.new 9, 3) := by decide +kernel
theorem dX3_init_8 : decode cX3_init 8 = .ok (.dup, 1) := by decide +kernel
theorem dX3_init_9 : decode cX3_init 9 = .ok (.invokespecial 11, 3) := by decide +kernel
theorem dX3_init_12 : decode cX3_init 12 = .ok (.putfield 12, 3) := by decide +kernel
theorem dX3_init_15 : decode cX3_init 15 = .ok (.aload_n 0, 1) := by decide +kernel
theorem dX3_init_16 : decode cX3_init 16 = .ok (.new 9, 3) := by decide +kernel
theorem dX3_init_19 : decode cX3_init 19 = .ok (.dup, 1) := by decide +kernel
theorem dX3_init_20 : decode cX3_init 20 = .ok (.invokespecial 11, 3) := by decide +kernel
theorem dX3_init_23 : decode cX3_init 23 = .ok (.putfield 18, 3) := by decide +kernel
theorem dX3_init_26 : decode cX3_init 26 = .ok (.aload_n 0, 1) := by decide +kernel
theorem dX3_init_27 : decode cX3_init 27 = .ok (.new 9, 3) := by decide +kernel
theorem dX3_init_30 : decode cX3_init 30 = .ok (.dup, 1) := by decide +kernel
theorem dX3_init_31 : decode cX3_init 31 = .ok (.invokespecial 11, 3) := by decide +kernel
theorem dX3_init_34 : decode cX3_init 34 = .ok (.putfield 21, 3) := by decide +kernel
theorem dX3_init_37 : decode cX3_init 37 = .ok (.aload_n 0, 1) := by decide +kernel
theorem dX3_init_38 : decode cX3_init 38 = .ok (.new 9, 3) := by decide +kernel
theorem dX3_init_41 : decode cX3_init 41 = .ok (.dup, 1) := by decide +kernel
theorem dX3_init_42 : decode cX3_init 42 = .ok (.invokespecial 11, 3) := by decide +kernel
theorem dX3_init_45 : decode cX3_init 45 = .ok (.putfield 24, 3) := by decide +kernel
theorem dX3_init_48 : decode cX3_init 48 = .ok (.aload_n 0, 1) := by decide +kernel
theorem dX3_init_49 : decode cX3_init 49 = .ok (.new 9, 3) := by decide +kernel
theorem dX3_init_52 : decode cX3_init 52 = .ok (.dup, 1) := by decide +kernel
theorem dX3_init_53 : decode cX3_init 53 = .ok (.invokespecial 11, 3) := by decide +kernel
theorem dX3_init_56 : decode cX3_init 56 = .ok (.putfield 27, 3) := by decide +kernel
theorem dX3_init_59 : decode cX3_init 59 = .ok (.return_, 1) := by decide +kernel
theorem dX3_prepare_0 : decode cX3_prepare 0 = .ok (.aload_n 0, 1) := by decide +kernel
theorem dX3_prepare_1 : decode cX3_prepare 1 = .ok (.getfield 27, 3) := by decide +kernel
theorem dX3_prepare_4 : decode cX3_prepare 4 = .ok (.aload_n 1, 1) := by decide +kernel
theorem dX3_prepare_5 : decode cX3_prepare 5 = .ok (.invokevirtual 30, 3) := by decide +kernel
theorem dX3_prepare_8 : decode cX3_prepare 8 = .ok (.return_, 1) := by decide +kernel
theorem dX3_keep_0 : decode cX3_keep 0 = .ok (.aload_n 0, 1) := by decide +kernel
theorem dX3_keep_1 : decode cX3_keep 1 = .ok (.getfield 24, 3) := by decide +kernel
theorem dX3_keep_4 : decode cX3_keep 4 = .ok (.astore_n 1, 1) := by decide +kernel
theorem dX3_keep_5 : decode cX3_keep 5 = .ok (.aload_n 0, 1) := by decide +kernel
theorem dX3_keep_6 : decode cX3_keep 6 = .ok (.aload_n 0, 1) := by decide +kernel
theorem dX3_keep_7 : decode cX3_keep 7 = .ok (.getfield 21, 3) := by decide +kernel
theorem dX3_keep_10 : decode cX3_keep 10 = .ok (.putfield 24, 3) := by decide +kernel
theorem dX3_keep_13 : decode cX3_keep 13 = .ok (.aload_n 0, 1) := by decide +kernel
theorem dX3_keep_14 : decode cX3_keep 14 = .ok (.aload_n 0, 1) := by decide +kernel
theorem dX3_keep_15 : decode cX3_keep 15 = .ok (.getfield 18, 3) := by decide +kernel
theorem dX3_keep_18 : decode cX3_keep 18 = .ok (.putfield 21, 3) := by decide +kernel
theorem dX3_keep_21 : decode cX3_keep 21 = .ok (.aload_n 0, 1) := by decide +kernel
theorem dX3_keep_22 : decode cX3_keep 22 = .ok (.aload_n 0, 1) := by decide +kernel
theorem dX3_keep_23 : decode cX3_keep 23 = .ok (.getfield 12, 3) := by decide +kernel
theorem dX3_keep_26 : decode cX3_keep 26 = .ok (.putfield 18, 3) := by decide +kernel
theorem dX3_keep_29 : decode cX3_keep 29 = .ok (.aload_n 0, 1) := by decide +kernel
theorem dX3_keep_30 : decode cX3_keep 30 = .ok (.aload_n 0, 1) := by decide +kernel
theorem dX3_keep_31 : decode cX3_keep 31 = .ok (.getfield 27, 3) := by decide +kernel
theorem dX3_keep_34 : decode cX3_keep 34 = .ok (.putfield 12, 3) := by decide +kernel
theorem dX3_keep_37 : decode cX3_keep 37 = .ok (.aload_n 0, 1) := by decide +kernel
theorem dX3_keep_38 : decode cX3_keep 38 = .ok (.aload_n 1, 1) := by decide +kernel
theorem dX3_keep_39 : decode cX3_keep 39 = .ok (.putfield 27, 3) := by decide +kernel
theorem dX3_keep_42 : decode cX3_keep 42 = .ok (.aload_n 0, 1) := by decide +kernel
theorem dX3_keep_43 : decode cX3_keep 43 = .ok (.aload_n 0, 1) := by decide +kernel
theorem dX3_keep_44 : decode cX3_keep 44 = .ok (.getfield 34, 3) := by decide +kernel
theorem dX3_keep_47 : decode cX3_keep 47 = .ok (.iconst 1, 1) := by decide +kernel
theorem dX3_keep_48 : decode cX3_keep 48 = .ok (.iadd, 1) := by decide +kernel
theorem dX3_keep_49 : decode cX3_keep 49 = .ok (.iconst 4, 1) := by decide +kernel
theorem dX3_keep_50 : decode cX3_keep 50 = .ok (.invokestatic 38, 3) := by decide +kernel
theorem dX3_keep_53 : decode cX3_keep 53 = .ok (.putfield 34, 3) := by decide +kernel
theorem dX3_keep_56 : decode cX3_keep 56 = .ok (.return_, 1) := by decide +kernel
theorem dX3_restore_0 : decode cX3_restore 0 = .ok (.aload_n 0, 1) := by decide +kernel
theorem dX3_restore_1 : decode cX3_restore 1 = .ok (.getfield 12, 3) := by decide +kernel
theorem dX3_restore_4 : decode cX3_restore 4 = .ok (.astore_n 2, 1) := by decide +kernel
theorem dX3_restore_5 : decode cX3_restore 5 = .ok (.aload_n 1, 1) := by decide +kernel
theorem dX3_restore_6 : decode cX3_restore 6 = .ok (.aload_n 2, 1) := by decide +kernel
theorem dX3_restore_7 : decode cX3_restore 7 = .ok (.invokevirtual 30, 3) := by decide +kernel
theorem dX3_restore_10 : decode cX3_restore 10 = .ok (.aload_n 0, 1) := by decide +kernel
theorem dX3_restore_11 : decode cX3_restore 11 = .ok (.aload_n 0, 1) := by decide +kernel
theorem dX3_restore_12 : decode cX3_restore 12 = .ok (.getfield 18, 3) := by decide +kernel
theorem dX3_restore_15 : decode cX3_restore 15 = .ok (.putfield 12, 3) := by decide +kernel
theorem dX3_restore_18 : decode cX3_restore 18 = .ok (.aload_n 0, 1) := by decide +kernel
theorem dX3_restore_19 : decode cX3_restore 19 = .ok (.aload_n 0, 1) := by decide +kernel
theorem dX3_restore_20 : decode cX3_restore 20 = .ok (.getfield 21, 3) := by decide +kernel
theorem dX3_restore_23 : decode cX3_restore 23 = .ok (.putfield 18, 3) := by decide +kernel
theorem dX3_restore_26 : decode cX3_restore 26 = .ok (.aload_n 0, 1) := by decide +kernel
theorem dX3_restore_27 : decode cX3_restore 27 = .ok (.aload_n 0, 1) := by decide +kernel
theorem dX3_restore_28 : decode cX3_restore 28 = .ok (.getfield 24, 3) := by decide +kernel
theorem dX3_restore_31 : decode cX3_restore 31 = .ok (.putfield 21, 3) := by decide +kernel
theorem dX3_restore_34 : decode cX3_restore 34 = .ok (.aload_n 0, 1) := by decide +kernel
theorem dX3_restore_35 : decode cX3_restore 35 = .ok (.aload_n 2, 1) := by decide +kernel
theorem dX3_restore_36 : decode cX3_restore 36 = .ok (.putfield 24, 3) := by decide +kernel
theorem dX3_restore_39 : decode cX3_restore 39 = .ok (.aload_n 0, 1) := by decide +kernel
theorem dX3_restore_40 : decode cX3_restore 40 = .ok (.aload_n 0, 1) := by decide +kernel
theorem dX3_restore_41 : decode cX3_restore 41 = .ok (.getfield 34, 3) := by decide +kernel
theorem dX3_restore_44 : decode cX3_restore 44 = .ok (.iconst 1, 1) := by decide +kernel
theorem dX3_restore_45 : decode cX3_restore 45 = .ok (.isub, 1) := by decide +kernel
theorem dX3_restore_46 : decode cX3_restore 46 = .ok (.iconst 0, 1) := by decide +kernel
theorem dX3_restore_47 : decode cX3_restore 47 = .ok (.invokestatic 44, 3) := by decide +kernel
theorem dX3_restore_50 : decode cX3_restore 50 = .ok (.putfield 34, 3) := by decide +kernel
theorem dX3_restore_53 : decode cX3_restore 53 = .ok (.return_, 1) := by decide +kernel
theorem dX4_init_0 : decode cX4_init 0 = .ok (.aload_n 0, 1) := by decide +kernel
theorem dX4_init_1 : decode cX4_init 1 = .ok (.invokespecial 1, 3) := by decide +kernel
theorem dX4_init_4 : decode cX4_init 4 = .ok (.aload_n 0, 1) := by decide +kernel
theorem dX4_init_5 : decode cX4_init 5 = .ok (.iload_n 1, 1) := by decide +kernel
theorem dX4_init_6 : decode cX4_init 6 = .ok (.iconst 0, 1) := by decide +kernel
theorem dX4_init_7 : decode cX4_init 7 = .ok (.invokestatic 7, 3) := by decide +kernel
theorem dX4_init_10 : decode cX4_init 10 = .ok (.newarray .int, 2) := by decide +kernel
theorem dX4_init_12 : decode cX4_init 12 = .ok (.putfield 13, 3) := by decide +kernel
theorem dX4_init_15 : decode cX4_init 15 = .ok (.aload_n 0, 1) := by decide +kernel
theorem dX4_init_16 : decode cX4_init 16 = .ok (.iconst 0, 1) := by decide +kernel
theorem dX4_init_17 : decode cX4_init 17 = .ok (.putfield 19, 3) := by decide +kernel
theorem dX4_init_20 : decode cX4_init 20 = .ok (.return_, 1) := by decide +kernel
theorem dX4_size_0 : decode cX4_size 0 = .ok (.aload_n 0, 1) := by decide +kernel
theorem dX4_size_1 : decode cX4_size 1 = .ok (.getfield 19, 3) := by decide +kernel
theorem dX4_size_4 : decode cX4_size 4 = .ok (.ireturn, 1) := by decide +kernel
theorem dX4_at_0 : decode cX4_at 0 = .ok (.iload_n 1, 1) := by decide +kernel
theorem dX4_at_1 : decode cX4_at 1 = .ok (.ifCond .lt 29, 3) := by decide +kernel
theorem dX4_at_4 : decode cX4_at 4 = .ok (.iload_n 1, 1) := by decide +kernel
theorem dX4_at_5 : decode cX4_at 5 = .ok (.aload_n 0, 1) := by decide +kernel
theorem dX4_at_6 : decode cX4_at 6 = .ok (.getfield 19, 3) := by decide +kernel
theorem dX4_at_9 : decode cX4_at 9 = .ok (.if_icmp .ge 21, 3) := by decide +kernel
theorem dX4_at_12 : decode cX4_at 12 = .ok (.iload_n 1, 1) := by decide +kernel
theorem dX4_at_13 : decode cX4_at 13 = .ok (.aload_n 0, 1) := by decide +kernel
theorem dX4_at_14 : decode cX4_at 14 = .ok (.getfield 13, 3) := by decide +kernel
theorem dX4_at_17 : decode cX4_at 17 = .ok (.arraylength, 1) := by decide +kernel
theorem dX4_at_18 : decode cX4_at 18 = .ok (.if_icmp .ge 12, 3) := by decide +kernel
theorem dX4_at_21 : decode cX4_at 21 = .ok (.aload_n 0, 1) := by decide +kernel
theorem dX4_at_22 : decode cX4_at 22 = .ok (.getfield 13, 3) := by decide +kernel
theorem dX4_at_25 : decode cX4_at 25 = .ok (.iload_n 1, 1) := by decide +kernel
theorem dX4_at_26 : decode cX4_at 26 = .ok (.iaload, 1) := by decide +kernel
theorem dX4_at_27 : decode cX4_at 27 = .ok (.goto 4, 3) := by decide +kernel
theorem dX4_at_30 : decode cX4_at 30 = .ok (.iconst 0, 1) := by decide +kernel
theorem dX4_at_31 : decode cX4_at 31 = .ok (.ireturn, 1) := by decide +kernel
theorem dX4_put_0 : decode cX4_put 0 = .ok (.iload_n 1, 1) := by decide +kernel
theorem dX4_put_1 : decode cX4_put 1 = .ok (.ifCond .lt 27, 3) := by decide +kernel
theorem dX4_put_4 : decode cX4_put 4 = .ok (.iload_n 1, 1) := by decide +kernel
theorem dX4_put_5 : decode cX4_put 5 = .ok (.aload_n 0, 1) := by decide +kernel
theorem dX4_put_6 : decode cX4_put 6 = .ok (.getfield 19, 3) := by decide +kernel
theorem dX4_put_9 : decode cX4_put 9 = .ok (.if_icmp .ge 19, 3) := by decide +kernel
theorem dX4_put_12 : decode cX4_put 12 = .ok (.iload_n 1, 1) := by decide +kernel
theorem dX4_put_13 : decode cX4_put 13 = .ok (.aload_n 0, 1) := by decide +kernel
theorem dX4_put_14 : decode cX4_put 14 = .ok (.getfield 13, 3) := by decide +kernel
theorem dX4_put_17 : decode cX4_put 17 = .ok (.arraylength, 1) := by decide +kernel
theorem dX4_put_18 : decode cX4_put 18 = .ok (.if_icmp .ge 10, 3) := by decide +kernel
theorem dX4_put_21 : decode cX4_put 21 = .ok (.aload_n 0, 1) := by decide +kernel
theorem dX4_put_22 : decode cX4_put 22 = .ok (.getfield 13, 3) := by decide +kernel
theorem dX4_put_25 : decode cX4_put 25 = .ok (.iload_n 1, 1) := by decide +kernel
theorem dX4_put_26 : decode cX4_put 26 = .ok (.iload_n 2, 1) := by decide +kernel
theorem dX4_put_27 : decode cX4_put 27 = .ok (.iastore, 1) := by decide +kernel
theorem dX4_put_28 : decode cX4_put 28 = .ok (.return_, 1) := by decide +kernel
theorem dX4_add_0 : decode cX4_add 0 = .ok (.aload_n 0, 1) := by decide +kernel
theorem dX4_add_1 : decode cX4_add 1 = .ok (.aload_n 0, 1) := by decide +kernel
theorem dX4_add_2 : decode cX4_add 2 = .ok (.getfield 19, 3) := by decide +kernel
theorem dX4_add_5 : decode cX4_add 5 = .ok (.iload_n 1, 1) := by decide +kernel
theorem dX4_add_6 : decode cX4_add 6 = .ok (.invokevirtual 23, 3) := by decide +kernel
theorem dX4_add_9 : decode cX4_add 9 = .ok (.return_, 1) := by decide +kernel
theorem dX4_addAt_0 : decode cX4_addAt 0 = .ok (.iload_n 1, 1) := by decide +kernel
theorem dX4_addAt_1 : decode cX4_addAt 1 = .ok (.ifCond .lt 23, 3) := by decide +kernel
theorem dX4_addAt_4 : decode cX4_addAt 4 = .ok (.iload_n 1, 1) := by decide +kernel
theorem dX4_addAt_5 : decode cX4_addAt 5 = .ok (.aload_n 0, 1) := by decide +kernel
theorem dX4_addAt_6 : decode cX4_addAt 6 = .ok (.getfield 19, 3) := by decide +kernel
theorem dX4_addAt_9 : decode cX4_addAt 9 = .ok (.if_icmp .gt 15, 3) := by decide +kernel
theorem dX4_addAt_12 : decode cX4_addAt 12 = .ok (.aload_n 0, 1) := by decide +kernel
theorem dX4_addAt_13 : decode cX4_addAt 13 = .ok (.getfield 19, 3) := by decide +kernel
theorem dX4_addAt_16 : decode cX4_addAt 16 = .ok (.aload_n 0, 1) := by decide +kernel
theorem dX4_addAt_17 : decode cX4_addAt 17 = .ok (.getfield 13, 3) := by decide +kernel
theorem dX4_addAt_20 : decode cX4_addAt 20 = .ok (.arraylength, 1) := by decide +kernel
theorem dX4_addAt_21 : decode cX4_addAt 21 = .ok (.if_icmp .lt 4, 3) := by decide +kernel
theorem dX4_addAt_24 : decode cX4_addAt 24 = .ok (.return_, 1) := by decide +kernel
theorem dX4_addAt_25 : decode cX4_addAt 25 = .ok (.aload_n 0, 1) := by decide +kernel
theorem dX4_addAt_26 : decode cX4_addAt 26 = .ok (.getfield 19, 3) := by decide +kernel
theorem dX4_addAt_29 : decode cX4_addAt 29 = .ok (.istore_n 3, 1) := by decide +kernel
theorem dX4_addAt_30 : decode cX4_addAt 30 = .ok (.iload_n 3, 1) := by decide +kernel
theorem dX4_addAt_31 : decode cX4_addAt 31 = .ok (.iload_n 1, 1) := by decide +kernel
theorem dX4_addAt_32 : decode cX4_addAt 32 = .ok (.if_icmp .le 23, 3) := by decide +kernel
theorem dX4_addAt_35 : decode cX4_addAt 35 = .ok (.aload_n 0, 1) := by decide +kernel
theorem dX4_addAt_36 : decode cX4_addAt 36 = .ok (.getfield 13, 3) := by decide +kernel
theorem dX4_addAt_39 : decode cX4_addAt 39 = .ok (.iload_n 3, 1) := by decide +kernel
theorem dX4_addAt_40 : decode cX4_addAt 40 = .ok (.aload_n 0, 1) := by decide +kernel
theorem dX4_addAt_41 : decode cX4_addAt 41 = .ok (.getfield 13, 3) := by decide +kernel
theorem dX4_addAt_44 : decode cX4_addAt 44 = .ok (.iload_n 3, 1) := by decide +kernel
theorem dX4_addAt_45 : decode cX4_addAt 45 = .ok (.iconst 1, 1) := by decide +kernel
theorem dX4_addAt_46 : decode cX4_addAt 46 = .ok (.isub, 1) := by decide +kernel
theorem dX4_addAt_47 : decode cX4_addAt 47 = .ok (.iaload, 1) := by decide +kernel
theorem dX4_addAt_48 : decode cX4_addAt 48 = .ok (.iastore, 1) := by decide +kernel
theorem dX4_addAt_49 : decode cX4_addAt 49 = .ok (.iinc 3 (-1), 3) := by decide +kernel
theorem dX4_addAt_52 : decode cX4_addAt 52 = .ok (.goto (-22), 3) := by decide +kernel
theorem dX4_addAt_55 : decode cX4_addAt 55 = .ok (.aload_n 0, 1) := by decide +kernel
theorem dX4_addAt_56 : decode cX4_addAt 56 = .ok (.getfield 13, 3) := by decide +kernel
theorem dX4_addAt_59 : decode cX4_addAt 59 = .ok (.iload_n 1, 1) := by decide +kernel
theorem dX4_addAt_60 : decode cX4_addAt 60 = .ok (.iload_n 2, 1) := by decide +kernel
theorem dX4_addAt_61 : decode cX4_addAt 61 = .ok (.iastore, 1) := by decide +kernel
theorem dX4_addAt_62 : decode cX4_addAt 62 = .ok (.aload_n 0, 1) := by decide +kernel
theorem dX4_addAt_63 : decode cX4_addAt 63 = .ok (.dup, 1) := by decide +kernel
theorem dX4_addAt_64 : decode cX4_addAt 64 = .ok (.getfield 19, 3) := by decide +kernel
theorem dX4_addAt_67 : decode cX4_addAt 67 = .ok (.iconst 1, 1) := by decide +kernel
theorem dX4_addAt_68 : decode cX4_addAt 68 = .ok (.iadd, 1) := by decide +kernel
theorem dX4_addAt_69 : decode cX4_addAt 69 = .ok (.putfield 19, 3) := by decide +kernel
theorem dX4_addAt_72 : decode cX4_addAt 72 = .ok (.return_, 1) := by decide +kernel
theorem dX4_removeAt_0 : decode cX4_removeAt 0 = .ok (.iload_n 1, 1) := by decide +kernel
theorem dX4_removeAt_1 : decode cX4_removeAt 1 = .ok (.ifCond .lt 23, 3) := by decide +kernel
theorem dX4_removeAt_4 : decode cX4_removeAt 4 = .ok (.iload_n 1, 1) := by decide +kernel
theorem dX4_removeAt_5 : decode cX4_removeAt 5 = .ok (.aload_n 0, 1) := by decide +kernel
theorem dX4_removeAt_6 : decode cX4_removeAt 6 = .ok (.getfield 19, 3) := by decide +kernel
theorem dX4_removeAt_9 : decode cX4_removeAt 9 = .ok (.if_icmp .ge 15, 3) := by decide +kernel
theorem dX4_removeAt_12 : decode cX4_removeAt 12 = .ok (.aload_n 0, 1) := by decide +kernel
theorem dX4_removeAt_13 : decode cX4_removeAt 13 = .ok (.getfield 19, 3) := by decide +kernel
theorem dX4_removeAt_16 : decode cX4_removeAt 16 = .ok (.aload_n 0, 1) := by decide +kernel
theorem dX4_removeAt_17 : decode cX4_removeAt 17 = .ok (.getfield 13, 3) := by decide +kernel
theorem dX4_removeAt_20 : decode cX4_removeAt 20 = .ok (.arraylength, 1) := by decide +kernel
theorem dX4_removeAt_21 : decode cX4_removeAt 21 = .ok (.if_icmp .le 4, 3) := by decide +kernel
theorem dX4_removeAt_24 : decode cX4_removeAt 24 = .ok (.return_, 1) := by decide +kernel
theorem dX4_removeAt_25 : decode cX4_removeAt 25 = .ok (.aload_n 0, 1) := by decide +kernel
theorem dX4_removeAt_26 : decode cX4_removeAt 26 = .ok (.dup, 1) := by decide +kernel
theorem dX4_removeAt_27 : decode cX4_removeAt 27 = .ok (.getfield 19, 3) := by decide +kernel
theorem dX4_removeAt_30 : decode cX4_removeAt 30 = .ok (.iconst 1, 1) := by decide +kernel
theorem dX4_removeAt_31 : decode cX4_removeAt 31 = .ok (.isub, 1) := by decide +kernel
theorem dX4_removeAt_32 : decode cX4_removeAt 32 = .ok (.putfield 19, 3) := by decide +kernel
theorem dX4_removeAt_35 : decode cX4_removeAt 35 = .ok (.iload_n 1, 1) := by decide +kernel
theorem dX4_removeAt_36 : decode cX4_removeAt 36 = .ok (.istore_n 2, 1) := by decide +kernel
theorem dX4_removeAt_37 : decode cX4_removeAt 37 = .ok (.iload_n 2, 1) := by decide +kernel
theorem dX4_removeAt_38 : decode cX4_removeAt 38 = .ok (.aload_n 0, 1) := by decide +kernel
theorem dX4_removeAt_39 : decode cX4_removeAt 39 = .ok (.getfield 19, 3) := by decide +kernel
theorem dX4_removeAt_42 : decode cX4_removeAt 42 = .ok (.if_icmp .ge 23, 3) := by decide +kernel
theorem dX4_removeAt_45 : decode cX4_removeAt 45 = .ok (.aload_n 0, 1) := by decide +kernel
theorem dX4_removeAt_46 : decode cX4_removeAt 46 = .ok (.getfield 13, 3) := by decide +kernel
theorem dX4_removeAt_49 : decode cX4_removeAt 49 = .ok (.iload_n 2, 1) := by decide +kernel
theorem dX4_removeAt_50 : decode cX4_removeAt 50 = .ok (.aload_n 0, 1) := by decide +kernel
theorem dX4_removeAt_51 : decode cX4_removeAt 51 = .ok (.getfield 13, 3) := by decide +kernel
theorem dX4_removeAt_54 : decode cX4_removeAt 54 = .ok (.iload_n 2, 1) := by decide +kernel
theorem dX4_removeAt_55 : decode cX4_removeAt 55 = .ok (.iconst 1, 1) := by decide +kernel
theorem dX4_removeAt_56 : decode cX4_removeAt 56 = .ok (.iadd, 1) := by decide +kernel
theorem dX4_removeAt_57 : decode cX4_removeAt 57 = .ok (.iaload, 1) := by decide +kernel
theorem dX4_removeAt_58 : decode cX4_removeAt 58 = .ok (.iastore, 1) := by decide +kernel
theorem dX4_removeAt_59 : decode cX4_removeAt 59 = .ok (.iinc 2 1, 3) := by decide +kernel
theorem dX4_removeAt_62 : decode cX4_removeAt 62 = .ok (.goto (-25), 3) := by decide +kernel
theorem dX4_removeAt_65 : decode cX4_removeAt 65 = .ok (.return_, 1) := by decide +kernel
theorem dX4_copyNumbers_0 : decode cX4_copyNumbers 0 = .ok (.aload_n 1, 1) := by decide +kernel
theorem dX4_copyNumbers_1 : decode cX4_copyNumbers 1 = .ok (.getfield 19, 3) := by decide +kernel
theorem dX4_copyNumbers_4 : decode cX4_copyNumbers 4 = .ok (.aload_n 1, 1) := by decide +kernel
theorem dX4_copyNumbers_5 : decode cX4_copyNumbers 5 = .ok (.getfield 13, 3) := by decide +kernel
theorem dX4_copyNumbers_8 : decode cX4_copyNumbers 8 = .ok (.arraylength, 1) := by decide +kernel
theorem dX4_copyNumbers_9 : decode cX4_copyNumbers 9 = .ok (.aload_n 0, 1) := by decide +kernel
theorem dX4_copyNumbers_10 : decode cX4_copyNumbers 10 = .ok (.getfield 13, 3) := by decide +kernel
theorem dX4_copyNumbers_13 : decode cX4_copyNumbers 13 = .ok (.arraylength, 1) := by decide +kernel
theorem dX4_copyNumbers_14 : decode cX4_copyNumbers 14 = .ok (.invokestatic 27, 3) := by decide +kernel
theorem dX4_copyNumbers_17 : decode cX4_copyNumbers 17 = .ok (.invokestatic 27, 3) := by decide +kernel
theorem dX4_copyNumbers_20 : decode cX4_copyNumbers 20 = .ok (.istore_n 2, 1) := by decide +kernel
theorem dX4_copyNumbers_21 : decode cX4_copyNumbers 21 = .ok (.iconst 0, 1) := by decide +kernel
theorem dX4_copyNumbers_22 : decode cX4_copyNumbers 22 = .ok (.istore_n 3, 1) := by decide +kernel
theorem dX4_copyNumbers_23 : decode cX4_copyNumbers 23 = .ok (.iload_n 3, 1) := by decide +kernel
theorem dX4_copyNumbers_24 : decode cX4_copyNumbers 24 = .ok (.iload_n 2, 1) := by decide +kernel
theorem dX4_copyNumbers_25 : decode cX4_copyNumbers 25 = .ok (.if_icmp .ge 21, 3) := by decide +kernel
theorem dX4_copyNumbers_28 : decode cX4_copyNumbers 28 = .ok (.aload_n 0, 1) := by decide +kernel
theorem dX4_copyNumbers_29 : decode cX4_copyNumbers 29 = .ok (.getfield 13, 3) := by decide +kernel
theorem dX4_copyNumbers_32 : decode cX4_copyNumbers 32 = .ok (.iload_n 3, 1) := by decide +kernel
theorem dX4_copyNumbers_33 : decode cX4_copyNumbers 33 = .ok (.aload_n 1, 1) := by decide +kernel
theorem dX4_copyNumbers_34 : decode cX4_copyNumbers 34 = .ok (.getfield 13, 3) := by decide +kernel
theorem dX4_copyNumbers_37 : decode cX4_copyNumbers 37 = .ok (.iload_n 3, 1) := by decide +kernel
theorem dX4_copyNumbers_38 : decode cX4_copyNumbers 38 = .ok (.iaload, 1) := by decide +kernel
theorem dX4_copyNumbers_39 : decode cX4_copyNumbers 39 = .ok (.iastore, 1) := by decide +kernel
theorem dX4_copyNumbers_40 : decode cX4_copyNumbers 40 = .ok (.iinc 3 1, 3) := by decide +kernel
theorem dX4_copyNumbers_43 : decode cX4_copyNumbers 43 = .ok (.goto (-20), 3) := by decide +kernel
theorem dX4_copyNumbers_46 : decode cX4_copyNumbers 46 = .ok (.aload_n 0, 1) := by decide +kernel
theorem dX4_copyNumbers_47 : decode cX4_copyNumbers 47 = .ok (.iload_n 2, 1) := by decide +kernel
theorem dX4_copyNumbers_48 : decode cX4_copyNumbers 48 = .ok (.putfield 19, 3) := by decide +kernel
theorem dX4_copyNumbers_51 : decode cX4_copyNumbers 51 = .ok (.return_, 1) := by decide +kernel
theorem dX4_isSameAs_0 : decode cX4_isSameAs 0 = .ok (.aload_n 0, 1) := by decide +kernel
theorem dX4_isSameAs_1 : decode cX4_isSameAs 1 = .ok (.getfield 19, 3) := by decide +kernel
theorem dX4_isSameAs_4 : decode cX4_isSameAs 4 = .ok (.aload_n 1, 1) := by decide +kernel
theorem dX4_isSameAs_5 : decode cX4_isSameAs 5 = .ok (.getfield 19, 3) := by decide +kernel
theorem dX4_isSameAs_8 : decode cX4_isSameAs 8 = .ok (.if_icmp .eq 5, 3) := by decide +kernel
theorem dX4_isSameAs_11 : decode cX4_isSameAs 11 = .ok (.iconst 0, 1) := by decide +kernel
theorem dX4_isSameAs_12 : decode cX4_isSameAs 12 = .ok (.ireturn, 1) := by decide +kernel
theorem dX4_isSameAs_13 : decode cX4_isSameAs 13 = .ok (.iconst 0, 1) := by decide +kernel
theorem dX4_isSameAs_14 : decode cX4_isSameAs 14 = .ok (.istore_n 2, 1) := by decide +kernel
theorem dX4_isSameAs_15 : decode cX4_isSameAs 15 = .ok (.iload_n 2, 1) := by decide +kernel
theorem dX4_isSameAs_16 : decode cX4_isSameAs 16 = .ok (.aload_n 0, 1) := by decide +kernel
theorem dX4_isSameAs_17 : decode cX4_isSameAs 17 = .ok (.getfield 19, 3) := by decide +kernel
theorem dX4_isSameAs_20 : decode cX4_isSameAs 20 = .ok (.if_icmp .ge 24, 3) := by decide +kernel
theorem dX4_isSameAs_23 : decode cX4_isSameAs 23 = .ok (.aload_n 0, 1) := by decide +kernel
theorem dX4_isSameAs_24 : decode cX4_isSameAs 24 = .ok (.iload_n 2, 1) := by decide +kernel
theorem dX4_isSameAs_25 : decode cX4_isSameAs 25 = .ok (.invokevirtual 30, 3) := by decide +kernel
theorem dX4_isSameAs_28 : decode cX4_isSameAs 28 = .ok (.aload_n 1, 1) := by decide +kernel
theorem dX4_isSameAs_29 : decode cX4_isSameAs 29 = .ok (.iload_n 2, 1) := by decide +kernel
theorem dX4_isSameAs_30 : decode cX4_isSameAs 30 = .ok (.invokevirtual 30, 3) := by decide +kernel
theorem dX4_isSameAs_33 : decode cX4_isSameAs 33 = .ok (.if_icmp .eq 5, 3) := by decide +kernel
theorem dX4_isSameAs_36 : decode cX4_isSameAs 36 = .ok (.iconst 0, 1) := by decide +kernel
theorem dX4_isSameAs_37 : decode cX4_isSameAs 37 = .ok (.ireturn, 1) := by decide +kernel
theorem dX4_isSameAs_38 : decode cX4_isSameAs 38 = .ok (.iinc 2 1, 3) := by decide +kernel
theorem dX4_isSameAs_41 : decode cX4_isSameAs 41 = .ok (.goto (-26), 3) := by decide +kernel
theorem dX4_isSameAs_44 : decode cX4_isSameAs 44 = .ok (.iconst 1, 1) := by decide +kernel
theorem dX4_isSameAs_45 : decode cX4_isSameAs 45 = .ok (.ireturn, 1) := by decide +kernel
theorem dX5_init_0 : decode cX5_init 0 = .ok (.aload_n 0, 1) := by decide +kernel
theorem dX5_init_1 : decode cX5_init 1 = .ok (.invokespecial 3, 3) := by decide +kernel
theorem dX5_init_4 : decode cX5_init 4 = .ok (.aload_n 0, 1) := by decide +kernel
theorem dX5_init_5 : decode cX5_init 5 = .ok (.new 9, 3) := by decide +kernel
theorem dX5_init_8 : decode cX5_init 8 = .ok (.dup, 1) := by decide +kernel
theorem dX5_init_9 : decode cX5_init 9 = .ok (.iconst 0, 1) := by decide +kernel
theorem dX5_init_10 : decode cX5_init 10 = .ok (.invokespecial 11, 3) := by decide +kernel
theorem dX5_init_13 : decode cX5_init 13 = .ok (.putfield 14, 3) := by decide +kernel
theorem dX5_init_16 : decode cX5_init 16 = .ok (.aload_n 0, 1) := by decide +kernel
theorem dX5_init_17 : decode cX5_init 17 = .ok (.new 9, 3) := by decide +kernel
theorem dX5_init_20 : decode cX5_init 20 = .ok (.dup, 1) := by decide +kernel
theorem dX5_init_21 : decode cX5_init 21 = .ok (.iconst 1, 1) := by decide +kernel
theorem dX5_init_22 : decode cX5_init 22 = .ok (.invokespecial 11, 3) := by decide +kernel
theorem dX5_init_25 : decode cX5_init 25 = .ok (.putfield 20, 3) := by decide +kernel
theorem dX5_init_28 : decode cX5_init 28 = .ok (.aload_n 0, 1) := by decide +kernel
theorem dX5_init_29 : decode cX5_init 29 = .ok (.new 9, 3) := by decide +kernel
theorem dX5_init_32 : decode cX5_init 32 = .ok (.dup, 1) := by decide +kernel
theorem dX5_init_33 : decode cX5_init 33 = .ok (.iconst 2, 1) := by decide +kernel
theorem dX5_init_34 : decode cX5_init 34 = .ok (.invokespecial 11, 3) := by decide +kernel
theorem dX5_init_37 : decode cX5_init 37 = .ok (.putfield 23, 3) := by decide +kernel
theorem dX5_init_40 : decode cX5_init 40 = .ok (.aload_n 0, 1) := by decide +kernel
theorem dX5_init_41 : decode cX5_init 41 = .ok (.new 26, 3) := by decide +kernel
theorem dX5_init_44 : decode cX5_init 44 = .ok (.dup, 1) := by decide +kernel
theorem dX5_init_45 : decode cX5_init 45 = .ok (.bipush 78, 2) := by decide +kernel
theorem dX5_init_47 : decode cX5_init 47 = .ok (.invokespecial 28, 3) := by decide +kernel
theorem dX5_init_50 : decode cX5_init 50 = .ok (.putfield 29, 3) := by decide +kernel
theorem dX5_init_53 : decode cX5_init 53 = .ok (.aload_n 0, 1) := by decide +kernel
theorem dX5_init_54 : decode cX5_init 54 = .ok (.new 26, 3) := by decide +kernel
theorem dX5_init_57 : decode cX5_init 57 = .ok (.dup, 1) := by decide +kernel
theorem dX5_init_58 : decode cX5_init 58 = .ok (.bipush 78, 2) := by decide +kernel
theorem dX5_init_60 : decode cX5_init 60 = .ok (.invokespecial 28, 3) := by decide +kernel
theorem dX5_init_63 : decode cX5_init 63 = .ok (.putfield 33, 3) := by decide +kernel
theorem dX5_init_66 : decode cX5_init 66 = .ok (.aload_n 0, 1) := by decide +kernel
theorem dX5_init_67 : decode cX5_init 67 = .ok (.new 26, 3) := by decide +kernel
theorem dX5_init_70 : decode cX5_init 70 = .ok (.dup, 1) := by decide +kernel
theorem dX5_init_71 : decode cX5_init 71 = .ok (.bipush 78, 2) := by decide +kernel
theorem dX5_init_73 : decode cX5_init 73 = .ok (.invokespecial 28, 3) := by decide +kernel
theorem dX5_init_76 : decode cX5_init 76 = .ok (.putfield 36, 3) := by decide +kernel
theorem dX5_init_79 : decode cX5_init 79 = .ok (.return_, 1) := by decide +kernel
theorem dX5_editor_0 : decode cX5_editor 0 = .ok (.iload_n 1, 1) := by decide +kernel
theorem dX5_editor_1 : decode cX5_editor 1 = .ok (.ifCond .ne 8, 3) := by decide +kernel
theorem dX5_editor_4 : decode cX5_editor 4 = .ok (.aload_n 0, 1) := by decide +kernel
theorem dX5_editor_5 : decode cX5_editor 5 = .ok (.getfield 14, 3) := by decide +kernel
theorem dX5_editor_8 : decode cX5_editor 8 = .ok (.areturn, 1) := by decide +kernel
theorem dX5_editor_9 : decode cX5_editor 9 = .ok (.iload_n 1, 1) := by decide +kernel
theorem dX5_editor_10 : decode cX5_editor 10 = .ok (.iconst 1, 1) := by decide +kernel
theorem dX5_editor_11 : decode cX5_editor 11 = .ok (.if_icmp .ne 10, 3) := by decide +kernel
theorem dX5_editor_14 : decode cX5_editor 14 = .ok (.aload_n 0, 1) := by decide +kernel
theorem dX5_editor_15 : decode cX5_editor 15 = .ok (.getfield 20, 3) := by decide +kernel
theorem dX5_editor_18 : decode cX5_editor 18 = .ok (.goto 7, 3) := by decide +kernel
theorem dX5_editor_21 : decode cX5_editor 21 = .ok (.aload_n 0, 1) := by decide +kernel
theorem dX5_editor_22 : decode cX5_editor 22 = .ok (.getfield 23, 3) := by decide +kernel
theorem dX5_editor_25 : decode cX5_editor 25 = .ok (.areturn, 1) := by decide +kernel
theorem dX5_answer_0 : decode cX5_answer 0 = .ok (.iload_n 2, 1) := by decide +kernel
theorem dX5_answer_1 : decode cX5_answer 1 = .ok (.invokestatic 39, 3) := by decide +kernel
theorem dX5_answer_4 : decode cX5_answer 4 = .ok (.ifCond .eq 5, 3) := by decide +kernel
theorem dX5_answer_7 : decode cX5_answer 7 = .ok (.iconst (-1), 1) := by decide +kernel
theorem dX5_answer_8 : decode cX5_answer 8 = .ok (.ireturn, 1) := by decide +kernel
theorem dX5_answer_9 : decode cX5_answer 9 = .ok (.aload_n 0, 1) := by decide +kernel
theorem dX5_answer_10 : decode cX5_answer 10 = .ok (.iload_n 2, 1) := by decide +kernel
theorem dX5_answer_11 : decode cX5_answer 11 = .ok (.invokevirtual 43, 3) := by decide +kernel
theorem dX5_answer_14 : decode cX5_answer 14 = .ok (.astore 5, 2) := by decide +kernel
theorem dX5_answer_16 : decode cX5_answer 16 = .ok (.iload_n 1, 1) := by decide +kernel
theorem dX5_answer_17 : decode cX5_answer 17 = .ok (.lookupswitch 105 #[(77, 81), (98, 75), (100, 68), (104, 95), (105, 59), (115, 88)], 59) := by decide +kernel
theorem dX5_answer_76 : decode cX5_answer 76 = .ok (.aload 5, 2) := by decide +kernel
theorem dX5_answer_78 : decode cX5_answer 78 = .ok (.iload_n 3, 1) := by decide +kernel
theorem dX5_answer_79 : decode cX5_answer 79 = .ok (.iload 4, 2) := by decide +kernel
theorem dX5_answer_81 : decode cX5_answer 81 = .ok (.invokevirtual 47, 3) := by decide +kernel
theorem dX5_answer_84 : decode cX5_answer 84 = .ok (.ireturn, 1) := by decide +kernel
theorem dX5_answer_85 : decode cX5_answer 85 = .ok (.aload 5, 2) := by decide +kernel
theorem dX5_answer_87 : decode cX5_answer 87 = .ok (.iload_n 3, 1) := by decide +kernel
theorem dX5_answer_88 : decode cX5_answer 88 = .ok (.invokevirtual 51, 3) := by decide +kernel
theorem dX5_answer_91 : decode cX5_answer 91 = .ok (.ireturn, 1) := by decide +kernel
theorem dX5_answer_92 : decode cX5_answer 92 = .ok (.aload 5, 2) := by decide +kernel
theorem dX5_answer_94 : decode cX5_answer 94 = .ok (.invokevirtual 55, 3) := by decide +kernel
theorem dX5_answer_97 : decode cX5_answer 97 = .ok (.ireturn, 1) := by decide +kernel
theorem dX5_answer_98 : decode cX5_answer 98 = .ok (.aload 5, 2) := by decide +kernel
theorem dX5_answer_100 : decode cX5_answer 100 = .ok (.iload_n 3, 1) := by decide +kernel
theorem dX5_answer_101 : decode cX5_answer 101 = .ok (.invokevirtual 59, 3) := by decide +kernel
theorem dX5_answer_104 : decode cX5_answer 104 = .ok (.ireturn, 1) := by decide +kernel
theorem dX5_answer_105 : decode cX5_answer 105 = .ok (.aload_n 0, 1) := by decide +kernel
theorem dX5_answer_106 : decode cX5_answer 106 = .ok (.aload 5, 2) := by decide +kernel
theorem dX5_answer_108 : decode cX5_answer 108 = .ok (.invokevirtual 62, 3) := by decide +kernel
theorem dX5_answer_111 : decode cX5_answer 111 = .ok (.ireturn, 1) := by decide +kernel
theorem dX5_answer_112 : decode cX5_answer 112 = .ok (.aload 5, 2) := by decide +kernel
theorem dX5_answer_114 : decode cX5_answer 114 = .ok (.aload_n 0, 1) := by decide +kernel
theorem dX5_answer_115 : decode cX5_answer 115 = .ok (.getfield 29, 3) := by decide +kernel
theorem dX5_answer_118 : decode cX5_answer 118 = .ok (.invokevirtual 66, 3) := by decide +kernel
theorem dX5_answer_121 : decode cX5_answer 121 = .ok (.ireturn, 1) := by decide +kernel
theorem dX5_answer_122 : decode cX5_answer 122 = .ok (.aload 5, 2) := by decide +kernel
theorem dX5_answer_124 : decode cX5_answer 124 = .ok (.aload_n 0, 1) := by decide +kernel
theorem dX5_answer_125 : decode cX5_answer 125 = .ok (.getfield 29, 3) := by decide +kernel
theorem dX5_answer_128 : decode cX5_answer 128 = .ok (.invokevirtual 70, 3) := by decide +kernel
theorem dX5_answer_131 : decode cX5_answer 131 = .ok (.ireturn, 1) := by decide +kernel
theorem dX5_nothingsInLog_0 : decode cX5_nothingsInLog 0 = .ok (.iconst 0, 1) := by decide +kernel
theorem dX5_nothingsInLog_1 : decode cX5_nothingsInLog 1 = .ok (.istore_n 1, 1) := by decide +kernel
theorem dX5_nothingsInLog_2 : decode cX5_nothingsInLog 2 = .ok (.iconst 0, 1) := by decide +kernel
theorem dX5_nothingsInLog_3 : decode cX5_nothingsInLog 3 = .ok (.istore_n 2, 1) := by decide +kernel
theorem dX5_nothingsInLog_4 : decode cX5_nothingsInLog 4 = .ok (.iload_n 2, 1) := by decide +kernel
theorem dX5_nothingsInLog_5 : decode cX5_nothingsInLog 5 = .ok (.aload_n 0, 1) := by decide +kernel
theorem dX5_nothingsInLog_6 : decode cX5_nothingsInLog 6 = .ok (.getfield 29, 3) := by decide +kernel
theorem dX5_nothingsInLog_9 : decode cX5_nothingsInLog 9 = .ok (.invokevirtual 73, 3) := by decide +kernel
theorem dX5_nothingsInLog_12 : decode cX5_nothingsInLog 12 = .ok (.if_icmp .ge 31, 3) := by decide +kernel
theorem dX5_nothingsInLog_15 : decode cX5_nothingsInLog 15 = .ok (.iload_n 1, 1) := by decide +kernel
theorem dX5_nothingsInLog_16 : decode cX5_nothingsInLog 16 = .ok (.aload_n 0, 1) := by decide +kernel
theorem dX5_nothingsInLog_17 : decode cX5_nothingsInLog 17 = .ok (.getfield 29, 3) := by decide +kernel
theorem dX5_nothingsInLog_20 : decode cX5_nothingsInLog 20 = .ok (.iload_n 2, 1) := by decide +kernel
theorem dX5_nothingsInLog_21 : decode cX5_nothingsInLog 21 = .ok (.invokevirtual 76, 3) := by decide +kernel
theorem dX5_nothingsInLog_24 : decode cX5_nothingsInLog 24 = .ok (.invokestatic 79, 3) := by decide +kernel
theorem dX5_nothingsInLog_27 : decode cX5_nothingsInLog 27 = .ok (.ifCond .ne 7, 3) := by decide +kernel
theorem dX5_nothingsInLog_30 : decode cX5_nothingsInLog 30 = .ok (.iconst 1, 1) := by decide +kernel
theorem dX5_nothingsInLog_31 : decode cX5_nothingsInLog 31 = .ok (.goto 4, 3) := by decide +kernel
theorem dX5_nothingsInLog_34 : decode cX5_nothingsInLog 34 = .ok (.iconst 0, 1) := by decide +kernel
theorem dX5_nothingsInLog_35 : decode cX5_nothingsInLog 35 = .ok (.iadd, 1) := by decide +kernel
theorem dX5_nothingsInLog_36 : decode cX5_nothingsInLog 36 = .ok (.istore_n 1, 1) := by decide +kernel
theorem dX5_nothingsInLog_37 : decode cX5_nothingsInLog 37 = .ok (.iinc 2 1, 3) := by decide +kernel
theorem dX5_nothingsInLog_40 : decode cX5_nothingsInLog 40 = .ok (.goto (-36), 3) := by decide +kernel
theorem dX5_nothingsInLog_43 : decode cX5_nothingsInLog 43 = .ok (.iload_n 1, 1) := by decide +kernel
theorem dX5_nothingsInLog_44 : decode cX5_nothingsInLog 44 = .ok (.ireturn, 1) := by decide +kernel
theorem dX5_waitingOfAll_0 : decode cX5_waitingOfAll 0 = .ok (.aload_n 0, 1) := by decide +kernel
theorem dX5_waitingOfAll_1 : decode cX5_waitingOfAll 1 = .ok (.getfield 14, 3) := by decide +kernel
theorem dX5_waitingOfAll_4 : decode cX5_waitingOfAll 4 = .ok (.getfield 84, 3) := by decide +kernel
theorem dX5_waitingOfAll_7 : decode cX5_waitingOfAll 7 = .ok (.invokevirtual 73, 3) := by decide +kernel
theorem dX5_waitingOfAll_10 : decode cX5_waitingOfAll 10 = .ok (.aload_n 0, 1) := by decide +kernel
theorem dX5_waitingOfAll_11 : decode cX5_waitingOfAll 11 = .ok (.getfield 20, 3) := by decide +kernel
theorem dX5_waitingOfAll_14 : decode cX5_waitingOfAll 14 = .ok (.getfield 84, 3) := by decide +kernel
theorem dX5_waitingOfAll_17 : decode cX5_waitingOfAll 17 = .ok (.invokevirtual 73, 3) := by decide +kernel
theorem dX5_waitingOfAll_20 : decode cX5_waitingOfAll 20 = .ok (.iadd, 1) := by decide +kernel
theorem dX5_waitingOfAll_21 : decode cX5_waitingOfAll 21 = .ok (.aload_n 0, 1) := by decide +kernel
theorem dX5_waitingOfAll_22 : decode cX5_waitingOfAll 22 = .ok (.getfield 23, 3) := by decide +kernel
theorem dX5_waitingOfAll_25 : decode cX5_waitingOfAll 25 = .ok (.getfield 84, 3) := by decide +kernel
theorem dX5_waitingOfAll_28 : decode cX5_waitingOfAll 28 = .ok (.invokevirtual 73, 3) := by decide +kernel
theorem dX5_waitingOfAll_31 : decode cX5_waitingOfAll 31 = .ok (.iadd, 1) := by decide +kernel
theorem dX5_waitingOfAll_32 : decode cX5_waitingOfAll 32 = .ok (.ireturn, 1) := by decide +kernel
theorem dX5_settledEditors_0 : decode cX5_settledEditors 0 = .ok (.iconst 0, 1) := by decide +kernel
theorem dX5_settledEditors_1 : decode cX5_settledEditors 1 = .ok (.istore_n 1, 1) := by decide +kernel
theorem dX5_settledEditors_2 : decode cX5_settledEditors 2 = .ok (.iconst 0, 1) := by decide +kernel
theorem dX5_settledEditors_3 : decode cX5_settledEditors 3 = .ok (.istore_n 2, 1) := by decide +kernel
theorem dX5_settledEditors_4 : decode cX5_settledEditors 4 = .ok (.iload_n 2, 1) := by decide +kernel
theorem dX5_settledEditors_5 : decode cX5_settledEditors 5 = .ok (.iconst 3, 1) := by decide +kernel
theorem dX5_settledEditors_6 : decode cX5_settledEditors 6 = .ok (.if_icmp .ge 32, 3) := by decide +kernel
theorem dX5_settledEditors_9 : decode cX5_settledEditors 9 = .ok (.iload_n 1, 1) := by decide +kernel
theorem dX5_settledEditors_10 : decode cX5_settledEditors 10 = .ok (.aload_n 0, 1) := by decide +kernel
theorem dX5_settledEditors_11 : decode cX5_settledEditors 11 = .ok (.iload_n 2, 1) := by decide +kernel
theorem dX5_settledEditors_12 : decode cX5_settledEditors 12 = .ok (.invokevirtual 43, 3) := by decide +kernel
theorem dX5_settledEditors_15 : decode cX5_settledEditors 15 = .ok (.aload_n 0, 1) := by decide +kernel
theorem dX5_settledEditors_16 : decode cX5_settledEditors 16 = .ok (.getfield 29, 3) := by decide +kernel
theorem dX5_settledEditors_19 : decode cX5_settledEditors 19 = .ok (.invokevirtual 87, 3) := by decide +kernel
theorem dX5_settledEditors_22 : decode cX5_settledEditors 22 = .ok (.ifCond .eq 7, 3) := by decide +kernel
theorem dX5_settledEditors_25 : decode cX5_settledEditors 25 = .ok (.iconst 1, 1) := by decide +kernel
theorem dX5_settledEditors_26 : decode cX5_settledEditors 26 = .ok (.goto 4, 3) := by decide +kernel
theorem dX5_settledEditors_29 : decode cX5_settledEditors 29 = .ok (.iconst 0, 1) := by decide +kernel
theorem dX5_settledEditors_30 : decode cX5_settledEditors 30 = .ok (.iadd, 1) := by decide +kernel
theorem dX5_settledEditors_31 : decode cX5_settledEditors 31 = .ok (.istore_n 1, 1) := by decide +kernel
theorem dX5_settledEditors_32 : decode cX5_settledEditors 32 = .ok (.iinc 2 1, 3) := by decide +kernel
theorem dX5_settledEditors_35 : decode cX5_settledEditors 35 = .ok (.goto (-31), 3) := by decide +kernel
theorem dX5_settledEditors_38 : decode cX5_settledEditors 38 = .ok (.iload_n 1, 1) := by decide +kernel
theorem dX5_settledEditors_39 : decode cX5_settledEditors 39 = .ok (.ireturn, 1) := by decide +kernel
theorem dX5_isOneText_0 : decode cX5_isOneText 0 = .ok (.aload_n 0, 1) := by decide +kernel
theorem dX5_isOneText_1 : decode cX5_isOneText 1 = .ok (.getfield 14, 3) := by decide +kernel
theorem dX5_isOneText_4 : decode cX5_isOneText 4 = .ok (.getfield 91, 3) := by decide +kernel
theorem dX5_isOneText_7 : decode cX5_isOneText 7 = .ok (.aload_n 0, 1) := by decide +kernel
theorem dX5_isOneText_8 : decode cX5_isOneText 8 = .ok (.getfield 33, 3) := by decide +kernel
theorem dX5_isOneText_11 : decode cX5_isOneText 11 = .ok (.invokevirtual 94, 3) := by decide +kernel
theorem dX5_isOneText_14 : decode cX5_isOneText 14 = .ok (.ifCond .eq 41, 3) := by decide +kernel
theorem dX5_isOneText_17 : decode cX5_isOneText 17 = .ok (.aload_n 0, 1) := by decide +kernel
theorem dX5_isOneText_18 : decode cX5_isOneText 18 = .ok (.getfield 20, 3) := by decide +kernel
theorem dX5_isOneText_21 : decode cX5_isOneText 21 = .ok (.getfield 91, 3) := by decide +kernel
theorem dX5_isOneText_24 : decode cX5_isOneText 24 = .ok (.aload_n 0, 1) := by decide +kernel
theorem dX5_isOneText_25 : decode cX5_isOneText 25 = .ok (.getfield 33, 3) := by decide +kernel
theorem dX5_isOneText_28 : decode cX5_isOneText 28 = .ok (.invokevirtual 94, 3) := by decide +kernel
theorem dX5_isOneText_31 : decode cX5_isOneText 31 = .ok (.ifCond .eq 24, 3) := by decide +kernel
theorem dX5_isOneText_34 : decode cX5_isOneText 34 = .ok (.aload_n 0, 1) := by decide +kernel
theorem dX5_isOneText_35 : decode cX5_isOneText 35 = .ok (.getfield 23, 3) := by decide +kernel
theorem dX5_isOneText_38 : decode cX5_isOneText 38 = .ok (.getfield 91, 3) := by decide +kernel
theorem dX5_isOneText_41 : decode cX5_isOneText 41 = .ok (.aload_n 0, 1) := by decide +kernel
theorem dX5_isOneText_42 : decode cX5_isOneText 42 = .ok (.getfield 33, 3) := by decide +kernel
theorem dX5_isOneText_45 : decode cX5_isOneText 45 = .ok (.invokevirtual 94, 3) := by decide +kernel
theorem dX5_isOneText_48 : decode cX5_isOneText 48 = .ok (.ifCond .eq 7, 3) := by decide +kernel
theorem dX5_isOneText_51 : decode cX5_isOneText 51 = .ok (.iconst 1, 1) := by decide +kernel
theorem dX5_isOneText_52 : decode cX5_isOneText 52 = .ok (.goto 4, 3) := by decide +kernel
theorem dX5_isOneText_55 : decode cX5_isOneText 55 = .ok (.iconst 0, 1) := by decide +kernel
theorem dX5_isOneText_56 : decode cX5_isOneText 56 = .ok (.ireturn, 1) := by decide +kernel
theorem dX5_copyState_0 : decode cX5_copyState 0 = .ok (.aload_n 0, 1) := by decide +kernel
theorem dX5_copyState_1 : decode cX5_copyState 1 = .ok (.getfield 14, 3) := by decide +kernel
theorem dX5_copyState_4 : decode cX5_copyState 4 = .ok (.aload_n 1, 1) := by decide +kernel
theorem dX5_copyState_5 : decode cX5_copyState 5 = .ok (.getfield 14, 3) := by decide +kernel
theorem dX5_copyState_8 : decode cX5_copyState 8 = .ok (.invokevirtual 103, 3) := by decide +kernel
theorem dX5_copyState_11 : decode cX5_copyState 11 = .ok (.aload_n 0, 1) := by decide +kernel
theorem dX5_copyState_12 : decode cX5_copyState 12 = .ok (.getfield 20, 3) := by decide +kernel
theorem dX5_copyState_15 : decode cX5_copyState 15 = .ok (.aload_n 1, 1) := by decide +kernel
theorem dX5_copyState_16 : decode cX5_copyState 16 = .ok (.getfield 20, 3) := by decide +kernel
theorem dX5_copyState_19 : decode cX5_copyState 19 = .ok (.invokevirtual 103, 3) := by decide +kernel
theorem dX5_copyState_22 : decode cX5_copyState 22 = .ok (.aload_n 0, 1) := by decide +kernel
theorem dX5_copyState_23 : decode cX5_copyState 23 = .ok (.getfield 23, 3) := by decide +kernel
theorem dX5_copyState_26 : decode cX5_copyState 26 = .ok (.aload_n 1, 1) := by decide +kernel
theorem dX5_copyState_27 : decode cX5_copyState 27 = .ok (.getfield 23, 3) := by decide +kernel
theorem dX5_copyState_30 : decode cX5_copyState 30 = .ok (.invokevirtual 103, 3) := by decide +kernel
theorem dX5_copyState_33 : decode cX5_copyState 33 = .ok (.aload_n 0, 1) := by decide +kernel
theorem dX5_copyState_34 : decode cX5_copyState 34 = .ok (.getfield 29, 3) := by decide +kernel
theorem dX5_copyState_37 : decode cX5_copyState 37 = .ok (.aload_n 1, 1) := by decide +kernel
theorem dX5_copyState_38 : decode cX5_copyState 38 = .ok (.getfield 29, 3) := by decide +kernel
theorem dX5_copyState_41 : decode cX5_copyState 41 = .ok (.invokevirtual 107, 3) := by decide +kernel
theorem dX5_copyState_44 : decode cX5_copyState 44 = .ok (.aload_n 0, 1) := by decide +kernel
theorem dX5_copyState_45 : decode cX5_copyState 45 = .ok (.getfield 33, 3) := by decide +kernel
theorem dX5_copyState_48 : decode cX5_copyState 48 = .ok (.aload_n 1, 1) := by decide +kernel
theorem dX5_copyState_49 : decode cX5_copyState 49 = .ok (.getfield 33, 3) := by decide +kernel
theorem dX5_copyState_52 : decode cX5_copyState 52 = .ok (.invokevirtual 107, 3) := by decide +kernel
theorem dX5_copyState_55 : decode cX5_copyState 55 = .ok (.aload_n 0, 1) := by decide +kernel
theorem dX5_copyState_56 : decode cX5_copyState 56 = .ok (.getfield 36, 3) := by decide +kernel
theorem dX5_copyState_59 : decode cX5_copyState 59 = .ok (.aload_n 1, 1) := by decide +kernel
theorem dX5_copyState_60 : decode cX5_copyState 60 = .ok (.getfield 36, 3) := by decide +kernel
theorem dX5_copyState_63 : decode cX5_copyState 63 = .ok (.invokevirtual 107, 3) := by decide +kernel
theorem dX5_copyState_66 : decode cX5_copyState 66 = .ok (.return_, 1) := by decide +kernel
theorem dX5_copyEndOf_0 : decode cX5_copyEndOf 0 = .ok (.aload_n 0, 1) := by decide +kernel
theorem dX5_copyEndOf_1 : decode cX5_copyEndOf 1 = .ok (.aload_n 1, 1) := by decide +kernel
theorem dX5_copyEndOf_2 : decode cX5_copyEndOf 2 = .ok (.invokevirtual 111, 3) := by decide +kernel
theorem dX5_copyEndOf_5 : decode cX5_copyEndOf 5 = .ok (.iconst 0, 1) := by decide +kernel
theorem dX5_copyEndOf_6 : decode cX5_copyEndOf 6 = .ok (.istore_n 3, 1) := by decide +kernel
theorem dX5_copyEndOf_7 : decode cX5_copyEndOf 7 = .ok (.iload_n 3, 1) := by decide +kernel
theorem dX5_copyEndOf_8 : decode cX5_copyEndOf 8 = .ok (.iconst 3, 1) := by decide +kernel
theorem dX5_copyEndOf_9 : decode cX5_copyEndOf 9 = .ok (.if_icmp .ge 78, 3) := by decide +kernel
theorem dX5_copyEndOf_12 : decode cX5_copyEndOf 12 = .ok (.aload_n 0, 1) := by decide +kernel
theorem dX5_copyEndOf_13 : decode cX5_copyEndOf 13 = .ok (.iload_n 2, 1) := by decide +kernel
theorem dX5_copyEndOf_14 : decode cX5_copyEndOf 14 = .ok (.ifCond .eq 9, 3) := by decide +kernel
theorem dX5_copyEndOf_17 : decode cX5_copyEndOf 17 = .ok (.iconst 2, 1) := by decide +kernel
theorem dX5_copyEndOf_18 : decode cX5_copyEndOf 18 = .ok (.iload_n 3, 1) := by decide +kernel
theorem dX5_copyEndOf_19 : decode cX5_copyEndOf 19 = .ok (.isub, 1) := by decide +kernel
theorem dX5_copyEndOf_20 : decode cX5_copyEndOf 20 = .ok (.goto 4, 3) := by decide +kernel
theorem dX5_copyEndOf_23 : decode cX5_copyEndOf 23 = .ok (.iload_n 3, 1) := by decide +kernel
theorem dX5_copyEndOf_24 : decode cX5_copyEndOf 24 = .ok (.invokevirtual 43, 3) := by decide +kernel
theorem dX5_copyEndOf_27 : decode cX5_copyEndOf 27 = .ok (.astore 4, 2) := by decide +kernel
theorem dX5_copyEndOf_29 : decode cX5_copyEndOf 29 = .ok (.iconst 0, 1) := by decide +kernel
theorem dX5_copyEndOf_30 : decode cX5_copyEndOf 30 = .ok (.istore 5, 2) := by decide +kernel
theorem dX5_copyEndOf_32 : decode cX5_copyEndOf 32 = .ok (.iload 5, 2) := by decide +kernel
theorem dX5_copyEndOf_34 : decode cX5_copyEndOf 34 = .ok (.bipush 6, 2) := by decide +kernel
theorem dX5_copyEndOf_36 : decode cX5_copyEndOf 36 = .ok (.if_icmp .gt 45, 3) := by decide +kernel
theorem dX5_copyEndOf_39 : decode cX5_copyEndOf 39 = .ok (.aload 4, 2) := by decide +kernel
theorem dX5_copyEndOf_41 : decode cX5_copyEndOf 41 = .ok (.aload_n 0, 1) := by decide +kernel
theorem dX5_copyEndOf_42 : decode cX5_copyEndOf 42 = .ok (.getfield 29, 3) := by decide +kernel
theorem dX5_copyEndOf_45 : decode cX5_copyEndOf 45 = .ok (.invokevirtual 87, 3) := by decide +kernel
theorem dX5_copyEndOf_48 : decode cX5_copyEndOf 48 = .ok (.ifCond .ne 33, 3) := by decide +kernel
theorem dX5_copyEndOf_51 : decode cX5_copyEndOf 51 = .ok (.aload 4, 2) := by decide +kernel
theorem dX5_copyEndOf_53 : decode cX5_copyEndOf 53 = .ok (.invokevirtual 115, 3) := by decide +kernel
theorem dX5_copyEndOf_56 : decode cX5_copyEndOf 56 = .ok (.ifCond .eq 9, 3) := by decide +kernel
theorem dX5_copyEndOf_59 : decode cX5_copyEndOf 59 = .ok (.aload_n 0, 1) := by decide +kernel
theorem dX5_copyEndOf_60 : decode cX5_copyEndOf 60 = .ok (.aload 4, 2) := by decide +kernel
theorem dX5_copyEndOf_62 : decode cX5_copyEndOf 62 = .ok (.invokevirtual 119, 3) := by decide +kernel
theorem dX5_copyEndOf_65 : decode cX5_copyEndOf 65 = .ok (.aload 4, 2) := by decide +kernel
theorem dX5_copyEndOf_67 : decode cX5_copyEndOf 67 = .ok (.aload_n 0, 1) := by decide +kernel
theorem dX5_copyEndOf_68 : decode cX5_copyEndOf 68 = .ok (.getfield 29, 3) := by decide +kernel
theorem dX5_copyEndOf_71 : decode cX5_copyEndOf 71 = .ok (.invokevirtual 70, 3) := by decide +kernel
theorem dX5_copyEndOf_74 : decode cX5_copyEndOf 74 = .ok (.pop, 1) := by decide +kernel
theorem dX5_copyEndOf_75 : decode cX5_copyEndOf 75 = .ok (.iinc 5 1, 3) := by decide +kernel
theorem dX5_copyEndOf_78 : decode cX5_copyEndOf 78 = .ok (.goto (-46), 3) := by decide +kernel
theorem dX5_copyEndOf_81 : decode cX5_copyEndOf 81 = .ok (.iinc 3 1, 3) := by decide +kernel
theorem dX5_copyEndOf_84 : decode cX5_copyEndOf 84 = .ok (.goto (-77), 3) := by decide +kernel
theorem dX5_copyEndOf_87 : decode cX5_copyEndOf 87 = .ok (.iconst 0, 1) := by decide +kernel
theorem dX5_copyEndOf_88 : decode cX5_copyEndOf 88 = .ok (.istore_n 3, 1) := by decide +kernel
theorem dX5_copyEndOf_89 : decode cX5_copyEndOf 89 = .ok (.iload_n 3, 1) := by decide +kernel
theorem dX5_copyEndOf_90 : decode cX5_copyEndOf 90 = .ok (.iconst 3, 1) := by decide +kernel
theorem dX5_copyEndOf_91 : decode cX5_copyEndOf 91 = .ok (.if_icmp .ge 22, 3) := by decide +kernel
theorem dX5_copyEndOf_94 : decode cX5_copyEndOf 94 = .ok (.aload_n 0, 1) := by decide +kernel
theorem dX5_copyEndOf_95 : decode cX5_copyEndOf 95 = .ok (.iload_n 3, 1) := by decide +kernel
theorem dX5_copyEndOf_96 : decode cX5_copyEndOf 96 = .ok (.invokevirtual 43, 3) := by decide +kernel
theorem dX5_copyEndOf_99 : decode cX5_copyEndOf 99 = .ok (.aload_n 0, 1) := by decide +kernel
theorem dX5_copyEndOf_100 : decode cX5_copyEndOf 100 = .ok (.getfield 29, 3) := by decide +kernel
theorem dX5_copyEndOf_103 : decode cX5_copyEndOf 103 = .ok (.invokevirtual 70, 3) := by decide +kernel
theorem dX5_copyEndOf_106 : decode cX5_copyEndOf 106 = .ok (.pop, 1) := by decide +kernel
theorem dX5_copyEndOf_107 : decode cX5_copyEndOf 107 = .ok (.iinc 3 1, 3) := by decide +kernel
theorem dX5_copyEndOf_110 : decode cX5_copyEndOf 110 = .ok (.goto (-21), 3) := by decide +kernel
theorem dX5_copyEndOf_113 : decode cX5_copyEndOf 113 = .ok (.return_, 1) := by decide +kernel
theorem dX5_pass_0 : decode cX5_pass 0 = .ok (.aload_n 1, 1) := by decide +kernel
theorem dX5_pass_1 : decode cX5_pass 1 = .ok (.invokevirtual 115, 3) := by decide +kernel
theorem dX5_pass_4 : decode cX5_pass 4 = .ok (.ifCond .ne 6, 3) := by decide +kernel
theorem dX5_pass_7 : decode cX5_pass 7 = .ok (.bipush (-2), 2) := by decide +kernel
theorem dX5_pass_9 : decode cX5_pass 9 = .ok (.ireturn, 1) := by decide +kernel
theorem dX5_pass_10 : decode cX5_pass 10 = .ok (.aload_n 0, 1) := by decide +kernel
theorem dX5_pass_11 : decode cX5_pass 11 = .ok (.getfield 29, 3) := by decide +kernel
theorem dX5_pass_14 : decode cX5_pass 14 = .ok (.invokevirtual 73, 3) := by decide +kernel
theorem dX5_pass_17 : decode cX5_pass 17 = .ok (.bipush 60, 2) := by decide +kernel
theorem dX5_pass_19 : decode cX5_pass 19 = .ok (.if_icmp .lt 6, 3) := by decide +kernel
theorem dX5_pass_22 : decode cX5_pass 22 = .ok (.bipush (-3), 2) := by decide +kernel
theorem dX5_pass_24 : decode cX5_pass 24 = .ok (.ireturn, 1) := by decide +kernel
theorem dX5_pass_25 : decode cX5_pass 25 = .ok (.aload_n 0, 1) := by decide +kernel
theorem dX5_pass_26 : decode cX5_pass 26 = .ok (.aload_n 1, 1) := by decide +kernel
theorem dX5_pass_27 : decode cX5_pass 27 = .ok (.invokevirtual 119, 3) := by decide +kernel
theorem dX5_pass_30 : decode cX5_pass 30 = .ok (.aload_n 0, 1) := by decide +kernel
theorem dX5_pass_31 : decode cX5_pass 31 = .ok (.getfield 29, 3) := by decide +kernel
theorem dX5_pass_34 : decode cX5_pass 34 = .ok (.invokevirtual 73, 3) := by decide +kernel
theorem dX5_pass_37 : decode cX5_pass 37 = .ok (.ireturn, 1) := by decide +kernel
theorem dX5_append_0 : decode cX5_append 0 = .ok (.aload_n 1, 1) := by decide +kernel
theorem dX5_append_1 : decode cX5_append 1 = .ok (.aload_n 0, 1) := by decide +kernel
theorem dX5_append_2 : decode cX5_append 2 = .ok (.getfield 29, 3) := by decide +kernel
theorem dX5_append_5 : decode cX5_append 5 = .ok (.invokevirtual 122, 3) := by decide +kernel
theorem dX5_append_8 : decode cX5_append 8 = .ok (.istore_n 2, 1) := by decide +kernel
theorem dX5_append_9 : decode cX5_append 9 = .ok (.iload_n 2, 1) := by decide +kernel
theorem dX5_append_10 : decode cX5_append 10 = .ok (.invokestatic 125, 3) := by decide +kernel
theorem dX5_append_13 : decode cX5_append 13 = .ok (.istore_n 3, 1) := by decide +kernel
theorem dX5_append_14 : decode cX5_append 14 = .ok (.iload_n 2, 1) := by decide +kernel
theorem dX5_append_15 : decode cX5_append 15 = .ok (.invokestatic 79, 3) := by decide +kernel
theorem dX5_append_18 : decode cX5_append 18 = .ok (.istore 4, 2) := by decide +kernel
theorem dX5_append_20 : decode cX5_append 20 = .ok (.iload 4, 2) := by decide +kernel
theorem dX5_append_22 : decode cX5_append 22 = .ok (.iconst 1, 1) := by decide +kernel
theorem dX5_append_23 : decode cX5_append 23 = .ok (.if_icmp .ne 30, 3) := by decide +kernel
theorem dX5_append_26 : decode cX5_append 26 = .ok (.aload_n 0, 1) := by decide +kernel
theorem dX5_append_27 : decode cX5_append 27 = .ok (.getfield 33, 3) := by decide +kernel
theorem dX5_append_30 : decode cX5_append 30 = .ok (.iload_n 3, 1) := by decide +kernel
theorem dX5_append_31 : decode cX5_append 31 = .ok (.iload_n 2, 1) := by decide +kernel
theorem dX5_append_32 : decode cX5_append 32 = .ok (.invokestatic 128, 3) := by decide +kernel
theorem dX5_append_35 : decode cX5_append 35 = .ok (.invokevirtual 131, 3) := by decide +kernel
theorem dX5_append_38 : decode cX5_append 38 = .ok (.aload_n 0, 1) := by decide +kernel
theorem dX5_append_39 : decode cX5_append 39 = .ok (.getfield 36, 3) := by decide +kernel
theorem dX5_append_42 : decode cX5_append 42 = .ok (.iload_n 3, 1) := by decide +kernel
theorem dX5_append_43 : decode cX5_append 43 = .ok (.iload_n 2, 1) := by decide +kernel
theorem dX5_append_44 : decode cX5_append 44 = .ok (.invokestatic 135, 3) := by decide +kernel
theorem dX5_append_47 : decode cX5_append 47 = .ok (.invokevirtual 131, 3) := by decide +kernel
theorem dX5_append_50 : decode cX5_append 50 = .ok (.goto 25, 3) := by decide +kernel
theorem dX5_append_53 : decode cX5_append 53 = .ok (.iload 4, 2) := by decide +kernel
theorem dX5_append_55 : decode cX5_append 55 = .ok (.iconst 2, 1) := by decide +kernel
theorem dX5_append_56 : decode cX5_append 56 = .ok (.if_icmp .ne 19, 3) := by decide +kernel
theorem dX5_append_59 : decode cX5_append 59 = .ok (.aload_n 0, 1) := by decide +kernel
theorem dX5_append_60 : decode cX5_append 60 = .ok (.getfield 33, 3) := by decide +kernel
theorem dX5_append_63 : decode cX5_append 63 = .ok (.iload_n 3, 1) := by decide +kernel
theorem dX5_append_64 : decode cX5_append 64 = .ok (.invokevirtual 138, 3) := by decide +kernel
theorem dX5_append_67 : decode cX5_append 67 = .ok (.aload_n 0, 1) := by decide +kernel
theorem dX5_append_68 : decode cX5_append 68 = .ok (.getfield 36, 3) := by decide +kernel
theorem dX5_append_71 : decode cX5_append 71 = .ok (.iload_n 3, 1) := by decide +kernel
theorem dX5_append_72 : decode cX5_append 72 = .ok (.invokevirtual 138, 3) := by decide +kernel
theorem dX5_append_75 : decode cX5_append 75 = .ok (.aload_n 0, 1) := by decide +kernel
theorem dX5_append_76 : decode cX5_append 76 = .ok (.getfield 29, 3) := by decide +kernel
theorem dX5_append_79 : decode cX5_append 79 = .ok (.iload_n 2, 1) := by decide +kernel
theorem dX5_append_80 : decode cX5_append 80 = .ok (.invokevirtual 141, 3) := by decide +kernel
theorem dX5_append_83 : decode cX5_append 83 = .ok (.aload_n 1, 1) := by decide +kernel
theorem dX5_append_84 : decode cX5_append 84 = .ok (.iconst 1, 1) := by decide +kernel
theorem dX5_append_85 : decode cX5_append 85 = .ok (.putfield 144, 3) := by decide +kernel
theorem dX5_append_88 : decode cX5_append 88 = .ok (.return_, 1) := by decide +kernel
theorem dX6_init_0 : decode cX6_init 0 = .ok (.aload_n 0, 1) := by decide +kernel
theorem dX6_init_1 : decode cX6_init 1 = .ok (.invokespecial 3, 3) := by decide +kernel
theorem dX6_init_4 : decode cX6_init 4 = .ok (.aload_n 0, 1) := by decide +kernel
theorem dX6_init_5 : decode cX6_init 5 = .ok (.new 9, 3) := by decide +kernel
theorem dX6_init_8 : decode cX6_init 8 = .ok (.dup, 1) := by decide +kernel
theorem dX6_init_9 : decode cX6_init 9 = .ok (.invokespecial 11, 3) := by decide +kernel
theorem dX6_init_12 : decode cX6_init 12 = .ok (.putfield 12, 3) := by decide +kernel
theorem dX6_init_15 : decode cX6_init 15 = .ok (.aload_n 0, 1) := by decide +kernel
theorem dX6_init_16 : decode cX6_init 16 = .ok (.new 9, 3) := by decide +kernel
theorem dX6_init_19 : decode cX6_init 19 = .ok (.dup, 1) := by decide +kernel
theorem dX6_init_20 : decode cX6_init 20 = .ok (.invokespecial 11, 3) := by decide +kernel
theorem dX6_init_23 : decode cX6_init 23 = .ok (.putfield 16, 3) := by decide +kernel
theorem dX6_init_26 : decode cX6_init 26 = .ok (.aload_n 0, 1) := by decide +kernel
theorem dX6_init_27 : decode cX6_init 27 = .ok (.new 9, 3) := by decide +kernel
theorem dX6_init_30 : decode cX6_init 30 = .ok (.dup, 1) := by decide +kernel
theorem dX6_init_31 : decode cX6_init 31 = .ok (.invokespecial 11, 3) := by decide +kernel
theorem dX6_init_34 : decode cX6_init 34 = .ok (.putfield 19, 3) := by decide +kernel
theorem dX6_init_37 : decode cX6_init 37 = .ok (.aload_n 0, 1) := by decide +kernel
theorem dX6_init_38 : decode cX6_init 38 = .ok (.new 9, 3) := by decide +kernel
theorem dX6_init_41 : decode cX6_init 41 = .ok (.dup, 1) := by decide +kernel
theorem dX6_init_42 : decode cX6_init 42 = .ok (.invokespecial 11, 3) := by decide +kernel
theorem dX6_init_45 : decode cX6_init 45 = .ok (.putfield 22, 3) := by decide +kernel
theorem dX6_init_48 : decode cX6_init 48 = .ok (.aload_n 0, 1) := by decide +kernel
theorem dX6_init_49 : decode cX6_init 49 = .ok (.new 25, 3) := by decide +kernel
theorem dX6_init_52 : decode cX6_init 52 = .ok (.dup, 1) := by decide +kernel
theorem dX6_init_53 : decode cX6_init 53 = .ok (.invokespecial 27, 3) := by decide +kernel
theorem dX6_init_56 : decode cX6_init 56 = .ok (.putfield 28, 3) := by decide +kernel
theorem dX6_init_59 : decode cX6_init 59 = .ok (.aload_n 0, 1) := by decide +kernel
theorem dX6_init_60 : decode cX6_init 60 = .ok (.new 32, 3) := by decide +kernel
theorem dX6_init_63 : decode cX6_init 63 = .ok (.dup, 1) := by decide +kernel
theorem dX6_init_64 : decode cX6_init 64 = .ok (.invokespecial 34, 3) := by decide +kernel
theorem dX6_init_67 : decode cX6_init 67 = .ok (.putfield 35, 3) := by decide +kernel
theorem dX6_init_70 : decode cX6_init 70 = .ok (.return_, 1) := by decide +kernel
theorem dX6_insert_0 : decode cX6_insert 0 = .ok (.aload_n 0, 1) := by decide +kernel
theorem dX6_insert_1 : decode cX6_insert 1 = .ok (.bipush 105, 2) := by decide +kernel
theorem dX6_insert_3 : decode cX6_insert 3 = .ok (.iload_n 1, 1) := by decide +kernel
theorem dX6_insert_4 : decode cX6_insert 4 = .ok (.iload_n 2, 1) := by decide +kernel
theorem dX6_insert_5 : decode cX6_insert 5 = .ok (.iload_n 3, 1) := by decide +kernel
theorem dX6_insert_6 : decode cX6_insert 6 = .ok (.invokevirtual 39, 3) := by decide +kernel
theorem dX6_insert_9 : decode cX6_insert 9 = .ok (.ireturn, 1) := by decide +kernel
theorem dX6_delete_0 : decode cX6_delete 0 = .ok (.aload_n 0, 1) := by decide +kernel
theorem dX6_delete_1 : decode cX6_delete 1 = .ok (.bipush 100, 2) := by decide +kernel
theorem dX6_delete_3 : decode cX6_delete 3 = .ok (.iload_n 1, 1) := by decide +kernel
theorem dX6_delete_4 : decode cX6_delete 4 = .ok (.iload_n 2, 1) := by decide +kernel
theorem dX6_delete_5 : decode cX6_delete 5 = .ok (.iconst 0, 1) := by decide +kernel
theorem dX6_delete_6 : decode cX6_delete 6 = .ok (.invokevirtual 39, 3) := by decide +kernel
theorem dX6_delete_9 : decode cX6_delete 9 = .ok (.ireturn, 1) := by decide +kernel
theorem dX6_takeBack_0 : decode cX6_takeBack 0 = .ok (.aload_n 0, 1) := by decide +kernel
theorem dX6_takeBack_1 : decode cX6_takeBack 1 = .ok (.bipush 98, 2) := by decide +kernel
theorem dX6_takeBack_3 : decode cX6_takeBack 3 = .ok (.iload_n 1, 1) := by decide +kernel
theorem dX6_takeBack_4 : decode cX6_takeBack 4 = .ok (.iconst 0, 1) := by decide +kernel
theorem dX6_takeBack_5 : decode cX6_takeBack 5 = .ok (.iconst 0, 1) := by decide +kernel
theorem dX6_takeBack_6 : decode cX6_takeBack 6 = .ok (.invokevirtual 39, 3) := by decide +kernel
theorem dX6_takeBack_9 : decode cX6_takeBack 9 = .ok (.ireturn, 1) := by decide +kernel
theorem dX6_mark_0 : decode cX6_mark 0 = .ok (.aload_n 0, 1) := by decide +kernel
theorem dX6_mark_1 : decode cX6_mark 1 = .ok (.bipush 77, 2) := by decide +kernel
theorem dX6_mark_3 : decode cX6_mark 3 = .ok (.iload_n 1, 1) := by decide +kernel
theorem dX6_mark_4 : decode cX6_mark 4 = .ok (.iload_n 2, 1) := by decide +kernel
theorem dX6_mark_5 : decode cX6_mark 5 = .ok (.iconst 0, 1) := by decide +kernel
theorem dX6_mark_6 : decode cX6_mark 6 = .ok (.invokevirtual 39, 3) := by decide +kernel
theorem dX6_mark_9 : decode cX6_mark 9 = .ok (.ireturn, 1) := by decide +kernel
theorem dX6_send_0 : decode cX6_send 0 = .ok (.aload_n 0, 1) := by decide +kernel
theorem dX6_send_1 : decode cX6_send 1 = .ok (.bipush 115, 2) := by decide +kernel
theorem dX6_send_3 : decode cX6_send 3 = .ok (.iload_n 1, 1) := by decide +kernel
theorem dX6_send_4 : decode cX6_send 4 = .ok (.iconst 0, 1) := by decide +kernel
theorem dX6_send_5 : decode cX6_send 5 = .ok (.iconst 0, 1) := by decide +kernel
theorem dX6_send_6 : decode cX6_send 6 = .ok (.invokevirtual 39, 3) := by decide +kernel
theorem dX6_send_9 : decode cX6_send 9 = .ok (.ireturn, 1) := by decide +kernel
theorem dX6_hear_0 : decode cX6_hear 0 = .ok (.aload_n 0, 1) := by decide +kernel
theorem dX6_hear_1 : decode cX6_hear 1 = .ok (.bipush 104, 2) := by decide +kernel
theorem dX6_hear_3 : decode cX6_hear 3 = .ok (.iload_n 1, 1) := by decide +kernel
theorem dX6_hear_4 : decode cX6_hear 4 = .ok (.iconst 0, 1) := by decide +kernel
theorem dX6_hear_5 : decode cX6_hear 5 = .ok (.iconst 0, 1) := by decide +kernel
theorem dX6_hear_6 : decode cX6_hear 6 = .ok (.invokevirtual 39, 3) := by decide +kernel
theorem dX6_hear_9 : decode cX6_hear 9 = .ok (.ireturn, 1) := by decide +kernel
theorem dX6_hearAll_0 : decode cX6_hearAll 0 = .ok (.aload_n 0, 1) := by decide +kernel
theorem dX6_hearAll_1 : decode cX6_hearAll 1 = .ok (.bipush 65, 2) := by decide +kernel
theorem dX6_hearAll_3 : decode cX6_hearAll 3 = .ok (.iload_n 1, 1) := by decide +kernel
theorem dX6_hearAll_4 : decode cX6_hearAll 4 = .ok (.iconst 0, 1) := by decide +kernel
theorem dX6_hearAll_5 : decode cX6_hearAll 5 = .ok (.iconst 0, 1) := by decide +kernel
theorem dX6_hearAll_6 : decode cX6_hearAll 6 = .ok (.invokevirtual 39, 3) := by decide +kernel
theorem dX6_hearAll_9 : decode cX6_hearAll 9 = .ok (.ireturn, 1) := by decide +kernel
theorem dX6_letter_0 : decode cX6_letter 0 = .ok (.iload_n 1, 1) := by decide +kernel
theorem dX6_letter_1 : decode cX6_letter 1 = .ok (.invokestatic 63, 3) := by decide +kernel
theorem dX6_letter_4 : decode cX6_letter 4 = .ok (.ifCond .eq 8, 3) := by decide +kernel
theorem dX6_letter_7 : decode cX6_letter 7 = .ok (.iload_n 1, 1) := by decide +kernel
theorem dX6_letter_8 : decode cX6_letter 8 = .ok (.iconst 3, 1) := by decide +kernel
theorem dX6_letter_9 : decode cX6_letter 9 = .ok (.if_icmp .ne 7, 3) := by decide +kernel
theorem dX6_letter_12 : decode cX6_letter 12 = .ok (.iload_n 2, 1) := by decide +kernel
theorem dX6_letter_13 : decode cX6_letter 13 = .ok (.ifCond .ge 5, 3) := by decide +kernel
theorem dX6_letter_16 : decode cX6_letter 16 = .ok (.iconst (-1), 1) := by decide +kernel
theorem dX6_letter_17 : decode cX6_letter 17 = .ok (.ireturn, 1) := by decide +kernel
theorem dX6_letter_18 : decode cX6_letter 18 = .ok (.iload_n 1, 1) := by decide +kernel
theorem dX6_letter_19 : decode cX6_letter 19 = .ok (.iconst 3, 1) := by decide +kernel
theorem dX6_letter_20 : decode cX6_letter 20 = .ok (.if_icmp .ne 13, 3) := by decide +kernel
theorem dX6_letter_23 : decode cX6_letter 23 = .ok (.aload_n 0, 1) := by decide +kernel
theorem dX6_letter_24 : decode cX6_letter 24 = .ok (.getfield 12, 3) := by decide +kernel
theorem dX6_letter_27 : decode cX6_letter 27 = .ok (.getfield 67, 3) := by decide +kernel
theorem dX6_letter_30 : decode cX6_letter 30 = .ok (.goto 14, 3) := by decide +kernel
theorem dX6_letter_33 : decode cX6_letter 33 = .ok (.aload_n 0, 1) := by decide +kernel
theorem dX6_letter_34 : decode cX6_letter 34 = .ok (.getfield 12, 3) := by decide +kernel
theorem dX6_letter_37 : decode cX6_letter 37 = .ok (.iload_n 1, 1) := by decide +kernel
theorem dX6_letter_38 : decode cX6_letter 38 = .ok (.invokevirtual 70, 3) := by decide +kernel
theorem dX6_letter_41 : decode cX6_letter 41 = .ok (.getfield 74, 3) := by decide +kernel
theorem dX6_letter_44 : decode cX6_letter 44 = .ok (.astore_n 3, 1) := by decide +kernel
theorem dX6_letter_45 : decode cX6_letter 45 = .ok (.iload_n 2, 1) := by decide +kernel
theorem dX6_letter_46 : decode cX6_letter 46 = .ok (.aload_n 3, 1) := by decide +kernel
theorem dX6_letter_47 : decode cX6_letter 47 = .ok (.invokevirtual 47, 3) := by decide +kernel
theorem dX6_letter_50 : decode cX6_letter 50 = .ok (.if_icmp .ge 11, 3) := by decide +kernel
theorem dX6_letter_53 : decode cX6_letter 53 = .ok (.aload_n 3, 1) := by decide +kernel
theorem dX6_letter_54 : decode cX6_letter 54 = .ok (.iload_n 2, 1) := by decide +kernel
theorem dX6_letter_55 : decode cX6_letter 55 = .ok (.invokevirtual 79, 3) := by decide +kernel
theorem dX6_letter_58 : decode cX6_letter 58 = .ok (.goto 5, 3) := by decide +kernel
theorem dX6_letter_61 : decode cX6_letter 61 = .ok (.bipush (-4), 2) := by decide +kernel
theorem dX6_letter_63 : decode cX6_letter 63 = .ok (.ireturn, 1) := by decide +kernel
theorem dX6_editorOf_0 : decode cX6_editorOf 0 = .ok (.iload_n 1, 1) := by decide +kernel
theorem dX6_editorOf_1 : decode cX6_editorOf 1 = .ok (.invokestatic 63, 3) := by decide +kernel
theorem dX6_editorOf_4 : decode cX6_editorOf 4 = .ok (.ifCond .eq 5, 3) := by decide +kernel
theorem dX6_editorOf_7 : decode cX6_editorOf 7 = .ok (.iconst (-1), 1) := by decide +kernel
theorem dX6_editorOf_8 : decode cX6_editorOf 8 = .ok (.ireturn, 1) := by decide +kernel
theorem dX6_editorOf_9 : decode cX6_editorOf 9 = .ok (.aload_n 0, 1) := by decide +kernel
theorem dX6_editorOf_10 : decode cX6_editorOf 10 = .ok (.getfield 12, 3) := by decide +kernel
theorem dX6_editorOf_13 : decode cX6_editorOf 13 = .ok (.iload_n 1, 1) := by decide +kernel
theorem dX6_editorOf_14 : decode cX6_editorOf 14 = .ok (.invokevirtual 70, 3) := by decide +kernel
theorem dX6_editorOf_17 : decode cX6_editorOf 17 = .ok (.astore_n 3, 1) := by decide +kernel
theorem dX6_editorOf_18 : decode cX6_editorOf 18 = .ok (.iload_n 2, 1) := by decide +kernel
theorem dX6_editorOf_19 : decode cX6_editorOf 19 = .ok (.tableswitch 140 0 8 #[49, 57, 65, 78, 83, 99, 104, 112, 135], 49) := by decide +kernel
theorem dX6_editorOf_68 : decode cX6_editorOf 68 = .ok (.aload_n 3, 1) := by decide +kernel
theorem dX6_editorOf_69 : decode cX6_editorOf 69 = .ok (.getfield 74, 3) := by decide +kernel
theorem dX6_editorOf_72 : decode cX6_editorOf 72 = .ok (.invokevirtual 47, 3) := by decide +kernel
theorem dX6_editorOf_75 : decode cX6_editorOf 75 = .ok (.ireturn, 1) := by decide +kernel
theorem dX6_editorOf_76 : decode cX6_editorOf 76 = .ok (.aload_n 3, 1) := by decide +kernel
theorem dX6_editorOf_77 : decode cX6_editorOf 77 = .ok (.getfield 83, 3) := by decide +kernel
theorem dX6_editorOf_80 : decode cX6_editorOf 80 = .ok (.invokevirtual 47, 3) := by decide +kernel
theorem dX6_editorOf_83 : decode cX6_editorOf 83 = .ok (.ireturn, 1) := by decide +kernel
theorem dX6_editorOf_84 : decode cX6_editorOf 84 = .ok (.aload_n 3, 1) := by decide +kernel
theorem dX6_editorOf_85 : decode cX6_editorOf 85 = .ok (.getfield 86, 3) := by decide +kernel
theorem dX6_editorOf_88 : decode cX6_editorOf 88 = .ok (.ifCond .eq 7, 3) := by decide +kernel
theorem dX6_editorOf_91 : decode cX6_editorOf 91 = .ok (.iconst 1, 1) := by decide +kernel
theorem dX6_editorOf_92 : decode cX6_editorOf 92 = .ok (.goto 4, 3) := by decide +kernel
theorem dX6_editorOf_95 : decode cX6_editorOf 95 = .ok (.iconst 0, 1) := by decide +kernel
theorem dX6_editorOf_96 : decode cX6_editorOf 96 = .ok (.ireturn, 1) := by decide +kernel
theorem dX6_editorOf_97 : decode cX6_editorOf 97 = .ok (.aload_n 3, 1) := by decide +kernel
theorem dX6_editorOf_98 : decode cX6_editorOf 98 = .ok (.getfield 90, 3) := by decide +kernel
theorem dX6_editorOf_101 : decode cX6_editorOf 101 = .ok (.ireturn, 1) := by decide +kernel
theorem dX6_editorOf_102 : decode cX6_editorOf 102 = .ok (.aload_n 0, 1) := by decide +kernel
theorem dX6_editorOf_103 : decode cX6_editorOf 103 = .ok (.getfield 12, 3) := by decide +kernel
theorem dX6_editorOf_106 : decode cX6_editorOf 106 = .ok (.getfield 43, 3) := by decide +kernel
theorem dX6_editorOf_109 : decode cX6_editorOf 109 = .ok (.invokevirtual 47, 3) := by decide +kernel
theorem dX6_editorOf_112 : decode cX6_editorOf 112 = .ok (.aload_n 3, 1) := by decide +kernel
theorem dX6_editorOf_113 : decode cX6_editorOf 113 = .ok (.getfield 90, 3) := by decide +kernel
theorem dX6_editorOf_116 : decode cX6_editorOf 116 = .ok (.isub, 1) := by decide +kernel
theorem dX6_editorOf_117 : decode cX6_editorOf 117 = .ok (.ireturn, 1) := by decide +kernel
theorem dX6_editorOf_118 : decode cX6_editorOf 118 = .ok (.aload_n 3, 1) := by decide +kernel
theorem dX6_editorOf_119 : decode cX6_editorOf 119 = .ok (.getfield 94, 3) := by decide +kernel
theorem dX6_editorOf_122 : decode cX6_editorOf 122 = .ok (.ireturn, 1) := by decide +kernel
theorem dX6_editorOf_123 : decode cX6_editorOf 123 = .ok (.aload_n 3, 1) := by decide +kernel
theorem dX6_editorOf_124 : decode cX6_editorOf 124 = .ok (.getfield 97, 3) := by decide +kernel
theorem dX6_editorOf_127 : decode cX6_editorOf 127 = .ok (.invokevirtual 47, 3) := by decide +kernel
theorem dX6_editorOf_130 : decode cX6_editorOf 130 = .ok (.ireturn, 1) := by decide +kernel
theorem dX6_editorOf_131 : decode cX6_editorOf 131 = .ok (.aload_n 3, 1) := by decide +kernel
theorem dX6_editorOf_132 : decode cX6_editorOf 132 = .ok (.getfield 74, 3) := by decide +kernel
theorem dX6_editorOf_135 : decode cX6_editorOf 135 = .ok (.aload_n 0, 1) := by decide +kernel
theorem dX6_editorOf_136 : decode cX6_editorOf 136 = .ok (.getfield 12, 3) := by decide +kernel
theorem dX6_editorOf_139 : decode cX6_editorOf 139 = .ok (.getfield 67, 3) := by decide +kernel
theorem dX6_editorOf_142 : decode cX6_editorOf 142 = .ok (.invokevirtual 100, 3) := by decide +kernel
theorem dX6_editorOf_145 : decode cX6_editorOf 145 = .ok (.ifCond .eq 7, 3) := by decide +kernel
theorem dX6_editorOf_148 : decode cX6_editorOf 148 = .ok (.iconst 1, 1) := by decide +kernel
theorem dX6_editorOf_149 : decode cX6_editorOf 149 = .ok (.goto 4, 3) := by decide +kernel
theorem dX6_editorOf_152 : decode cX6_editorOf 152 = .ok (.iconst 0, 1) := by decide +kernel
theorem dX6_editorOf_153 : decode cX6_editorOf 153 = .ok (.ireturn, 1) := by decide +kernel
theorem dX6_editorOf_154 : decode cX6_editorOf 154 = .ok (.aload_n 3, 1) := by decide +kernel
theorem dX6_editorOf_155 : decode cX6_editorOf 155 = .ok (.getfield 104, 3) := by decide +kernel
theorem dX6_editorOf_158 : decode cX6_editorOf 158 = .ok (.ireturn, 1) := by decide +kernel
theorem dX6_editorOf_159 : decode cX6_editorOf 159 = .ok (.iconst (-1), 1) := by decide +kernel
theorem dX6_editorOf_160 : decode cX6_editorOf 160 = .ok (.ireturn, 1) := by decide +kernel
theorem dX6_waitingOf_0 : decode cX6_waitingOf 0 = .ok (.iload_n 1, 1) := by decide +kernel
theorem dX6_waitingOf_1 : decode cX6_waitingOf 1 = .ok (.invokestatic 63, 3) := by decide +kernel
theorem dX6_waitingOf_4 : decode cX6_waitingOf 4 = .ok (.ifCond .ne 16, 3) := by decide +kernel
theorem dX6_waitingOf_7 : decode cX6_waitingOf 7 = .ok (.iload_n 2, 1) := by decide +kernel
theorem dX6_waitingOf_8 : decode cX6_waitingOf 8 = .ok (.ifCond .lt 12, 3) := by decide +kernel
theorem dX6_waitingOf_11 : decode cX6_waitingOf 11 = .ok (.iload_n 3, 1) := by decide +kernel
theorem dX6_waitingOf_12 : decode cX6_waitingOf 12 = .ok (.ifCond .lt 8, 3) := by decide +kernel
theorem dX6_waitingOf_15 : decode cX6_waitingOf 15 = .ok (.iload_n 3, 1) := by decide +kernel
theorem dX6_waitingOf_16 : decode cX6_waitingOf 16 = .ok (.iconst 2, 1) := by decide +kernel
theorem dX6_waitingOf_17 : decode cX6_waitingOf 17 = .ok (.if_icmp .le 5, 3) := by decide +kernel
theorem dX6_waitingOf_20 : decode cX6_waitingOf 20 = .ok (.iconst (-1), 1) := by decide +kernel
theorem dX6_waitingOf_21 : decode cX6_waitingOf 21 = .ok (.ireturn, 1) := by decide +kernel
theorem dX6_waitingOf_22 : decode cX6_waitingOf 22 = .ok (.aload_n 0, 1) := by decide +kernel
theorem dX6_waitingOf_23 : decode cX6_waitingOf 23 = .ok (.getfield 12, 3) := by decide +kernel
theorem dX6_waitingOf_26 : decode cX6_waitingOf 26 = .ok (.iload_n 1, 1) := by decide +kernel
theorem dX6_waitingOf_27 : decode cX6_waitingOf 27 = .ok (.invokevirtual 70, 3) := by decide +kernel
theorem dX6_waitingOf_30 : decode cX6_waitingOf 30 = .ok (.getfield 83, 3) := by decide +kernel
theorem dX6_waitingOf_33 : decode cX6_waitingOf 33 = .ok (.iload_n 2, 1) := by decide +kernel
theorem dX6_waitingOf_34 : decode cX6_waitingOf 34 = .ok (.iload_n 3, 1) := by decide +kernel
theorem dX6_waitingOf_35 : decode cX6_waitingOf 35 = .ok (.invokestatic 107, 3) := by decide +kernel
theorem dX6_waitingOf_38 : decode cX6_waitingOf 38 = .ok (.ireturn, 1) := by decide +kernel
theorem dX6_logOf_0 : decode cX6_logOf 0 = .ok (.iload_n 1, 1) := by decide +kernel
theorem dX6_logOf_1 : decode cX6_logOf 1 = .ok (.ifCond .lt 12, 3) := by decide +kernel
theorem dX6_logOf_4 : decode cX6_logOf 4 = .ok (.iload_n 2, 1) := by decide +kernel
theorem dX6_logOf_5 : decode cX6_logOf 5 = .ok (.ifCond .lt 8, 3) := by decide +kernel
theorem dX6_logOf_8 : decode cX6_logOf 8 = .ok (.iload_n 2, 1) := by decide +kernel
theorem dX6_logOf_9 : decode cX6_logOf 9 = .ok (.iconst 3, 1) := by decide +kernel
theorem dX6_logOf_10 : decode cX6_logOf 10 = .ok (.if_icmp .le 5, 3) := by decide +kernel
theorem dX6_logOf_13 : decode cX6_logOf 13 = .ok (.iconst (-1), 1) := by decide +kernel
theorem dX6_logOf_14 : decode cX6_logOf 14 = .ok (.ireturn, 1) := by decide +kernel
theorem dX6_logOf_15 : decode cX6_logOf 15 = .ok (.aload_n 0, 1) := by decide +kernel
theorem dX6_logOf_16 : decode cX6_logOf 16 = .ok (.getfield 12, 3) := by decide +kernel
theorem dX6_logOf_19 : decode cX6_logOf 19 = .ok (.getfield 43, 3) := by decide +kernel
theorem dX6_logOf_22 : decode cX6_logOf 22 = .ok (.iload_n 1, 1) := by decide +kernel
theorem dX6_logOf_23 : decode cX6_logOf 23 = .ok (.iload_n 2, 1) := by decide +kernel
theorem dX6_logOf_24 : decode cX6_logOf 24 = .ok (.invokestatic 107, 3) := by decide +kernel
theorem dX6_logOf_27 : decode cX6_logOf 27 = .ok (.ireturn, 1) := by decide +kernel
theorem dX6_by_0 : decode cX6_by 0 = .ok (.iload_n 1, 1) := by decide +kernel
theorem dX6_by_1 : decode cX6_by 1 = .ok (.ifCond .ge 5, 3) := by decide +kernel
theorem dX6_by_4 : decode cX6_by 4 = .ok (.iconst (-1), 1) := by decide +kernel
theorem dX6_by_5 : decode cX6_by 5 = .ok (.ireturn, 1) := by decide +kernel
theorem dX6_by_6 : decode cX6_by 6 = .ok (.iload_n 1, 1) := by decide +kernel
theorem dX6_by_7 : decode cX6_by 7 = .ok (.aload_n 0, 1) := by decide +kernel
theorem dX6_by_8 : decode cX6_by 8 = .ok (.getfield 12, 3) := by decide +kernel
theorem dX6_by_11 : decode cX6_by 11 = .ok (.getfield 111, 3) := by decide +kernel
theorem dX6_by_14 : decode cX6_by 14 = .ok (.invokevirtual 47, 3) := by decide +kernel
theorem dX6_by_17 : decode cX6_by 17 = .ok (.if_icmp .ge 17, 3) := by decide +kernel
theorem dX6_by_20 : decode cX6_by 20 = .ok (.aload_n 0, 1) := by decide +kernel
theorem dX6_by_21 : decode cX6_by 21 = .ok (.getfield 12, 3) := by decide +kernel
theorem dX6_by_24 : decode cX6_by 24 = .ok (.getfield 111, 3) := by decide +kernel
theorem dX6_by_27 : decode cX6_by 27 = .ok (.iload_n 1, 1) := by decide +kernel
theorem dX6_by_28 : decode cX6_by 28 = .ok (.invokevirtual 79, 3) := by decide +kernel
theorem dX6_by_31 : decode cX6_by 31 = .ok (.goto 5, 3) := by decide +kernel
theorem dX6_by_34 : decode cX6_by 34 = .ok (.bipush (-4), 2) := by decide +kernel
theorem dX6_by_36 : decode cX6_by 36 = .ok (.ireturn, 1) := by decide +kernel
theorem dX6_count_0 : decode cX6_count 0 = .ok (.iload_n 1, 1) := by decide +kernel
theorem dX6_count_1 : decode cX6_count 1 = .ok (.tableswitch 108 0 6 #[43, 54, 65, 73, 81, 89, 97], 43) := by decide +kernel
theorem dX6_count_44 : decode cX6_count 44 = .ok (.aload_n 0, 1) := by decide +kernel
theorem dX6_count_45 : decode cX6_count 45 = .ok (.getfield 12, 3) := by decide +kernel
theorem dX6_count_48 : decode cX6_count 48 = .ok (.getfield 43, 3) := by decide +kernel
theorem dX6_count_51 : decode cX6_count 51 = .ok (.invokevirtual 47, 3) := by decide +kernel
theorem dX6_count_54 : decode cX6_count 54 = .ok (.ireturn, 1) := by decide +kernel
theorem dX6_count_55 : decode cX6_count 55 = .ok (.aload_n 0, 1) := by decide +kernel
theorem dX6_count_56 : decode cX6_count 56 = .ok (.getfield 12, 3) := by decide +kernel
theorem dX6_count_59 : decode cX6_count 59 = .ok (.getfield 67, 3) := by decide +kernel
theorem dX6_count_62 : decode cX6_count 62 = .ok (.invokevirtual 47, 3) := by decide +kernel
theorem dX6_count_65 : decode cX6_count 65 = .ok (.ireturn, 1) := by decide +kernel
theorem dX6_count_66 : decode cX6_count 66 = .ok (.aload_n 0, 1) := by decide +kernel
theorem dX6_count_67 : decode cX6_count 67 = .ok (.getfield 12, 3) := by decide +kernel
theorem dX6_count_70 : decode cX6_count 70 = .ok (.invokevirtual 114, 3) := by decide +kernel
theorem dX6_count_73 : decode cX6_count 73 = .ok (.ireturn, 1) := by decide +kernel
theorem dX6_count_74 : decode cX6_count 74 = .ok (.aload_n 0, 1) := by decide +kernel
theorem dX6_count_75 : decode cX6_count 75 = .ok (.getfield 12, 3) := by decide +kernel
theorem dX6_count_78 : decode cX6_count 78 = .ok (.invokevirtual 117, 3) := by decide +kernel
theorem dX6_count_81 : decode cX6_count 81 = .ok (.ireturn, 1) := by decide +kernel
theorem dX6_count_82 : decode cX6_count 82 = .ok (.aload_n 0, 1) := by decide +kernel
theorem dX6_count_83 : decode cX6_count 83 = .ok (.getfield 12, 3) := by decide +kernel
theorem dX6_count_86 : decode cX6_count 86 = .ok (.invokevirtual 120, 3) := by decide +kernel
theorem dX6_count_89 : decode cX6_count 89 = .ok (.ireturn, 1) := by decide +kernel
theorem dX6_count_90 : decode cX6_count 90 = .ok (.aload_n 0, 1) := by decide +kernel
theorem dX6_count_91 : decode cX6_count 91 = .ok (.getfield 28, 3) := by decide +kernel
theorem dX6_count_94 : decode cX6_count 94 = .ok (.getfield 123, 3) := by decide +kernel
theorem dX6_count_97 : decode cX6_count 97 = .ok (.ireturn, 1) := by decide +kernel
theorem dX6_count_98 : decode cX6_count 98 = .ok (.aload_n 0, 1) := by decide +kernel
theorem dX6_count_99 : decode cX6_count 99 = .ok (.getfield 35, 3) := by decide +kernel
theorem dX6_count_102 : decode cX6_count 102 = .ok (.getfield 125, 3) := by decide +kernel
theorem dX6_count_105 : decode cX6_count 105 = .ok (.invokevirtual 47, 3) := by decide +kernel
theorem dX6_count_108 : decode cX6_count 108 = .ok (.ireturn, 1) := by decide +kernel
theorem dX6_count_109 : decode cX6_count 109 = .ok (.iconst (-1), 1) := by decide +kernel
theorem dX6_count_110 : decode cX6_count 110 = .ok (.ireturn, 1) := by decide +kernel
theorem dX6_inTheEnd_0 : decode cX6_inTheEnd 0 = .ok (.iload_n 1, 1) := by decide +kernel
theorem dX6_inTheEnd_1 : decode cX6_inTheEnd 1 = .ok (.ifCond .lt 12, 3) := by decide +kernel
theorem dX6_inTheEnd_4 : decode cX6_inTheEnd 4 = .ok (.iload_n 1, 1) := by decide +kernel
theorem dX6_inTheEnd_5 : decode cX6_inTheEnd 5 = .ok (.iconst 1, 1) := by decide +kernel
theorem dX6_inTheEnd_6 : decode cX6_inTheEnd 6 = .ok (.if_icmp .gt 7, 3) := by decide +kernel
theorem dX6_inTheEnd_9 : decode cX6_inTheEnd 9 = .ok (.iload_n 2, 1) := by decide +kernel
theorem dX6_inTheEnd_10 : decode cX6_inTheEnd 10 = .ok (.ifCond .ge 5, 3) := by decide +kernel
theorem dX6_inTheEnd_13 : decode cX6_inTheEnd 13 = .ok (.iconst (-1), 1) := by decide +kernel
theorem dX6_inTheEnd_14 : decode cX6_inTheEnd 14 = .ok (.ireturn, 1) := by decide +kernel
theorem dX6_inTheEnd_15 : decode cX6_inTheEnd 15 = .ok (.aload_n 0, 1) := by decide +kernel
theorem dX6_inTheEnd_16 : decode cX6_inTheEnd 16 = .ok (.getfield 16, 3) := by decide +kernel
theorem dX6_inTheEnd_19 : decode cX6_inTheEnd 19 = .ok (.aload_n 0, 1) := by decide +kernel
theorem dX6_inTheEnd_20 : decode cX6_inTheEnd 20 = .ok (.getfield 12, 3) := by decide +kernel
theorem dX6_inTheEnd_23 : decode cX6_inTheEnd 23 = .ok (.iload_n 1, 1) := by decide +kernel
theorem dX6_inTheEnd_24 : decode cX6_inTheEnd 24 = .ok (.iconst 1, 1) := by decide +kernel
theorem dX6_inTheEnd_25 : decode cX6_inTheEnd 25 = .ok (.if_icmp .ne 7, 3) := by decide +kernel
theorem dX6_inTheEnd_28 : decode cX6_inTheEnd 28 = .ok (.iconst 1, 1) := by decide +kernel
theorem dX6_inTheEnd_29 : decode cX6_inTheEnd 29 = .ok (.goto 4, 3) := by decide +kernel
theorem dX6_inTheEnd_32 : decode cX6_inTheEnd 32 = .ok (.iconst 0, 1) := by decide +kernel
theorem dX6_inTheEnd_33 : decode cX6_inTheEnd 33 = .ok (.invokevirtual 128, 3) := by decide +kernel
theorem dX6_inTheEnd_36 : decode cX6_inTheEnd 36 = .ok (.iload_n 2, 1) := by decide +kernel
theorem dX6_inTheEnd_37 : decode cX6_inTheEnd 37 = .ok (.aload_n 0, 1) := by decide +kernel
theorem dX6_inTheEnd_38 : decode cX6_inTheEnd 38 = .ok (.getfield 16, 3) := by decide +kernel
theorem dX6_inTheEnd_41 : decode cX6_inTheEnd 41 = .ok (.getfield 67, 3) := by decide +kernel
theorem dX6_inTheEnd_44 : decode cX6_inTheEnd 44 = .ok (.invokevirtual 47, 3) := by decide +kernel
theorem dX6_inTheEnd_47 : decode cX6_inTheEnd 47 = .ok (.if_icmp .ge 17, 3) := by decide +kernel
theorem dX6_inTheEnd_50 : decode cX6_inTheEnd 50 = .ok (.aload_n 0, 1) := by decide +kernel
theorem dX6_inTheEnd_51 : decode cX6_inTheEnd 51 = .ok (.getfield 16, 3) := by decide +kernel
theorem dX6_inTheEnd_54 : decode cX6_inTheEnd 54 = .ok (.getfield 67, 3) := by decide +kernel
theorem dX6_inTheEnd_57 : decode cX6_inTheEnd 57 = .ok (.iload_n 2, 1) := by decide +kernel
theorem dX6_inTheEnd_58 : decode cX6_inTheEnd 58 = .ok (.invokevirtual 79, 3) := by decide +kernel
theorem dX6_inTheEnd_61 : decode cX6_inTheEnd 61 = .ok (.goto 5, 3) := by decide +kernel
theorem dX6_inTheEnd_64 : decode cX6_inTheEnd 64 = .ok (.bipush (-4), 2) := by decide +kernel
theorem dX6_inTheEnd_66 : decode cX6_inTheEnd 66 = .ok (.ireturn, 1) := by decide +kernel
theorem dX6_both_0 : decode cX6_both 0 = .ok (.iload_n 1, 1) := by decide +kernel
theorem dX6_both_1 : decode cX6_both 1 = .ok (.ifCond .lt 8, 3) := by decide +kernel
theorem dX6_both_4 : decode cX6_both 4 = .ok (.iload_n 1, 1) := by decide +kernel
theorem dX6_both_5 : decode cX6_both 5 = .ok (.iconst 3, 1) := by decide +kernel
theorem dX6_both_6 : decode cX6_both 6 = .ok (.if_icmp .le 5, 3) := by decide +kernel
theorem dX6_both_9 : decode cX6_both 9 = .ok (.iconst (-1), 1) := by decide +kernel
theorem dX6_both_10 : decode cX6_both 10 = .ok (.ireturn, 1) := by decide +kernel
theorem dX6_both_11 : decode cX6_both 11 = .ok (.aload_n 0, 1) := by decide +kernel
theorem dX6_both_12 : decode cX6_both 12 = .ok (.getfield 19, 3) := by decide +kernel
theorem dX6_both_15 : decode cX6_both 15 = .ok (.aload_n 0, 1) := by decide +kernel
theorem dX6_both_16 : decode cX6_both 16 = .ok (.getfield 12, 3) := by decide +kernel
theorem dX6_both_19 : decode cX6_both 19 = .ok (.iconst 0, 1) := by decide +kernel
theorem dX6_both_20 : decode cX6_both 20 = .ok (.invokevirtual 128, 3) := by decide +kernel
theorem dX6_both_23 : decode cX6_both 23 = .ok (.aload_n 0, 1) := by decide +kernel
theorem dX6_both_24 : decode cX6_both 24 = .ok (.getfield 22, 3) := by decide +kernel
theorem dX6_both_27 : decode cX6_both 27 = .ok (.aload_n 0, 1) := by decide +kernel
theorem dX6_both_28 : decode cX6_both 28 = .ok (.getfield 12, 3) := by decide +kernel
theorem dX6_both_31 : decode cX6_both 31 = .ok (.iconst 1, 1) := by decide +kernel
theorem dX6_both_32 : decode cX6_both 32 = .ok (.invokevirtual 128, 3) := by decide +kernel
theorem dX6_both_35 : decode cX6_both 35 = .ok (.iload_n 1, 1) := by decide +kernel
theorem dX6_both_36 : decode cX6_both 36 = .ok (.tableswitch 76 0 2 #[28, 39, 50], 28) := by decide +kernel
theorem dX6_both_64 : decode cX6_both 64 = .ok (.aload_n 0, 1) := by decide +kernel
theorem dX6_both_65 : decode cX6_both 65 = .ok (.getfield 19, 3) := by decide +kernel
theorem dX6_both_68 : decode cX6_both 68 = .ok (.getfield 67, 3) := by decide +kernel
theorem dX6_both_71 : decode cX6_both 71 = .ok (.invokevirtual 47, 3) := by decide +kernel
theorem dX6_both_74 : decode cX6_both 74 = .ok (.ireturn, 1) := by decide +kernel
theorem dX6_both_75 : decode cX6_both 75 = .ok (.aload_n 0, 1) := by decide +kernel
theorem dX6_both_76 : decode cX6_both 76 = .ok (.getfield 22, 3) := by decide +kernel
theorem dX6_both_79 : decode cX6_both 79 = .ok (.getfield 67, 3) := by decide +kernel
theorem dX6_both_82 : decode cX6_both 82 = .ok (.invokevirtual 47, 3) := by decide +kernel
theorem dX6_both_85 : decode cX6_both 85 = .ok (.ireturn, 1) := by decide +kernel
theorem dX6_both_86 : decode cX6_both 86 = .ok (.aload_n 0, 1) := by decide +kernel
theorem dX6_both_87 : decode cX6_both 87 = .ok (.getfield 19, 3) := by decide +kernel
theorem dX6_both_90 : decode cX6_both 90 = .ok (.getfield 67, 3) := by decide +kernel
theorem dX6_both_93 : decode cX6_both 93 = .ok (.aload_n 0, 1) := by decide +kernel
theorem dX6_both_94 : decode cX6_both 94 = .ok (.getfield 22, 3) := by decide +kernel
theorem dX6_both_97 : decode cX6_both 97 = .ok (.getfield 67, 3) := by decide +kernel
theorem dX6_both_100 : decode cX6_both 100 = .ok (.invokevirtual 100, 3) := by decide +kernel
theorem dX6_both_103 : decode cX6_both 103 = .ok (.ifCond .eq 7, 3) := by decide +kernel
theorem dX6_both_106 : decode cX6_both 106 = .ok (.iconst 1, 1) := by decide +kernel
theorem dX6_both_107 : decode cX6_both 107 = .ok (.goto 4, 3) := by decide +kernel
theorem dX6_both_110 : decode cX6_both 110 = .ok (.iconst 0, 1) := by decide +kernel
theorem dX6_both_111 : decode cX6_both 111 = .ok (.ireturn, 1) := by decide +kernel
theorem dX6_both_112 : decode cX6_both 112 = .ok (.aload_n 0, 1) := by decide +kernel
theorem dX6_both_113 : decode cX6_both 113 = .ok (.getfield 19, 3) := by decide +kernel
theorem dX6_both_116 : decode cX6_both 116 = .ok (.invokevirtual 132, 3) := by decide +kernel
theorem dX6_both_119 : decode cX6_both 119 = .ok (.ifCond .eq 17, 3) := by decide +kernel
theorem dX6_both_122 : decode cX6_both 122 = .ok (.aload_n 0, 1) := by decide +kernel
theorem dX6_both_123 : decode cX6_both 123 = .ok (.getfield 22, 3) := by decide +kernel
theorem dX6_both_126 : decode cX6_both 126 = .ok (.invokevirtual 132, 3) := by decide +kernel
theorem dX6_both_129 : decode cX6_both 129 = .ok (.ifCond .eq 7, 3) := by decide +kernel
theorem dX6_both_132 : decode cX6_both 132 = .ok (.iconst 1, 1) := by decide +kernel
theorem dX6_both_133 : decode cX6_both 133 = .ok (.goto 4, 3) := by decide +kernel
theorem dX6_both_136 : decode cX6_both 136 = .ok (.iconst 0, 1) := by decide +kernel
theorem dX6_both_137 : decode cX6_both 137 = .ok (.ireturn, 1) := by decide +kernel
theorem dX6_wouldSend_0 : decode cX6_wouldSend 0 = .ok (.iload_n 1, 1) := by decide +kernel
theorem dX6_wouldSend_1 : decode cX6_wouldSend 1 = .ok (.invokestatic 63, 3) := by decide +kernel
theorem dX6_wouldSend_4 : decode cX6_wouldSend 4 = .ok (.ifCond .ne 12, 3) := by decide +kernel
theorem dX6_wouldSend_7 : decode cX6_wouldSend 7 = .ok (.iload_n 2, 1) := by decide +kernel
theorem dX6_wouldSend_8 : decode cX6_wouldSend 8 = .ok (.ifCond .lt 8, 3) := by decide +kernel
theorem dX6_wouldSend_11 : decode cX6_wouldSend 11 = .ok (.iload_n 2, 1) := by decide +kernel
theorem dX6_wouldSend_12 : decode cX6_wouldSend 12 = .ok (.iconst 1, 1) := by decide +kernel
theorem dX6_wouldSend_13 : decode cX6_wouldSend 13 = .ok (.if_icmp .le 5, 3) := by decide +kernel
theorem dX6_wouldSend_16 : decode cX6_wouldSend 16 = .ok (.iconst (-1), 1) := by decide +kernel
theorem dX6_wouldSend_17 : decode cX6_wouldSend 17 = .ok (.ireturn, 1) := by decide +kernel
theorem dX6_wouldSend_18 : decode cX6_wouldSend 18 = .ok (.aload_n 0, 1) := by decide +kernel
theorem dX6_wouldSend_19 : decode cX6_wouldSend 19 = .ok (.getfield 12, 3) := by decide +kernel
theorem dX6_wouldSend_22 : decode cX6_wouldSend 22 = .ok (.iload_n 1, 1) := by decide +kernel
theorem dX6_wouldSend_23 : decode cX6_wouldSend 23 = .ok (.invokevirtual 70, 3) := by decide +kernel
theorem dX6_wouldSend_26 : decode cX6_wouldSend 26 = .ok (.astore_n 3, 1) := by decide +kernel
theorem dX6_wouldSend_27 : decode cX6_wouldSend 27 = .ok (.aload_n 3, 1) := by decide +kernel
theorem dX6_wouldSend_28 : decode cX6_wouldSend 28 = .ok (.invokevirtual 136, 3) := by decide +kernel
theorem dX6_wouldSend_31 : decode cX6_wouldSend 31 = .ok (.ifCond .ne 6, 3) := by decide +kernel
theorem dX6_wouldSend_34 : decode cX6_wouldSend 34 = .ok (.bipush (-2), 2) := by decide +kernel
theorem dX6_wouldSend_36 : decode cX6_wouldSend 36 = .ok (.ireturn, 1) := by decide +kernel
theorem dX6_wouldSend_37 : decode cX6_wouldSend 37 = .ok (.aload_n 3, 1) := by decide +kernel
theorem dX6_wouldSend_38 : decode cX6_wouldSend 38 = .ok (.aload_n 0, 1) := by decide +kernel
theorem dX6_wouldSend_39 : decode cX6_wouldSend 39 = .ok (.getfield 12, 3) := by decide +kernel
theorem dX6_wouldSend_42 : decode cX6_wouldSend 42 = .ok (.getfield 43, 3) := by decide +kernel
theorem dX6_wouldSend_45 : decode cX6_wouldSend 45 = .ok (.invokevirtual 139, 3) := by decide +kernel
theorem dX6_wouldSend_48 : decode cX6_wouldSend 48 = .ok (.iload_n 2, 1) := by decide +kernel
theorem dX6_wouldSend_49 : decode cX6_wouldSend 49 = .ok (.invokestatic 143, 3) := by decide +kernel
theorem dX6_wouldSend_52 : decode cX6_wouldSend 52 = .ok (.ireturn, 1) := by decide +kernel
theorem dX6_undo_0 : decode cX6_undo 0 = .ok (.aload_n 0, 1) := by decide +kernel
theorem dX6_undo_1 : decode cX6_undo 1 = .ok (.getfield 28, 3) := by decide +kernel
theorem dX6_undo_4 : decode cX6_undo 4 = .ok (.getfield 123, 3) := by decide +kernel
theorem dX6_undo_7 : decode cX6_undo 7 = .ok (.ifCond .ne 6, 3) := by decide +kernel
theorem dX6_undo_10 : decode cX6_undo 10 = .ok (.bipush (-2), 2) := by decide +kernel
theorem dX6_undo_12 : decode cX6_undo 12 = .ok (.ireturn, 1) := by decide +kernel
theorem dX6_undo_13 : decode cX6_undo 13 = .ok (.aload_n 0, 1) := by decide +kernel
theorem dX6_undo_14 : decode cX6_undo 14 = .ok (.getfield 28, 3) := by decide +kernel
theorem dX6_undo_17 : decode cX6_undo 17 = .ok (.aload_n 0, 1) := by decide +kernel
theorem dX6_undo_18 : decode cX6_undo 18 = .ok (.getfield 12, 3) := by decide +kernel
theorem dX6_undo_21 : decode cX6_undo 21 = .ok (.invokevirtual 149, 3) := by decide +kernel
theorem dX6_undo_24 : decode cX6_undo 24 = .ok (.aload_n 0, 1) := by decide +kernel
theorem dX6_undo_25 : decode cX6_undo 25 = .ok (.getfield 28, 3) := by decide +kernel
theorem dX6_undo_28 : decode cX6_undo 28 = .ok (.getfield 123, 3) := by decide +kernel
theorem dX6_undo_31 : decode cX6_undo 31 = .ok (.ireturn, 1) := by decide +kernel
theorem dX6_recorded_0 : decode cX6_recorded 0 = .ok (.aload_n 0, 1) := by decide +kernel
theorem dX6_recorded_1 : decode cX6_recorded 1 = .ok (.getfield 28, 3) := by decide +kernel
theorem dX6_recorded_4 : decode cX6_recorded 4 = .ok (.aload_n 0, 1) := by decide +kernel
theorem dX6_recorded_5 : decode cX6_recorded 5 = .ok (.getfield 12, 3) := by decide +kernel
theorem dX6_recorded_8 : decode cX6_recorded 8 = .ok (.invokevirtual 53, 3) := by decide +kernel
theorem dX6_recorded_11 : decode cX6_recorded 11 = .ok (.aload_n 0, 1) := by decide +kernel
theorem dX6_recorded_12 : decode cX6_recorded 12 = .ok (.getfield 12, 3) := by decide +kernel
theorem dX6_recorded_15 : decode cX6_recorded 15 = .ok (.iload_n 1, 1) := by decide +kernel
theorem dX6_recorded_16 : decode cX6_recorded 16 = .ok (.iload_n 2, 1) := by decide +kernel
theorem dX6_recorded_17 : decode cX6_recorded 17 = .ok (.iload_n 3, 1) := by decide +kernel
theorem dX6_recorded_18 : decode cX6_recorded 18 = .ok (.iload 4, 2) := by decide +kernel
theorem dX6_recorded_20 : decode cX6_recorded 20 = .ok (.invokevirtual 177, 3) := by decide +kernel
theorem dX6_recorded_23 : decode cX6_recorded 23 = .ok (.istore 5, 2) := by decide +kernel
theorem dX6_recorded_25 : decode cX6_recorded 25 = .ok (.iload 5, 2) := by decide +kernel
theorem dX6_recorded_27 : decode cX6_recorded 27 = .ok (.ifCond .lt 10, 3) := by decide +kernel
theorem dX6_recorded_30 : decode cX6_recorded 30 = .ok (.aload_n 0, 1) := by decide +kernel
theorem dX6_recorded_31 : decode cX6_recorded 31 = .ok (.getfield 28, 3) := by decide +kernel
theorem dX6_recorded_34 : decode cX6_recorded 34 = .ok (.invokevirtual 57, 3) := by decide +kernel
theorem dX6_recorded_37 : decode cX6_recorded 37 = .ok (.iload 5, 2) := by decide +kernel
theorem dX6_recorded_39 : decode cX6_recorded 39 = .ok (.ireturn, 1) := by decide +kernel
theorem dX6_isNoEditor_0 : decode cX6_isNoEditor 0 = .ok (.iload_n 0, 1) := by decide +kernel
theorem dX6_isNoEditor_1 : decode cX6_isNoEditor 1 = .ok (.ifCond .lt 8, 3) := by decide +kernel
theorem dX6_isNoEditor_4 : decode cX6_isNoEditor 4 = .ok (.iload_n 0, 1) := by decide +kernel
theorem dX6_isNoEditor_5 : decode cX6_isNoEditor 5 = .ok (.iconst 3, 1) := by decide +kernel
theorem dX6_isNoEditor_6 : decode cX6_isNoEditor 6 = .ok (.if_icmp .lt 7, 3) := by decide +kernel
theorem dX6_isNoEditor_9 : decode cX6_isNoEditor 9 = .ok (.iconst 1, 1) := by decide +kernel
theorem dX6_isNoEditor_10 : decode cX6_isNoEditor 10 = .ok (.goto 4, 3) := by decide +kernel
theorem dX6_isNoEditor_13 : decode cX6_isNoEditor 13 = .ok (.iconst 0, 1) := by decide +kernel
theorem dX6_isNoEditor_14 : decode cX6_isNoEditor 14 = .ok (.ireturn, 1) := by decide +kernel
theorem dX6_partOf_0 : decode cX6_partOf 0 = .ok (.iload_n 1, 1) := by decide +kernel
theorem dX6_partOf_1 : decode cX6_partOf 1 = .ok (.aload_n 0, 1) := by decide +kernel
theorem dX6_partOf_2 : decode cX6_partOf 2 = .ok (.invokevirtual 47, 3) := by decide +kernel
theorem dX6_partOf_5 : decode cX6_partOf 5 = .ok (.if_icmp .ge 15, 3) := by decide +kernel
theorem dX6_partOf_8 : decode cX6_partOf 8 = .ok (.aload_n 0, 1) := by decide +kernel
theorem dX6_partOf_9 : decode cX6_partOf 9 = .ok (.iload_n 1, 1) := by decide +kernel
theorem dX6_partOf_10 : decode cX6_partOf 10 = .ok (.invokevirtual 79, 3) := by decide +kernel
theorem dX6_partOf_13 : decode cX6_partOf 13 = .ok (.iload_n 2, 1) := by decide +kernel
theorem dX6_partOf_14 : decode cX6_partOf 14 = .ok (.invokestatic 143, 3) := by decide +kernel
theorem dX6_partOf_17 : decode cX6_partOf 17 = .ok (.goto 5, 3) := by decide +kernel
theorem dX6_partOf_20 : decode cX6_partOf 20 = .ok (.bipush (-4), 2) := by decide +kernel
theorem dX6_partOf_22 : decode cX6_partOf 22 = .ok (.ireturn, 1) := by decide +kernel
theorem dJ9_max_7cf53_0 : decode cJ9_max_7cf53 0 = .ok (.iload_n 0, 1) := by decide +kernel
theorem dJ9_max_7cf53_1 : decode cJ9_max_7cf53 1 = .ok (.iload_n 1, 1) := by decide +kernel
theorem dJ9_max_7cf53_2 : decode cJ9_max_7cf53 2 = .ok (.if_icmp .lt 7, 3) := by decide +kernel
theorem dJ9_max_7cf53_5 : decode cJ9_max_7cf53 5 = .ok (.iload_n 0, 1) := by decide +kernel
theorem dJ9_max_7cf53_6 : decode cJ9_max_7cf53 6 = .ok (.goto 4, 3) := by decide +kernel
theorem dJ9_max_7cf53_9 : decode cJ9_max_7cf53 9 = .ok (.iload_n 1, 1) := by decide +kernel
theorem dJ9_max_7cf53_10 : decode cJ9_max_7cf53 10 = .ok (.ireturn, 1) := by decide +kernel
theorem dJ9_min_7cf53_0 : decode cJ9_min_7cf53 0 = .ok (.iload_n 0, 1) := by decide +kernel
theorem dJ9_min_7cf53_1 : decode cJ9_min_7cf53 1 = .ok (.iload_n 1, 1) := by decide +kernel
theorem dJ9_min_7cf53_2 : decode cJ9_min_7cf53 2 = .ok (.if_icmp .gt 7, 3) := by decide +kernel
theorem dJ9_min_7cf53_5 : decode cJ9_min_7cf53 5 = .ok (.iload_n 0, 1) := by decide +kernel
theorem dJ9_min_7cf53_6 : decode cJ9_min_7cf53 6 = .ok (.goto 4, 3) := by decide +kernel
theorem dJ9_min_7cf53_9 : decode cJ9_min_7cf53 9 = .ok (.iload_n 1, 1) := by decide +kernel
theorem dJ9_min_7cf53_10 : decode cJ9_min_7cf53 10 = .ok (.ireturn, 1) := by decide +kernel
