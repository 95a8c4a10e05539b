theorem dX8_cell_0 : decode cX8_cell 0 = .ok (.iload_n 1, 1) := by decide +kernel
theorem dX8_cell_1 : decode cX8_cell 1 = .ok (.aload_n 0, 1) := by decide +kernel
theorem dX8_cell_2 : decode cX8_cell 2 = .ok (.arraylength, 1) := by decide +kernel
theorem dX8_cell_3 : decode cX8_cell 3 = .ok (.if_icmp .ge 9, 3) := by decide +kernel
theorem dX8_cell_6 : decode cX8_cell 6 = .ok (.aload_n 0, 1) := by decide +kernel
theorem dX8_cell_7 : decode cX8_cell 7 = .ok (.iload_n 1, 1) := by decide +kernel
theorem dX8_cell_8 : decode cX8_cell 8 = .ok (.iaload, 1) := by decide +kernel
theorem dX8_cell_9 : decode cX8_cell 9 = .ok (.goto 15, 3) := by decide +kernel
theorem dX8_cell_12 : decode cX8_cell 12 = .ok (.sipush 7919, 3) := by decide +kernel
theorem dX8_cell_15 : decode cX8_cell 15 = .ok (.iload_n 1, 1) := by decide +kernel
theorem dX8_cell_16 : decode cX8_cell 16 = .ok (.iconst 3, 1) := by decide +kernel
theorem dX8_cell_17 : decode cX8_cell 17 = .ok (.iadd, 1) := by decide +kernel
theorem dX8_cell_18 : decode cX8_cell 18 = .ok (.imul, 1) := by decide +kernel
theorem dX8_cell_19 : decode cX8_cell 19 = .ok (.iload_n 1, 1) := by decide +kernel
theorem dX8_cell_20 : decode cX8_cell 20 = .ok (.bipush 11, 2) := by decide +kernel
theorem dX8_cell_22 : decode cX8_cell 22 = .ok (.iadd, 1) := by decide +kernel
theorem dX8_cell_23 : decode cX8_cell 23 = .ok (.imul, 1) := by decide +kernel
theorem dX8_cell_24 : decode cX8_cell 24 = .ok (.ireturn, 1) := by decide +kernel
theorem dX8_low_0 : decode cX8_low 0 = .ok (.iload_n 0, 1) := by decide +kernel
theorem dX8_low_1 : decode cX8_low 1 = .ok (.ldc 7, 2) := by decide +kernel
theorem dX8_low_3 : decode cX8_low 3 = .ok (.iand, 1) := by decide +kernel
theorem dX8_low_4 : decode cX8_low 4 = .ok (.iload_n 1, 1) := by decide +kernel
theorem dX8_low_5 : decode cX8_low 5 = .ok (.irem, 1) := by decide +kernel
theorem dX8_low_6 : decode cX8_low 6 = .ok (.ireturn, 1) := by decide +kernel
theorem dX8_does_0 : decode cX8_does 0 = .ok (.iload_n 1, 1) := by decide +kernel
theorem dX8_does_1 : decode cX8_does 1 = .ok (.iconst 4, 1) := by decide +kernel
theorem dX8_does_2 : decode cX8_does 2 = .ok (.ishr, 1) := by decide +kernel
theorem dX8_does_3 : decode cX8_does 3 = .ok (.iconst 3, 1) := by decide +kernel
theorem dX8_does_4 : decode cX8_does 4 = .ok (.invokestatic 8, 3) := by decide +kernel
theorem dX8_does_7 : decode cX8_does 7 = .ok (.istore_n 2, 1) := by decide +kernel
theorem dX8_does_8 : decode cX8_does 8 = .ok (.aload_n 0, 1) := by decide +kernel
theorem dX8_does_9 : decode cX8_does 9 = .ok (.iload_n 2, 1) := by decide +kernel
theorem dX8_does_10 : decode cX8_does 10 = .ok (.iconst 0, 1) := by decide +kernel
theorem dX8_does_11 : decode cX8_does 11 = .ok (.invokevirtual 14, 3) := by decide +kernel
theorem dX8_does_14 : decode cX8_does 14 = .ok (.istore_n 3, 1) := by decide +kernel
theorem dX8_does_15 : decode cX8_does 15 = .ok (.iload_n 1, 1) := by decide +kernel
theorem dX8_does_16 : decode cX8_does 16 = .ok (.bipush 15, 2) := by decide +kernel
theorem dX8_does_18 : decode cX8_does 18 = .ok (.iand, 1) := by decide +kernel
theorem dX8_does_19 : decode cX8_does 19 = .ok (.tableswitch 151 0 13 #[69, 69, 69, 69, 94, 94, 94, 117, 123, 139, 139, 139, 145, 145], 69) := by decide +kernel
theorem dX8_does_88 : decode cX8_does 88 = .ok (.aload_n 0, 1) := by decide +kernel
theorem dX8_does_89 : decode cX8_does 89 = .ok (.iload_n 2, 1) := by decide +kernel
theorem dX8_does_90 : decode cX8_does 90 = .ok (.iload_n 1, 1) := by decide +kernel
theorem dX8_does_91 : decode cX8_does 91 = .ok (.bipush 6, 2) := by decide +kernel
theorem dX8_does_93 : decode cX8_does 93 = .ok (.ishr, 1) := by decide +kernel
theorem dX8_does_94 : decode cX8_does 94 = .ok (.iload_n 3, 1) := by decide +kernel
theorem dX8_does_95 : decode cX8_does 95 = .ok (.iconst 1, 1) := by decide +kernel
theorem dX8_does_96 : decode cX8_does 96 = .ok (.iadd, 1) := by decide +kernel
theorem dX8_does_97 : decode cX8_does 97 = .ok (.invokestatic 8, 3) := by decide +kernel
theorem dX8_does_100 : decode cX8_does 100 = .ok (.iload_n 1, 1) := by decide +kernel
theorem dX8_does_101 : decode cX8_does 101 = .ok (.bipush 9, 2) := by decide +kernel
theorem dX8_does_103 : decode cX8_does 103 = .ok (.ishr, 1) := by decide +kernel
theorem dX8_does_104 : decode cX8_does 104 = .ok (.bipush 26, 2) := by decide +kernel
theorem dX8_does_106 : decode cX8_does 106 = .ok (.invokestatic 8, 3) := by decide +kernel
theorem dX8_does_109 : decode cX8_does 109 = .ok (.invokevirtual 19, 3) := by decide +kernel
theorem dX8_does_112 : decode cX8_does 112 = .ok (.ireturn, 1) := by decide +kernel
theorem dX8_does_113 : decode cX8_does 113 = .ok (.iload_n 3, 1) := by decide +kernel
theorem dX8_does_114 : decode cX8_does 114 = .ok (.ifCond .ne 8, 3) := by decide +kernel
theorem dX8_does_117 : decode cX8_does 117 = .ok (.bipush (-2), 2) := by decide +kernel
theorem dX8_does_119 : decode cX8_does 119 = .ok (.goto 16, 3) := by decide +kernel
theorem dX8_does_122 : decode cX8_does 122 = .ok (.aload_n 0, 1) := by decide +kernel
theorem dX8_does_123 : decode cX8_does 123 = .ok (.iload_n 2, 1) := by decide +kernel
theorem dX8_does_124 : decode cX8_does 124 = .ok (.iload_n 1, 1) := by decide +kernel
theorem dX8_does_125 : decode cX8_does 125 = .ok (.bipush 6, 2) := by decide +kernel
theorem dX8_does_127 : decode cX8_does 127 = .ok (.ishr, 1) := by decide +kernel
theorem dX8_does_128 : decode cX8_does 128 = .ok (.iload_n 3, 1) := by decide +kernel
theorem dX8_does_129 : decode cX8_does 129 = .ok (.invokestatic 8, 3) := by decide +kernel
theorem dX8_does_132 : decode cX8_does 132 = .ok (.invokevirtual 23, 3) := by decide +kernel
theorem dX8_does_135 : decode cX8_does 135 = .ok (.ireturn, 1) := by decide +kernel
theorem dX8_does_136 : decode cX8_does 136 = .ok (.aload_n 0, 1) := by decide +kernel
theorem dX8_does_137 : decode cX8_does 137 = .ok (.iload_n 2, 1) := by decide +kernel
theorem dX8_does_138 : decode cX8_does 138 = .ok (.invokevirtual 26, 3) := by decide +kernel
theorem dX8_does_141 : decode cX8_does 141 = .ok (.ireturn, 1) := by decide +kernel
theorem dX8_does_142 : decode cX8_does 142 = .ok (.aload_n 0, 1) := by decide +kernel
theorem dX8_does_143 : decode cX8_does 143 = .ok (.iload_n 2, 1) := by decide +kernel
theorem dX8_does_144 : decode cX8_does 144 = .ok (.iload_n 1, 1) := by decide +kernel
theorem dX8_does_145 : decode cX8_does 145 = .ok (.bipush 6, 2) := by decide +kernel
theorem dX8_does_147 : decode cX8_does 147 = .ok (.ishr, 1) := by decide +kernel
theorem dX8_does_148 : decode cX8_does 148 = .ok (.iload_n 3, 1) := by decide +kernel
theorem dX8_does_149 : decode cX8_does 149 = .ok (.iconst 1, 1) := by decide +kernel
theorem dX8_does_150 : decode cX8_does 150 = .ok (.iadd, 1) := by decide +kernel
theorem dX8_does_151 : decode cX8_does 151 = .ok (.invokestatic 8, 3) := by decide +kernel
theorem dX8_does_154 : decode cX8_does 154 = .ok (.invokevirtual 30, 3) := by decide +kernel
theorem dX8_does_157 : decode cX8_does 157 = .ok (.ireturn, 1) := by decide +kernel
theorem dX8_does_158 : decode cX8_does 158 = .ok (.aload_n 0, 1) := by decide +kernel
theorem dX8_does_159 : decode cX8_does 159 = .ok (.iload_n 2, 1) := by decide +kernel
theorem dX8_does_160 : decode cX8_does 160 = .ok (.invokevirtual 33, 3) := by decide +kernel
theorem dX8_does_163 : decode cX8_does 163 = .ok (.ireturn, 1) := by decide +kernel
theorem dX8_does_164 : decode cX8_does 164 = .ok (.aload_n 0, 1) := by decide +kernel
theorem dX8_does_165 : decode cX8_does 165 = .ok (.iload_n 2, 1) := by decide +kernel
theorem dX8_does_166 : decode cX8_does 166 = .ok (.invokevirtual 36, 3) := by decide +kernel
theorem dX8_does_169 : decode cX8_does 169 = .ok (.ireturn, 1) := by decide +kernel
theorem dX8_does_170 : decode cX8_does 170 = .ok (.aload_n 0, 1) := by decide +kernel
theorem dX8_does_171 : decode cX8_does 171 = .ok (.iload_n 2, 1) := by decide +kernel
theorem dX8_does_172 : decode cX8_does 172 = .ok (.invokevirtual 39, 3) := by decide +kernel
theorem dX8_does_175 : decode cX8_does 175 = .ok (.ireturn, 1) := by decide +kernel
theorem dX8_areEditorsSo_0 : decode cX8_areEditorsSo 0 = .ok (.iconst 0, 1) := by decide +kernel
theorem dX8_areEditorsSo_1 : decode cX8_areEditorsSo 1 = .ok (.istore_n 1, 1) := by decide +kernel
theorem dX8_areEditorsSo_2 : decode cX8_areEditorsSo 2 = .ok (.iconst 0, 1) := by decide +kernel
theorem dX8_areEditorsSo_3 : decode cX8_areEditorsSo 3 = .ok (.istore_n 2, 1) := by decide +kernel
theorem dX8_areEditorsSo_4 : decode cX8_areEditorsSo 4 = .ok (.iconst 0, 1) := by decide +kernel
theorem dX8_areEditorsSo_5 : decode cX8_areEditorsSo 5 = .ok (.istore_n 3, 1) := by decide +kernel
theorem dX8_areEditorsSo_6 : decode cX8_areEditorsSo 6 = .ok (.iconst 0, 1) := by decide +kernel
theorem dX8_areEditorsSo_7 : decode cX8_areEditorsSo 7 = .ok (.istore 4, 2) := by decide +kernel
theorem dX8_areEditorsSo_9 : decode cX8_areEditorsSo 9 = .ok (.iconst 0, 1) := by decide +kernel
theorem dX8_areEditorsSo_10 : decode cX8_areEditorsSo 10 = .ok (.istore 5, 2) := by decide +kernel
theorem dX8_areEditorsSo_12 : decode cX8_areEditorsSo 12 = .ok (.iload 5, 2) := by decide +kernel
theorem dX8_areEditorsSo_14 : decode cX8_areEditorsSo 14 = .ok (.aload_n 0, 1) := by decide +kernel
theorem dX8_areEditorsSo_15 : decode cX8_areEditorsSo 15 = .ok (.iconst 0, 1) := by decide +kernel
theorem dX8_areEditorsSo_16 : decode cX8_areEditorsSo 16 = .ok (.invokevirtual 42, 3) := by decide +kernel
theorem dX8_areEditorsSo_19 : decode cX8_areEditorsSo 19 = .ok (.if_icmp .ge 57, 3) := by decide +kernel
theorem dX8_areEditorsSo_22 : decode cX8_areEditorsSo 22 = .ok (.aload_n 0, 1) := by decide +kernel
theorem dX8_areEditorsSo_23 : decode cX8_areEditorsSo 23 = .ok (.iload 5, 2) := by decide +kernel
theorem dX8_areEditorsSo_25 : decode cX8_areEditorsSo 25 = .ok (.iconst 0, 1) := by decide +kernel
theorem dX8_areEditorsSo_26 : decode cX8_areEditorsSo 26 = .ok (.invokevirtual 45, 3) := by decide +kernel
theorem dX8_areEditorsSo_29 : decode cX8_areEditorsSo 29 = .ok (.istore 6, 2) := by decide +kernel
theorem dX8_areEditorsSo_31 : decode cX8_areEditorsSo 31 = .ok (.iload_n 3, 1) := by decide +kernel
theorem dX8_areEditorsSo_32 : decode cX8_areEditorsSo 32 = .ok (.iload 6, 2) := by decide +kernel
theorem dX8_areEditorsSo_34 : decode cX8_areEditorsSo 34 = .ok (.iconst 1, 1) := by decide +kernel
theorem dX8_areEditorsSo_35 : decode cX8_areEditorsSo 35 = .ok (.if_icmp .ne 7, 3) := by decide +kernel
theorem dX8_areEditorsSo_38 : decode cX8_areEditorsSo 38 = .ok (.iconst 1, 1) := by decide +kernel
theorem dX8_areEditorsSo_39 : decode cX8_areEditorsSo 39 = .ok (.goto 14, 3) := by decide +kernel
theorem dX8_areEditorsSo_42 : decode cX8_areEditorsSo 42 = .ok (.iload 6, 2) := by decide +kernel
theorem dX8_areEditorsSo_44 : decode cX8_areEditorsSo 44 = .ok (.iconst 2, 1) := by decide +kernel
theorem dX8_areEditorsSo_45 : decode cX8_areEditorsSo 45 = .ok (.if_icmp .ne 7, 3) := by decide +kernel
theorem dX8_areEditorsSo_48 : decode cX8_areEditorsSo 48 = .ok (.iconst (-1), 1) := by decide +kernel
theorem dX8_areEditorsSo_49 : decode cX8_areEditorsSo 49 = .ok (.goto 4, 3) := by decide +kernel
theorem dX8_areEditorsSo_52 : decode cX8_areEditorsSo 52 = .ok (.iconst 0, 1) := by decide +kernel
theorem dX8_areEditorsSo_53 : decode cX8_areEditorsSo 53 = .ok (.iadd, 1) := by decide +kernel
theorem dX8_areEditorsSo_54 : decode cX8_areEditorsSo 54 = .ok (.istore_n 3, 1) := by decide +kernel
theorem dX8_areEditorsSo_55 : decode cX8_areEditorsSo 55 = .ok (.iload 4, 2) := by decide +kernel
theorem dX8_areEditorsSo_57 : decode cX8_areEditorsSo 57 = .ok (.iload 6, 2) := by decide +kernel
theorem dX8_areEditorsSo_59 : decode cX8_areEditorsSo 59 = .ok (.ifCond .ne 7, 3) := by decide +kernel
theorem dX8_areEditorsSo_62 : decode cX8_areEditorsSo 62 = .ok (.iconst 1, 1) := by decide +kernel
theorem dX8_areEditorsSo_63 : decode cX8_areEditorsSo 63 = .ok (.goto 4, 3) := by decide +kernel
theorem dX8_areEditorsSo_66 : decode cX8_areEditorsSo 66 = .ok (.iconst 0, 1) := by decide +kernel
theorem dX8_areEditorsSo_67 : decode cX8_areEditorsSo 67 = .ok (.iadd, 1) := by decide +kernel
theorem dX8_areEditorsSo_68 : decode cX8_areEditorsSo 68 = .ok (.istore 4, 2) := by decide +kernel
theorem dX8_areEditorsSo_70 : decode cX8_areEditorsSo 70 = .ok (.iinc 5 1, 3) := by decide +kernel
theorem dX8_areEditorsSo_73 : decode cX8_areEditorsSo 73 = .ok (.goto (-61), 3) := by decide +kernel
theorem dX8_areEditorsSo_76 : decode cX8_areEditorsSo 76 = .ok (.iconst 0, 1) := by decide +kernel
theorem dX8_areEditorsSo_77 : decode cX8_areEditorsSo 77 = .ok (.istore 5, 2) := by decide +kernel
theorem dX8_areEditorsSo_79 : decode cX8_areEditorsSo 79 = .ok (.iload 5, 2) := by decide +kernel
theorem dX8_areEditorsSo_81 : decode cX8_areEditorsSo 81 = .ok (.iconst 3, 1) := by decide +kernel
theorem dX8_areEditorsSo_82 : decode cX8_areEditorsSo 82 = .ok (.if_icmp .ge 218, 3) := by decide +kernel
theorem dX8_areEditorsSo_85 : decode cX8_areEditorsSo 85 = .ok (.aload_n 0, 1) := by decide +kernel
theorem dX8_areEditorsSo_86 : decode cX8_areEditorsSo 86 = .ok (.iload 5, 2) := by decide +kernel
theorem dX8_areEditorsSo_88 : decode cX8_areEditorsSo 88 = .ok (.iconst 1, 1) := by decide +kernel
theorem dX8_areEditorsSo_89 : decode cX8_areEditorsSo 89 = .ok (.invokevirtual 14, 3) := by decide +kernel
theorem dX8_areEditorsSo_92 : decode cX8_areEditorsSo 92 = .ok (.istore 6, 2) := by decide +kernel
theorem dX8_areEditorsSo_94 : decode cX8_areEditorsSo 94 = .ok (.iload 6, 2) := by decide +kernel
theorem dX8_areEditorsSo_96 : decode cX8_areEditorsSo 96 = .ok (.ifCond .ne 17, 3) := by decide +kernel
theorem dX8_areEditorsSo_99 : decode cX8_areEditorsSo 99 = .ok (.aload_n 0, 1) := by decide +kernel
theorem dX8_areEditorsSo_100 : decode cX8_areEditorsSo 100 = .ok (.iload 5, 2) := by decide +kernel
theorem dX8_areEditorsSo_102 : decode cX8_areEditorsSo 102 = .ok (.iconst 4, 1) := by decide +kernel
theorem dX8_areEditorsSo_103 : decode cX8_areEditorsSo 103 = .ok (.invokevirtual 14, 3) := by decide +kernel
theorem dX8_areEditorsSo_106 : decode cX8_areEditorsSo 106 = .ok (.ifCond .ne 7, 3) := by decide +kernel
theorem dX8_areEditorsSo_109 : decode cX8_areEditorsSo 109 = .ok (.iconst 1, 1) := by decide +kernel
theorem dX8_areEditorsSo_110 : decode cX8_areEditorsSo 110 = .ok (.goto 4, 3) := by decide +kernel
theorem dX8_areEditorsSo_113 : decode cX8_areEditorsSo 113 = .ok (.iconst 0, 1) := by decide +kernel
theorem dX8_areEditorsSo_114 : decode cX8_areEditorsSo 114 = .ok (.istore 7, 2) := by decide +kernel
theorem dX8_areEditorsSo_116 : decode cX8_areEditorsSo 116 = .ok (.iload_n 1, 1) := by decide +kernel
theorem dX8_areEditorsSo_117 : decode cX8_areEditorsSo 117 = .ok (.iload 6, 2) := by decide +kernel
theorem dX8_areEditorsSo_119 : decode cX8_areEditorsSo 119 = .ok (.iadd, 1) := by decide +kernel
theorem dX8_areEditorsSo_120 : decode cX8_areEditorsSo 120 = .ok (.istore_n 1, 1) := by decide +kernel
theorem dX8_areEditorsSo_121 : decode cX8_areEditorsSo 121 = .ok (.iload_n 2, 1) := by decide +kernel
theorem dX8_areEditorsSo_122 : decode cX8_areEditorsSo 122 = .ok (.iload 7, 2) := by decide +kernel
theorem dX8_areEditorsSo_124 : decode cX8_areEditorsSo 124 = .ok (.ifCond .eq 7, 3) := by decide +kernel
theorem dX8_areEditorsSo_127 : decode cX8_areEditorsSo 127 = .ok (.iconst 1, 1) := by decide +kernel
theorem dX8_areEditorsSo_128 : decode cX8_areEditorsSo 128 = .ok (.goto 4, 3) := by decide +kernel
theorem dX8_areEditorsSo_131 : decode cX8_areEditorsSo 131 = .ok (.iconst 0, 1) := by decide +kernel
theorem dX8_areEditorsSo_132 : decode cX8_areEditorsSo 132 = .ok (.iadd, 1) := by decide +kernel
theorem dX8_areEditorsSo_133 : decode cX8_areEditorsSo 133 = .ok (.istore_n 2, 1) := by decide +kernel
theorem dX8_areEditorsSo_134 : decode cX8_areEditorsSo 134 = .ok (.aload_n 0, 1) := by decide +kernel
theorem dX8_areEditorsSo_135 : decode cX8_areEditorsSo 135 = .ok (.iload 5, 2) := by decide +kernel
theorem dX8_areEditorsSo_137 : decode cX8_areEditorsSo 137 = .ok (.iconst 3, 1) := by decide +kernel
theorem dX8_areEditorsSo_138 : decode cX8_areEditorsSo 138 = .ok (.invokevirtual 14, 3) := by decide +kernel
theorem dX8_areEditorsSo_141 : decode cX8_areEditorsSo 141 = .ok (.aload_n 0, 1) := by decide +kernel
theorem dX8_areEditorsSo_142 : decode cX8_areEditorsSo 142 = .ok (.iload 5, 2) := by decide +kernel
theorem dX8_areEditorsSo_144 : decode cX8_areEditorsSo 144 = .ok (.iconst 4, 1) := by decide +kernel
theorem dX8_areEditorsSo_145 : decode cX8_areEditorsSo 145 = .ok (.invokevirtual 14, 3) := by decide +kernel
theorem dX8_areEditorsSo_148 : decode cX8_areEditorsSo 148 = .ok (.iadd, 1) := by decide +kernel
theorem dX8_areEditorsSo_149 : decode cX8_areEditorsSo 149 = .ok (.aload_n 0, 1) := by decide +kernel
theorem dX8_areEditorsSo_150 : decode cX8_areEditorsSo 150 = .ok (.iconst 0, 1) := by decide +kernel
theorem dX8_areEditorsSo_151 : decode cX8_areEditorsSo 151 = .ok (.invokevirtual 42, 3) := by decide +kernel
theorem dX8_areEditorsSo_154 : decode cX8_areEditorsSo 154 = .ok (.if_icmp .ne 58, 3) := by decide +kernel
theorem dX8_areEditorsSo_157 : decode cX8_areEditorsSo 157 = .ok (.aload_n 0, 1) := by decide +kernel
theorem dX8_areEditorsSo_158 : decode cX8_areEditorsSo 158 = .ok (.iload 5, 2) := by decide +kernel
theorem dX8_areEditorsSo_160 : decode cX8_areEditorsSo 160 = .ok (.iconst 5, 1) := by decide +kernel
theorem dX8_areEditorsSo_161 : decode cX8_areEditorsSo 161 = .ok (.invokevirtual 14, 3) := by decide +kernel
theorem dX8_areEditorsSo_164 : decode cX8_areEditorsSo 164 = .ok (.ifCond .lt 48, 3) := by decide +kernel
theorem dX8_areEditorsSo_167 : decode cX8_areEditorsSo 167 = .ok (.aload_n 0, 1) := by decide +kernel
theorem dX8_areEditorsSo_168 : decode cX8_areEditorsSo 168 = .ok (.iload 5, 2) := by decide +kernel
theorem dX8_areEditorsSo_170 : decode cX8_areEditorsSo 170 = .ok (.iconst 5, 1) := by decide +kernel
theorem dX8_areEditorsSo_171 : decode cX8_areEditorsSo 171 = .ok (.invokevirtual 14, 3) := by decide +kernel
theorem dX8_areEditorsSo_174 : decode cX8_areEditorsSo 174 = .ok (.aload_n 0, 1) := by decide +kernel
theorem dX8_areEditorsSo_175 : decode cX8_areEditorsSo 175 = .ok (.iload 5, 2) := by decide +kernel
theorem dX8_areEditorsSo_177 : decode cX8_areEditorsSo 177 = .ok (.iconst 0, 1) := by decide +kernel
theorem dX8_areEditorsSo_178 : decode cX8_areEditorsSo 178 = .ok (.invokevirtual 14, 3) := by decide +kernel
theorem dX8_areEditorsSo_181 : decode cX8_areEditorsSo 181 = .ok (.if_icmp .gt 31, 3) := by decide +kernel
theorem dX8_areEditorsSo_184 : decode cX8_areEditorsSo 184 = .ok (.iload 7, 2) := by decide +kernel
theorem dX8_areEditorsSo_186 : decode cX8_areEditorsSo 186 = .ok (.ifCond .eq 15, 3) := by decide +kernel
theorem dX8_areEditorsSo_189 : decode cX8_areEditorsSo 189 = .ok (.aload_n 0, 1) := by decide +kernel
theorem dX8_areEditorsSo_190 : decode cX8_areEditorsSo 190 = .ok (.iload 5, 2) := by decide +kernel
theorem dX8_areEditorsSo_192 : decode cX8_areEditorsSo 192 = .ok (.bipush 7, 2) := by decide +kernel
theorem dX8_areEditorsSo_194 : decode cX8_areEditorsSo 194 = .ok (.invokevirtual 14, 3) := by decide +kernel
theorem dX8_areEditorsSo_197 : decode cX8_areEditorsSo 197 = .ok (.iconst 1, 1) := by decide +kernel
theorem dX8_areEditorsSo_198 : decode cX8_areEditorsSo 198 = .ok (.if_icmp .ne 14, 3) := by decide +kernel
theorem dX8_areEditorsSo_201 : decode cX8_areEditorsSo 201 = .ok (.iload 6, 2) := by decide +kernel
theorem dX8_areEditorsSo_203 : decode cX8_areEditorsSo 203 = .ok (.bipush 6, 2) := by decide +kernel
theorem dX8_areEditorsSo_205 : decode cX8_areEditorsSo 205 = .ok (.if_icmp .gt 7, 3) := by decide +kernel
theorem dX8_areEditorsSo_208 : decode cX8_areEditorsSo 208 = .ok (.iconst 1, 1) := by decide +kernel
theorem dX8_areEditorsSo_209 : decode cX8_areEditorsSo 209 = .ok (.goto 4, 3) := by decide +kernel
theorem dX8_areEditorsSo_212 : decode cX8_areEditorsSo 212 = .ok (.iconst 0, 1) := by decide +kernel
theorem dX8_areEditorsSo_213 : decode cX8_areEditorsSo 213 = .ok (.istore 8, 2) := by decide +kernel
theorem dX8_areEditorsSo_215 : decode cX8_areEditorsSo 215 = .ok (.iload 8, 2) := by decide +kernel
theorem dX8_areEditorsSo_217 : decode cX8_areEditorsSo 217 = .ok (.ifCond .eq 67, 3) := by decide +kernel
theorem dX8_areEditorsSo_220 : decode cX8_areEditorsSo 220 = .ok (.iload 6, 2) := by decide +kernel
theorem dX8_areEditorsSo_222 : decode cX8_areEditorsSo 222 = .ok (.ifCond .gt 13, 3) := by decide +kernel
theorem dX8_areEditorsSo_225 : decode cX8_areEditorsSo 225 = .ok (.aload_n 0, 1) := by decide +kernel
theorem dX8_areEditorsSo_226 : decode cX8_areEditorsSo 226 = .ok (.iload 5, 2) := by decide +kernel
theorem dX8_areEditorsSo_228 : decode cX8_areEditorsSo 228 = .ok (.iconst 2, 1) := by decide +kernel
theorem dX8_areEditorsSo_229 : decode cX8_areEditorsSo 229 = .ok (.invokevirtual 14, 3) := by decide +kernel
theorem dX8_areEditorsSo_232 : decode cX8_areEditorsSo 232 = .ok (.ifCond .ne 52, 3) := by decide +kernel
theorem dX8_areEditorsSo_235 : decode cX8_areEditorsSo 235 = .ok (.aload_n 0, 1) := by decide +kernel
theorem dX8_areEditorsSo_236 : decode cX8_areEditorsSo 236 = .ok (.iload 5, 2) := by decide +kernel
theorem dX8_areEditorsSo_238 : decode cX8_areEditorsSo 238 = .ok (.iload 6, 2) := by decide +kernel
theorem dX8_areEditorsSo_240 : decode cX8_areEditorsSo 240 = .ok (.iconst 0, 1) := by decide +kernel
theorem dX8_areEditorsSo_241 : decode cX8_areEditorsSo 241 = .ok (.invokevirtual 48, 3) := by decide +kernel
theorem dX8_areEditorsSo_244 : decode cX8_areEditorsSo 244 = .ok (.bipush (-4), 2) := by decide +kernel
theorem dX8_areEditorsSo_246 : decode cX8_areEditorsSo 246 = .ok (.if_icmp .ne 38, 3) := by decide +kernel
theorem dX8_areEditorsSo_249 : decode cX8_areEditorsSo 249 = .ok (.aload_n 0, 1) := by decide +kernel
theorem dX8_areEditorsSo_250 : decode cX8_areEditorsSo 250 = .ok (.iload 5, 2) := by decide +kernel
theorem dX8_areEditorsSo_252 : decode cX8_areEditorsSo 252 = .ok (.bipush 6, 2) := by decide +kernel
theorem dX8_areEditorsSo_254 : decode cX8_areEditorsSo 254 = .ok (.invokevirtual 14, 3) := by decide +kernel
theorem dX8_areEditorsSo_257 : decode cX8_areEditorsSo 257 = .ok (.bipush 6, 2) := by decide +kernel
theorem dX8_areEditorsSo_259 : decode cX8_areEditorsSo 259 = .ok (.if_icmp .gt 25, 3) := by decide +kernel
theorem dX8_areEditorsSo_262 : decode cX8_areEditorsSo 262 = .ok (.aload_n 0, 1) := by decide +kernel
theorem dX8_areEditorsSo_263 : decode cX8_areEditorsSo 263 = .ok (.iload 5, 2) := by decide +kernel
theorem dX8_areEditorsSo_265 : decode cX8_areEditorsSo 265 = .ok (.aload_n 0, 1) := by decide +kernel
theorem dX8_areEditorsSo_266 : decode cX8_areEditorsSo 266 = .ok (.iload 5, 2) := by decide +kernel
theorem dX8_areEditorsSo_268 : decode cX8_areEditorsSo 268 = .ok (.iconst 0, 1) := by decide +kernel
theorem dX8_areEditorsSo_269 : decode cX8_areEditorsSo 269 = .ok (.invokevirtual 14, 3) := by decide +kernel
theorem dX8_areEditorsSo_272 : decode cX8_areEditorsSo 272 = .ok (.invokevirtual 51, 3) := by decide +kernel
theorem dX8_areEditorsSo_275 : decode cX8_areEditorsSo 275 = .ok (.bipush (-4), 2) := by decide +kernel
theorem dX8_areEditorsSo_277 : decode cX8_areEditorsSo 277 = .ok (.if_icmp .ne 7, 3) := by decide +kernel
theorem dX8_areEditorsSo_280 : decode cX8_areEditorsSo 280 = .ok (.iconst 1, 1) := by decide +kernel
theorem dX8_areEditorsSo_281 : decode cX8_areEditorsSo 281 = .ok (.goto 4, 3) := by decide +kernel
theorem dX8_areEditorsSo_284 : decode cX8_areEditorsSo 284 = .ok (.iconst 0, 1) := by decide +kernel
theorem dX8_areEditorsSo_285 : decode cX8_areEditorsSo 285 = .ok (.istore 8, 2) := by decide +kernel
theorem dX8_areEditorsSo_287 : decode cX8_areEditorsSo 287 = .ok (.iload 8, 2) := by decide +kernel
theorem dX8_areEditorsSo_289 : decode cX8_areEditorsSo 289 = .ok (.ifCond .ne 5, 3) := by decide +kernel
theorem dX8_areEditorsSo_292 : decode cX8_areEditorsSo 292 = .ok (.iconst 0, 1) := by decide +kernel
theorem dX8_areEditorsSo_293 : decode cX8_areEditorsSo 293 = .ok (.ireturn, 1) := by decide +kernel
theorem dX8_areEditorsSo_294 : decode cX8_areEditorsSo 294 = .ok (.iinc 5 1, 3) := by decide +kernel
theorem dX8_areEditorsSo_297 : decode cX8_areEditorsSo 297 = .ok (.goto (-218), 3) := by decide +kernel
theorem dX8_areEditorsSo_300 : decode cX8_areEditorsSo 300 = .ok (.iload_n 1, 1) := by decide +kernel
theorem dX8_areEditorsSo_301 : decode cX8_areEditorsSo 301 = .ok (.aload_n 0, 1) := by decide +kernel
theorem dX8_areEditorsSo_302 : decode cX8_areEditorsSo 302 = .ok (.iconst 3, 1) := by decide +kernel
theorem dX8_areEditorsSo_303 : decode cX8_areEditorsSo 303 = .ok (.invokevirtual 42, 3) := by decide +kernel
theorem dX8_areEditorsSo_306 : decode cX8_areEditorsSo 306 = .ok (.if_icmp .ne 35, 3) := by decide +kernel
theorem dX8_areEditorsSo_309 : decode cX8_areEditorsSo 309 = .ok (.iload_n 2, 1) := by decide +kernel
theorem dX8_areEditorsSo_310 : decode cX8_areEditorsSo 310 = .ok (.aload_n 0, 1) := by decide +kernel
theorem dX8_areEditorsSo_311 : decode cX8_areEditorsSo 311 = .ok (.iconst 4, 1) := by decide +kernel
theorem dX8_areEditorsSo_312 : decode cX8_areEditorsSo 312 = .ok (.invokevirtual 42, 3) := by decide +kernel
theorem dX8_areEditorsSo_315 : decode cX8_areEditorsSo 315 = .ok (.if_icmp .ne 26, 3) := by decide +kernel
theorem dX8_areEditorsSo_318 : decode cX8_areEditorsSo 318 = .ok (.iload_n 3, 1) := by decide +kernel
theorem dX8_areEditorsSo_319 : decode cX8_areEditorsSo 319 = .ok (.aload_n 0, 1) := by decide +kernel
theorem dX8_areEditorsSo_320 : decode cX8_areEditorsSo 320 = .ok (.iconst 1, 1) := by decide +kernel
theorem dX8_areEditorsSo_321 : decode cX8_areEditorsSo 321 = .ok (.invokevirtual 42, 3) := by decide +kernel
theorem dX8_areEditorsSo_324 : decode cX8_areEditorsSo 324 = .ok (.if_icmp .ne 17, 3) := by decide +kernel
theorem dX8_areEditorsSo_327 : decode cX8_areEditorsSo 327 = .ok (.iload 4, 2) := by decide +kernel
theorem dX8_areEditorsSo_329 : decode cX8_areEditorsSo 329 = .ok (.aload_n 0, 1) := by decide +kernel
theorem dX8_areEditorsSo_330 : decode cX8_areEditorsSo 330 = .ok (.iconst 2, 1) := by decide +kernel
theorem dX8_areEditorsSo_331 : decode cX8_areEditorsSo 331 = .ok (.invokevirtual 42, 3) := by decide +kernel
theorem dX8_areEditorsSo_334 : decode cX8_areEditorsSo 334 = .ok (.if_icmp .ne 7, 3) := by decide +kernel
theorem dX8_areEditorsSo_337 : decode cX8_areEditorsSo 337 = .ok (.iconst 1, 1) := by decide +kernel
theorem dX8_areEditorsSo_338 : decode cX8_areEditorsSo 338 = .ok (.goto 4, 3) := by decide +kernel
theorem dX8_areEditorsSo_341 : decode cX8_areEditorsSo 341 = .ok (.iconst 0, 1) := by decide +kernel
theorem dX8_areEditorsSo_342 : decode cX8_areEditorsSo 342 = .ok (.istore 5, 2) := by decide +kernel
theorem dX8_areEditorsSo_344 : decode cX8_areEditorsSo 344 = .ok (.iload 5, 2) := by decide +kernel
theorem dX8_areEditorsSo_346 : decode cX8_areEditorsSo 346 = .ok (.ifCond .eq 42, 3) := by decide +kernel
theorem dX8_areEditorsSo_349 : decode cX8_areEditorsSo 349 = .ok (.aload_n 0, 1) := by decide +kernel
theorem dX8_areEditorsSo_350 : decode cX8_areEditorsSo 350 = .ok (.iload_n 3, 1) := by decide +kernel
theorem dX8_areEditorsSo_351 : decode cX8_areEditorsSo 351 = .ok (.invokevirtual 54, 3) := by decide +kernel
theorem dX8_areEditorsSo_354 : decode cX8_areEditorsSo 354 = .ok (.bipush (-4), 2) := by decide +kernel
theorem dX8_areEditorsSo_356 : decode cX8_areEditorsSo 356 = .ok (.if_icmp .ne 32, 3) := by decide +kernel
theorem dX8_areEditorsSo_359 : decode cX8_areEditorsSo 359 = .ok (.iload_n 3, 1) := by decide +kernel
theorem dX8_areEditorsSo_360 : decode cX8_areEditorsSo 360 = .ok (.ifCond .eq 24, 3) := by decide +kernel
theorem dX8_areEditorsSo_363 : decode cX8_areEditorsSo 363 = .ok (.aload_n 0, 1) := by decide +kernel
theorem dX8_areEditorsSo_364 : decode cX8_areEditorsSo 364 = .ok (.iload_n 3, 1) := by decide +kernel
theorem dX8_areEditorsSo_365 : decode cX8_areEditorsSo 365 = .ok (.iconst 1, 1) := by decide +kernel
theorem dX8_areEditorsSo_366 : decode cX8_areEditorsSo 366 = .ok (.isub, 1) := by decide +kernel
theorem dX8_areEditorsSo_367 : decode cX8_areEditorsSo 367 = .ok (.invokevirtual 54, 3) := by decide +kernel
theorem dX8_areEditorsSo_370 : decode cX8_areEditorsSo 370 = .ok (.ifCond .lt 18, 3) := by decide +kernel
theorem dX8_areEditorsSo_373 : decode cX8_areEditorsSo 373 = .ok (.aload_n 0, 1) := by decide +kernel
theorem dX8_areEditorsSo_374 : decode cX8_areEditorsSo 374 = .ok (.iconst 3, 1) := by decide +kernel
theorem dX8_areEditorsSo_375 : decode cX8_areEditorsSo 375 = .ok (.iload_n 3, 1) := by decide +kernel
theorem dX8_areEditorsSo_376 : decode cX8_areEditorsSo 376 = .ok (.iconst 1, 1) := by decide +kernel
theorem dX8_areEditorsSo_377 : decode cX8_areEditorsSo 377 = .ok (.isub, 1) := by decide +kernel
theorem dX8_areEditorsSo_378 : decode cX8_areEditorsSo 378 = .ok (.invokevirtual 51, 3) := by decide +kernel
theorem dX8_areEditorsSo_381 : decode cX8_areEditorsSo 381 = .ok (.ifCond .lt 7, 3) := by decide +kernel
theorem dX8_areEditorsSo_384 : decode cX8_areEditorsSo 384 = .ok (.iconst 1, 1) := by decide +kernel
theorem dX8_areEditorsSo_385 : decode cX8_areEditorsSo 385 = .ok (.goto 4, 3) := by decide +kernel
theorem dX8_areEditorsSo_388 : decode cX8_areEditorsSo 388 = .ok (.iconst 0, 1) := by decide +kernel
theorem dX8_areEditorsSo_389 : decode cX8_areEditorsSo 389 = .ok (.ireturn, 1) := by decide +kernel
theorem dX8_isSendSo_0 : decode cX8_isSendSo 0 = .ok (.aload_n 0, 1) := by decide +kernel
theorem dX8_isSendSo_1 : decode cX8_isSendSo 1 = .ok (.iload_n 1, 1) := by decide +kernel
theorem dX8_isSendSo_2 : decode cX8_isSendSo 2 = .ok (.iconst 0, 1) := by decide +kernel
theorem dX8_isSendSo_3 : decode cX8_isSendSo 3 = .ok (.invokevirtual 57, 3) := by decide +kernel
theorem dX8_isSendSo_6 : decode cX8_isSendSo 6 = .ok (.istore_n 2, 1) := by decide +kernel
theorem dX8_isSendSo_7 : decode cX8_isSendSo 7 = .ok (.aload_n 0, 1) := by decide +kernel
theorem dX8_isSendSo_8 : decode cX8_isSendSo 8 = .ok (.iload_n 1, 1) := by decide +kernel
theorem dX8_isSendSo_9 : decode cX8_isSendSo 9 = .ok (.iconst 1, 1) := by decide +kernel
theorem dX8_isSendSo_10 : decode cX8_isSendSo 10 = .ok (.invokevirtual 57, 3) := by decide +kernel
theorem dX8_isSendSo_13 : decode cX8_isSendSo 13 = .ok (.istore_n 3, 1) := by decide +kernel
theorem dX8_isSendSo_14 : decode cX8_isSendSo 14 = .ok (.aload_n 0, 1) := by decide +kernel
theorem dX8_isSendSo_15 : decode cX8_isSendSo 15 = .ok (.iconst 0, 1) := by decide +kernel
theorem dX8_isSendSo_16 : decode cX8_isSendSo 16 = .ok (.invokevirtual 42, 3) := by decide +kernel
theorem dX8_isSendSo_19 : decode cX8_isSendSo 19 = .ok (.istore 4, 2) := by decide +kernel
theorem dX8_isSendSo_21 : decode cX8_isSendSo 21 = .ok (.aload_n 0, 1) := by decide +kernel
theorem dX8_isSendSo_22 : decode cX8_isSendSo 22 = .ok (.iload_n 1, 1) := by decide +kernel
theorem dX8_isSendSo_23 : decode cX8_isSendSo 23 = .ok (.invokevirtual 33, 3) := by decide +kernel
theorem dX8_isSendSo_26 : decode cX8_isSendSo 26 = .ok (.istore 5, 2) := by decide +kernel
theorem dX8_isSendSo_28 : decode cX8_isSendSo 28 = .ok (.iload 5, 2) := by decide +kernel
theorem dX8_isSendSo_30 : decode cX8_isSendSo 30 = .ok (.ifCond .ge 49, 3) := by decide +kernel
theorem dX8_isSendSo_33 : decode cX8_isSendSo 33 = .ok (.iload 5, 2) := by decide +kernel
theorem dX8_isSendSo_35 : decode cX8_isSendSo 35 = .ok (.bipush (-2), 2) := by decide +kernel
theorem dX8_isSendSo_37 : decode cX8_isSendSo 37 = .ok (.if_icmp .ne 7, 3) := by decide +kernel
theorem dX8_isSendSo_40 : decode cX8_isSendSo 40 = .ok (.iconst 1, 1) := by decide +kernel
theorem dX8_isSendSo_41 : decode cX8_isSendSo 41 = .ok (.goto 4, 3) := by decide +kernel
theorem dX8_isSendSo_44 : decode cX8_isSendSo 44 = .ok (.iconst 0, 1) := by decide +kernel
theorem dX8_isSendSo_45 : decode cX8_isSendSo 45 = .ok (.iload_n 2, 1) := by decide +kernel
theorem dX8_isSendSo_46 : decode cX8_isSendSo 46 = .ok (.bipush (-2), 2) := by decide +kernel
theorem dX8_isSendSo_48 : decode cX8_isSendSo 48 = .ok (.if_icmp .ne 7, 3) := by decide +kernel
theorem dX8_isSendSo_51 : decode cX8_isSendSo 51 = .ok (.iconst 1, 1) := by decide +kernel
theorem dX8_isSendSo_52 : decode cX8_isSendSo 52 = .ok (.goto 4, 3) := by decide +kernel
theorem dX8_isSendSo_55 : decode cX8_isSendSo 55 = .ok (.iconst 0, 1) := by decide +kernel
theorem dX8_isSendSo_56 : decode cX8_isSendSo 56 = .ok (.if_icmp .ne 21, 3) := by decide +kernel
theorem dX8_isSendSo_59 : decode cX8_isSendSo 59 = .ok (.iload 5, 2) := by decide +kernel
theorem dX8_isSendSo_61 : decode cX8_isSendSo 61 = .ok (.bipush (-2), 2) := by decide +kernel
theorem dX8_isSendSo_63 : decode cX8_isSendSo 63 = .ok (.if_icmp .eq 10, 3) := by decide +kernel
theorem dX8_isSendSo_66 : decode cX8_isSendSo 66 = .ok (.iload 4, 2) := by decide +kernel
theorem dX8_isSendSo_68 : decode cX8_isSendSo 68 = .ok (.bipush 60, 2) := by decide +kernel
theorem dX8_isSendSo_70 : decode cX8_isSendSo 70 = .ok (.if_icmp .ne 7, 3) := by decide +kernel
theorem dX8_isSendSo_73 : decode cX8_isSendSo 73 = .ok (.iconst 1, 1) := by decide +kernel
theorem dX8_isSendSo_74 : decode cX8_isSendSo 74 = .ok (.goto 4, 3) := by decide +kernel
theorem dX8_isSendSo_77 : decode cX8_isSendSo 77 = .ok (.iconst 0, 1) := by decide +kernel
theorem dX8_isSendSo_78 : decode cX8_isSendSo 78 = .ok (.ireturn, 1) := by decide +kernel
theorem dX8_isSendSo_79 : decode cX8_isSendSo 79 = .ok (.iload 5, 2) := by decide +kernel
theorem dX8_isSendSo_81 : decode cX8_isSendSo 81 = .ok (.iload 4, 2) := by decide +kernel
theorem dX8_isSendSo_83 : decode cX8_isSendSo 83 = .ok (.iconst 1, 1) := by decide +kernel
theorem dX8_isSendSo_84 : decode cX8_isSendSo 84 = .ok (.iadd, 1) := by decide +kernel
theorem dX8_isSendSo_85 : decode cX8_isSendSo 85 = .ok (.if_icmp .ne 50, 3) := by decide +kernel
theorem dX8_isSendSo_88 : decode cX8_isSendSo 88 = .ok (.aload_n 0, 1) := by decide +kernel
theorem dX8_isSendSo_89 : decode cX8_isSendSo 89 = .ok (.iload 4, 2) := by decide +kernel
theorem dX8_isSendSo_91 : decode cX8_isSendSo 91 = .ok (.iconst 0, 1) := by decide +kernel
theorem dX8_isSendSo_92 : decode cX8_isSendSo 92 = .ok (.invokevirtual 45, 3) := by decide +kernel
theorem dX8_isSendSo_95 : decode cX8_isSendSo 95 = .ok (.iload_n 2, 1) := by decide +kernel
theorem dX8_isSendSo_96 : decode cX8_isSendSo 96 = .ok (.if_icmp .ne 39, 3) := by decide +kernel
theorem dX8_isSendSo_99 : decode cX8_isSendSo 99 = .ok (.aload_n 0, 1) := by decide +kernel
theorem dX8_isSendSo_100 : decode cX8_isSendSo 100 = .ok (.iload 4, 2) := by decide +kernel
theorem dX8_isSendSo_102 : decode cX8_isSendSo 102 = .ok (.iconst 1, 1) := by decide +kernel
theorem dX8_isSendSo_103 : decode cX8_isSendSo 103 = .ok (.invokevirtual 45, 3) := by decide +kernel
theorem dX8_isSendSo_106 : decode cX8_isSendSo 106 = .ok (.iload_n 3, 1) := by decide +kernel
theorem dX8_isSendSo_107 : decode cX8_isSendSo 107 = .ok (.if_icmp .ne 28, 3) := by decide +kernel
theorem dX8_isSendSo_110 : decode cX8_isSendSo 110 = .ok (.aload_n 0, 1) := by decide +kernel
theorem dX8_isSendSo_111 : decode cX8_isSendSo 111 = .ok (.iload 4, 2) := by decide +kernel
theorem dX8_isSendSo_113 : decode cX8_isSendSo 113 = .ok (.iconst 3, 1) := by decide +kernel
theorem dX8_isSendSo_114 : decode cX8_isSendSo 114 = .ok (.invokevirtual 45, 3) := by decide +kernel
theorem dX8_isSendSo_117 : decode cX8_isSendSo 117 = .ok (.iload_n 1, 1) := by decide +kernel
theorem dX8_isSendSo_118 : decode cX8_isSendSo 118 = .ok (.if_icmp .ne 17, 3) := by decide +kernel
theorem dX8_isSendSo_121 : decode cX8_isSendSo 121 = .ok (.aload_n 0, 1) := by decide +kernel
theorem dX8_isSendSo_122 : decode cX8_isSendSo 122 = .ok (.iload_n 1, 1) := by decide +kernel
theorem dX8_isSendSo_123 : decode cX8_isSendSo 123 = .ok (.iconst 2, 1) := by decide +kernel
theorem dX8_isSendSo_124 : decode cX8_isSendSo 124 = .ok (.invokevirtual 14, 3) := by decide +kernel
theorem dX8_isSendSo_127 : decode cX8_isSendSo 127 = .ok (.iconst 1, 1) := by decide +kernel
theorem dX8_isSendSo_128 : decode cX8_isSendSo 128 = .ok (.if_icmp .ne 7, 3) := by decide +kernel
theorem dX8_isSendSo_131 : decode cX8_isSendSo 131 = .ok (.iconst 1, 1) := by decide +kernel
theorem dX8_isSendSo_132 : decode cX8_isSendSo 132 = .ok (.goto 4, 3) := by decide +kernel
theorem dX8_isSendSo_135 : decode cX8_isSendSo 135 = .ok (.iconst 0, 1) := by decide +kernel
theorem dX8_isSendSo_136 : decode cX8_isSendSo 136 = .ok (.istore 6, 2) := by decide +kernel
theorem dX8_isSendSo_138 : decode cX8_isSendSo 138 = .ok (.aload_n 0, 1) := by decide +kernel
theorem dX8_isSendSo_139 : decode cX8_isSendSo 139 = .ok (.invokevirtual 60, 3) := by decide +kernel
theorem dX8_isSendSo_142 : decode cX8_isSendSo 142 = .ok (.istore 7, 2) := by decide +kernel
theorem dX8_isSendSo_144 : decode cX8_isSendSo 144 = .ok (.iload 6, 2) := by decide +kernel
theorem dX8_isSendSo_146 : decode cX8_isSendSo 146 = .ok (.ifCond .eq 22, 3) := by decide +kernel
theorem dX8_isSendSo_149 : decode cX8_isSendSo 149 = .ok (.iload 7, 2) := by decide +kernel
theorem dX8_isSendSo_151 : decode cX8_isSendSo 151 = .ok (.ifCond .lt 17, 3) := by decide +kernel
theorem dX8_isSendSo_154 : decode cX8_isSendSo 154 = .ok (.aload_n 0, 1) := by decide +kernel
theorem dX8_isSendSo_155 : decode cX8_isSendSo 155 = .ok (.iconst 0, 1) := by decide +kernel
theorem dX8_isSendSo_156 : decode cX8_isSendSo 156 = .ok (.invokevirtual 42, 3) := by decide +kernel
theorem dX8_isSendSo_159 : decode cX8_isSendSo 159 = .ok (.iload 4, 2) := by decide +kernel
theorem dX8_isSendSo_161 : decode cX8_isSendSo 161 = .ok (.if_icmp .ne 7, 3) := by decide +kernel
theorem dX8_isSendSo_164 : decode cX8_isSendSo 164 = .ok (.iconst 1, 1) := by decide +kernel
theorem dX8_isSendSo_165 : decode cX8_isSendSo 165 = .ok (.goto 4, 3) := by decide +kernel
theorem dX8_isSendSo_168 : decode cX8_isSendSo 168 = .ok (.iconst 0, 1) := by decide +kernel
theorem dX8_isSendSo_169 : decode cX8_isSendSo 169 = .ok (.ireturn, 1) := by decide +kernel
theorem dX8_isBackSo_0 : decode cX8_isBackSo 0 = .ok (.aload_n 0, 1) := by decide +kernel
theorem dX8_isBackSo_1 : decode cX8_isBackSo 1 = .ok (.iload_n 1, 1) := by decide +kernel
theorem dX8_isBackSo_2 : decode cX8_isBackSo 2 = .ok (.iconst 0, 1) := by decide +kernel
theorem dX8_isBackSo_3 : decode cX8_isBackSo 3 = .ok (.invokevirtual 14, 3) := by decide +kernel
theorem dX8_isBackSo_6 : decode cX8_isBackSo 6 = .ok (.istore_n 3, 1) := by decide +kernel
theorem dX8_isBackSo_7 : decode cX8_isBackSo 7 = .ok (.iload_n 2, 1) := by decide +kernel
theorem dX8_isBackSo_8 : decode cX8_isBackSo 8 = .ok (.iload_n 3, 1) := by decide +kernel
theorem dX8_isBackSo_9 : decode cX8_isBackSo 9 = .ok (.iconst 1, 1) := by decide +kernel
theorem dX8_isBackSo_10 : decode cX8_isBackSo 10 = .ok (.iadd, 1) := by decide +kernel
theorem dX8_isBackSo_11 : decode cX8_isBackSo 11 = .ok (.invokestatic 8, 3) := by decide +kernel
theorem dX8_isBackSo_14 : decode cX8_isBackSo 14 = .ok (.istore 4, 2) := by decide +kernel
theorem dX8_isBackSo_16 : decode cX8_isBackSo 16 = .ok (.aload_n 0, 1) := by decide +kernel
theorem dX8_isBackSo_17 : decode cX8_isBackSo 17 = .ok (.iload_n 1, 1) := by decide +kernel
theorem dX8_isBackSo_18 : decode cX8_isBackSo 18 = .ok (.iload 4, 2) := by decide +kernel
theorem dX8_isBackSo_20 : decode cX8_isBackSo 20 = .ok (.invokevirtual 51, 3) := by decide +kernel
theorem dX8_isBackSo_23 : decode cX8_isBackSo 23 = .ok (.istore 5, 2) := by decide +kernel
theorem dX8_isBackSo_25 : decode cX8_isBackSo 25 = .ok (.iload_n 3, 1) := by decide +kernel
theorem dX8_isBackSo_26 : decode cX8_isBackSo 26 = .ok (.ifCond .ne 7, 3) := by decide +kernel
theorem dX8_isBackSo_29 : decode cX8_isBackSo 29 = .ok (.iconst 0, 1) := by decide +kernel
theorem dX8_isBackSo_30 : decode cX8_isBackSo 30 = .ok (.goto 11, 3) := by decide +kernel
theorem dX8_isBackSo_33 : decode cX8_isBackSo 33 = .ok (.aload_n 0, 1) := by decide +kernel
theorem dX8_isBackSo_34 : decode cX8_isBackSo 34 = .ok (.iload_n 1, 1) := by decide +kernel
theorem dX8_isBackSo_35 : decode cX8_isBackSo 35 = .ok (.iload_n 3, 1) := by decide +kernel
theorem dX8_isBackSo_36 : decode cX8_isBackSo 36 = .ok (.iconst 1, 1) := by decide +kernel
theorem dX8_isBackSo_37 : decode cX8_isBackSo 37 = .ok (.isub, 1) := by decide +kernel
theorem dX8_isBackSo_38 : decode cX8_isBackSo 38 = .ok (.invokevirtual 51, 3) := by decide +kernel
theorem dX8_isBackSo_41 : decode cX8_isBackSo 41 = .ok (.istore 6, 2) := by decide +kernel
theorem dX8_isBackSo_43 : decode cX8_isBackSo 43 = .ok (.iload_n 3, 1) := by decide +kernel
theorem dX8_isBackSo_44 : decode cX8_isBackSo 44 = .ok (.bipush 29, 2) := by decide +kernel
theorem dX8_isBackSo_46 : decode cX8_isBackSo 46 = .ok (.if_icmp .gt 13, 3) := by decide +kernel
theorem dX8_isBackSo_49 : decode cX8_isBackSo 49 = .ok (.aload_n 0, 1) := by decide +kernel
theorem dX8_isBackSo_50 : decode cX8_isBackSo 50 = .ok (.iload_n 1, 1) := by decide +kernel
theorem dX8_isBackSo_51 : decode cX8_isBackSo 51 = .ok (.iconst 1, 1) := by decide +kernel
theorem dX8_isBackSo_52 : decode cX8_isBackSo 52 = .ok (.invokevirtual 14, 3) := by decide +kernel
theorem dX8_isBackSo_55 : decode cX8_isBackSo 55 = .ok (.iconst 4, 1) := by decide +kernel
theorem dX8_isBackSo_56 : decode cX8_isBackSo 56 = .ok (.if_icmp .le 5, 3) := by decide +kernel
theorem dX8_isBackSo_59 : decode cX8_isBackSo 59 = .ok (.iconst 1, 1) := by decide +kernel
theorem dX8_isBackSo_60 : decode cX8_isBackSo 60 = .ok (.ireturn, 1) := by decide +kernel
theorem dX8_isBackSo_61 : decode cX8_isBackSo 61 = .ok (.aload_n 0, 1) := by decide +kernel
theorem dX8_isBackSo_62 : decode cX8_isBackSo 62 = .ok (.iload_n 1, 1) := by decide +kernel
theorem dX8_isBackSo_63 : decode cX8_isBackSo 63 = .ok (.iload 4, 2) := by decide +kernel
theorem dX8_isBackSo_65 : decode cX8_isBackSo 65 = .ok (.bipush 7, 2) := by decide +kernel
theorem dX8_isBackSo_67 : decode cX8_isBackSo 67 = .ok (.invokevirtual 19, 3) := by decide +kernel
theorem dX8_isBackSo_70 : decode cX8_isBackSo 70 = .ok (.iload_n 3, 1) := by decide +kernel
theorem dX8_isBackSo_71 : decode cX8_isBackSo 71 = .ok (.iconst 1, 1) := by decide +kernel
theorem dX8_isBackSo_72 : decode cX8_isBackSo 72 = .ok (.iadd, 1) := by decide +kernel
theorem dX8_isBackSo_73 : decode cX8_isBackSo 73 = .ok (.if_icmp .ne 50, 3) := by decide +kernel
theorem dX8_isBackSo_76 : decode cX8_isBackSo 76 = .ok (.aload_n 0, 1) := by decide +kernel
theorem dX8_isBackSo_77 : decode cX8_isBackSo 77 = .ok (.iload_n 1, 1) := by decide +kernel
theorem dX8_isBackSo_78 : decode cX8_isBackSo 78 = .ok (.iload 4, 2) := by decide +kernel
theorem dX8_isBackSo_80 : decode cX8_isBackSo 80 = .ok (.invokevirtual 51, 3) := by decide +kernel
theorem dX8_isBackSo_83 : decode cX8_isBackSo 83 = .ok (.bipush 7, 2) := by decide +kernel
theorem dX8_isBackSo_85 : decode cX8_isBackSo 85 = .ok (.if_icmp .ne 38, 3) := by decide +kernel
theorem dX8_isBackSo_88 : decode cX8_isBackSo 88 = .ok (.aload_n 0, 1) := by decide +kernel
theorem dX8_isBackSo_89 : decode cX8_isBackSo 89 = .ok (.iload_n 1, 1) := by decide +kernel
theorem dX8_isBackSo_90 : decode cX8_isBackSo 90 = .ok (.invokevirtual 26, 3) := by decide +kernel
theorem dX8_isBackSo_93 : decode cX8_isBackSo 93 = .ok (.iconst 2, 1) := by decide +kernel
theorem dX8_isBackSo_94 : decode cX8_isBackSo 94 = .ok (.if_icmp .ne 29, 3) := by decide +kernel
theorem dX8_isBackSo_97 : decode cX8_isBackSo 97 = .ok (.aload_n 0, 1) := by decide +kernel
theorem dX8_isBackSo_98 : decode cX8_isBackSo 98 = .ok (.iload_n 1, 1) := by decide +kernel
theorem dX8_isBackSo_99 : decode cX8_isBackSo 99 = .ok (.iconst 0, 1) := by decide +kernel
theorem dX8_isBackSo_100 : decode cX8_isBackSo 100 = .ok (.invokevirtual 14, 3) := by decide +kernel
theorem dX8_isBackSo_103 : decode cX8_isBackSo 103 = .ok (.iload_n 3, 1) := by decide +kernel
theorem dX8_isBackSo_104 : decode cX8_isBackSo 104 = .ok (.if_icmp .ne 19, 3) := by decide +kernel
theorem dX8_isBackSo_107 : decode cX8_isBackSo 107 = .ok (.aload_n 0, 1) := by decide +kernel
theorem dX8_isBackSo_108 : decode cX8_isBackSo 108 = .ok (.iload_n 1, 1) := by decide +kernel
theorem dX8_isBackSo_109 : decode cX8_isBackSo 109 = .ok (.iload 4, 2) := by decide +kernel
theorem dX8_isBackSo_111 : decode cX8_isBackSo 111 = .ok (.invokevirtual 51, 3) := by decide +kernel
theorem dX8_isBackSo_114 : decode cX8_isBackSo 114 = .ok (.iload 5, 2) := by decide +kernel
theorem dX8_isBackSo_116 : decode cX8_isBackSo 116 = .ok (.if_icmp .ne 7, 3) := by decide +kernel
theorem dX8_isBackSo_119 : decode cX8_isBackSo 119 = .ok (.iconst 1, 1) := by decide +kernel
theorem dX8_isBackSo_120 : decode cX8_isBackSo 120 = .ok (.goto 4, 3) := by decide +kernel
theorem dX8_isBackSo_123 : decode cX8_isBackSo 123 = .ok (.iconst 0, 1) := by decide +kernel
theorem dX8_isBackSo_124 : decode cX8_isBackSo 124 = .ok (.istore 7, 2) := by decide +kernel
theorem dX8_isBackSo_126 : decode cX8_isBackSo 126 = .ok (.aload_n 0, 1) := by decide +kernel
theorem dX8_isBackSo_127 : decode cX8_isBackSo 127 = .ok (.invokevirtual 60, 3) := by decide +kernel
theorem dX8_isBackSo_130 : decode cX8_isBackSo 130 = .ok (.istore 8, 2) := by decide +kernel
theorem dX8_isBackSo_132 : decode cX8_isBackSo 132 = .ok (.aload_n 0, 1) := by decide +kernel
theorem dX8_isBackSo_133 : decode cX8_isBackSo 133 = .ok (.invokevirtual 60, 3) := by decide +kernel
theorem dX8_isBackSo_136 : decode cX8_isBackSo 136 = .ok (.istore 8, 2) := by decide +kernel
theorem dX8_isBackSo_138 : decode cX8_isBackSo 138 = .ok (.iload 4, 2) := by decide +kernel
theorem dX8_isBackSo_140 : decode cX8_isBackSo 140 = .ok (.iload_n 3, 1) := by decide +kernel
theorem dX8_isBackSo_141 : decode cX8_isBackSo 141 = .ok (.if_icmp .ge 83, 3) := by decide +kernel
theorem dX8_isBackSo_144 : decode cX8_isBackSo 144 = .ok (.iload 7, 2) := by decide +kernel
theorem dX8_isBackSo_146 : decode cX8_isBackSo 146 = .ok (.ifCond .eq 63, 3) := by decide +kernel
theorem dX8_isBackSo_149 : decode cX8_isBackSo 149 = .ok (.aload_n 0, 1) := by decide +kernel
theorem dX8_isBackSo_150 : decode cX8_isBackSo 150 = .ok (.iload_n 1, 1) := by decide +kernel
theorem dX8_isBackSo_151 : decode cX8_isBackSo 151 = .ok (.iload 4, 2) := by decide +kernel
theorem dX8_isBackSo_153 : decode cX8_isBackSo 153 = .ok (.invokevirtual 23, 3) := by decide +kernel
theorem dX8_isBackSo_156 : decode cX8_isBackSo 156 = .ok (.iload 5, 2) := by decide +kernel
theorem dX8_isBackSo_158 : decode cX8_isBackSo 158 = .ok (.if_icmp .ne 51, 3) := by decide +kernel
theorem dX8_isBackSo_161 : decode cX8_isBackSo 161 = .ok (.aload_n 0, 1) := by decide +kernel
theorem dX8_isBackSo_162 : decode cX8_isBackSo 162 = .ok (.iload_n 1, 1) := by decide +kernel
theorem dX8_isBackSo_163 : decode cX8_isBackSo 163 = .ok (.invokevirtual 26, 3) := by decide +kernel
theorem dX8_isBackSo_166 : decode cX8_isBackSo 166 = .ok (.iconst 1, 1) := by decide +kernel
theorem dX8_isBackSo_167 : decode cX8_isBackSo 167 = .ok (.if_icmp .ne 42, 3) := by decide +kernel
theorem dX8_isBackSo_170 : decode cX8_isBackSo 170 = .ok (.aload_n 0, 1) := by decide +kernel
theorem dX8_isBackSo_171 : decode cX8_isBackSo 171 = .ok (.iload_n 1, 1) := by decide +kernel
theorem dX8_isBackSo_172 : decode cX8_isBackSo 172 = .ok (.iload 4, 2) := by decide +kernel
theorem dX8_isBackSo_174 : decode cX8_isBackSo 174 = .ok (.invokevirtual 51, 3) := by decide +kernel
theorem dX8_isBackSo_177 : decode cX8_isBackSo 177 = .ok (.iload 5, 2) := by decide +kernel
theorem dX8_isBackSo_179 : decode cX8_isBackSo 179 = .ok (.if_icmp .ne 30, 3) := by decide +kernel
theorem dX8_isBackSo_182 : decode cX8_isBackSo 182 = .ok (.aload_n 0, 1) := by decide +kernel
theorem dX8_isBackSo_183 : decode cX8_isBackSo 183 = .ok (.iload_n 1, 1) := by decide +kernel
theorem dX8_isBackSo_184 : decode cX8_isBackSo 184 = .ok (.iload_n 3, 1) := by decide +kernel
theorem dX8_isBackSo_185 : decode cX8_isBackSo 185 = .ok (.iconst 1, 1) := by decide +kernel
theorem dX8_isBackSo_186 : decode cX8_isBackSo 186 = .ok (.isub, 1) := by decide +kernel
theorem dX8_isBackSo_187 : decode cX8_isBackSo 187 = .ok (.invokevirtual 51, 3) := by decide +kernel
theorem dX8_isBackSo_190 : decode cX8_isBackSo 190 = .ok (.iload 6, 2) := by decide +kernel
theorem dX8_isBackSo_192 : decode cX8_isBackSo 192 = .ok (.if_icmp .ne 17, 3) := by decide +kernel
theorem dX8_isBackSo_195 : decode cX8_isBackSo 195 = .ok (.aload_n 0, 1) := by decide +kernel
theorem dX8_isBackSo_196 : decode cX8_isBackSo 196 = .ok (.iload_n 1, 1) := by decide +kernel
theorem dX8_isBackSo_197 : decode cX8_isBackSo 197 = .ok (.iconst 0, 1) := by decide +kernel
theorem dX8_isBackSo_198 : decode cX8_isBackSo 198 = .ok (.invokevirtual 14, 3) := by decide +kernel
theorem dX8_isBackSo_201 : decode cX8_isBackSo 201 = .ok (.iload_n 3, 1) := by decide +kernel
theorem dX8_isBackSo_202 : decode cX8_isBackSo 202 = .ok (.if_icmp .ne 7, 3) := by decide +kernel
theorem dX8_isBackSo_205 : decode cX8_isBackSo 205 = .ok (.iconst 1, 1) := by decide +kernel
theorem dX8_isBackSo_206 : decode cX8_isBackSo 206 = .ok (.goto 4, 3) := by decide +kernel
theorem dX8_isBackSo_209 : decode cX8_isBackSo 209 = .ok (.iconst 0, 1) := by decide +kernel
theorem dX8_isBackSo_210 : decode cX8_isBackSo 210 = .ok (.istore 7, 2) := by decide +kernel
theorem dX8_isBackSo_212 : decode cX8_isBackSo 212 = .ok (.aload_n 0, 1) := by decide +kernel
theorem dX8_isBackSo_213 : decode cX8_isBackSo 213 = .ok (.invokevirtual 60, 3) := by decide +kernel
theorem dX8_isBackSo_216 : decode cX8_isBackSo 216 = .ok (.istore 8, 2) := by decide +kernel
theorem dX8_isBackSo_218 : decode cX8_isBackSo 218 = .ok (.aload_n 0, 1) := by decide +kernel
theorem dX8_isBackSo_219 : decode cX8_isBackSo 219 = .ok (.invokevirtual 60, 3) := by decide +kernel
theorem dX8_isBackSo_222 : decode cX8_isBackSo 222 = .ok (.istore 8, 2) := by decide +kernel
theorem dX8_isBackSo_224 : decode cX8_isBackSo 224 = .ok (.iload 7, 2) := by decide +kernel
theorem dX8_isBackSo_226 : decode cX8_isBackSo 226 = .ok (.ifCond .eq 12, 3) := by decide +kernel
theorem dX8_isBackSo_229 : decode cX8_isBackSo 229 = .ok (.iload 8, 2) := by decide +kernel
theorem dX8_isBackSo_231 : decode cX8_isBackSo 231 = .ok (.ifCond .lt 7, 3) := by decide +kernel
theorem dX8_isBackSo_234 : decode cX8_isBackSo 234 = .ok (.iconst 1, 1) := by decide +kernel
theorem dX8_isBackSo_235 : decode cX8_isBackSo 235 = .ok (.goto 4, 3) := by decide +kernel
theorem dX8_isBackSo_238 : decode cX8_isBackSo 238 = .ok (.iconst 0, 1) := by decide +kernel
theorem dX8_isBackSo_239 : decode cX8_isBackSo 239 = .ok (.ireturn, 1) := by decide +kernel
theorem dX8_isEndSo_0 : decode cX8_isEndSo 0 = .ok (.aload_n 0, 1) := by decide +kernel
theorem dX8_isEndSo_1 : decode cX8_isEndSo 1 = .ok (.iconst 0, 1) := by decide +kernel
theorem dX8_isEndSo_2 : decode cX8_isEndSo 2 = .ok (.invokevirtual 64, 3) := by decide +kernel
theorem dX8_isEndSo_5 : decode cX8_isEndSo 5 = .ok (.istore_n 1, 1) := by decide +kernel
theorem dX8_isEndSo_6 : decode cX8_isEndSo 6 = .ok (.aload_n 0, 1) := by decide +kernel
theorem dX8_isEndSo_7 : decode cX8_isEndSo 7 = .ok (.iconst 1, 1) := by decide +kernel
theorem dX8_isEndSo_8 : decode cX8_isEndSo 8 = .ok (.invokevirtual 64, 3) := by decide +kernel
theorem dX8_isEndSo_11 : decode cX8_isEndSo 11 = .ok (.istore_n 2, 1) := by decide +kernel
theorem dX8_isEndSo_12 : decode cX8_isEndSo 12 = .ok (.iload_n 1, 1) := by decide +kernel
theorem dX8_isEndSo_13 : decode cX8_isEndSo 13 = .ok (.iload_n 2, 1) := by decide +kernel
theorem dX8_isEndSo_14 : decode cX8_isEndSo 14 = .ok (.if_icmp .ne 7, 3) := by decide +kernel
theorem dX8_isEndSo_17 : decode cX8_isEndSo 17 = .ok (.iconst 1, 1) := by decide +kernel
theorem dX8_isEndSo_18 : decode cX8_isEndSo 18 = .ok (.goto 4, 3) := by decide +kernel
theorem dX8_isEndSo_21 : decode cX8_isEndSo 21 = .ok (.iconst 0, 1) := by decide +kernel
theorem dX8_isEndSo_22 : decode cX8_isEndSo 22 = .ok (.istore_n 3, 1) := by decide +kernel
theorem dX8_isEndSo_23 : decode cX8_isEndSo 23 = .ok (.aload_n 0, 1) := by decide +kernel
theorem dX8_isEndSo_24 : decode cX8_isEndSo 24 = .ok (.iconst 3, 1) := by decide +kernel
theorem dX8_isEndSo_25 : decode cX8_isEndSo 25 = .ok (.invokevirtual 64, 3) := by decide +kernel
theorem dX8_isEndSo_28 : decode cX8_isEndSo 28 = .ok (.iconst 1, 1) := by decide +kernel
theorem dX8_isEndSo_29 : decode cX8_isEndSo 29 = .ok (.if_icmp .ne 29, 3) := by decide +kernel
theorem dX8_isEndSo_32 : decode cX8_isEndSo 32 = .ok (.aload_n 0, 1) := by decide +kernel
theorem dX8_isEndSo_33 : decode cX8_isEndSo 33 = .ok (.iconst 0, 1) := by decide +kernel
theorem dX8_isEndSo_34 : decode cX8_isEndSo 34 = .ok (.iload_n 1, 1) := by decide +kernel
theorem dX8_isEndSo_35 : decode cX8_isEndSo 35 = .ok (.invokevirtual 67, 3) := by decide +kernel
theorem dX8_isEndSo_38 : decode cX8_isEndSo 38 = .ok (.bipush (-4), 2) := by decide +kernel
theorem dX8_isEndSo_40 : decode cX8_isEndSo 40 = .ok (.if_icmp .ne 18, 3) := by decide +kernel
theorem dX8_isEndSo_43 : decode cX8_isEndSo 43 = .ok (.aload_n 0, 1) := by decide +kernel
theorem dX8_isEndSo_44 : decode cX8_isEndSo 44 = .ok (.iconst 1, 1) := by decide +kernel
theorem dX8_isEndSo_45 : decode cX8_isEndSo 45 = .ok (.iload_n 2, 1) := by decide +kernel
theorem dX8_isEndSo_46 : decode cX8_isEndSo 46 = .ok (.invokevirtual 67, 3) := by decide +kernel
theorem dX8_isEndSo_49 : decode cX8_isEndSo 49 = .ok (.bipush (-4), 2) := by decide +kernel
theorem dX8_isEndSo_51 : decode cX8_isEndSo 51 = .ok (.if_icmp .ne 7, 3) := by decide +kernel
theorem dX8_isEndSo_54 : decode cX8_isEndSo 54 = .ok (.iconst 1, 1) := by decide +kernel
theorem dX8_isEndSo_55 : decode cX8_isEndSo 55 = .ok (.goto 4, 3) := by decide +kernel
theorem dX8_isEndSo_58 : decode cX8_isEndSo 58 = .ok (.iconst 0, 1) := by decide +kernel
theorem dX8_isEndSo_59 : decode cX8_isEndSo 59 = .ok (.istore 4, 2) := by decide +kernel
theorem dX8_isEndSo_61 : decode cX8_isEndSo 61 = .ok (.iconst 0, 1) := by decide +kernel
theorem dX8_isEndSo_62 : decode cX8_isEndSo 62 = .ok (.istore 5, 2) := by decide +kernel
theorem dX8_isEndSo_64 : decode cX8_isEndSo 64 = .ok (.iload 5, 2) := by decide +kernel
theorem dX8_isEndSo_66 : decode cX8_isEndSo 66 = .ok (.iload_n 1, 1) := by decide +kernel
theorem dX8_isEndSo_67 : decode cX8_isEndSo 67 = .ok (.if_icmp .ge 77, 3) := by decide +kernel
theorem dX8_isEndSo_70 : decode cX8_isEndSo 70 = .ok (.aload_n 0, 1) := by decide +kernel
theorem dX8_isEndSo_71 : decode cX8_isEndSo 71 = .ok (.iconst 0, 1) := by decide +kernel
theorem dX8_isEndSo_72 : decode cX8_isEndSo 72 = .ok (.iload 5, 2) := by decide +kernel
theorem dX8_isEndSo_74 : decode cX8_isEndSo 74 = .ok (.invokevirtual 67, 3) := by decide +kernel
theorem dX8_isEndSo_77 : decode cX8_isEndSo 77 = .ok (.istore 6, 2) := by decide +kernel
theorem dX8_isEndSo_79 : decode cX8_isEndSo 79 = .ok (.iload 4, 2) := by decide +kernel
theorem dX8_isEndSo_81 : decode cX8_isEndSo 81 = .ok (.ifCond .eq 32, 3) := by decide +kernel
theorem dX8_isEndSo_84 : decode cX8_isEndSo 84 = .ok (.iload 6, 2) := by decide +kernel
theorem dX8_isEndSo_86 : decode cX8_isEndSo 86 = .ok (.ifCond .lt 27, 3) := by decide +kernel
theorem dX8_isEndSo_89 : decode cX8_isEndSo 89 = .ok (.aload_n 0, 1) := by decide +kernel
theorem dX8_isEndSo_90 : decode cX8_isEndSo 90 = .ok (.iconst 3, 1) := by decide +kernel
theorem dX8_isEndSo_91 : decode cX8_isEndSo 91 = .ok (.invokevirtual 42, 3) := by decide +kernel
theorem dX8_isEndSo_94 : decode cX8_isEndSo 94 = .ok (.ifCond .gt 15, 3) := by decide +kernel
theorem dX8_isEndSo_97 : decode cX8_isEndSo 97 = .ok (.iload 6, 2) := by decide +kernel
theorem dX8_isEndSo_99 : decode cX8_isEndSo 99 = .ok (.aload_n 0, 1) := by decide +kernel
theorem dX8_isEndSo_100 : decode cX8_isEndSo 100 = .ok (.iconst 3, 1) := by decide +kernel
theorem dX8_isEndSo_101 : decode cX8_isEndSo 101 = .ok (.iload 5, 2) := by decide +kernel
theorem dX8_isEndSo_103 : decode cX8_isEndSo 103 = .ok (.invokevirtual 51, 3) := by decide +kernel
theorem dX8_isEndSo_106 : decode cX8_isEndSo 106 = .ok (.if_icmp .ne 7, 3) := by decide +kernel
theorem dX8_isEndSo_109 : decode cX8_isEndSo 109 = .ok (.iconst 1, 1) := by decide +kernel
theorem dX8_isEndSo_110 : decode cX8_isEndSo 110 = .ok (.goto 4, 3) := by decide +kernel
theorem dX8_isEndSo_113 : decode cX8_isEndSo 113 = .ok (.iconst 0, 1) := by decide +kernel
theorem dX8_isEndSo_114 : decode cX8_isEndSo 114 = .ok (.istore 4, 2) := by decide +kernel
theorem dX8_isEndSo_116 : decode cX8_isEndSo 116 = .ok (.iload_n 3, 1) := by decide +kernel
theorem dX8_isEndSo_117 : decode cX8_isEndSo 117 = .ok (.ifCond .eq 19, 3) := by decide +kernel
theorem dX8_isEndSo_120 : decode cX8_isEndSo 120 = .ok (.iload 6, 2) := by decide +kernel
theorem dX8_isEndSo_122 : decode cX8_isEndSo 122 = .ok (.aload_n 0, 1) := by decide +kernel
theorem dX8_isEndSo_123 : decode cX8_isEndSo 123 = .ok (.iconst 1, 1) := by decide +kernel
theorem dX8_isEndSo_124 : decode cX8_isEndSo 124 = .ok (.iload 5, 2) := by decide +kernel
theorem dX8_isEndSo_126 : decode cX8_isEndSo 126 = .ok (.invokevirtual 67, 3) := by decide +kernel
theorem dX8_isEndSo_129 : decode cX8_isEndSo 129 = .ok (.if_icmp .ne 7, 3) := by decide +kernel
theorem dX8_isEndSo_132 : decode cX8_isEndSo 132 = .ok (.iconst 1, 1) := by decide +kernel
theorem dX8_isEndSo_133 : decode cX8_isEndSo 133 = .ok (.goto 4, 3) := by decide +kernel
theorem dX8_isEndSo_136 : decode cX8_isEndSo 136 = .ok (.iconst 0, 1) := by decide +kernel
theorem dX8_isEndSo_137 : decode cX8_isEndSo 137 = .ok (.istore_n 3, 1) := by decide +kernel
theorem dX8_isEndSo_138 : decode cX8_isEndSo 138 = .ok (.iinc 5 1, 3) := by decide +kernel
theorem dX8_isEndSo_141 : decode cX8_isEndSo 141 = .ok (.goto (-77), 3) := by decide +kernel
theorem dX8_isEndSo_144 : decode cX8_isEndSo 144 = .ok (.iload 4, 2) := by decide +kernel
theorem dX8_isEndSo_146 : decode cX8_isEndSo 146 = .ok (.ifCond .eq 37, 3) := by decide +kernel
theorem dX8_isEndSo_149 : decode cX8_isEndSo 149 = .ok (.iload_n 3, 1) := by decide +kernel
theorem dX8_isEndSo_150 : decode cX8_isEndSo 150 = .ok (.aload_n 0, 1) := by decide +kernel
theorem dX8_isEndSo_151 : decode cX8_isEndSo 151 = .ok (.iconst 2, 1) := by decide +kernel
theorem dX8_isEndSo_152 : decode cX8_isEndSo 152 = .ok (.invokevirtual 64, 3) := by decide +kernel
theorem dX8_isEndSo_155 : decode cX8_isEndSo 155 = .ok (.iconst 1, 1) := by decide +kernel
theorem dX8_isEndSo_156 : decode cX8_isEndSo 156 = .ok (.if_icmp .ne 7, 3) := by decide +kernel
theorem dX8_isEndSo_159 : decode cX8_isEndSo 159 = .ok (.iconst 1, 1) := by decide +kernel
theorem dX8_isEndSo_160 : decode cX8_isEndSo 160 = .ok (.goto 4, 3) := by decide +kernel
theorem dX8_isEndSo_163 : decode cX8_isEndSo 163 = .ok (.iconst 0, 1) := by decide +kernel
theorem dX8_isEndSo_164 : decode cX8_isEndSo 164 = .ok (.if_icmp .ne 19, 3) := by decide +kernel
theorem dX8_isEndSo_167 : decode cX8_isEndSo 167 = .ok (.aload_n 0, 1) := by decide +kernel
theorem dX8_isEndSo_168 : decode cX8_isEndSo 168 = .ok (.iconst 3, 1) := by decide +kernel
theorem dX8_isEndSo_169 : decode cX8_isEndSo 169 = .ok (.invokevirtual 42, 3) := by decide +kernel
theorem dX8_isEndSo_172 : decode cX8_isEndSo 172 = .ok (.ifCond .gt 7, 3) := by decide +kernel
theorem dX8_isEndSo_175 : decode cX8_isEndSo 175 = .ok (.iload_n 3, 1) := by decide +kernel
theorem dX8_isEndSo_176 : decode cX8_isEndSo 176 = .ok (.ifCond .eq 7, 3) := by decide +kernel
theorem dX8_isEndSo_179 : decode cX8_isEndSo 179 = .ok (.iconst 1, 1) := by decide +kernel
theorem dX8_isEndSo_180 : decode cX8_isEndSo 180 = .ok (.goto 4, 3) := by decide +kernel
theorem dX8_isEndSo_183 : decode cX8_isEndSo 183 = .ok (.iconst 0, 1) := by decide +kernel
theorem dX8_isEndSo_184 : decode cX8_isEndSo 184 = .ok (.ireturn, 1) := by decide +kernel
theorem dX8_law_0 : decode cX8_law 0 = .ok (.new 15, 3) := by decide +kernel
theorem dX8_law_3 : decode cX8_law 3 = .ok (.dup, 1) := by decide +kernel
theorem dX8_law_4 : decode cX8_law 4 = .ok (.invokespecial 70, 3) := by decide +kernel
theorem dX8_law_7 : decode cX8_law 7 = .ok (.astore_n 1, 1) := by decide +kernel
theorem dX8_law_8 : decode cX8_law 8 = .ok (.iconst 0, 1) := by decide +kernel
theorem dX8_law_9 : decode cX8_law 9 = .ok (.istore_n 2, 1) := by decide +kernel
theorem dX8_law_10 : decode cX8_law 10 = .ok (.iload_n 2, 1) := by decide +kernel
theorem dX8_law_11 : decode cX8_law 11 = .ok (.bipush 56, 2) := by decide +kernel
theorem dX8_law_13 : decode cX8_law 13 = .ok (.if_icmp .ge 222, 3) := by decide +kernel
theorem dX8_law_16 : decode cX8_law 16 = .ok (.aload_n 0, 1) := by decide +kernel
theorem dX8_law_17 : decode cX8_law 17 = .ok (.iload_n 2, 1) := by decide +kernel
theorem dX8_law_18 : decode cX8_law 18 = .ok (.invokestatic 71, 3) := by decide +kernel
theorem dX8_law_21 : decode cX8_law 21 = .ok (.istore_n 3, 1) := by decide +kernel
theorem dX8_law_22 : decode cX8_law 22 = .ok (.iload_n 3, 1) := by decide +kernel
theorem dX8_law_23 : decode cX8_law 23 = .ok (.iconst 4, 1) := by decide +kernel
theorem dX8_law_24 : decode cX8_law 24 = .ok (.ishr, 1) := by decide +kernel
theorem dX8_law_25 : decode cX8_law 25 = .ok (.iconst 3, 1) := by decide +kernel
theorem dX8_law_26 : decode cX8_law 26 = .ok (.invokestatic 8, 3) := by decide +kernel
theorem dX8_law_29 : decode cX8_law 29 = .ok (.istore 4, 2) := by decide +kernel
theorem dX8_law_31 : decode cX8_law 31 = .ok (.aload_n 1, 1) := by decide +kernel
theorem dX8_law_32 : decode cX8_law 32 = .ok (.iload 4, 2) := by decide +kernel
theorem dX8_law_34 : decode cX8_law 34 = .ok (.iconst 0, 1) := by decide +kernel
theorem dX8_law_35 : decode cX8_law 35 = .ok (.invokevirtual 14, 3) := by decide +kernel
theorem dX8_law_38 : decode cX8_law 38 = .ok (.istore 5, 2) := by decide +kernel
theorem dX8_law_40 : decode cX8_law 40 = .ok (.iload 5, 2) := by decide +kernel
theorem dX8_law_42 : decode cX8_law 42 = .ok (.ifCond .ne 7, 3) := by decide +kernel
theorem dX8_law_45 : decode cX8_law 45 = .ok (.iconst 0, 1) := by decide +kernel
theorem dX8_law_46 : decode cX8_law 46 = .ok (.goto 12, 3) := by decide +kernel
theorem dX8_law_49 : decode cX8_law 49 = .ok (.iload_n 3, 1) := by decide +kernel
theorem dX8_law_50 : decode cX8_law 50 = .ok (.bipush 6, 2) := by decide +kernel
theorem dX8_law_52 : decode cX8_law 52 = .ok (.ishr, 1) := by decide +kernel
theorem dX8_law_53 : decode cX8_law 53 = .ok (.iload 5, 2) := by decide +kernel
theorem dX8_law_55 : decode cX8_law 55 = .ok (.invokestatic 8, 3) := by decide +kernel
theorem dX8_law_58 : decode cX8_law 58 = .ok (.istore 6, 2) := by decide +kernel
theorem dX8_law_60 : decode cX8_law 60 = .ok (.aload_n 1, 1) := by decide +kernel
theorem dX8_law_61 : decode cX8_law 61 = .ok (.iload 4, 2) := by decide +kernel
theorem dX8_law_63 : decode cX8_law 63 = .ok (.iload 6, 2) := by decide +kernel
theorem dX8_law_65 : decode cX8_law 65 = .ok (.invokevirtual 51, 3) := by decide +kernel
theorem dX8_law_68 : decode cX8_law 68 = .ok (.istore 7, 2) := by decide +kernel
theorem dX8_law_70 : decode cX8_law 70 = .ok (.aload_n 1, 1) := by decide +kernel
theorem dX8_law_71 : decode cX8_law 71 = .ok (.iload_n 3, 1) := by decide +kernel
theorem dX8_law_72 : decode cX8_law 72 = .ok (.invokestatic 75, 3) := by decide +kernel
theorem dX8_law_75 : decode cX8_law 75 = .ok (.istore 8, 2) := by decide +kernel
theorem dX8_law_77 : decode cX8_law 77 = .ok (.iload_n 3, 1) := by decide +kernel
theorem dX8_law_78 : decode cX8_law 78 = .ok (.bipush 15, 2) := by decide +kernel
theorem dX8_law_80 : decode cX8_law 80 = .ok (.iand, 1) := by decide +kernel
theorem dX8_law_81 : decode cX8_law 81 = .ok (.istore 9, 2) := by decide +kernel
theorem dX8_law_83 : decode cX8_law 83 = .ok (.iload 8, 2) := by decide +kernel
theorem dX8_law_85 : decode cX8_law 85 = .ok (.bipush (-3), 2) := by decide +kernel
theorem dX8_law_87 : decode cX8_law 87 = .ok (.if_icmp .lt 68, 3) := by decide +kernel
theorem dX8_law_90 : decode cX8_law 90 = .ok (.iload 9, 2) := by decide +kernel
theorem dX8_law_92 : decode cX8_law 92 = .ok (.iconst 3, 1) := by decide +kernel
theorem dX8_law_93 : decode cX8_law 93 = .ok (.if_icmp .le 22, 3) := by decide +kernel
theorem dX8_law_96 : decode cX8_law 96 = .ok (.iload 9, 2) := by decide +kernel
theorem dX8_law_98 : decode cX8_law 98 = .ok (.bipush 7, 2) := by decide +kernel
theorem dX8_law_100 : decode cX8_law 100 = .ok (.if_icmp .ge 15, 3) := by decide +kernel
theorem dX8_law_103 : decode cX8_law 103 = .ok (.iload 8, 2) := by decide +kernel
theorem dX8_law_105 : decode cX8_law 105 = .ok (.ifCond .lt 10, 3) := by decide +kernel
theorem dX8_law_108 : decode cX8_law 108 = .ok (.iload 8, 2) := by decide +kernel
theorem dX8_law_110 : decode cX8_law 110 = .ok (.iload 7, 2) := by decide +kernel
theorem dX8_law_112 : decode cX8_law 112 = .ok (.if_icmp .ne 43, 3) := by decide +kernel
theorem dX8_law_115 : decode cX8_law 115 = .ok (.iload 9, 2) := by decide +kernel
theorem dX8_law_117 : decode cX8_law 117 = .ok (.iconst 4, 1) := by decide +kernel
theorem dX8_law_118 : decode cX8_law 118 = .ok (.if_icmp .ge 39, 3) := by decide +kernel
theorem dX8_law_121 : decode cX8_law 121 = .ok (.iload 8, 2) := by decide +kernel
theorem dX8_law_123 : decode cX8_law 123 = .ok (.ifCond .lt 34, 3) := by decide +kernel
theorem dX8_law_126 : decode cX8_law 126 = .ok (.aload_n 1, 1) := by decide +kernel
theorem dX8_law_127 : decode cX8_law 127 = .ok (.iload 4, 2) := by decide +kernel
theorem dX8_law_129 : decode cX8_law 129 = .ok (.iload_n 3, 1) := by decide +kernel
theorem dX8_law_130 : decode cX8_law 130 = .ok (.bipush 6, 2) := by decide +kernel
theorem dX8_law_132 : decode cX8_law 132 = .ok (.ishr, 1) := by decide +kernel
theorem dX8_law_133 : decode cX8_law 133 = .ok (.iload 5, 2) := by decide +kernel
theorem dX8_law_135 : decode cX8_law 135 = .ok (.iconst 1, 1) := by decide +kernel
theorem dX8_law_136 : decode cX8_law 136 = .ok (.iadd, 1) := by decide +kernel
theorem dX8_law_137 : decode cX8_law 137 = .ok (.invokestatic 8, 3) := by decide +kernel
theorem dX8_law_140 : decode cX8_law 140 = .ok (.invokevirtual 51, 3) := by decide +kernel
theorem dX8_law_143 : decode cX8_law 143 = .ok (.iload_n 3, 1) := by decide +kernel
theorem dX8_law_144 : decode cX8_law 144 = .ok (.bipush 9, 2) := by decide +kernel
theorem dX8_law_146 : decode cX8_law 146 = .ok (.ishr, 1) := by decide +kernel
theorem dX8_law_147 : decode cX8_law 147 = .ok (.bipush 26, 2) := by decide +kernel
theorem dX8_law_149 : decode cX8_law 149 = .ok (.invokestatic 8, 3) := by decide +kernel
theorem dX8_law_152 : decode cX8_law 152 = .ok (.if_icmp .eq 5, 3) := by decide +kernel
theorem dX8_law_155 : decode cX8_law 155 = .ok (.iconst 0, 1) := by decide +kernel
theorem dX8_law_156 : decode cX8_law 156 = .ok (.ireturn, 1) := by decide +kernel
theorem dX8_law_157 : decode cX8_law 157 = .ok (.aload_n 1, 1) := by decide +kernel
theorem dX8_law_158 : decode cX8_law 158 = .ok (.invokestatic 79, 3) := by decide +kernel
theorem dX8_law_161 : decode cX8_law 161 = .ok (.ifCond .eq 66, 3) := by decide +kernel
theorem dX8_law_164 : decode cX8_law 164 = .ok (.iload_n 2, 1) := by decide +kernel
theorem dX8_law_165 : decode cX8_law 165 = .ok (.iconst 3, 1) := by decide +kernel
theorem dX8_law_166 : decode cX8_law 166 = .ok (.irem, 1) := by decide +kernel
theorem dX8_law_167 : decode cX8_law 167 = .ok (.iconst 1, 1) := by decide +kernel
theorem dX8_law_168 : decode cX8_law 168 = .ok (.if_icmp .ne 18, 3) := by decide +kernel
theorem dX8_law_171 : decode cX8_law 171 = .ok (.aload_n 1, 1) := by decide +kernel
theorem dX8_law_172 : decode cX8_law 172 = .ok (.iload_n 3, 1) := by decide +kernel
theorem dX8_law_173 : decode cX8_law 173 = .ok (.bipush 9, 2) := by decide +kernel
theorem dX8_law_175 : decode cX8_law 175 = .ok (.ishr, 1) := by decide +kernel
theorem dX8_law_176 : decode cX8_law 176 = .ok (.iconst 3, 1) := by decide +kernel
theorem dX8_law_177 : decode cX8_law 177 = .ok (.invokestatic 8, 3) := by decide +kernel
theorem dX8_law_180 : decode cX8_law 180 = .ok (.invokestatic 83, 3) := by decide +kernel
theorem dX8_law_183 : decode cX8_law 183 = .ok (.ifCond .eq 44, 3) := by decide +kernel
theorem dX8_law_186 : decode cX8_law 186 = .ok (.iload_n 2, 1) := by decide +kernel
theorem dX8_law_187 : decode cX8_law 187 = .ok (.iconst 4, 1) := by decide +kernel
theorem dX8_law_188 : decode cX8_law 188 = .ok (.irem, 1) := by decide +kernel
theorem dX8_law_189 : decode cX8_law 189 = .ok (.iconst 2, 1) := by decide +kernel
theorem dX8_law_190 : decode cX8_law 190 = .ok (.if_icmp .ne 21, 3) := by decide +kernel
theorem dX8_law_193 : decode cX8_law 193 = .ok (.aload_n 1, 1) := by decide +kernel
theorem dX8_law_194 : decode cX8_law 194 = .ok (.iload_n 3, 1) := by decide +kernel
theorem dX8_law_195 : decode cX8_law 195 = .ok (.bipush 8, 2) := by decide +kernel
theorem dX8_law_197 : decode cX8_law 197 = .ok (.ishr, 1) := by decide +kernel
theorem dX8_law_198 : decode cX8_law 198 = .ok (.iconst 3, 1) := by decide +kernel
theorem dX8_law_199 : decode cX8_law 199 = .ok (.invokestatic 8, 3) := by decide +kernel
theorem dX8_law_202 : decode cX8_law 202 = .ok (.iload_n 3, 1) := by decide +kernel
theorem dX8_law_203 : decode cX8_law 203 = .ok (.iconst 5, 1) := by decide +kernel
theorem dX8_law_204 : decode cX8_law 204 = .ok (.ishr, 1) := by decide +kernel
theorem dX8_law_205 : decode cX8_law 205 = .ok (.invokestatic 87, 3) := by decide +kernel
theorem dX8_law_208 : decode cX8_law 208 = .ok (.ifCond .eq 19, 3) := by decide +kernel
theorem dX8_law_211 : decode cX8_law 211 = .ok (.iload_n 2, 1) := by decide +kernel
theorem dX8_law_212 : decode cX8_law 212 = .ok (.bipush 11, 2) := by decide +kernel
theorem dX8_law_214 : decode cX8_law 214 = .ok (.irem, 1) := by decide +kernel
theorem dX8_law_215 : decode cX8_law 215 = .ok (.bipush 7, 2) := by decide +kernel
theorem dX8_law_217 : decode cX8_law 217 = .ok (.if_icmp .ne 12, 3) := by decide +kernel
theorem dX8_law_220 : decode cX8_law 220 = .ok (.aload_n 1, 1) := by decide +kernel
theorem dX8_law_221 : decode cX8_law 221 = .ok (.invokestatic 91, 3) := by decide +kernel
theorem dX8_law_224 : decode cX8_law 224 = .ok (.ifCond .ne 5, 3) := by decide +kernel
theorem dX8_law_227 : decode cX8_law 227 = .ok (.iconst 0, 1) := by decide +kernel
theorem dX8_law_228 : decode cX8_law 228 = .ok (.ireturn, 1) := by decide +kernel
theorem dX8_law_229 : decode cX8_law 229 = .ok (.iinc 2 1, 3) := by decide +kernel
theorem dX8_law_232 : decode cX8_law 232 = .ok (.goto (-222), 3) := by decide +kernel
theorem dX8_law_235 : decode cX8_law 235 = .ok (.iconst 1, 1) := by decide +kernel
theorem dX8_law_236 : decode cX8_law 236 = .ok (.ireturn, 1) := by decide +kernel
