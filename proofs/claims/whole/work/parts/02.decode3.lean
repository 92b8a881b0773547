theorem dX8_pawn_61 : decode cX8_pawn 61 = .ok (.getfield 16, 3) := by decide +kernel
theorem dX8_pawn_64 : decode cX8_pawn 64 = .ok (.iload_n 1, 1) := by decide +kernel
theorem dX8_pawn_65 : decode cX8_pawn 65 = .ok (.iload 4, 2) := by decide +kernel
theorem dX8_pawn_67 : decode cX8_pawn 67 = .ok (.iconst 1, 1) := by decide +kernel
theorem dX8_pawn_68 : decode cX8_pawn 68 = .ok (.iload 7, 2) := by decide +kernel
theorem dX8_pawn_70 : decode cX8_pawn 70 = .ok (.iconst 1, 1) := by decide +kernel
theorem dX8_pawn_71 : decode cX8_pawn 71 = .ok (.isub, 1) := by decide +kernel
theorem dX8_pawn_72 : decode cX8_pawn 72 = .ok (.ishl, 1) := by decide +kernel
theorem dX8_pawn_73 : decode cX8_pawn 73 = .ok (.isub, 1) := by decide +kernel
theorem dX8_pawn_74 : decode cX8_pawn 74 = .ok (.iastore, 1) := by decide +kernel
theorem dX8_pawn_75 : decode cX8_pawn 75 = .ok (.aload_n 0, 1) := by decide +kernel
theorem dX8_pawn_76 : decode cX8_pawn 76 = .ok (.iload_n 1, 1) := by decide +kernel
theorem dX8_pawn_77 : decode cX8_pawn 77 = .ok (.iload_n 2, 1) := by decide +kernel
theorem dX8_pawn_78 : decode cX8_pawn 78 = .ok (.invokevirtual 261, 3) := by decide +kernel
theorem dX8_pawn_81 : decode cX8_pawn 81 = .ok (.istore 8, 2) := by decide +kernel
theorem dX8_pawn_83 : decode cX8_pawn 83 = .ok (.iload 5, 2) := by decide +kernel
theorem dX8_pawn_85 : decode cX8_pawn 85 = .ok (.iconst (-1), 1) := by decide +kernel
theorem dX8_pawn_86 : decode cX8_pawn 86 = .ok (.if_icmp .eq 13, 3) := by decide +kernel
theorem dX8_pawn_89 : decode cX8_pawn 89 = .ok (.iload 8, 2) := by decide +kernel
theorem dX8_pawn_91 : decode cX8_pawn 91 = .ok (.iload 6, 2) := by decide +kernel
theorem dX8_pawn_93 : decode cX8_pawn 93 = .ok (.if_icmp .lt 6, 3) := by decide +kernel
theorem dX8_pawn_96 : decode cX8_pawn 96 = .ok (.goto 11, 3) := by decide +kernel
theorem dX8_pawn_99 : decode cX8_pawn 99 = .ok (.iload 7, 2) := by decide +kernel
theorem dX8_pawn_101 : decode cX8_pawn 101 = .ok (.istore 5, 2) := by decide +kernel
theorem dX8_pawn_103 : decode cX8_pawn 103 = .ok (.iload 8, 2) := by decide +kernel
theorem dX8_pawn_105 : decode cX8_pawn 105 = .ok (.istore 6, 2) := by decide +kernel
theorem dX8_pawn_107 : decode cX8_pawn 107 = .ok (.iinc 7 1, 3) := by decide +kernel
theorem dX8_pawn_110 : decode cX8_pawn 110 = .ok (.goto (-72), 3) := by decide +kernel
theorem dX8_pawn_113 : decode cX8_pawn 113 = .ok (.aload_n 0, 1) := by decide +kernel
theorem dX8_pawn_114 : decode cX8_pawn 114 = .ok (.getfield 16, 3) := by decide +kernel
theorem dX8_pawn_117 : decode cX8_pawn 117 = .ok (.iload_n 1, 1) := by decide +kernel
theorem dX8_pawn_118 : decode cX8_pawn 118 = .ok (.iload 4, 2) := by decide +kernel
theorem dX8_pawn_120 : decode cX8_pawn 120 = .ok (.iastore, 1) := by decide +kernel
theorem dX8_pawn_121 : decode cX8_pawn 121 = .ok (.iload_n 3, 1) := by decide +kernel
theorem dX8_pawn_122 : decode cX8_pawn 122 = .ok (.ifCond .ne 8, 3) := by decide +kernel
theorem dX8_pawn_125 : decode cX8_pawn 125 = .ok (.iload 5, 2) := by decide +kernel
theorem dX8_pawn_127 : decode cX8_pawn 127 = .ok (.goto 5, 3) := by decide +kernel
theorem dX8_pawn_130 : decode cX8_pawn 130 = .ok (.iload 6, 2) := by decide +kernel
theorem dX8_pawn_132 : decode cX8_pawn 132 = .ok (.ireturn, 1) := by decide +kernel
theorem dX8_otherwise_0 : decode cX8_otherwise 0 = .ok (.aload_n 0, 1) := by decide +kernel
theorem dX8_otherwise_1 : decode cX8_otherwise 1 = .ok (.iload_n 2, 1) := by decide +kernel
theorem dX8_otherwise_2 : decode cX8_otherwise 2 = .ok (.iload_n 3, 1) := by decide +kernel
theorem dX8_otherwise_3 : decode cX8_otherwise 3 = .ok (.invokevirtual 245, 3) := by decide +kernel
theorem dX8_otherwise_6 : decode cX8_otherwise 6 = .ok (.iconst 0, 1) := by decide +kernel
theorem dX8_otherwise_7 : decode cX8_otherwise 7 = .ok (.istore 4, 2) := by decide +kernel
theorem dX8_otherwise_9 : decode cX8_otherwise 9 = .ok (.iload 4, 2) := by decide +kernel
theorem dX8_otherwise_11 : decode cX8_otherwise 11 = .ok (.aload_n 0, 1) := by decide +kernel
theorem dX8_otherwise_12 : decode cX8_otherwise 12 = .ok (.getfield 65, 3) := by decide +kernel
theorem dX8_otherwise_15 : decode cX8_otherwise 15 = .ok (.iload_n 1, 1) := by decide +kernel
theorem dX8_otherwise_16 : decode cX8_otherwise 16 = .ok (.iaload, 1) := by decide +kernel
theorem dX8_otherwise_17 : decode cX8_otherwise 17 = .ok (.if_icmp .ge 48, 3) := by decide +kernel
theorem dX8_otherwise_20 : decode cX8_otherwise 20 = .ok (.aload_n 0, 1) := by decide +kernel
theorem dX8_otherwise_21 : decode cX8_otherwise 21 = .ok (.getfield 68, 3) := by decide +kernel
theorem dX8_otherwise_24 : decode cX8_otherwise 24 = .ok (.bipush 40, 2) := by decide +kernel
theorem dX8_otherwise_26 : decode cX8_otherwise 26 = .ok (.iload_n 1, 1) := by decide +kernel
theorem dX8_otherwise_27 : decode cX8_otherwise 27 = .ok (.imul, 1) := by decide +kernel
theorem dX8_otherwise_28 : decode cX8_otherwise 28 = .ok (.iload 4, 2) := by decide +kernel
theorem dX8_otherwise_30 : decode cX8_otherwise 30 = .ok (.iadd, 1) := by decide +kernel
theorem dX8_otherwise_31 : decode cX8_otherwise 31 = .ok (.iconst 1, 1) := by decide +kernel
theorem dX8_otherwise_32 : decode cX8_otherwise 32 = .ok (.iadd, 1) := by decide +kernel
theorem dX8_otherwise_33 : decode cX8_otherwise 33 = .ok (.iaload, 1) := by decide +kernel
theorem dX8_otherwise_34 : decode cX8_otherwise 34 = .ok (.aload_n 0, 1) := by decide +kernel
theorem dX8_otherwise_35 : decode cX8_otherwise 35 = .ok (.getfield 40, 3) := by decide +kernel
theorem dX8_otherwise_38 : decode cX8_otherwise 38 = .ok (.aload_n 0, 1) := by decide +kernel
theorem dX8_otherwise_39 : decode cX8_otherwise 39 = .ok (.getfield 68, 3) := by decide +kernel
theorem dX8_otherwise_42 : decode cX8_otherwise 42 = .ok (.bipush 40, 2) := by decide +kernel
theorem dX8_otherwise_44 : decode cX8_otherwise 44 = .ok (.iload_n 1, 1) := by decide +kernel
theorem dX8_otherwise_45 : decode cX8_otherwise 45 = .ok (.imul, 1) := by decide +kernel
theorem dX8_otherwise_46 : decode cX8_otherwise 46 = .ok (.iload 4, 2) := by decide +kernel
theorem dX8_otherwise_48 : decode cX8_otherwise 48 = .ok (.iadd, 1) := by decide +kernel
theorem dX8_otherwise_49 : decode cX8_otherwise 49 = .ok (.iaload, 1) := by decide +kernel
theorem dX8_otherwise_50 : decode cX8_otherwise 50 = .ok (.iaload, 1) := by decide +kernel
theorem dX8_otherwise_51 : decode cX8_otherwise 51 = .ok (.if_icmp .eq 8, 3) := by decide +kernel
theorem dX8_otherwise_54 : decode cX8_otherwise 54 = .ok (.iload 4, 2) := by decide +kernel
theorem dX8_otherwise_56 : decode cX8_otherwise 56 = .ok (.iconst 2, 1) := by decide +kernel
theorem dX8_otherwise_57 : decode cX8_otherwise 57 = .ok (.idiv, 1) := by decide +kernel
theorem dX8_otherwise_58 : decode cX8_otherwise 58 = .ok (.ireturn, 1) := by decide +kernel
theorem dX8_otherwise_59 : decode cX8_otherwise 59 = .ok (.iinc 4 2, 3) := by decide +kernel
theorem dX8_otherwise_62 : decode cX8_otherwise 62 = .ok (.goto (-53), 3) := by decide +kernel
theorem dX8_otherwise_65 : decode cX8_otherwise 65 = .ok (.iconst (-1), 1) := by decide +kernel
theorem dX8_otherwise_66 : decode cX8_otherwise 66 = .ok (.ireturn, 1) := by decide +kernel
theorem dX8_isSo_0 : decode cX8_isSo 0 = .ok (.aload_n 0, 1) := by decide +kernel
theorem dX8_isSo_1 : decode cX8_isSo 1 = .ok (.iload_n 1, 1) := by decide +kernel
theorem dX8_isSo_2 : decode cX8_isSo 2 = .ok (.iload_n 2, 1) := by decide +kernel
theorem dX8_isSo_3 : decode cX8_isSo 3 = .ok (.iload_n 3, 1) := by decide +kernel
theorem dX8_isSo_4 : decode cX8_isSo 4 = .ok (.invokevirtual 264, 3) := by decide +kernel
theorem dX8_isSo_7 : decode cX8_isSo 7 = .ok (.iconst (-1), 1) := by decide +kernel
theorem dX8_isSo_8 : decode cX8_isSo 8 = .ok (.if_icmp .ne 7, 3) := by decide +kernel
theorem dX8_isSo_11 : decode cX8_isSo 11 = .ok (.iconst 1, 1) := by decide +kernel
theorem dX8_isSo_12 : decode cX8_isSo 12 = .ok (.goto 4, 3) := by decide +kernel
theorem dX8_isSo_15 : decode cX8_isSo 15 = .ok (.iconst 0, 1) := by decide +kernel
theorem dX8_isSo_16 : decode cX8_isSo 16 = .ok (.ireturn, 1) := by decide +kernel
theorem dX8_rows_0 : decode cX8_rows 0 = .ok (.iload_n 1, 1) := by decide +kernel
theorem dX8_rows_1 : decode cX8_rows 1 = .ok (.invokestatic 267, 3) := by decide +kernel
theorem dX8_rows_4 : decode cX8_rows 4 = .ok (.ifCond .eq 22, 3) := by decide +kernel
theorem dX8_rows_7 : decode cX8_rows 7 = .ok (.aload_n 0, 1) := by decide +kernel
theorem dX8_rows_8 : decode cX8_rows 8 = .ok (.iload_n 2, 1) := by decide +kernel
theorem dX8_rows_9 : decode cX8_rows 9 = .ok (.iload_n 3, 1) := by decide +kernel
theorem dX8_rows_10 : decode cX8_rows 10 = .ok (.invokevirtual 112, 3) := by decide +kernel
theorem dX8_rows_13 : decode cX8_rows 13 = .ok (.ifCond .eq 13, 3) := by decide +kernel
theorem dX8_rows_16 : decode cX8_rows 16 = .ok (.iload 4, 2) := by decide +kernel
theorem dX8_rows_18 : decode cX8_rows 18 = .ok (.iconst 0, 1) := by decide +kernel
theorem dX8_rows_19 : decode cX8_rows 19 = .ok (.iconst 5, 1) := by decide +kernel
theorem dX8_rows_20 : decode cX8_rows 20 = .ok (.invokestatic 85, 3) := by decide +kernel
theorem dX8_rows_23 : decode cX8_rows 23 = .ok (.ifCond .ne 6, 3) := by decide +kernel
theorem dX8_rows_26 : decode cX8_rows 26 = .ok (.bipush (-2), 2) := by decide +kernel
theorem dX8_rows_28 : decode cX8_rows 28 = .ok (.ireturn, 1) := by decide +kernel
theorem dX8_rows_29 : decode cX8_rows 29 = .ok (.aload_n 0, 1) := by decide +kernel
theorem dX8_rows_30 : decode cX8_rows 30 = .ok (.getfield 62, 3) := by decide +kernel
theorem dX8_rows_33 : decode cX8_rows 33 = .ok (.iload_n 1, 1) := by decide +kernel
theorem dX8_rows_34 : decode cX8_rows 34 = .ok (.iaload, 1) := by decide +kernel
theorem dX8_rows_35 : decode cX8_rows 35 = .ok (.ifCond .ge 6, 3) := by decide +kernel
theorem dX8_rows_38 : decode cX8_rows 38 = .ok (.bipush (-11), 2) := by decide +kernel
theorem dX8_rows_40 : decode cX8_rows 40 = .ok (.ireturn, 1) := by decide +kernel
theorem dX8_rows_41 : decode cX8_rows 41 = .ok (.aload_n 0, 1) := by decide +kernel
theorem dX8_rows_42 : decode cX8_rows 42 = .ok (.getfield 65, 3) := by decide +kernel
theorem dX8_rows_45 : decode cX8_rows 45 = .ok (.iload_n 1, 1) := by decide +kernel
theorem dX8_rows_46 : decode cX8_rows 46 = .ok (.iaload, 1) := by decide +kernel
theorem dX8_rows_47 : decode cX8_rows 47 = .ok (.iconst 2, 1) := by decide +kernel
theorem dX8_rows_48 : decode cX8_rows 48 = .ok (.irem, 1) := by decide +kernel
theorem dX8_rows_49 : decode cX8_rows 49 = .ok (.iconst 1, 1) := by decide +kernel
theorem dX8_rows_50 : decode cX8_rows 50 = .ok (.if_icmp .ne 6, 3) := by decide +kernel
theorem dX8_rows_53 : decode cX8_rows 53 = .ok (.bipush (-2), 2) := by decide +kernel
theorem dX8_rows_55 : decode cX8_rows 55 = .ok (.ireturn, 1) := by decide +kernel
theorem dX8_rows_56 : decode cX8_rows 56 = .ok (.iconst 0, 1) := by decide +kernel
theorem dX8_rows_57 : decode cX8_rows 57 = .ok (.istore 5, 2) := by decide +kernel
theorem dX8_rows_59 : decode cX8_rows 59 = .ok (.iload 5, 2) := by decide +kernel
theorem dX8_rows_61 : decode cX8_rows 61 = .ok (.aload_n 0, 1) := by decide +kernel
theorem dX8_rows_62 : decode cX8_rows 62 = .ok (.getfield 65, 3) := by decide +kernel
theorem dX8_rows_65 : decode cX8_rows 65 = .ok (.iload_n 1, 1) := by decide +kernel
theorem dX8_rows_66 : decode cX8_rows 66 = .ok (.iaload, 1) := by decide +kernel
theorem dX8_rows_67 : decode cX8_rows 67 = .ok (.if_icmp .ge 30, 3) := by decide +kernel
theorem dX8_rows_70 : decode cX8_rows 70 = .ok (.aload_n 0, 1) := by decide +kernel
theorem dX8_rows_71 : decode cX8_rows 71 = .ok (.getfield 68, 3) := by decide +kernel
theorem dX8_rows_74 : decode cX8_rows 74 = .ok (.bipush 40, 2) := by decide +kernel
theorem dX8_rows_76 : decode cX8_rows 76 = .ok (.iload_n 1, 1) := by decide +kernel
theorem dX8_rows_77 : decode cX8_rows 77 = .ok (.imul, 1) := by decide +kernel
theorem dX8_rows_78 : decode cX8_rows 78 = .ok (.iload 5, 2) := by decide +kernel
theorem dX8_rows_80 : decode cX8_rows 80 = .ok (.iadd, 1) := by decide +kernel
theorem dX8_rows_81 : decode cX8_rows 81 = .ok (.iaload, 1) := by decide +kernel
theorem dX8_rows_82 : decode cX8_rows 82 = .ok (.invokestatic 233, 3) := by decide +kernel
theorem dX8_rows_85 : decode cX8_rows 85 = .ok (.ifCond .ne 6, 3) := by decide +kernel
theorem dX8_rows_88 : decode cX8_rows 88 = .ok (.bipush (-2), 2) := by decide +kernel
theorem dX8_rows_90 : decode cX8_rows 90 = .ok (.ireturn, 1) := by decide +kernel
theorem dX8_rows_91 : decode cX8_rows 91 = .ok (.iinc 5 2, 3) := by decide +kernel
theorem dX8_rows_94 : decode cX8_rows 94 = .ok (.goto (-35), 3) := by decide +kernel
theorem dX8_rows_97 : decode cX8_rows 97 = .ok (.iload 4, 2) := by decide +kernel
theorem dX8_rows_99 : decode cX8_rows 99 = .ok (.tableswitch 61 0 3 #[29, 37, 45, 53], 29) := by decide +kernel
theorem dX8_rows_128 : decode cX8_rows 128 = .ok (.aload_n 0, 1) := by decide +kernel
theorem dX8_rows_129 : decode cX8_rows 129 = .ok (.iload_n 1, 1) := by decide +kernel
theorem dX8_rows_130 : decode cX8_rows 130 = .ok (.iload_n 2, 1) := by decide +kernel
theorem dX8_rows_131 : decode cX8_rows 131 = .ok (.iload_n 3, 1) := by decide +kernel
theorem dX8_rows_132 : decode cX8_rows 132 = .ok (.invokevirtual 264, 3) := by decide +kernel
theorem dX8_rows_135 : decode cX8_rows 135 = .ok (.ireturn, 1) := by decide +kernel
theorem dX8_rows_136 : decode cX8_rows 136 = .ok (.aload_n 0, 1) := by decide +kernel
theorem dX8_rows_137 : decode cX8_rows 137 = .ok (.iload_n 1, 1) := by decide +kernel
theorem dX8_rows_138 : decode cX8_rows 138 = .ok (.iload_n 2, 1) := by decide +kernel
theorem dX8_rows_139 : decode cX8_rows 139 = .ok (.iload_n 3, 1) := by decide +kernel
theorem dX8_rows_140 : decode cX8_rows 140 = .ok (.invokevirtual 270, 3) := by decide +kernel
theorem dX8_rows_143 : decode cX8_rows 143 = .ok (.ireturn, 1) := by decide +kernel
theorem dX8_rows_144 : decode cX8_rows 144 = .ok (.aload_n 0, 1) := by decide +kernel
theorem dX8_rows_145 : decode cX8_rows 145 = .ok (.iload_n 1, 1) := by decide +kernel
theorem dX8_rows_146 : decode cX8_rows 146 = .ok (.iload_n 2, 1) := by decide +kernel
theorem dX8_rows_147 : decode cX8_rows 147 = .ok (.iload_n 3, 1) := by decide +kernel
theorem dX8_rows_148 : decode cX8_rows 148 = .ok (.invokevirtual 273, 3) := by decide +kernel
theorem dX8_rows_151 : decode cX8_rows 151 = .ok (.ireturn, 1) := by decide +kernel
theorem dX8_rows_152 : decode cX8_rows 152 = .ok (.aload_n 0, 1) := by decide +kernel
theorem dX8_rows_153 : decode cX8_rows 153 = .ok (.iload_n 1, 1) := by decide +kernel
theorem dX8_rows_154 : decode cX8_rows 154 = .ok (.iload_n 2, 1) := by decide +kernel
theorem dX8_rows_155 : decode cX8_rows 155 = .ok (.iload_n 3, 1) := by decide +kernel
theorem dX8_rows_156 : decode cX8_rows 156 = .ok (.invokevirtual 276, 3) := by decide +kernel
theorem dX8_rows_159 : decode cX8_rows 159 = .ok (.ireturn, 1) := by decide +kernel
theorem dX8_rows_160 : decode cX8_rows 160 = .ok (.aload_n 0, 1) := by decide +kernel
theorem dX8_rows_161 : decode cX8_rows 161 = .ok (.iload_n 1, 1) := by decide +kernel
theorem dX8_rows_162 : decode cX8_rows 162 = .ok (.iload_n 2, 1) := by decide +kernel
theorem dX8_rows_163 : decode cX8_rows 163 = .ok (.iload_n 3, 1) := by decide +kernel
theorem dX8_rows_164 : decode cX8_rows 164 = .ok (.iload 4, 2) := by decide +kernel
theorem dX8_rows_166 : decode cX8_rows 166 = .ok (.iconst 4, 1) := by decide +kernel
theorem dX8_rows_167 : decode cX8_rows 167 = .ok (.if_icmp .ne 7, 3) := by decide +kernel
theorem dX8_rows_170 : decode cX8_rows 170 = .ok (.iconst 1, 1) := by decide +kernel
theorem dX8_rows_171 : decode cX8_rows 171 = .ok (.goto 4, 3) := by decide +kernel
theorem dX8_rows_174 : decode cX8_rows 174 = .ok (.iconst 0, 1) := by decide +kernel
theorem dX8_rows_175 : decode cX8_rows 175 = .ok (.invokevirtual 279, 3) := by decide +kernel
theorem dX8_rows_178 : decode cX8_rows 178 = .ok (.ireturn, 1) := by decide +kernel
theorem dX8_kinds_0 : decode cX8_kinds 0 = .ok (.aload_n 0, 1) := by decide +kernel
theorem dX8_kinds_1 : decode cX8_kinds 1 = .ok (.getfield 7, 3) := by decide +kernel
theorem dX8_kinds_4 : decode cX8_kinds 4 = .ok (.iload_n 2, 1) := by decide +kernel
theorem dX8_kinds_5 : decode cX8_kinds 5 = .ok (.iaload, 1) := by decide +kernel
theorem dX8_kinds_6 : decode cX8_kinds 6 = .ok (.istore 4, 2) := by decide +kernel
theorem dX8_kinds_8 : decode cX8_kinds 8 = .ok (.iconst 0, 1) := by decide +kernel
theorem dX8_kinds_9 : decode cX8_kinds 9 = .ok (.istore 5, 2) := by decide +kernel
theorem dX8_kinds_11 : decode cX8_kinds 11 = .ok (.iconst 0, 1) := by decide +kernel
theorem dX8_kinds_12 : decode cX8_kinds 12 = .ok (.istore 6, 2) := by decide +kernel
theorem dX8_kinds_14 : decode cX8_kinds 14 = .ok (.iload 6, 2) := by decide +kernel
theorem dX8_kinds_16 : decode cX8_kinds 16 = .ok (.bipush 6, 2) := by decide +kernel
theorem dX8_kinds_18 : decode cX8_kinds 18 = .ok (.if_icmp .ge 36, 3) := by decide +kernel
theorem dX8_kinds_21 : decode cX8_kinds 21 = .ok (.aload_n 0, 1) := by decide +kernel
theorem dX8_kinds_22 : decode cX8_kinds 22 = .ok (.getfield 7, 3) := by decide +kernel
theorem dX8_kinds_25 : decode cX8_kinds 25 = .ok (.iload_n 2, 1) := by decide +kernel
theorem dX8_kinds_26 : decode cX8_kinds 26 = .ok (.iload 6, 2) := by decide +kernel
theorem dX8_kinds_28 : decode cX8_kinds 28 = .ok (.iastore, 1) := by decide +kernel
theorem dX8_kinds_29 : decode cX8_kinds 29 = .ok (.aload_n 0, 1) := by decide +kernel
theorem dX8_kinds_30 : decode cX8_kinds 30 = .ok (.iload_n 1, 1) := by decide +kernel
theorem dX8_kinds_31 : decode cX8_kinds 31 = .ok (.iload_n 2, 1) := by decide +kernel
theorem dX8_kinds_32 : decode cX8_kinds 32 = .ok (.iload_n 3, 1) := by decide +kernel
theorem dX8_kinds_33 : decode cX8_kinds 33 = .ok (.invokevirtual 283, 3) := by decide +kernel
theorem dX8_kinds_36 : decode cX8_kinds 36 = .ok (.ifCond .eq 12, 3) := by decide +kernel
theorem dX8_kinds_39 : decode cX8_kinds 39 = .ok (.iload 5, 2) := by decide +kernel
theorem dX8_kinds_41 : decode cX8_kinds 41 = .ok (.iconst 1, 1) := by decide +kernel
theorem dX8_kinds_42 : decode cX8_kinds 42 = .ok (.iload 6, 2) := by decide +kernel
theorem dX8_kinds_44 : decode cX8_kinds 44 = .ok (.ishl, 1) := by decide +kernel
theorem dX8_kinds_45 : decode cX8_kinds 45 = .ok (.ior, 1) := by decide +kernel
theorem dX8_kinds_46 : decode cX8_kinds 46 = .ok (.istore 5, 2) := by decide +kernel
theorem dX8_kinds_48 : decode cX8_kinds 48 = .ok (.iinc 6 1, 3) := by decide +kernel
theorem dX8_kinds_51 : decode cX8_kinds 51 = .ok (.goto (-37), 3) := by decide +kernel
theorem dX8_kinds_54 : decode cX8_kinds 54 = .ok (.aload_n 0, 1) := by decide +kernel
theorem dX8_kinds_55 : decode cX8_kinds 55 = .ok (.getfield 7, 3) := by decide +kernel
theorem dX8_kinds_58 : decode cX8_kinds 58 = .ok (.iload_n 2, 1) := by decide +kernel
theorem dX8_kinds_59 : decode cX8_kinds 59 = .ok (.iload 4, 2) := by decide +kernel
theorem dX8_kinds_61 : decode cX8_kinds 61 = .ok (.iastore, 1) := by decide +kernel
theorem dX8_kinds_62 : decode cX8_kinds 62 = .ok (.iload 5, 2) := by decide +kernel
theorem dX8_kinds_64 : decode cX8_kinds 64 = .ok (.ireturn, 1) := by decide +kernel
theorem dX8_mores_0 : decode cX8_mores 0 = .ok (.aload_n 0, 1) := by decide +kernel
theorem dX8_mores_1 : decode cX8_mores 1 = .ok (.getfield 13, 3) := by decide +kernel
theorem dX8_mores_4 : decode cX8_mores 4 = .ok (.iload_n 2, 1) := by decide +kernel
theorem dX8_mores_5 : decode cX8_mores 5 = .ok (.iaload, 1) := by decide +kernel
theorem dX8_mores_6 : decode cX8_mores 6 = .ok (.istore 4, 2) := by decide +kernel
theorem dX8_mores_8 : decode cX8_mores 8 = .ok (.iconst 0, 1) := by decide +kernel
theorem dX8_mores_9 : decode cX8_mores 9 = .ok (.istore 5, 2) := by decide +kernel
theorem dX8_mores_11 : decode cX8_mores 11 = .ok (.iconst 0, 1) := by decide +kernel
theorem dX8_mores_12 : decode cX8_mores 12 = .ok (.istore 6, 2) := by decide +kernel
theorem dX8_mores_14 : decode cX8_mores 14 = .ok (.iload 6, 2) := by decide +kernel
theorem dX8_mores_16 : decode cX8_mores 16 = .ok (.bipush 10, 2) := by decide +kernel
theorem dX8_mores_18 : decode cX8_mores 18 = .ok (.if_icmp .ge 36, 3) := by decide +kernel
theorem dX8_mores_21 : decode cX8_mores 21 = .ok (.aload_n 0, 1) := by decide +kernel
theorem dX8_mores_22 : decode cX8_mores 22 = .ok (.getfield 13, 3) := by decide +kernel
theorem dX8_mores_25 : decode cX8_mores 25 = .ok (.iload_n 2, 1) := by decide +kernel
theorem dX8_mores_26 : decode cX8_mores 26 = .ok (.iload 6, 2) := by decide +kernel
theorem dX8_mores_28 : decode cX8_mores 28 = .ok (.iastore, 1) := by decide +kernel
theorem dX8_mores_29 : decode cX8_mores 29 = .ok (.aload_n 0, 1) := by decide +kernel
theorem dX8_mores_30 : decode cX8_mores 30 = .ok (.iload_n 1, 1) := by decide +kernel
theorem dX8_mores_31 : decode cX8_mores 31 = .ok (.iload_n 2, 1) := by decide +kernel
theorem dX8_mores_32 : decode cX8_mores 32 = .ok (.iload_n 3, 1) := by decide +kernel
theorem dX8_mores_33 : decode cX8_mores 33 = .ok (.invokevirtual 283, 3) := by decide +kernel
theorem dX8_mores_36 : decode cX8_mores 36 = .ok (.ifCond .eq 12, 3) := by decide +kernel
theorem dX8_mores_39 : decode cX8_mores 39 = .ok (.iload 5, 2) := by decide +kernel
theorem dX8_mores_41 : decode cX8_mores 41 = .ok (.iconst 1, 1) := by decide +kernel
theorem dX8_mores_42 : decode cX8_mores 42 = .ok (.iload 6, 2) := by decide +kernel
theorem dX8_mores_44 : decode cX8_mores 44 = .ok (.ishl, 1) := by decide +kernel
theorem dX8_mores_45 : decode cX8_mores 45 = .ok (.ior, 1) := by decide +kernel
theorem dX8_mores_46 : decode cX8_mores 46 = .ok (.istore 5, 2) := by decide +kernel
theorem dX8_mores_48 : decode cX8_mores 48 = .ok (.iinc 6 1, 3) := by decide +kernel
theorem dX8_mores_51 : decode cX8_mores 51 = .ok (.goto (-37), 3) := by decide +kernel
theorem dX8_mores_54 : decode cX8_mores 54 = .ok (.aload_n 0, 1) := by decide +kernel
theorem dX8_mores_55 : decode cX8_mores 55 = .ok (.getfield 13, 3) := by decide +kernel
theorem dX8_mores_58 : decode cX8_mores 58 = .ok (.iload_n 2, 1) := by decide +kernel
theorem dX8_mores_59 : decode cX8_mores 59 = .ok (.iload 4, 2) := by decide +kernel
theorem dX8_mores_61 : decode cX8_mores 61 = .ok (.iastore, 1) := by decide +kernel
theorem dX8_mores_62 : decode cX8_mores 62 = .ok (.iload 5, 2) := by decide +kernel
theorem dX8_mores_64 : decode cX8_mores 64 = .ok (.ireturn, 1) := by decide +kernel
theorem dX8_rules_0 : decode cX8_rules 0 = .ok (.aload_n 0, 1) := by decide +kernel
theorem dX8_rules_1 : decode cX8_rules 1 = .ok (.getfield 209, 3) := by decide +kernel
theorem dX8_rules_4 : decode cX8_rules 4 = .ok (.istore 4, 2) := by decide +kernel
theorem dX8_rules_6 : decode cX8_rules 6 = .ok (.iconst 0, 1) := by decide +kernel
theorem dX8_rules_7 : decode cX8_rules 7 = .ok (.istore 5, 2) := by decide +kernel
theorem dX8_rules_9 : decode cX8_rules 9 = .ok (.iconst 0, 1) := by decide +kernel
theorem dX8_rules_10 : decode cX8_rules 10 = .ok (.istore 6, 2) := by decide +kernel
theorem dX8_rules_12 : decode cX8_rules 12 = .ok (.iload 6, 2) := by decide +kernel
theorem dX8_rules_14 : decode cX8_rules 14 = .ok (.aload_n 0, 1) := by decide +kernel
theorem dX8_rules_15 : decode cX8_rules 15 = .ok (.getfield 78, 3) := by decide +kernel
theorem dX8_rules_18 : decode cX8_rules 18 = .ok (.if_icmp .ge 34, 3) := by decide +kernel
theorem dX8_rules_21 : decode cX8_rules 21 = .ok (.aload_n 0, 1) := by decide +kernel
theorem dX8_rules_22 : decode cX8_rules 22 = .ok (.iload 6, 2) := by decide +kernel
theorem dX8_rules_24 : decode cX8_rules 24 = .ok (.putfield 209, 3) := by decide +kernel
theorem dX8_rules_27 : decode cX8_rules 27 = .ok (.aload_n 0, 1) := by decide +kernel
theorem dX8_rules_28 : decode cX8_rules 28 = .ok (.iload_n 1, 1) := by decide +kernel
theorem dX8_rules_29 : decode cX8_rules 29 = .ok (.iload_n 2, 1) := by decide +kernel
theorem dX8_rules_30 : decode cX8_rules 30 = .ok (.iload_n 3, 1) := by decide +kernel
theorem dX8_rules_31 : decode cX8_rules 31 = .ok (.invokevirtual 283, 3) := by decide +kernel
theorem dX8_rules_34 : decode cX8_rules 34 = .ok (.ifCond .eq 12, 3) := by decide +kernel
theorem dX8_rules_37 : decode cX8_rules 37 = .ok (.iload 5, 2) := by decide +kernel
theorem dX8_rules_39 : decode cX8_rules 39 = .ok (.iconst 1, 1) := by decide +kernel
theorem dX8_rules_40 : decode cX8_rules 40 = .ok (.iload 6, 2) := by decide +kernel
theorem dX8_rules_42 : decode cX8_rules 42 = .ok (.ishl, 1) := by decide +kernel
theorem dX8_rules_43 : decode cX8_rules 43 = .ok (.ior, 1) := by decide +kernel
theorem dX8_rules_44 : decode cX8_rules 44 = .ok (.istore 5, 2) := by decide +kernel
theorem dX8_rules_46 : decode cX8_rules 46 = .ok (.iinc 6 1, 3) := by decide +kernel
theorem dX8_rules_49 : decode cX8_rules 49 = .ok (.goto (-37), 3) := by decide +kernel
theorem dX8_rules_52 : decode cX8_rules 52 = .ok (.aload_n 0, 1) := by decide +kernel
theorem dX8_rules_53 : decode cX8_rules 53 = .ok (.iload 4, 2) := by decide +kernel
theorem dX8_rules_55 : decode cX8_rules 55 = .ok (.putfield 209, 3) := by decide +kernel
theorem dX8_rules_58 : decode cX8_rules 58 = .ok (.iload 5, 2) := by decide +kernel
theorem dX8_rules_60 : decode cX8_rules 60 = .ok (.ireturn, 1) := by decide +kernel
theorem dX8_owns_0 : decode cX8_owns 0 = .ok (.aload_n 0, 1) := by decide +kernel
theorem dX8_owns_1 : decode cX8_owns 1 = .ok (.getfield 16, 3) := by decide +kernel
theorem dX8_owns_4 : decode cX8_owns 4 = .ok (.iload_n 2, 1) := by decide +kernel
theorem dX8_owns_5 : decode cX8_owns 5 = .ok (.iaload, 1) := by decide +kernel
theorem dX8_owns_6 : decode cX8_owns 6 = .ok (.istore 5, 2) := by decide +kernel
theorem dX8_owns_8 : decode cX8_owns 8 = .ok (.iconst 0, 1) := by decide +kernel
theorem dX8_owns_9 : decode cX8_owns 9 = .ok (.istore 6, 2) := by decide +kernel
theorem dX8_owns_11 : decode cX8_owns 11 = .ok (.iconst 0, 1) := by decide +kernel
theorem dX8_owns_12 : decode cX8_owns 12 = .ok (.istore 7, 2) := by decide +kernel
theorem dX8_owns_14 : decode cX8_owns 14 = .ok (.iload 7, 2) := by decide +kernel
theorem dX8_owns_16 : decode cX8_owns 16 = .ok (.bipush 30, 2) := by decide +kernel
theorem dX8_owns_18 : decode cX8_owns 18 = .ok (.if_icmp .ge 58, 3) := by decide +kernel
theorem dX8_owns_21 : decode cX8_owns 21 = .ok (.iload 5, 2) := by decide +kernel
theorem dX8_owns_23 : decode cX8_owns 23 = .ok (.iload 7, 2) := by decide +kernel
theorem dX8_owns_25 : decode cX8_owns 25 = .ok (.invokestatic 118, 3) := by decide +kernel
theorem dX8_owns_28 : decode cX8_owns 28 = .ok (.iload 4, 2) := by decide +kernel
theorem dX8_owns_30 : decode cX8_owns 30 = .ok (.if_icmp .eq 6, 3) := by decide +kernel
theorem dX8_owns_33 : decode cX8_owns 33 = .ok (.goto 37, 3) := by decide +kernel
theorem dX8_owns_36 : decode cX8_owns 36 = .ok (.aload_n 0, 1) := by decide +kernel
theorem dX8_owns_37 : decode cX8_owns 37 = .ok (.getfield 16, 3) := by decide +kernel
theorem dX8_owns_40 : decode cX8_owns 40 = .ok (.iload_n 2, 1) := by decide +kernel
theorem dX8_owns_41 : decode cX8_owns 41 = .ok (.iload 5, 2) := by decide +kernel
theorem dX8_owns_43 : decode cX8_owns 43 = .ok (.iconst 1, 1) := by decide +kernel
theorem dX8_owns_44 : decode cX8_owns 44 = .ok (.iload 7, 2) := by decide +kernel
theorem dX8_owns_46 : decode cX8_owns 46 = .ok (.ishl, 1) := by decide +kernel
theorem dX8_owns_47 : decode cX8_owns 47 = .ok (.ixor, 1) := by decide +kernel
theorem dX8_owns_48 : decode cX8_owns 48 = .ok (.iastore, 1) := by decide +kernel
theorem dX8_owns_49 : decode cX8_owns 49 = .ok (.aload_n 0, 1) := by decide +kernel
theorem dX8_owns_50 : decode cX8_owns 50 = .ok (.iload_n 1, 1) := by decide +kernel
theorem dX8_owns_51 : decode cX8_owns 51 = .ok (.iload_n 2, 1) := by decide +kernel
theorem dX8_owns_52 : decode cX8_owns 52 = .ok (.iload_n 3, 1) := by decide +kernel
theorem dX8_owns_53 : decode cX8_owns 53 = .ok (.invokevirtual 283, 3) := by decide +kernel
theorem dX8_owns_56 : decode cX8_owns 56 = .ok (.iload 4, 2) := by decide +kernel
theorem dX8_owns_58 : decode cX8_owns 58 = .ok (.if_icmp .eq 12, 3) := by decide +kernel
theorem dX8_owns_61 : decode cX8_owns 61 = .ok (.iload 6, 2) := by decide +kernel
theorem dX8_owns_63 : decode cX8_owns 63 = .ok (.iconst 1, 1) := by decide +kernel
theorem dX8_owns_64 : decode cX8_owns 64 = .ok (.iload 7, 2) := by decide +kernel
theorem dX8_owns_66 : decode cX8_owns 66 = .ok (.ishl, 1) := by decide +kernel
theorem dX8_owns_67 : decode cX8_owns 67 = .ok (.ior, 1) := by decide +kernel
theorem dX8_owns_68 : decode cX8_owns 68 = .ok (.istore 6, 2) := by decide +kernel
theorem dX8_owns_70 : decode cX8_owns 70 = .ok (.iinc 7 1, 3) := by decide +kernel
theorem dX8_owns_73 : decode cX8_owns 73 = .ok (.goto (-59), 3) := by decide +kernel
theorem dX8_owns_76 : decode cX8_owns 76 = .ok (.aload_n 0, 1) := by decide +kernel
theorem dX8_owns_77 : decode cX8_owns 77 = .ok (.getfield 16, 3) := by decide +kernel
theorem dX8_owns_80 : decode cX8_owns 80 = .ok (.iload_n 2, 1) := by decide +kernel
theorem dX8_owns_81 : decode cX8_owns 81 = .ok (.iload 5, 2) := by decide +kernel
theorem dX8_owns_83 : decode cX8_owns 83 = .ok (.iastore, 1) := by decide +kernel
theorem dX8_owns_84 : decode cX8_owns 84 = .ok (.iload 6, 2) := by decide +kernel
theorem dX8_owns_86 : decode cX8_owns 86 = .ok (.ireturn, 1) := by decide +kernel
theorem dX8_film_0 : decode cX8_film 0 = .ok (.iload_n 1, 1) := by decide +kernel
theorem dX8_film_1 : decode cX8_film 1 = .ok (.invokestatic 267, 3) := by decide +kernel
theorem dX8_film_4 : decode cX8_film 4 = .ok (.ifCond .eq 40, 3) := by decide +kernel
theorem dX8_film_7 : decode cX8_film 7 = .ok (.iload_n 2, 1) := by decide +kernel
theorem dX8_film_8 : decode cX8_film 8 = .ok (.ifCond .lt 36, 3) := by decide +kernel
theorem dX8_film_11 : decode cX8_film 11 = .ok (.aload_n 0, 1) := by decide +kernel
theorem dX8_film_12 : decode cX8_film 12 = .ok (.iload_n 2, 1) := by decide +kernel
theorem dX8_film_13 : decode cX8_film 13 = .ok (.bipush 10, 2) := by decide +kernel
theorem dX8_film_15 : decode cX8_film 15 = .ok (.idiv, 1) := by decide +kernel
theorem dX8_film_16 : decode cX8_film 16 = .ok (.iload_n 2, 1) := by decide +kernel
theorem dX8_film_17 : decode cX8_film 17 = .ok (.bipush 10, 2) := by decide +kernel
theorem dX8_film_19 : decode cX8_film 19 = .ok (.irem, 1) := by decide +kernel
theorem dX8_film_20 : decode cX8_film 20 = .ok (.invokevirtual 112, 3) := by decide +kernel
theorem dX8_film_23 : decode cX8_film 23 = .ok (.ifCond .eq 21, 3) := by decide +kernel
theorem dX8_film_26 : decode cX8_film 26 = .ok (.iload_n 3, 1) := by decide +kernel
theorem dX8_film_27 : decode cX8_film 27 = .ok (.invokestatic 233, 3) := by decide +kernel
theorem dX8_film_30 : decode cX8_film 30 = .ok (.ifCond .eq 14, 3) := by decide +kernel
theorem dX8_film_33 : decode cX8_film 33 = .ok (.iload 4, 2) := by decide +kernel
theorem dX8_film_35 : decode cX8_film 35 = .ok (.iconst 0, 1) := by decide +kernel
theorem dX8_film_36 : decode cX8_film 36 = .ok (.bipush 20, 2) := by decide +kernel
theorem dX8_film_38 : decode cX8_film 38 = .ok (.invokestatic 85, 3) := by decide +kernel
theorem dX8_film_41 : decode cX8_film 41 = .ok (.ifCond .ne 6, 3) := by decide +kernel
theorem dX8_film_44 : decode cX8_film 44 = .ok (.bipush (-2), 2) := by decide +kernel
theorem dX8_film_46 : decode cX8_film 46 = .ok (.ireturn, 1) := by decide +kernel
theorem dX8_film_47 : decode cX8_film 47 = .ok (.iload 4, 2) := by decide +kernel
theorem dX8_film_49 : decode cX8_film 49 = .ok (.bipush 100, 2) := by decide +kernel
theorem dX8_film_51 : decode cX8_film 51 = .ok (.iload_n 3, 1) := by decide +kernel
theorem dX8_film_52 : decode cX8_film 52 = .ok (.isub, 1) := by decide +kernel
theorem dX8_film_53 : decode cX8_film 53 = .ok (.if_icmp .ge 8, 3) := by decide +kernel
theorem dX8_film_56 : decode cX8_film 56 = .ok (.iload 4, 2) := by decide +kernel
theorem dX8_film_58 : decode cX8_film 58 = .ok (.goto 7, 3) := by decide +kernel
theorem dX8_film_61 : decode cX8_film 61 = .ok (.bipush 100, 2) := by decide +kernel
theorem dX8_film_63 : decode cX8_film 63 = .ok (.iload_n 3, 1) := by decide +kernel
theorem dX8_film_64 : decode cX8_film 64 = .ok (.isub, 1) := by decide +kernel
theorem dX8_film_65 : decode cX8_film 65 = .ok (.istore 5, 2) := by decide +kernel
theorem dX8_film_67 : decode cX8_film 67 = .ok (.aload_n 0, 1) := by decide +kernel
theorem dX8_film_68 : decode cX8_film 68 = .ok (.iload_n 2, 1) := by decide +kernel
theorem dX8_film_69 : decode cX8_film 69 = .ok (.bipush 10, 2) := by decide +kernel
theorem dX8_film_71 : decode cX8_film 71 = .ok (.idiv, 1) := by decide +kernel
theorem dX8_film_72 : decode cX8_film 72 = .ok (.iload_n 2, 1) := by decide +kernel
theorem dX8_film_73 : decode cX8_film 73 = .ok (.bipush 10, 2) := by decide +kernel
theorem dX8_film_75 : decode cX8_film 75 = .ok (.irem, 1) := by decide +kernel
theorem dX8_film_76 : decode cX8_film 76 = .ok (.invokevirtual 245, 3) := by decide +kernel
theorem dX8_film_79 : decode cX8_film 79 = .ok (.aload_n 0, 1) := by decide +kernel
theorem dX8_film_80 : decode cX8_film 80 = .ok (.iload_n 1, 1) := by decide +kernel
theorem dX8_film_81 : decode cX8_film 81 = .ok (.iconst 1, 1) := by decide +kernel
theorem dX8_film_82 : decode cX8_film 82 = .ok (.iconst 2, 1) := by decide +kernel
theorem dX8_film_83 : decode cX8_film 83 = .ok (.iload 5, 2) := by decide +kernel
theorem dX8_film_85 : decode cX8_film 85 = .ok (.imul, 1) := by decide +kernel
theorem dX8_film_86 : decode cX8_film 86 = .ok (.invokevirtual 286, 3) := by decide +kernel
theorem dX8_film_89 : decode cX8_film 89 = .ok (.pop, 1) := by decide +kernel
theorem dX8_film_90 : decode cX8_film 90 = .ok (.iconst 0, 1) := by decide +kernel
theorem dX8_film_91 : decode cX8_film 91 = .ok (.istore 6, 2) := by decide +kernel
theorem dX8_film_93 : decode cX8_film 93 = .ok (.iload 6, 2) := by decide +kernel
theorem dX8_film_95 : decode cX8_film 95 = .ok (.iload 5, 2) := by decide +kernel
theorem dX8_film_97 : decode cX8_film 97 = .ok (.if_icmp .ge 53, 3) := by decide +kernel
theorem dX8_film_100 : decode cX8_film 100 = .ok (.aload_n 0, 1) := by decide +kernel
theorem dX8_film_101 : decode cX8_film 101 = .ok (.getfield 68, 3) := by decide +kernel
theorem dX8_film_104 : decode cX8_film 104 = .ok (.bipush 40, 2) := by decide +kernel
theorem dX8_film_106 : decode cX8_film 106 = .ok (.iload_n 1, 1) := by decide +kernel
theorem dX8_film_107 : decode cX8_film 107 = .ok (.imul, 1) := by decide +kernel
theorem dX8_film_108 : decode cX8_film 108 = .ok (.iconst 2, 1) := by decide +kernel
theorem dX8_film_109 : decode cX8_film 109 = .ok (.iload 6, 2) := by decide +kernel
theorem dX8_film_111 : decode cX8_film 111 = .ok (.imul, 1) := by decide +kernel
theorem dX8_film_112 : decode cX8_film 112 = .ok (.iadd, 1) := by decide +kernel
theorem dX8_film_113 : decode cX8_film 113 = .ok (.iload_n 3, 1) := by decide +kernel
theorem dX8_film_114 : decode cX8_film 114 = .ok (.iload 6, 2) := by decide +kernel
theorem dX8_film_116 : decode cX8_film 116 = .ok (.iadd, 1) := by decide +kernel
theorem dX8_film_117 : decode cX8_film 117 = .ok (.iastore, 1) := by decide +kernel
theorem dX8_film_118 : decode cX8_film 118 = .ok (.aload_n 0, 1) := by decide +kernel
theorem dX8_film_119 : decode cX8_film 119 = .ok (.getfield 68, 3) := by decide +kernel
theorem dX8_film_122 : decode cX8_film 122 = .ok (.bipush 40, 2) := by decide +kernel
theorem dX8_film_124 : decode cX8_film 124 = .ok (.iload_n 1, 1) := by decide +kernel
theorem dX8_film_125 : decode cX8_film 125 = .ok (.imul, 1) := by decide +kernel
theorem dX8_film_126 : decode cX8_film 126 = .ok (.iconst 2, 1) := by decide +kernel
theorem dX8_film_127 : decode cX8_film 127 = .ok (.iload 6, 2) := by decide +kernel
theorem dX8_film_129 : decode cX8_film 129 = .ok (.imul, 1) := by decide +kernel
theorem dX8_film_130 : decode cX8_film 130 = .ok (.iadd, 1) := by decide +kernel
theorem dX8_film_131 : decode cX8_film 131 = .ok (.iconst 1, 1) := by decide +kernel
theorem dX8_film_132 : decode cX8_film 132 = .ok (.iadd, 1) := by decide +kernel
theorem dX8_film_133 : decode cX8_film 133 = .ok (.aload_n 0, 1) := by decide +kernel
theorem dX8_film_134 : decode cX8_film 134 = .ok (.getfield 40, 3) := by decide +kernel
theorem dX8_film_137 : decode cX8_film 137 = .ok (.iload_n 3, 1) := by decide +kernel
theorem dX8_film_138 : decode cX8_film 138 = .ok (.iload 6, 2) := by decide +kernel
theorem dX8_film_140 : decode cX8_film 140 = .ok (.iadd, 1) := by decide +kernel
theorem dX8_film_141 : decode cX8_film 141 = .ok (.iaload, 1) := by decide +kernel
theorem dX8_film_142 : decode cX8_film 142 = .ok (.i2s, 1) := by decide +kernel
theorem dX8_film_143 : decode cX8_film 143 = .ok (.iastore, 1) := by decide +kernel
theorem dX8_film_144 : decode cX8_film 144 = .ok (.iinc 6 1, 3) := by decide +kernel
theorem dX8_film_147 : decode cX8_film 147 = .ok (.goto (-54), 3) := by decide +kernel
theorem dX8_film_150 : decode cX8_film 150 = .ok (.iload 5, 2) := by decide +kernel
theorem dX8_film_152 : decode cX8_film 152 = .ok (.ireturn, 1) := by decide +kernel
theorem dX8_draw_0 : decode cX8_draw 0 = .ok (.iload_n 1, 1) := by decide +kernel
theorem dX8_draw_1 : decode cX8_draw 1 = .ok (.istore_n 2, 1) := by decide +kernel
theorem dX8_draw_2 : decode cX8_draw 2 = .ok (.aload_n 0, 1) := by decide +kernel
theorem dX8_draw_3 : decode cX8_draw 3 = .ok (.invokevirtual 289, 3) := by decide +kernel
theorem dX8_draw_6 : decode cX8_draw 6 = .ok (.iconst 0, 1) := by decide +kernel
theorem dX8_draw_7 : decode cX8_draw 7 = .ok (.istore_n 3, 1) := by decide +kernel
theorem dX8_draw_8 : decode cX8_draw 8 = .ok (.iload_n 3, 1) := by decide +kernel
theorem dX8_draw_9 : decode cX8_draw 9 = .ok (.aload_n 0, 1) := by decide +kernel
theorem dX8_draw_10 : decode cX8_draw 10 = .ok (.getfield 82, 3) := by decide +kernel
theorem dX8_draw_13 : decode cX8_draw 13 = .ok (.if_icmp .ge 59, 3) := by decide +kernel
theorem dX8_draw_16 : decode cX8_draw 16 = .ok (.iload_n 2, 1) := by decide +kernel
theorem dX8_draw_17 : decode cX8_draw 17 = .ok (.ldc_w 292, 3) := by decide +kernel
theorem dX8_draw_20 : decode cX8_draw 20 = .ok (.imul, 1) := by decide +kernel
theorem dX8_draw_21 : decode cX8_draw 21 = .ok (.sipush 12345, 3) := by decide +kernel
theorem dX8_draw_24 : decode cX8_draw 24 = .ok (.iadd, 1) := by decide +kernel
theorem dX8_draw_25 : decode cX8_draw 25 = .ok (.istore 4, 2) := by decide +kernel
theorem dX8_draw_27 : decode cX8_draw 27 = .ok (.iload 4, 2) := by decide +kernel
theorem dX8_draw_29 : decode cX8_draw 29 = .ok (.ldc_w 292, 3) := by decide +kernel
theorem dX8_draw_32 : decode cX8_draw 32 = .ok (.imul, 1) := by decide +kernel
theorem dX8_draw_33 : decode cX8_draw 33 = .ok (.sipush 12345, 3) := by decide +kernel
theorem dX8_draw_36 : decode cX8_draw 36 = .ok (.iadd, 1) := by decide +kernel
theorem dX8_draw_37 : decode cX8_draw 37 = .ok (.istore_n 2, 1) := by decide +kernel
theorem dX8_draw_38 : decode cX8_draw 38 = .ok (.aload_n 0, 1) := by decide +kernel
theorem dX8_draw_39 : decode cX8_draw 39 = .ok (.getfield 16, 3) := by decide +kernel
theorem dX8_draw_42 : decode cX8_draw 42 = .ok (.iload_n 3, 1) := by decide +kernel
theorem dX8_draw_43 : decode cX8_draw 43 = .ok (.iload_n 2, 1) := by decide +kernel
theorem dX8_draw_44 : decode cX8_draw 44 = .ok (.bipush 9, 2) := by decide +kernel
theorem dX8_draw_46 : decode cX8_draw 46 = .ok (.iushr, 1) := by decide +kernel
theorem dX8_draw_47 : decode cX8_draw 47 = .ok (.sipush 1024, 3) := by decide +kernel
theorem dX8_draw_50 : decode cX8_draw 50 = .ok (.irem, 1) := by decide +kernel
theorem dX8_draw_51 : decode cX8_draw 51 = .ok (.sipush 1024, 3) := by decide +kernel
theorem dX8_draw_54 : decode cX8_draw 54 = .ok (.imul, 1) := by decide +kernel
theorem dX8_draw_55 : decode cX8_draw 55 = .ok (.iload 4, 2) := by decide +kernel
theorem dX8_draw_57 : decode cX8_draw 57 = .ok (.bipush 9, 2) := by decide +kernel
theorem dX8_draw_59 : decode cX8_draw 59 = .ok (.iushr, 1) := by decide +kernel
theorem dX8_draw_60 : decode cX8_draw 60 = .ok (.sipush 1024, 3) := by decide +kernel
theorem dX8_draw_63 : decode cX8_draw 63 = .ok (.irem, 1) := by decide +kernel
theorem dX8_draw_64 : decode cX8_draw 64 = .ok (.iadd, 1) := by decide +kernel
theorem dX8_draw_65 : decode cX8_draw 65 = .ok (.iastore, 1) := by decide +kernel
theorem dX8_draw_66 : decode cX8_draw 66 = .ok (.iinc 3 1, 3) := by decide +kernel
theorem dX8_draw_69 : decode cX8_draw 69 = .ok (.goto (-61), 3) := by decide +kernel
theorem dX8_draw_72 : decode cX8_draw 72 = .ok (.bipush 99, 2) := by decide +kernel
theorem dX8_draw_74 : decode cX8_draw 74 = .ok (.aload_n 0, 1) := by decide +kernel
theorem dX8_draw_75 : decode cX8_draw 75 = .ok (.iconst 0, 1) := by decide +kernel
theorem dX8_draw_76 : decode cX8_draw 76 = .ok (.iconst 1, 1) := by decide +kernel
theorem dX8_draw_77 : decode cX8_draw 77 = .ok (.invokevirtual 261, 3) := by decide +kernel
theorem dX8_draw_80 : decode cX8_draw 80 = .ok (.isub, 1) := by decide +kernel
theorem dX8_draw_81 : decode cX8_draw 81 = .ok (.istore_n 3, 1) := by decide +kernel
theorem dX8_draw_82 : decode cX8_draw 82 = .ok (.iconst 0, 1) := by decide +kernel
theorem dX8_draw_83 : decode cX8_draw 83 = .ok (.istore 4, 2) := by decide +kernel
theorem dX8_draw_85 : decode cX8_draw 85 = .ok (.iload 4, 2) := by decide +kernel
theorem dX8_draw_87 : decode cX8_draw 87 = .ok (.aload_n 0, 1) := by decide +kernel
theorem dX8_draw_88 : decode cX8_draw 88 = .ok (.getfield 82, 3) := by decide +kernel
theorem dX8_draw_91 : decode cX8_draw 91 = .ok (.if_icmp .ge 23, 3) := by decide +kernel
theorem dX8_draw_94 : decode cX8_draw 94 = .ok (.aload_n 0, 1) := by decide +kernel
theorem dX8_draw_95 : decode cX8_draw 95 = .ok (.getfield 16, 3) := by decide +kernel
theorem dX8_draw_98 : decode cX8_draw 98 = .ok (.iload 4, 2) := by decide +kernel
theorem dX8_draw_100 : decode cX8_draw 100 = .ok (.aload_n 0, 1) := by decide +kernel
theorem dX8_draw_101 : decode cX8_draw 101 = .ok (.getfield 71, 3) := by decide +kernel
theorem dX8_draw_104 : decode cX8_draw 104 = .ok (.iload 4, 2) := by decide +kernel
theorem dX8_draw_106 : decode cX8_draw 106 = .ok (.iaload, 1) := by decide +kernel
theorem dX8_draw_107 : decode cX8_draw 107 = .ok (.iastore, 1) := by decide +kernel
theorem dX8_draw_108 : decode cX8_draw 108 = .ok (.iinc 4 1, 3) := by decide +kernel
theorem dX8_draw_111 : decode cX8_draw 111 = .ok (.goto (-26), 3) := by decide +kernel
theorem dX8_draw_114 : decode cX8_draw 114 = .ok (.iload_n 3, 1) := by decide +kernel
theorem dX8_draw_115 : decode cX8_draw 115 = .ok (.ireturn, 1) := by decide +kernel
theorem dX8_keep_0 : decode cX8_keep 0 = .ok (.iconst 0, 1) := by decide +kernel
theorem dX8_keep_1 : decode cX8_keep 1 = .ok (.istore_n 1, 1) := by decide +kernel
theorem dX8_keep_2 : decode cX8_keep 2 = .ok (.iload_n 1, 1) := by decide +kernel
theorem dX8_keep_3 : decode cX8_keep 3 = .ok (.bipush 6, 2) := by decide +kernel
theorem dX8_keep_5 : decode cX8_keep 5 = .ok (.if_icmp .ge 21, 3) := by decide +kernel
theorem dX8_keep_8 : decode cX8_keep 8 = .ok (.aload_n 0, 1) := by decide +kernel
theorem dX8_keep_9 : decode cX8_keep 9 = .ok (.getfield 71, 3) := by decide +kernel
theorem dX8_keep_12 : decode cX8_keep 12 = .ok (.iload_n 1, 1) := by decide +kernel
theorem dX8_keep_13 : decode cX8_keep 13 = .ok (.aload_n 0, 1) := by decide +kernel
theorem dX8_keep_14 : decode cX8_keep 14 = .ok (.getfield 16, 3) := by decide +kernel
theorem dX8_keep_17 : decode cX8_keep 17 = .ok (.iload_n 1, 1) := by decide +kernel
theorem dX8_keep_18 : decode cX8_keep 18 = .ok (.iaload, 1) := by decide +kernel
theorem dX8_keep_19 : decode cX8_keep 19 = .ok (.iastore, 1) := by decide +kernel
theorem dX8_keep_20 : decode cX8_keep 20 = .ok (.iinc 1 1, 3) := by decide +kernel
theorem dX8_keep_23 : decode cX8_keep 23 = .ok (.goto (-21), 3) := by decide +kernel
theorem dX8_keep_26 : decode cX8_keep 26 = .ok (.return_, 1) := by decide +kernel
theorem dX8_drawn_0 : decode cX8_drawn 0 = .ok (.aload_n 0, 1) := by decide +kernel
theorem dX8_drawn_1 : decode cX8_drawn 1 = .ok (.getfield 82, 3) := by decide +kernel
theorem dX8_drawn_4 : decode cX8_drawn 4 = .ok (.iconst 2, 1) := by decide +kernel
theorem dX8_drawn_5 : decode cX8_drawn 5 = .ok (.if_icmp .ge 8, 3) := by decide +kernel
theorem dX8_drawn_8 : decode cX8_drawn 8 = .ok (.bipush (-3), 2) := by decide +kernel
theorem dX8_drawn_10 : decode cX8_drawn 10 = .ok (.goto 8, 3) := by decide +kernel
theorem dX8_drawn_13 : decode cX8_drawn 13 = .ok (.aload_n 0, 1) := by decide +kernel
theorem dX8_drawn_14 : decode cX8_drawn 14 = .ok (.iload_n 1, 1) := by decide +kernel
theorem dX8_drawn_15 : decode cX8_drawn 15 = .ok (.invokevirtual 293, 3) := by decide +kernel
theorem dX8_drawn_18 : decode cX8_drawn 18 = .ok (.ireturn, 1) := by decide +kernel
theorem dX8_chance_0 : decode cX8_chance 0 = .ok (.iload_n 2, 1) := by decide +kernel
theorem dX8_chance_1 : decode cX8_chance 1 = .ok (.iconst 1, 1) := by decide +kernel
theorem dX8_chance_2 : decode cX8_chance 2 = .ok (.bipush 20, 2) := by decide +kernel
theorem dX8_chance_4 : decode cX8_chance 4 = .ok (.invokestatic 85, 3) := by decide +kernel
theorem dX8_chance_7 : decode cX8_chance 7 = .ok (.ifCond .eq 20, 3) := by decide +kernel
theorem dX8_chance_10 : decode cX8_chance 10 = .ok (.iload_n 3, 1) := by decide +kernel
theorem dX8_chance_11 : decode cX8_chance 11 = .ok (.iconst 0, 1) := by decide +kernel
theorem dX8_chance_12 : decode cX8_chance 12 = .ok (.iconst 1, 1) := by decide +kernel
theorem dX8_chance_13 : decode cX8_chance 13 = .ok (.invokestatic 85, 3) := by decide +kernel
theorem dX8_chance_16 : decode cX8_chance 16 = .ok (.ifCond .eq 11, 3) := by decide +kernel
theorem dX8_chance_19 : decode cX8_chance 19 = .ok (.aload_n 0, 1) := by decide +kernel
theorem dX8_chance_20 : decode cX8_chance 20 = .ok (.getfield 82, 3) := by decide +kernel
theorem dX8_chance_23 : decode cX8_chance 23 = .ok (.iconst 2, 1) := by decide +kernel
theorem dX8_chance_24 : decode cX8_chance 24 = .ok (.if_icmp .ge 7, 3) := by decide +kernel
theorem dX8_chance_27 : decode cX8_chance 27 = .ok (.ldc2_w 296, 3) := by decide +kernel
theorem dX8_chance_30 : decode cX8_chance 30 = .ok (.lreturn, 1) := by decide +kernel
theorem dX8_chance_31 : decode cX8_chance 31 = .ok (.bipush 99, 2) := by decide +kernel
theorem dX8_chance_33 : decode cX8_chance 33 = .ok (.aload_n 0, 1) := by decide +kernel
theorem dX8_chance_34 : decode cX8_chance 34 = .ok (.iconst 0, 1) := by decide +kernel
theorem dX8_chance_35 : decode cX8_chance 35 = .ok (.iconst 1, 1) := by decide +kernel
theorem dX8_chance_36 : decode cX8_chance 36 = .ok (.invokevirtual 261, 3) := by decide +kernel
theorem dX8_chance_39 : decode cX8_chance 39 = .ok (.isub, 1) := by decide +kernel
theorem dX8_chance_40 : decode cX8_chance 40 = .ok (.istore 4, 2) := by decide +kernel
theorem dX8_chance_42 : decode cX8_chance 42 = .ok (.iconst 0, 1) := by decide +kernel
theorem dX8_chance_43 : decode cX8_chance 43 = .ok (.istore 5, 2) := by decide +kernel
theorem dX8_chance_45 : decode cX8_chance 45 = .ok (.iconst 0, 1) := by decide +kernel
theorem dX8_chance_46 : decode cX8_chance 46 = .ok (.istore 6, 2) := by decide +kernel
theorem dX8_chance_48 : decode cX8_chance 48 = .ok (.iload 6, 2) := by decide +kernel
theorem dX8_chance_50 : decode cX8_chance 50 = .ok (.iload_n 2, 1) := by decide +kernel
theorem dX8_chance_51 : decode cX8_chance 51 = .ok (.if_icmp .ge 25, 3) := by decide +kernel
theorem dX8_chance_54 : decode cX8_chance 54 = .ok (.aload_n 0, 1) := by decide +kernel
theorem dX8_chance_55 : decode cX8_chance 55 = .ok (.iload_n 1, 1) := by decide +kernel
theorem dX8_chance_56 : decode cX8_chance 56 = .ok (.iload 6, 2) := by decide +kernel
theorem dX8_chance_58 : decode cX8_chance 58 = .ok (.iadd, 1) := by decide +kernel
theorem dX8_chance_59 : decode cX8_chance 59 = .ok (.invokevirtual 293, 3) := by decide +kernel
theorem dX8_chance_62 : decode cX8_chance 62 = .ok (.iload 4, 2) := by decide +kernel
theorem dX8_chance_64 : decode cX8_chance 64 = .ok (.if_icmp .le 6, 3) := by decide +kernel
theorem dX8_chance_67 : decode cX8_chance 67 = .ok (.iinc 5 1, 3) := by decide +kernel
theorem dX8_chance_70 : decode cX8_chance 70 = .ok (.iinc 6 1, 3) := by decide +kernel
theorem dX8_chance_73 : decode cX8_chance 73 = .ok (.goto (-25), 3) := by decide +kernel
theorem dX8_chance_76 : decode cX8_chance 76 = .ok (.iload 5, 2) := by decide +kernel
theorem dX8_chance_78 : decode cX8_chance 78 = .ok (.istore 6, 2) := by decide +kernel
theorem dX8_chance_80 : decode cX8_chance 80 = .ok (.iload_n 2, 1) := by decide +kernel
theorem dX8_chance_81 : decode cX8_chance 81 = .ok (.istore 7, 2) := by decide +kernel
theorem dX8_chance_83 : decode cX8_chance 83 = .ok (.iload 7, 2) := by decide +kernel
theorem dX8_chance_85 : decode cX8_chance 85 = .ok (.ifCond .eq 21, 3) := by decide +kernel
theorem dX8_chance_88 : decode cX8_chance 88 = .ok (.iload 6, 2) := by decide +kernel
theorem dX8_chance_90 : decode cX8_chance 90 = .ok (.iload 7, 2) := by decide +kernel
theorem dX8_chance_92 : decode cX8_chance 92 = .ok (.irem, 1) := by decide +kernel
theorem dX8_chance_93 : decode cX8_chance 93 = .ok (.istore 8, 2) := by decide +kernel
theorem dX8_chance_95 : decode cX8_chance 95 = .ok (.iload 7, 2) := by decide +kernel
theorem dX8_chance_97 : decode cX8_chance 97 = .ok (.istore 6, 2) := by decide +kernel
theorem dX8_chance_99 : decode cX8_chance 99 = .ok (.iload 8, 2) := by decide +kernel
theorem dX8_chance_101 : decode cX8_chance 101 = .ok (.istore 7, 2) := by decide +kernel
theorem dX8_chance_103 : decode cX8_chance 103 = .ok (.goto (-20), 3) := by decide +kernel
theorem dX8_chance_106 : decode cX8_chance 106 = .ok (.iload_n 3, 1) := by decide +kernel
theorem dX8_chance_107 : decode cX8_chance 107 = .ok (.ifCond .ne 12, 3) := by decide +kernel
theorem dX8_chance_110 : decode cX8_chance 110 = .ok (.iload 5, 2) := by decide +kernel
theorem dX8_chance_112 : decode cX8_chance 112 = .ok (.iload 6, 2) := by decide +kernel
theorem dX8_chance_114 : decode cX8_chance 114 = .ok (.idiv, 1) := by decide +kernel
theorem dX8_chance_115 : decode cX8_chance 115 = .ok (.i2l, 1) := by decide +kernel
theorem dX8_chance_116 : decode cX8_chance 116 = .ok (.goto 8, 3) := by decide +kernel
theorem dX8_chance_119 : decode cX8_chance 119 = .ok (.iload_n 2, 1) := by decide +kernel
theorem dX8_chance_120 : decode cX8_chance 120 = .ok (.iload 6, 2) := by decide +kernel
theorem dX8_chance_122 : decode cX8_chance 122 = .ok (.idiv, 1) := by decide +kernel
theorem dX8_chance_123 : decode cX8_chance 123 = .ok (.i2l, 1) := by decide +kernel
theorem dX8_chance_124 : decode cX8_chance 124 = .ok (.lreturn, 1) := by decide +kernel
theorem dX8_image_0 : decode cX8_image 0 = .ok (.aload_n 0, 1) := by decide +kernel
theorem dX8_image_1 : decode cX8_image 1 = .ok (.iconst 1, 1) := by decide +kernel
theorem dX8_image_2 : decode cX8_image 2 = .ok (.putfield 298, 3) := by decide +kernel
theorem dX8_image_5 : decode cX8_image 5 = .ok (.aload_n 0, 1) := by decide +kernel
theorem dX8_image_6 : decode cX8_image 6 = .ok (.aload_n 0, 1) := by decide +kernel
theorem dX8_image_7 : decode cX8_image 7 = .ok (.getfield 82, 3) := by decide +kernel
theorem dX8_image_10 : decode cX8_image 10 = .ok (.putfield 301, 3) := by decide +kernel
theorem dX8_image_13 : decode cX8_image 13 = .ok (.iconst 0, 1) := by decide +kernel
theorem dX8_image_14 : decode cX8_image 14 = .ok (.istore_n 1, 1) := by decide +kernel
theorem dX8_image_15 : decode cX8_image 15 = .ok (.iload_n 1, 1) := by decide +kernel
theorem dX8_image_16 : decode cX8_image 16 = .ok (.bipush 6, 2) := by decide +kernel
theorem dX8_image_18 : decode cX8_image 18 = .ok (.if_icmp .ge 36, 3) := by decide +kernel
theorem dX8_image_21 : decode cX8_image 21 = .ok (.aload_n 0, 1) := by decide +kernel
theorem dX8_image_22 : decode cX8_image 22 = .ok (.getfield 59, 3) := by decide +kernel
theorem dX8_image_25 : decode cX8_image 25 = .ok (.iload_n 1, 1) := by decide +kernel
theorem dX8_image_26 : decode cX8_image 26 = .ok (.aload_n 0, 1) := by decide +kernel
theorem dX8_image_27 : decode cX8_image 27 = .ok (.getfield 13, 3) := by decide +kernel
theorem dX8_image_30 : decode cX8_image 30 = .ok (.iload_n 1, 1) := by decide +kernel
theorem dX8_image_31 : decode cX8_image 31 = .ok (.iaload, 1) := by decide +kernel
theorem dX8_image_32 : decode cX8_image 32 = .ok (.iastore, 1) := by decide +kernel
theorem dX8_image_33 : decode cX8_image 33 = .ok (.aload_n 0, 1) := by decide +kernel
theorem dX8_image_34 : decode cX8_image 34 = .ok (.getfield 59, 3) := by decide +kernel
theorem dX8_image_37 : decode cX8_image 37 = .ok (.bipush 6, 2) := by decide +kernel
theorem dX8_image_39 : decode cX8_image 39 = .ok (.iload_n 1, 1) := by decide +kernel
theorem dX8_image_40 : decode cX8_image 40 = .ok (.iadd, 1) := by decide +kernel
theorem dX8_image_41 : decode cX8_image 41 = .ok (.aload_n 0, 1) := by decide +kernel
theorem dX8_image_42 : decode cX8_image 42 = .ok (.getfield 16, 3) := by decide +kernel
theorem dX8_image_45 : decode cX8_image 45 = .ok (.iload_n 1, 1) := by decide +kernel
theorem dX8_image_46 : decode cX8_image 46 = .ok (.iaload, 1) := by decide +kernel
theorem dX8_image_47 : decode cX8_image 47 = .ok (.iastore, 1) := by decide +kernel
theorem dX8_image_48 : decode cX8_image 48 = .ok (.iinc 1 1, 3) := by decide +kernel
theorem dX8_image_51 : decode cX8_image 51 = .ok (.goto (-36), 3) := by decide +kernel
theorem dX8_image_54 : decode cX8_image 54 = .ok (.aload_n 0, 1) := by decide +kernel
theorem dX8_image_55 : decode cX8_image 55 = .ok (.getfield 59, 3) := by decide +kernel
theorem dX8_image_58 : decode cX8_image 58 = .ok (.bipush 12, 2) := by decide +kernel
theorem dX8_image_60 : decode cX8_image 60 = .ok (.aload_n 0, 1) := by decide +kernel
theorem dX8_image_61 : decode cX8_image 61 = .ok (.getfield 94, 3) := by decide +kernel
theorem dX8_image_64 : decode cX8_image 64 = .ok (.iastore, 1) := by decide +kernel
theorem dX8_image_65 : decode cX8_image 65 = .ok (.aload_n 0, 1) := by decide +kernel
theorem dX8_image_66 : decode cX8_image 66 = .ok (.getfield 59, 3) := by decide +kernel
theorem dX8_image_69 : decode cX8_image 69 = .ok (.bipush 13, 2) := by decide +kernel
theorem dX8_image_71 : decode cX8_image 71 = .ok (.aload_n 0, 1) := by decide +kernel
theorem dX8_image_72 : decode cX8_image 72 = .ok (.getfield 209, 3) := by decide +kernel
theorem dX8_image_75 : decode cX8_image 75 = .ok (.iastore, 1) := by decide +kernel
theorem dX8_image_76 : decode cX8_image 76 = .ok (.aload_n 0, 1) := by decide +kernel
theorem dX8_image_77 : decode cX8_image 77 = .ok (.getfield 82, 3) := by decide +kernel
theorem dX8_image_80 : decode cX8_image 80 = .ok (.ireturn, 1) := by decide +kernel
theorem dX8_back_0 : decode cX8_back 0 = .ok (.aload_n 0, 1) := by decide +kernel
theorem dX8_back_1 : decode cX8_back 1 = .ok (.getfield 298, 3) := by decide +kernel
theorem dX8_back_4 : decode cX8_back 4 = .ok (.ifCond .ne 6, 3) := by decide +kernel
theorem dX8_back_7 : decode cX8_back 7 = .ok (.bipush (-3), 2) := by decide +kernel
theorem dX8_back_9 : decode cX8_back 9 = .ok (.ireturn, 1) := by decide +kernel
theorem dX8_back_10 : decode cX8_back 10 = .ok (.aload_n 0, 1) := by decide +kernel
theorem dX8_back_11 : decode cX8_back 11 = .ok (.aload_n 0, 1) := by decide +kernel
theorem dX8_back_12 : decode cX8_back 12 = .ok (.getfield 301, 3) := by decide +kernel
theorem dX8_back_15 : decode cX8_back 15 = .ok (.putfield 82, 3) := by decide +kernel
theorem dX8_back_18 : decode cX8_back 18 = .ok (.iconst 0, 1) := by decide +kernel
theorem dX8_back_19 : decode cX8_back 19 = .ok (.istore_n 1, 1) := by decide +kernel
theorem dX8_back_20 : decode cX8_back 20 = .ok (.iload_n 1, 1) := by decide +kernel
theorem dX8_back_21 : decode cX8_back 21 = .ok (.bipush 6, 2) := by decide +kernel
theorem dX8_back_23 : decode cX8_back 23 = .ok (.if_icmp .ge 36, 3) := by decide +kernel
theorem dX8_back_26 : decode cX8_back 26 = .ok (.aload_n 0, 1) := by decide +kernel
theorem dX8_back_27 : decode cX8_back 27 = .ok (.getfield 13, 3) := by decide +kernel
theorem dX8_back_30 : decode cX8_back 30 = .ok (.iload_n 1, 1) := by decide +kernel
theorem dX8_back_31 : decode cX8_back 31 = .ok (.aload_n 0, 1) := by decide +kernel
theorem dX8_back_32 : decode cX8_back 32 = .ok (.getfield 59, 3) := by decide +kernel
theorem dX8_back_35 : decode cX8_back 35 = .ok (.iload_n 1, 1) := by decide +kernel
theorem dX8_back_36 : decode cX8_back 36 = .ok (.iaload, 1) := by decide +kernel
theorem dX8_back_37 : decode cX8_back 37 = .ok (.iastore, 1) := by decide +kernel
theorem dX8_back_38 : decode cX8_back 38 = .ok (.aload_n 0, 1) := by decide +kernel
theorem dX8_back_39 : decode cX8_back 39 = .ok (.getfield 16, 3) := by decide +kernel
theorem dX8_back_42 : decode cX8_back 42 = .ok (.iload_n 1, 1) := by decide +kernel
theorem dX8_back_43 : decode cX8_back 43 = .ok (.aload_n 0, 1) := by decide +kernel
theorem dX8_back_44 : decode cX8_back 44 = .ok (.getfield 59, 3) := by decide +kernel
theorem dX8_back_47 : decode cX8_back 47 = .ok (.bipush 6, 2) := by decide +kernel
theorem dX8_back_49 : decode cX8_back 49 = .ok (.iload_n 1, 1) := by decide +kernel
theorem dX8_back_50 : decode cX8_back 50 = .ok (.iadd, 1) := by decide +kernel
theorem dX8_back_51 : decode cX8_back 51 = .ok (.iaload, 1) := by decide +kernel
theorem dX8_back_52 : decode cX8_back 52 = .ok (.iastore, 1) := by decide +kernel
theorem dX8_back_53 : decode cX8_back 53 = .ok (.iinc 1 1, 3) := by decide +kernel
theorem dX8_back_56 : decode cX8_back 56 = .ok (.goto (-36), 3) := by decide +kernel
theorem dX8_back_59 : decode cX8_back 59 = .ok (.aload_n 0, 1) := by decide +kernel
theorem dX8_back_60 : decode cX8_back 60 = .ok (.aload_n 0, 1) := by decide +kernel
theorem dX8_back_61 : decode cX8_back 61 = .ok (.getfield 59, 3) := by decide +kernel
theorem dX8_back_64 : decode cX8_back 64 = .ok (.bipush 12, 2) := by decide +kernel
theorem dX8_back_66 : decode cX8_back 66 = .ok (.iaload, 1) := by decide +kernel
theorem dX8_back_67 : decode cX8_back 67 = .ok (.putfield 94, 3) := by decide +kernel
theorem dX8_back_70 : decode cX8_back 70 = .ok (.aload_n 0, 1) := by decide +kernel
theorem dX8_back_71 : decode cX8_back 71 = .ok (.aload_n 0, 1) := by decide +kernel
theorem dX8_back_72 : decode cX8_back 72 = .ok (.getfield 59, 3) := by decide +kernel
theorem dX8_back_75 : decode cX8_back 75 = .ok (.bipush 13, 2) := by decide +kernel
theorem dX8_back_77 : decode cX8_back 77 = .ok (.iaload, 1) := by decide +kernel
theorem dX8_back_78 : decode cX8_back 78 = .ok (.putfield 209, 3) := by decide +kernel
theorem dX8_back_81 : decode cX8_back 81 = .ok (.aload_n 0, 1) := by decide +kernel
theorem dX8_back_82 : decode cX8_back 82 = .ok (.getfield 82, 3) := by decide +kernel
theorem dX8_back_85 : decode cX8_back 85 = .ok (.ireturn, 1) := by decide +kernel
theorem dX8_count_0 : decode cX8_count 0 = .ok (.iconst 0, 1) := by decide +kernel
theorem dX8_count_1 : decode cX8_count 1 = .ok (.istore_n 2, 1) := by decide +kernel
theorem dX8_count_2 : decode cX8_count 2 = .ok (.iload_n 1, 1) := by decide +kernel
theorem dX8_count_3 : decode cX8_count 3 = .ok (.tableswitch 83 0 4 #[33, 38, 43, 48, 53], 33) := by decide +kernel
theorem dX8_count_36 : decode cX8_count 36 = .ok (.aload_n 0, 1) := by decide +kernel
theorem dX8_count_37 : decode cX8_count 37 = .ok (.getfield 82, 3) := by decide +kernel
theorem dX8_count_40 : decode cX8_count 40 = .ok (.ireturn, 1) := by decide +kernel
theorem dX8_count_41 : decode cX8_count 41 = .ok (.aload_n 0, 1) := by decide +kernel
theorem dX8_count_42 : decode cX8_count 42 = .ok (.getfield 78, 3) := by decide +kernel
theorem dX8_count_45 : decode cX8_count 45 = .ok (.ireturn, 1) := by decide +kernel
theorem dX8_count_46 : decode cX8_count 46 = .ok (.aload_n 0, 1) := by decide +kernel
theorem dX8_count_47 : decode cX8_count 47 = .ok (.getfield 121, 3) := by decide +kernel
theorem dX8_count_50 : decode cX8_count 50 = .ok (.ireturn, 1) := by decide +kernel
theorem dX8_count_51 : decode cX8_count 51 = .ok (.aload_n 0, 1) := by decide +kernel
theorem dX8_count_52 : decode cX8_count 52 = .ok (.getfield 209, 3) := by decide +kernel
theorem dX8_count_55 : decode cX8_count 55 = .ok (.ireturn, 1) := by decide +kernel
theorem dX8_count_56 : decode cX8_count 56 = .ok (.iconst 0, 1) := by decide +kernel
theorem dX8_count_57 : decode cX8_count 57 = .ok (.istore_n 3, 1) := by decide +kernel
theorem dX8_count_58 : decode cX8_count 58 = .ok (.iload_n 3, 1) := by decide +kernel
theorem dX8_count_59 : decode cX8_count 59 = .ok (.aload_n 0, 1) := by decide +kernel
theorem dX8_count_60 : decode cX8_count 60 = .ok (.getfield 82, 3) := by decide +kernel
theorem dX8_count_63 : decode cX8_count 63 = .ok (.if_icmp .ge 21, 3) := by decide +kernel
theorem dX8_count_66 : decode cX8_count 66 = .ok (.iload_n 2, 1) := by decide +kernel
theorem dX8_count_67 : decode cX8_count 67 = .ok (.aload_n 0, 1) := by decide +kernel
theorem dX8_count_68 : decode cX8_count 68 = .ok (.getfield 16, 3) := by decide +kernel
theorem dX8_count_71 : decode cX8_count 71 = .ok (.iload_n 3, 1) := by decide +kernel
theorem dX8_count_72 : decode cX8_count 72 = .ok (.iaload, 1) := by decide +kernel
theorem dX8_count_73 : decode cX8_count 73 = .ok (.invokestatic 97, 3) := by decide +kernel
theorem dX8_count_76 : decode cX8_count 76 = .ok (.iadd, 1) := by decide +kernel
theorem dX8_count_77 : decode cX8_count 77 = .ok (.istore_n 2, 1) := by decide +kernel
theorem dX8_count_78 : decode cX8_count 78 = .ok (.iinc 3 1, 3) := by decide +kernel
theorem dX8_count_81 : decode cX8_count 81 = .ok (.goto (-23), 3) := by decide +kernel
theorem dX8_count_84 : decode cX8_count 84 = .ok (.iload_n 2, 1) := by decide +kernel
theorem dX8_count_85 : decode cX8_count 85 = .ok (.ireturn, 1) := by decide +kernel
theorem dX8_count_86 : decode cX8_count 86 = .ok (.bipush (-2), 2) := by decide +kernel
theorem dX8_count_88 : decode cX8_count 88 = .ok (.ireturn, 1) := by decide +kernel
theorem dX8_sheet_0 : decode cX8_sheet 0 = .ok (.iload_n 1, 1) := by decide +kernel
theorem dX8_sheet_1 : decode cX8_sheet 1 = .ok (.invokestatic 267, 3) := by decide +kernel
theorem dX8_sheet_4 : decode cX8_sheet 4 = .ok (.ifCond .eq 12, 3) := by decide +kernel
theorem dX8_sheet_7 : decode cX8_sheet 7 = .ok (.iload_n 2, 1) := by decide +kernel
theorem dX8_sheet_8 : decode cX8_sheet 8 = .ok (.iconst (-1), 1) := by decide +kernel
theorem dX8_sheet_9 : decode cX8_sheet 9 = .ok (.iconst 2, 1) := by decide +kernel
theorem dX8_sheet_10 : decode cX8_sheet 10 = .ok (.invokestatic 85, 3) := by decide +kernel
theorem dX8_sheet_13 : decode cX8_sheet 13 = .ok (.ifCond .ne 6, 3) := by decide +kernel
theorem dX8_sheet_16 : decode cX8_sheet 16 = .ok (.bipush (-2), 2) := by decide +kernel
theorem dX8_sheet_18 : decode cX8_sheet 18 = .ok (.ireturn, 1) := by decide +kernel
theorem dX8_sheet_19 : decode cX8_sheet 19 = .ok (.iload_n 2, 1) := by decide +kernel
theorem dX8_sheet_20 : decode cX8_sheet 20 = .ok (.ifCond .lt 10, 3) := by decide +kernel
theorem dX8_sheet_23 : decode cX8_sheet 23 = .ok (.iload_n 3, 1) := by decide +kernel
theorem dX8_sheet_24 : decode cX8_sheet 24 = .ok (.ifCond .ge 6, 3) := by decide +kernel
theorem dX8_sheet_27 : decode cX8_sheet 27 = .ok (.bipush (-14), 2) := by decide +kernel
theorem dX8_sheet_29 : decode cX8_sheet 29 = .ok (.ireturn, 1) := by decide +kernel
theorem dX8_sheet_30 : decode cX8_sheet 30 = .ok (.iload_n 2, 1) := by decide +kernel
theorem dX8_sheet_31 : decode cX8_sheet 31 = .ok (.ifCond .lt 12, 3) := by decide +kernel
theorem dX8_sheet_34 : decode cX8_sheet 34 = .ok (.iload_n 3, 1) := by decide +kernel
theorem dX8_sheet_35 : decode cX8_sheet 35 = .ok (.bipush 40, 2) := by decide +kernel
theorem dX8_sheet_37 : decode cX8_sheet 37 = .ok (.if_icmp .le 6, 3) := by decide +kernel
theorem dX8_sheet_40 : decode cX8_sheet 40 = .ok (.bipush (-2), 2) := by decide +kernel
theorem dX8_sheet_42 : decode cX8_sheet 42 = .ok (.ireturn, 1) := by decide +kernel
theorem dX8_sheet_43 : decode cX8_sheet 43 = .ok (.aload_n 0, 1) := by decide +kernel
theorem dX8_sheet_44 : decode cX8_sheet 44 = .ok (.getfield 62, 3) := by decide +kernel
theorem dX8_sheet_47 : decode cX8_sheet 47 = .ok (.iload_n 1, 1) := by decide +kernel
theorem dX8_sheet_48 : decode cX8_sheet 48 = .ok (.iload_n 2, 1) := by decide +kernel
theorem dX8_sheet_49 : decode cX8_sheet 49 = .ok (.iastore, 1) := by decide +kernel
theorem dX8_sheet_50 : decode cX8_sheet 50 = .ok (.aload_n 0, 1) := by decide +kernel
theorem dX8_sheet_51 : decode cX8_sheet 51 = .ok (.getfield 65, 3) := by decide +kernel
theorem dX8_sheet_54 : decode cX8_sheet 54 = .ok (.iload_n 1, 1) := by decide +kernel
theorem dX8_sheet_55 : decode cX8_sheet 55 = .ok (.iload_n 2, 1) := by decide +kernel
theorem dX8_sheet_56 : decode cX8_sheet 56 = .ok (.ifCond .ge 7, 3) := by decide +kernel
theorem dX8_sheet_59 : decode cX8_sheet 59 = .ok (.iconst 0, 1) := by decide +kernel
theorem dX8_sheet_60 : decode cX8_sheet 60 = .ok (.goto 4, 3) := by decide +kernel
theorem dX8_sheet_63 : decode cX8_sheet 63 = .ok (.iload_n 3, 1) := by decide +kernel
theorem dX8_sheet_64 : decode cX8_sheet 64 = .ok (.iastore, 1) := by decide +kernel
theorem dX8_sheet_65 : decode cX8_sheet 65 = .ok (.iconst 0, 1) := by decide +kernel
theorem dX8_sheet_66 : decode cX8_sheet 66 = .ok (.istore 4, 2) := by decide +kernel
theorem dX8_sheet_68 : decode cX8_sheet 68 = .ok (.iload 4, 2) := by decide +kernel
theorem dX8_sheet_70 : decode cX8_sheet 70 = .ok (.bipush 40, 2) := by decide +kernel
theorem dX8_sheet_72 : decode cX8_sheet 72 = .ok (.if_icmp .ge 22, 3) := by decide +kernel
theorem dX8_sheet_75 : decode cX8_sheet 75 = .ok (.aload_n 0, 1) := by decide +kernel
theorem dX8_sheet_76 : decode cX8_sheet 76 = .ok (.getfield 68, 3) := by decide +kernel
theorem dX8_sheet_79 : decode cX8_sheet 79 = .ok (.bipush 40, 2) := by decide +kernel
theorem dX8_sheet_81 : decode cX8_sheet 81 = .ok (.iload_n 1, 1) := by decide +kernel
theorem dX8_sheet_82 : decode cX8_sheet 82 = .ok (.imul, 1) := by decide +kernel
theorem dX8_sheet_83 : decode cX8_sheet 83 = .ok (.iload 4, 2) := by decide +kernel
theorem dX8_sheet_85 : decode cX8_sheet 85 = .ok (.iadd, 1) := by decide +kernel
theorem dX8_sheet_86 : decode cX8_sheet 86 = .ok (.iconst 0, 1) := by decide +kernel
theorem dX8_sheet_87 : decode cX8_sheet 87 = .ok (.iastore, 1) := by decide +kernel
theorem dX8_sheet_88 : decode cX8_sheet 88 = .ok (.iinc 4 1, 3) := by decide +kernel
theorem dX8_sheet_91 : decode cX8_sheet 91 = .ok (.goto (-23), 3) := by decide +kernel
theorem dX8_sheet_94 : decode cX8_sheet 94 = .ok (.iconst 1, 1) := by decide +kernel
theorem dX8_sheet_95 : decode cX8_sheet 95 = .ok (.ireturn, 1) := by decide +kernel
theorem dX8_cell_0 : decode cX8_cell 0 = .ok (.iload_n 1, 1) := by decide +kernel
theorem dX8_cell_1 : decode cX8_cell 1 = .ok (.invokestatic 267, 3) := by decide +kernel
theorem dX8_cell_4 : decode cX8_cell 4 = .ok (.ifCond .ne 6, 3) := by decide +kernel
theorem dX8_cell_7 : decode cX8_cell 7 = .ok (.bipush (-2), 2) := by decide +kernel
theorem dX8_cell_9 : decode cX8_cell 9 = .ok (.ireturn, 1) := by decide +kernel
theorem dX8_cell_10 : decode cX8_cell 10 = .ok (.aload_n 0, 1) := by decide +kernel
theorem dX8_cell_11 : decode cX8_cell 11 = .ok (.getfield 62, 3) := by decide +kernel
theorem dX8_cell_14 : decode cX8_cell 14 = .ok (.iload_n 1, 1) := by decide +kernel
theorem dX8_cell_15 : decode cX8_cell 15 = .ok (.iaload, 1) := by decide +kernel
theorem dX8_cell_16 : decode cX8_cell 16 = .ok (.ifCond .ge 6, 3) := by decide +kernel
theorem dX8_cell_19 : decode cX8_cell 19 = .ok (.bipush (-11), 2) := by decide +kernel
theorem dX8_cell_21 : decode cX8_cell 21 = .ok (.ireturn, 1) := by decide +kernel
theorem dX8_cell_22 : decode cX8_cell 22 = .ok (.iload_n 2, 1) := by decide +kernel
theorem dX8_cell_23 : decode cX8_cell 23 = .ok (.iconst 0, 1) := by decide +kernel
theorem dX8_cell_24 : decode cX8_cell 24 = .ok (.aload_n 0, 1) := by decide +kernel
theorem dX8_cell_25 : decode cX8_cell 25 = .ok (.getfield 65, 3) := by decide +kernel
theorem dX8_cell_28 : decode cX8_cell 28 = .ok (.iload_n 1, 1) := by decide +kernel
theorem dX8_cell_29 : decode cX8_cell 29 = .ok (.iaload, 1) := by decide +kernel
theorem dX8_cell_30 : decode cX8_cell 30 = .ok (.iconst 1, 1) := by decide +kernel
theorem dX8_cell_31 : decode cX8_cell 31 = .ok (.isub, 1) := by decide +kernel
theorem dX8_cell_32 : decode cX8_cell 32 = .ok (.invokestatic 85, 3) := by decide +kernel
theorem dX8_cell_35 : decode cX8_cell 35 = .ok (.ifCond .ne 6, 3) := by decide +kernel
theorem dX8_cell_38 : decode cX8_cell 38 = .ok (.bipush (-12), 2) := by decide +kernel
theorem dX8_cell_40 : decode cX8_cell 40 = .ok (.ireturn, 1) := by decide +kernel
theorem dX8_cell_41 : decode cX8_cell 41 = .ok (.aload_n 0, 1) := by decide +kernel
theorem dX8_cell_42 : decode cX8_cell 42 = .ok (.getfield 68, 3) := by decide +kernel
theorem dX8_cell_45 : decode cX8_cell 45 = .ok (.bipush 40, 2) := by decide +kernel
theorem dX8_cell_47 : decode cX8_cell 47 = .ok (.iload_n 1, 1) := by decide +kernel
theorem dX8_cell_48 : decode cX8_cell 48 = .ok (.imul, 1) := by decide +kernel
theorem dX8_cell_49 : decode cX8_cell 49 = .ok (.iload_n 2, 1) := by decide +kernel
theorem dX8_cell_50 : decode cX8_cell 50 = .ok (.iadd, 1) := by decide +kernel
theorem dX8_cell_51 : decode cX8_cell 51 = .ok (.aload_n 0, 1) := by decide +kernel
theorem dX8_cell_52 : decode cX8_cell 52 = .ok (.getfield 62, 3) := by decide +kernel
theorem dX8_cell_55 : decode cX8_cell 55 = .ok (.iload_n 1, 1) := by decide +kernel
theorem dX8_cell_56 : decode cX8_cell 56 = .ok (.iaload, 1) := by decide +kernel
theorem dX8_cell_57 : decode cX8_cell 57 = .ok (.ifCond .ne 8, 3) := by decide +kernel
theorem dX8_cell_60 : decode cX8_cell 60 = .ok (.iload_n 3, 1) := by decide +kernel
theorem dX8_cell_61 : decode cX8_cell 61 = .ok (.i2b, 1) := by decide +kernel
theorem dX8_cell_62 : decode cX8_cell 62 = .ok (.goto 19, 3) := by decide +kernel
theorem dX8_cell_65 : decode cX8_cell 65 = .ok (.aload_n 0, 1) := by decide +kernel
theorem dX8_cell_66 : decode cX8_cell 66 = .ok (.getfield 62, 3) := by decide +kernel
theorem dX8_cell_69 : decode cX8_cell 69 = .ok (.iload_n 1, 1) := by decide +kernel
theorem dX8_cell_70 : decode cX8_cell 70 = .ok (.iaload, 1) := by decide +kernel
theorem dX8_cell_71 : decode cX8_cell 71 = .ok (.iconst 1, 1) := by decide +kernel
theorem dX8_cell_72 : decode cX8_cell 72 = .ok (.if_icmp .ne 8, 3) := by decide +kernel
theorem dX8_cell_75 : decode cX8_cell 75 = .ok (.iload_n 3, 1) := by decide +kernel
theorem dX8_cell_76 : decode cX8_cell 76 = .ok (.i2s, 1) := by decide +kernel
theorem dX8_cell_77 : decode cX8_cell 77 = .ok (.goto 4, 3) := by decide +kernel
theorem dX8_cell_80 : decode cX8_cell 80 = .ok (.iload_n 3, 1) := by decide +kernel
theorem dX8_cell_81 : decode cX8_cell 81 = .ok (.iastore, 1) := by decide +kernel
theorem dX8_cell_82 : decode cX8_cell 82 = .ok (.iconst 1, 1) := by decide +kernel
theorem dX8_cell_83 : decode cX8_cell 83 = .ok (.ireturn, 1) := by decide +kernel
theorem dX8_copy_0 : decode cX8_copy 0 = .ok (.iload_n 1, 1) := by decide +kernel
theorem dX8_copy_1 : decode cX8_copy 1 = .ok (.invokestatic 267, 3) := by decide +kernel
theorem dX8_copy_4 : decode cX8_copy 4 = .ok (.ifCond .eq 10, 3) := by decide +kernel
theorem dX8_copy_7 : decode cX8_copy 7 = .ok (.iload_n 3, 1) := by decide +kernel
theorem dX8_copy_8 : decode cX8_copy 8 = .ok (.invokestatic 267, 3) := by decide +kernel
theorem dX8_copy_11 : decode cX8_copy 11 = .ok (.ifCond .ne 6, 3) := by decide +kernel
theorem dX8_copy_14 : decode cX8_copy 14 = .ok (.bipush (-2), 2) := by decide +kernel
theorem dX8_copy_16 : decode cX8_copy 16 = .ok (.ireturn, 1) := by decide +kernel
theorem dX8_copy_17 : decode cX8_copy 17 = .ok (.aload_n 0, 1) := by decide +kernel
theorem dX8_copy_18 : decode cX8_copy 18 = .ok (.getfield 62, 3) := by decide +kernel
theorem dX8_copy_21 : decode cX8_copy 21 = .ok (.iload_n 1, 1) := by decide +kernel
theorem dX8_copy_22 : decode cX8_copy 22 = .ok (.iaload, 1) := by decide +kernel
theorem dX8_copy_23 : decode cX8_copy 23 = .ok (.ifCond .lt 12, 3) := by decide +kernel
theorem dX8_copy_26 : decode cX8_copy 26 = .ok (.aload_n 0, 1) := by decide +kernel
theorem dX8_copy_27 : decode cX8_copy 27 = .ok (.getfield 62, 3) := by decide +kernel
theorem dX8_copy_30 : decode cX8_copy 30 = .ok (.iload_n 3, 1) := by decide +kernel
theorem dX8_copy_31 : decode cX8_copy 31 = .ok (.iaload, 1) := by decide +kernel
theorem dX8_copy_32 : decode cX8_copy 32 = .ok (.ifCond .ge 6, 3) := by decide +kernel
theorem dX8_copy_35 : decode cX8_copy 35 = .ok (.bipush (-11), 2) := by decide +kernel
theorem dX8_copy_37 : decode cX8_copy 37 = .ok (.ireturn, 1) := by decide +kernel
theorem dX8_copy_38 : decode cX8_copy 38 = .ok (.aload_n 0, 1) := by decide +kernel
theorem dX8_copy_39 : decode cX8_copy 39 = .ok (.getfield 62, 3) := by decide +kernel
theorem dX8_copy_42 : decode cX8_copy 42 = .ok (.iload_n 1, 1) := by decide +kernel
theorem dX8_copy_43 : decode cX8_copy 43 = .ok (.iaload, 1) := by decide +kernel
theorem dX8_copy_44 : decode cX8_copy 44 = .ok (.aload_n 0, 1) := by decide +kernel
theorem dX8_copy_45 : decode cX8_copy 45 = .ok (.getfield 62, 3) := by decide +kernel
theorem dX8_copy_48 : decode cX8_copy 48 = .ok (.iload_n 3, 1) := by decide +kernel
theorem dX8_copy_49 : decode cX8_copy 49 = .ok (.iaload, 1) := by decide +kernel
theorem dX8_copy_50 : decode cX8_copy 50 = .ok (.if_icmp .eq 6, 3) := by decide +kernel
theorem dX8_copy_53 : decode cX8_copy 53 = .ok (.bipush (-13), 2) := by decide +kernel
theorem dX8_copy_55 : decode cX8_copy 55 = .ok (.ireturn, 1) := by decide +kernel
theorem dX8_copy_56 : decode cX8_copy 56 = .ok (.iload 5, 2) := by decide +kernel
theorem dX8_copy_58 : decode cX8_copy 58 = .ok (.ifCond .lt 47, 3) := by decide +kernel
theorem dX8_copy_61 : decode cX8_copy 61 = .ok (.iload_n 2, 1) := by decide +kernel
theorem dX8_copy_62 : decode cX8_copy 62 = .ok (.ifCond .lt 43, 3) := by decide +kernel
theorem dX8_copy_65 : decode cX8_copy 65 = .ok (.iload 4, 2) := by decide +kernel
theorem dX8_copy_67 : decode cX8_copy 67 = .ok (.ifCond .lt 38, 3) := by decide +kernel
theorem dX8_copy_70 : decode cX8_copy 70 = .ok (.iload_n 2, 1) := by decide +kernel
theorem dX8_copy_71 : decode cX8_copy 71 = .ok (.i2l, 1) := by decide +kernel
theorem dX8_copy_72 : decode cX8_copy 72 = .ok (.iload 5, 2) := by decide +kernel
theorem dX8_copy_74 : decode cX8_copy 74 = .ok (.i2l, 1) := by decide +kernel
theorem dX8_copy_75 : decode cX8_copy 75 = .ok (.ladd, 1) := by decide +kernel
theorem dX8_copy_76 : decode cX8_copy 76 = .ok (.aload_n 0, 1) := by decide +kernel
theorem dX8_copy_77 : decode cX8_copy 77 = .ok (.getfield 65, 3) := by decide +kernel
theorem dX8_copy_80 : decode cX8_copy 80 = .ok (.iload_n 1, 1) := by decide +kernel
theorem dX8_copy_81 : decode cX8_copy 81 = .ok (.iaload, 1) := by decide +kernel
theorem dX8_copy_82 : decode cX8_copy 82 = .ok (.i2l, 1) := by decide +kernel
theorem dX8_copy_83 : decode cX8_copy 83 = .ok (.lcmp, 1) := by decide +kernel
theorem dX8_copy_84 : decode cX8_copy 84 = .ok (.ifCond .gt 21, 3) := by decide +kernel
theorem dX8_copy_87 : decode cX8_copy 87 = .ok (.iload 4, 2) := by decide +kernel
theorem dX8_copy_89 : decode cX8_copy 89 = .ok (.i2l, 1) := by decide +kernel
theorem dX8_copy_90 : decode cX8_copy 90 = .ok (.iload 5, 2) := by decide +kernel
theorem dX8_copy_92 : decode cX8_copy 92 = .ok (.i2l, 1) := by decide +kernel
theorem dX8_copy_93 : decode cX8_copy 93 = .ok (.ladd, 1) := by decide +kernel
theorem dX8_copy_94 : decode cX8_copy 94 = .ok (.aload_n 0, 1) := by decide +kernel
theorem dX8_copy_95 : decode cX8_copy 95 = .ok (.getfield 65, 3) := by decide +kernel
theorem dX8_copy_98 : decode cX8_copy 98 = .ok (.iload_n 3, 1) := by decide +kernel
theorem dX8_copy_99 : decode cX8_copy 99 = .ok (.iaload, 1) := by decide +kernel
theorem dX8_copy_100 : decode cX8_copy 100 = .ok (.i2l, 1) := by decide +kernel
theorem dX8_copy_101 : decode cX8_copy 101 = .ok (.lcmp, 1) := by decide +kernel
theorem dX8_copy_102 : decode cX8_copy 102 = .ok (.ifCond .le 6, 3) := by decide +kernel
theorem dX8_copy_105 : decode cX8_copy 105 = .ok (.bipush (-12), 2) := by decide +kernel
theorem dX8_copy_107 : decode cX8_copy 107 = .ok (.ireturn, 1) := by decide +kernel
theorem dX8_copy_108 : decode cX8_copy 108 = .ok (.iload_n 1, 1) := by decide +kernel
theorem dX8_copy_109 : decode cX8_copy 109 = .ok (.iload_n 3, 1) := by decide +kernel
theorem dX8_copy_110 : decode cX8_copy 110 = .ok (.if_icmp .ne 58, 3) := by decide +kernel
theorem dX8_copy_113 : decode cX8_copy 113 = .ok (.iload_n 2, 1) := by decide +kernel
theorem dX8_copy_114 : decode cX8_copy 114 = .ok (.iload 4, 2) := by decide +kernel
theorem dX8_copy_116 : decode cX8_copy 116 = .ok (.if_icmp .ge 52, 3) := by decide +kernel
theorem dX8_copy_119 : decode cX8_copy 119 = .ok (.iload 5, 2) := by decide +kernel
theorem dX8_copy_121 : decode cX8_copy 121 = .ok (.iconst 1, 1) := by decide +kernel
theorem dX8_copy_122 : decode cX8_copy 122 = .ok (.isub, 1) := by decide +kernel
theorem dX8_copy_123 : decode cX8_copy 123 = .ok (.istore 6, 2) := by decide +kernel
theorem dX8_copy_125 : decode cX8_copy 125 = .ok (.iload 6, 2) := by decide +kernel
theorem dX8_copy_127 : decode cX8_copy 127 = .ok (.ifCond .lt 38, 3) := by decide +kernel
theorem dX8_copy_130 : decode cX8_copy 130 = .ok (.aload_n 0, 1) := by decide +kernel
theorem dX8_copy_131 : decode cX8_copy 131 = .ok (.getfield 68, 3) := by decide +kernel
theorem dX8_copy_134 : decode cX8_copy 134 = .ok (.bipush 40, 2) := by decide +kernel
theorem dX8_copy_136 : decode cX8_copy 136 = .ok (.iload_n 3, 1) := by decide +kernel
theorem dX8_copy_137 : decode cX8_copy 137 = .ok (.imul, 1) := by decide +kernel
theorem dX8_copy_138 : decode cX8_copy 138 = .ok (.iload 4, 2) := by decide +kernel
theorem dX8_copy_140 : decode cX8_copy 140 = .ok (.iadd, 1) := by decide +kernel
theorem dX8_copy_141 : decode cX8_copy 141 = .ok (.iload 6, 2) := by decide +kernel
theorem dX8_copy_143 : decode cX8_copy 143 = .ok (.iadd, 1) := by decide +kernel
theorem dX8_copy_144 : decode cX8_copy 144 = .ok (.aload_n 0, 1) := by decide +kernel
theorem dX8_copy_145 : decode cX8_copy 145 = .ok (.getfield 68, 3) := by decide +kernel
theorem dX8_copy_148 : decode cX8_copy 148 = .ok (.bipush 40, 2) := by decide +kernel
theorem dX8_copy_150 : decode cX8_copy 150 = .ok (.iload_n 1, 1) := by decide +kernel
theorem dX8_copy_151 : decode cX8_copy 151 = .ok (.imul, 1) := by decide +kernel
theorem dX8_copy_152 : decode cX8_copy 152 = .ok (.iload_n 2, 1) := by decide +kernel
theorem dX8_copy_153 : decode cX8_copy 153 = .ok (.iadd, 1) := by decide +kernel
theorem dX8_copy_154 : decode cX8_copy 154 = .ok (.iload 6, 2) := by decide +kernel
theorem dX8_copy_156 : decode cX8_copy 156 = .ok (.iadd, 1) := by decide +kernel
theorem dX8_copy_157 : decode cX8_copy 157 = .ok (.iaload, 1) := by decide +kernel
theorem dX8_copy_158 : decode cX8_copy 158 = .ok (.iastore, 1) := by decide +kernel
theorem dX8_copy_159 : decode cX8_copy 159 = .ok (.iinc 6 (-1), 3) := by decide +kernel
theorem dX8_copy_162 : decode cX8_copy 162 = .ok (.goto (-37), 3) := by decide +kernel
theorem dX8_copy_165 : decode cX8_copy 165 = .ok (.goto 48, 3) := by decide +kernel
theorem dX8_copy_168 : decode cX8_copy 168 = .ok (.iconst 0, 1) := by decide +kernel
theorem dX8_copy_169 : decode cX8_copy 169 = .ok (.istore 6, 2) := by decide +kernel
theorem dX8_copy_171 : decode cX8_copy 171 = .ok (.iload 6, 2) := by decide +kernel
theorem dX8_copy_173 : decode cX8_copy 173 = .ok (.iload 5, 2) := by decide +kernel
theorem dX8_copy_175 : decode cX8_copy 175 = .ok (.if_icmp .ge 38, 3) := by decide +kernel
theorem dX8_copy_178 : decode cX8_copy 178 = .ok (.aload_n 0, 1) := by decide +kernel
theorem dX8_copy_179 : decode cX8_copy 179 = .ok (.getfield 68, 3) := by decide +kernel
theorem dX8_copy_182 : decode cX8_copy 182 = .ok (.bipush 40, 2) := by decide +kernel
theorem dX8_copy_184 : decode cX8_copy 184 = .ok (.iload_n 3, 1) := by decide +kernel
theorem dX8_copy_185 : decode cX8_copy 185 = .ok (.imul, 1) := by decide +kernel
theorem dX8_copy_186 : decode cX8_copy 186 = .ok (.iload 4, 2) := by decide +kernel
theorem dX8_copy_188 : decode cX8_copy 188 = .ok (.iadd, 1) := by decide +kernel
theorem dX8_copy_189 : decode cX8_copy 189 = .ok (.iload 6, 2) := by decide +kernel
theorem dX8_copy_191 : decode cX8_copy 191 = .ok (.iadd, 1) := by decide +kernel
theorem dX8_copy_192 : decode cX8_copy 192 = .ok (.aload_n 0, 1) := by decide +kernel
theorem dX8_copy_193 : decode cX8_copy 193 = .ok (.getfield 68, 3) := by decide +kernel
theorem dX8_copy_196 : decode cX8_copy 196 = .ok (.bipush 40, 2) := by decide +kernel
theorem dX8_copy_198 : decode cX8_copy 198 = .ok (.iload_n 1, 1) := by decide +kernel
theorem dX8_copy_199 : decode cX8_copy 199 = .ok (.imul, 1) := by decide +kernel
theorem dX8_copy_200 : decode cX8_copy 200 = .ok (.iload_n 2, 1) := by decide +kernel
theorem dX8_copy_201 : decode cX8_copy 201 = .ok (.iadd, 1) := by decide +kernel
theorem dX8_copy_202 : decode cX8_copy 202 = .ok (.iload 6, 2) := by decide +kernel
theorem dX8_copy_204 : decode cX8_copy 204 = .ok (.iadd, 1) := by decide +kernel
theorem dX8_copy_205 : decode cX8_copy 205 = .ok (.iaload, 1) := by decide +kernel
theorem dX8_copy_206 : decode cX8_copy 206 = .ok (.iastore, 1) := by decide +kernel
theorem dX8_copy_207 : decode cX8_copy 207 = .ok (.iinc 6 1, 3) := by decide +kernel
theorem dX8_copy_210 : decode cX8_copy 210 = .ok (.goto (-39), 3) := by decide +kernel
theorem dX8_copy_213 : decode cX8_copy 213 = .ok (.iload 5, 2) := by decide +kernel
theorem dX8_copy_215 : decode cX8_copy 215 = .ok (.ireturn, 1) := by decide +kernel
theorem dX8_heirs_0 : decode cX8_heirs 0 = .ok (.iload_n 1, 1) := by decide +kernel
theorem dX8_heirs_1 : decode cX8_heirs 1 = .ok (.invokestatic 267, 3) := by decide +kernel
theorem dX8_heirs_4 : decode cX8_heirs 4 = .ok (.ifCond .eq 23, 3) := by decide +kernel
theorem dX8_heirs_7 : decode cX8_heirs 7 = .ok (.iload_n 2, 1) := by decide +kernel
theorem dX8_heirs_8 : decode cX8_heirs 8 = .ok (.iconst 0, 1) := by decide +kernel
theorem dX8_heirs_9 : decode cX8_heirs 9 = .ok (.iconst 2, 1) := by decide +kernel
theorem dX8_heirs_10 : decode cX8_heirs 10 = .ok (.invokestatic 85, 3) := by decide +kernel
theorem dX8_heirs_13 : decode cX8_heirs 13 = .ok (.ifCond .eq 14, 3) := by decide +kernel
theorem dX8_heirs_16 : decode cX8_heirs 16 = .ok (.iload 4, 2) := by decide +kernel
theorem dX8_heirs_18 : decode cX8_heirs 18 = .ok (.iconst 0, 1) := by decide +kernel
theorem dX8_heirs_19 : decode cX8_heirs 19 = .ok (.bipush 6, 2) := by decide +kernel
theorem dX8_heirs_21 : decode cX8_heirs 21 = .ok (.invokestatic 85, 3) := by decide +kernel
theorem dX8_heirs_24 : decode cX8_heirs 24 = .ok (.ifCond .ne 6, 3) := by decide +kernel
theorem dX8_heirs_27 : decode cX8_heirs 27 = .ok (.bipush (-2), 2) := by decide +kernel
theorem dX8_heirs_29 : decode cX8_heirs 29 = .ok (.ireturn, 1) := by decide +kernel
theorem dX8_heirs_30 : decode cX8_heirs 30 = .ok (.aload_n 0, 1) := by decide +kernel
theorem dX8_heirs_31 : decode cX8_heirs 31 = .ok (.getfield 62, 3) := by decide +kernel
theorem dX8_heirs_34 : decode cX8_heirs 34 = .ok (.iload_n 1, 1) := by decide +kernel
theorem dX8_heirs_35 : decode cX8_heirs 35 = .ok (.iaload, 1) := by decide +kernel
theorem dX8_heirs_36 : decode cX8_heirs 36 = .ok (.ifCond .ge 6, 3) := by decide +kernel
theorem dX8_heirs_39 : decode cX8_heirs 39 = .ok (.bipush (-11), 2) := by decide +kernel
theorem dX8_heirs_41 : decode cX8_heirs 41 = .ok (.ireturn, 1) := by decide +kernel
theorem dX8_heirs_42 : decode cX8_heirs 42 = .ok (.aload_n 0, 1) := by decide +kernel
theorem dX8_heirs_43 : decode cX8_heirs 43 = .ok (.getfield 62, 3) := by decide +kernel
theorem dX8_heirs_46 : decode cX8_heirs 46 = .ok (.iload_n 1, 1) := by decide +kernel
theorem dX8_heirs_47 : decode cX8_heirs 47 = .ok (.iaload, 1) := by decide +kernel
theorem dX8_heirs_48 : decode cX8_heirs 48 = .ok (.iload_n 2, 1) := by decide +kernel
theorem dX8_heirs_49 : decode cX8_heirs 49 = .ok (.if_icmp .eq 6, 3) := by decide +kernel
theorem dX8_heirs_52 : decode cX8_heirs 52 = .ok (.bipush (-13), 2) := by decide +kernel
theorem dX8_heirs_54 : decode cX8_heirs 54 = .ok (.ireturn, 1) := by decide +kernel
theorem dX8_heirs_55 : decode cX8_heirs 55 = .ok (.iconst 0, 1) := by decide +kernel
theorem dX8_heirs_56 : decode cX8_heirs 56 = .ok (.istore 5, 2) := by decide +kernel
theorem dX8_heirs_58 : decode cX8_heirs 58 = .ok (.iconst 0, 1) := by decide +kernel
theorem dX8_heirs_59 : decode cX8_heirs 59 = .ok (.istore 6, 2) := by decide +kernel
theorem dX8_heirs_61 : decode cX8_heirs 61 = .ok (.iload 6, 2) := by decide +kernel
theorem dX8_heirs_63 : decode cX8_heirs 63 = .ok (.iload 4, 2) := by decide +kernel
theorem dX8_heirs_65 : decode cX8_heirs 65 = .ok (.if_icmp .ge 84, 3) := by decide +kernel
theorem dX8_heirs_68 : decode cX8_heirs 68 = .ok (.iload_n 3, 1) := by decide +kernel
theorem dX8_heirs_69 : decode cX8_heirs 69 = .ok (.i2l, 1) := by decide +kernel
theorem dX8_heirs_70 : decode cX8_heirs 70 = .ok (.ldc2_w 304, 3) := by decide +kernel
theorem dX8_heirs_73 : decode cX8_heirs 73 = .ok (.iload 6, 2) := by decide +kernel
theorem dX8_heirs_75 : decode cX8_heirs 75 = .ok (.i2l, 1) := by decide +kernel
theorem dX8_heirs_76 : decode cX8_heirs 76 = .ok (.lmul, 1) := by decide +kernel
theorem dX8_heirs_77 : decode cX8_heirs 77 = .ok (.ladd, 1) := by decide +kernel
theorem dX8_heirs_78 : decode cX8_heirs 78 = .ok (.lstore 7, 2) := by decide +kernel
theorem dX8_heirs_80 : decode cX8_heirs 80 = .ok (.lload 7, 2) := by decide +kernel
theorem dX8_heirs_82 : decode cX8_heirs 82 = .ok (.lconst 0, 1) := by decide +kernel
theorem dX8_heirs_83 : decode cX8_heirs 83 = .ok (.lcmp, 1) := by decide +kernel
theorem dX8_heirs_84 : decode cX8_heirs 84 = .ok (.ifCond .lt 18, 3) := by decide +kernel
theorem dX8_heirs_87 : decode cX8_heirs 87 = .ok (.lload 7, 2) := by decide +kernel
theorem dX8_heirs_89 : decode cX8_heirs 89 = .ok (.lconst 1, 1) := by decide +kernel
theorem dX8_heirs_90 : decode cX8_heirs 90 = .ok (.ladd, 1) := by decide +kernel
theorem dX8_heirs_91 : decode cX8_heirs 91 = .ok (.aload_n 0, 1) := by decide +kernel
theorem dX8_heirs_92 : decode cX8_heirs 92 = .ok (.getfield 65, 3) := by decide +kernel
theorem dX8_heirs_95 : decode cX8_heirs 95 = .ok (.iload_n 1, 1) := by decide +kernel
theorem dX8_heirs_96 : decode cX8_heirs 96 = .ok (.iaload, 1) := by decide +kernel
theorem dX8_heirs_97 : decode cX8_heirs 97 = .ok (.i2l, 1) := by decide +kernel
theorem dX8_heirs_98 : decode cX8_heirs 98 = .ok (.lcmp, 1) := by decide +kernel
theorem dX8_heirs_99 : decode cX8_heirs 99 = .ok (.ifCond .lt 6, 3) := by decide +kernel
theorem dX8_heirs_102 : decode cX8_heirs 102 = .ok (.bipush (-12), 2) := by decide +kernel
theorem dX8_heirs_104 : decode cX8_heirs 104 = .ok (.ireturn, 1) := by decide +kernel
theorem dX8_heirs_105 : decode cX8_heirs 105 = .ok (.aload_n 0, 1) := by decide +kernel
theorem dX8_heirs_106 : decode cX8_heirs 106 = .ok (.aload_n 0, 1) := by decide +kernel
theorem dX8_heirs_107 : decode cX8_heirs 107 = .ok (.getfield 68, 3) := by decide +kernel
theorem dX8_heirs_110 : decode cX8_heirs 110 = .ok (.bipush 40, 2) := by decide +kernel
theorem dX8_heirs_112 : decode cX8_heirs 112 = .ok (.iload_n 1, 1) := by decide +kernel
theorem dX8_heirs_113 : decode cX8_heirs 113 = .ok (.imul, 1) := by decide +kernel
theorem dX8_heirs_114 : decode cX8_heirs 114 = .ok (.lload 7, 2) := by decide +kernel
theorem dX8_heirs_116 : decode cX8_heirs 116 = .ok (.l2i, 1) := by decide +kernel
theorem dX8_heirs_117 : decode cX8_heirs 117 = .ok (.iadd, 1) := by decide +kernel
theorem dX8_heirs_118 : decode cX8_heirs 118 = .ok (.iaload, 1) := by decide +kernel
theorem dX8_heirs_119 : decode cX8_heirs 119 = .ok (.aload_n 0, 1) := by decide +kernel
theorem dX8_heirs_120 : decode cX8_heirs 120 = .ok (.getfield 68, 3) := by decide +kernel
theorem dX8_heirs_123 : decode cX8_heirs 123 = .ok (.bipush 40, 2) := by decide +kernel
theorem dX8_heirs_125 : decode cX8_heirs 125 = .ok (.iload_n 1, 1) := by decide +kernel
theorem dX8_heirs_126 : decode cX8_heirs 126 = .ok (.imul, 1) := by decide +kernel
theorem dX8_heirs_127 : decode cX8_heirs 127 = .ok (.lload 7, 2) := by decide +kernel
theorem dX8_heirs_129 : decode cX8_heirs 129 = .ok (.l2i, 1) := by decide +kernel
theorem dX8_heirs_130 : decode cX8_heirs 130 = .ok (.iadd, 1) := by decide +kernel
theorem dX8_heirs_131 : decode cX8_heirs 131 = .ok (.iconst 1, 1) := by decide +kernel
theorem dX8_heirs_132 : decode cX8_heirs 132 = .ok (.iadd, 1) := by decide +kernel
theorem dX8_heirs_133 : decode cX8_heirs 133 = .ok (.iaload, 1) := by decide +kernel
theorem dX8_heirs_134 : decode cX8_heirs 134 = .ok (.invokevirtual 306, 3) := by decide +kernel
theorem dX8_heirs_137 : decode cX8_heirs 137 = .ok (.ifCond .lt 6, 3) := by decide +kernel
theorem dX8_heirs_140 : decode cX8_heirs 140 = .ok (.iinc 5 1, 3) := by decide +kernel
theorem dX8_heirs_143 : decode cX8_heirs 143 = .ok (.iinc 6 1, 3) := by decide +kernel
theorem dX8_heirs_146 : decode cX8_heirs 146 = .ok (.goto (-85), 3) := by decide +kernel
theorem dX8_heirs_149 : decode cX8_heirs 149 = .ok (.iload 5, 2) := by decide +kernel
theorem dX8_heirs_151 : decode cX8_heirs 151 = .ok (.ireturn, 1) := by decide +kernel
theorem dX8_taken_0 : decode cX8_taken 0 = .ok (.iload_n 2, 1) := by decide +kernel
theorem dX8_taken_1 : decode cX8_taken 1 = .ok (.iconst 0, 1) := by decide +kernel
theorem dX8_taken_2 : decode cX8_taken 2 = .ok (.iconst 5, 1) := by decide +kernel
theorem dX8_taken_3 : decode cX8_taken 3 = .ok (.invokestatic 85, 3) := by decide +kernel
theorem dX8_taken_6 : decode cX8_taken 6 = .ok (.ifCond .ne 6, 3) := by decide +kernel
theorem dX8_taken_9 : decode cX8_taken 9 = .ok (.bipush (-2), 2) := by decide +kernel
theorem dX8_taken_11 : decode cX8_taken 11 = .ok (.ireturn, 1) := by decide +kernel
theorem dX8_taken_12 : decode cX8_taken 12 = .ok (.aload_n 0, 1) := by decide +kernel
theorem dX8_taken_13 : decode cX8_taken 13 = .ok (.iload_n 1, 1) := by decide +kernel
theorem dX8_taken_14 : decode cX8_taken 14 = .ok (.invokevirtual 89, 3) := by decide +kernel
theorem dX8_taken_17 : decode cX8_taken 17 = .ok (.ifCond .ne 6, 3) := by decide +kernel
theorem dX8_taken_20 : decode cX8_taken 20 = .ok (.bipush (-11), 2) := by decide +kernel
theorem dX8_taken_22 : decode cX8_taken 22 = .ok (.ireturn, 1) := by decide +kernel
theorem dX8_taken_23 : decode cX8_taken 23 = .ok (.aload_n 0, 1) := by decide +kernel
theorem dX8_taken_24 : decode cX8_taken 24 = .ok (.getfield 7, 3) := by decide +kernel
theorem dX8_taken_27 : decode cX8_taken 27 = .ok (.iload_n 1, 1) := by decide +kernel
theorem dX8_taken_28 : decode cX8_taken 28 = .ok (.iaload, 1) := by decide +kernel
theorem dX8_taken_29 : decode cX8_taken 29 = .ok (.istore_n 3, 1) := by decide +kernel
theorem dX8_taken_30 : decode cX8_taken 30 = .ok (.iload_n 3, 1) := by decide +kernel
theorem dX8_taken_31 : decode cX8_taken 31 = .ok (.iload_n 2, 1) := by decide +kernel
theorem dX8_taken_32 : decode cX8_taken 32 = .ok (.if_icmp .eq 30, 3) := by decide +kernel
theorem dX8_taken_35 : decode cX8_taken 35 = .ok (.iload_n 3, 1) := by decide +kernel
theorem dX8_taken_36 : decode cX8_taken 36 = .ok (.ifCond .le 26, 3) := by decide +kernel
theorem dX8_taken_39 : decode cX8_taken 39 = .ok (.iload_n 3, 1) := by decide +kernel
theorem dX8_taken_40 : decode cX8_taken 40 = .ok (.iconst 3, 1) := by decide +kernel
theorem dX8_taken_41 : decode cX8_taken 41 = .ok (.if_icmp .ne 7, 3) := by decide +kernel
theorem dX8_taken_44 : decode cX8_taken 44 = .ok (.iconst 1, 1) := by decide +kernel
theorem dX8_taken_45 : decode cX8_taken 45 = .ok (.goto 13, 3) := by decide +kernel
theorem dX8_taken_48 : decode cX8_taken 48 = .ok (.iload_n 3, 1) := by decide +kernel
theorem dX8_taken_49 : decode cX8_taken 49 = .ok (.iconst 4, 1) := by decide +kernel
theorem dX8_taken_50 : decode cX8_taken 50 = .ok (.if_icmp .ne 7, 3) := by decide +kernel
theorem dX8_taken_53 : decode cX8_taken 53 = .ok (.iconst 2, 1) := by decide +kernel
theorem dX8_taken_54 : decode cX8_taken 54 = .ok (.goto 4, 3) := by decide +kernel
theorem dX8_taken_57 : decode cX8_taken 57 = .ok (.iconst 0, 1) := by decide +kernel
theorem dX8_taken_58 : decode cX8_taken 58 = .ok (.istore_n 3, 1) := by decide +kernel
theorem dX8_taken_59 : decode cX8_taken 59 = .ok (.goto (-29), 3) := by decide +kernel
theorem dX8_taken_62 : decode cX8_taken 62 = .ok (.iload_n 3, 1) := by decide +kernel
theorem dX8_taken_63 : decode cX8_taken 63 = .ok (.iload_n 2, 1) := by decide +kernel
theorem dX8_taken_64 : decode cX8_taken 64 = .ok (.if_icmp .ne 12, 3) := by decide +kernel
theorem dX8_taken_67 : decode cX8_taken 67 = .ok (.aload_n 0, 1) := by decide +kernel
theorem dX8_taken_68 : decode cX8_taken 68 = .ok (.getfield 13, 3) := by decide +kernel
theorem dX8_taken_71 : decode cX8_taken 71 = .ok (.iload_n 1, 1) := by decide +kernel
theorem dX8_taken_72 : decode cX8_taken 72 = .ok (.iaload, 1) := by decide +kernel
theorem dX8_taken_73 : decode cX8_taken 73 = .ok (.goto 5, 3) := by decide +kernel
theorem dX8_taken_76 : decode cX8_taken 76 = .ok (.bipush (-13), 2) := by decide +kernel
theorem dX8_taken_78 : decode cX8_taken 78 = .ok (.ireturn, 1) := by decide +kernel
theorem dJ6_bitCount_0f7a4_0 : decode cJ6_bitCount_0f7a4 0 = .ok (.iload_n 0, 1) := by decide +kernel
theorem dJ6_bitCount_0f7a4_1 : decode cJ6_bitCount_0f7a4 1 = .ok (.iload_n 0, 1) := by decide +kernel
theorem dJ6_bitCount_0f7a4_2 : decode cJ6_bitCount_0f7a4 2 = .ok (.iconst 1, 1) := by decide +kernel
theorem dJ6_bitCount_0f7a4_3 : decode cJ6_bitCount_0f7a4 3 = .ok (.iushr, 1) := by decide +kernel
theorem dJ6_bitCount_0f7a4_4 : decode cJ6_bitCount_0f7a4 4 = .ok (.ldc_w 265, 3) := by decide +kernel
theorem dJ6_bitCount_0f7a4_7 : decode cJ6_bitCount_0f7a4 7 = .ok (.iand, 1) := by decide +kernel
theorem dJ6_bitCount_0f7a4_8 : decode cJ6_bitCount_0f7a4 8 = .ok (.isub, 1) := by decide +kernel
theorem dJ6_bitCount_0f7a4_9 : decode cJ6_bitCount_0f7a4 9 = .ok (.istore_n 0, 1) := by decide +kernel
theorem dJ6_bitCount_0f7a4_10 : decode cJ6_bitCount_0f7a4 10 = .ok (.iload_n 0, 1) := by decide +kernel
theorem dJ6_bitCount_0f7a4_11 : decode cJ6_bitCount_0f7a4 11 = .ok (.ldc_w 266, 3) := by decide +kernel
theorem dJ6_bitCount_0f7a4_14 : decode cJ6_bitCount_0f7a4 14 = .ok (.iand, 1) := by decide +kernel
theorem dJ6_bitCount_0f7a4_15 : decode cJ6_bitCount_0f7a4 15 = .ok (.iload_n 0, 1) := by decide +kernel
theorem dJ6_bitCount_0f7a4_16 : decode cJ6_bitCount_0f7a4 16 = .ok (.iconst 2, 1) := by decide +kernel
theorem dJ6_bitCount_0f7a4_17 : decode cJ6_bitCount_0f7a4 17 = .ok (.iushr, 1) := by decide +kernel
theorem dJ6_bitCount_0f7a4_18 : decode cJ6_bitCount_0f7a4 18 = .ok (.ldc_w 266, 3) := by decide +kernel
theorem dJ6_bitCount_0f7a4_21 : decode cJ6_bitCount_0f7a4 21 = .ok (.iand, 1) := by decide +kernel
theorem dJ6_bitCount_0f7a4_22 : decode cJ6_bitCount_0f7a4 22 = .ok (.iadd, 1) := by decide +kernel
theorem dJ6_bitCount_0f7a4_23 : decode cJ6_bitCount_0f7a4 23 = .ok (.istore_n 0, 1) := by decide +kernel
theorem dJ6_bitCount_0f7a4_24 : decode cJ6_bitCount_0f7a4 24 = .ok (.iload_n 0, 1) := by decide +kernel
theorem dJ6_bitCount_0f7a4_25 : decode cJ6_bitCount_0f7a4 25 = .ok (.iload_n 0, 1) := by decide +kernel
theorem dJ6_bitCount_0f7a4_26 : decode cJ6_bitCount_0f7a4 26 = .ok (.iconst 4, 1) := by decide +kernel
theorem dJ6_bitCount_0f7a4_27 : decode cJ6_bitCount_0f7a4 27 = .ok (.iushr, 1) := by decide +kernel
theorem dJ6_bitCount_0f7a4_28 : decode cJ6_bitCount_0f7a4 28 = .ok (.iadd, 1) := by decide +kernel
theorem dJ6_bitCount_0f7a4_29 : decode cJ6_bitCount_0f7a4 29 = .ok (.ldc_w 267, 3) := by decide +kernel
theorem dJ6_bitCount_0f7a4_32 : decode cJ6_bitCount_0f7a4 32 = .ok (.iand, 1) := by decide +kernel
theorem dJ6_bitCount_0f7a4_33 : decode cJ6_bitCount_0f7a4 33 = .ok (.istore_n 0, 1) := by decide +kernel
theorem dJ6_bitCount_0f7a4_34 : decode cJ6_bitCount_0f7a4 34 = .ok (.iload_n 0, 1) := by decide +kernel
theorem dJ6_bitCount_0f7a4_35 : decode cJ6_bitCount_0f7a4 35 = .ok (.iload_n 0, 1) := by decide +kernel
theorem dJ6_bitCount_0f7a4_36 : decode cJ6_bitCount_0f7a4 36 = .ok (.bipush 8, 2) := by decide +kernel
theorem dJ6_bitCount_0f7a4_38 : decode cJ6_bitCount_0f7a4 38 = .ok (.iushr, 1) := by decide +kernel
theorem dJ6_bitCount_0f7a4_39 : decode cJ6_bitCount_0f7a4 39 = .ok (.iadd, 1) := by decide +kernel
theorem dJ6_bitCount_0f7a4_40 : decode cJ6_bitCount_0f7a4 40 = .ok (.istore_n 0, 1) := by decide +kernel
theorem dJ6_bitCount_0f7a4_41 : decode cJ6_bitCount_0f7a4 41 = .ok (.iload_n 0, 1) := by decide +kernel
theorem dJ6_bitCount_0f7a4_42 : decode cJ6_bitCount_0f7a4 42 = .ok (.iload_n 0, 1) := by decide +kernel
theorem dJ6_bitCount_0f7a4_43 : decode cJ6_bitCount_0f7a4 43 = .ok (.bipush 16, 2) := by decide +kernel
theorem dJ6_bitCount_0f7a4_45 : decode cJ6_bitCount_0f7a4 45 = .ok (.iushr, 1) := by decide +kernel
theorem dJ6_bitCount_0f7a4_46 : decode cJ6_bitCount_0f7a4 46 = .ok (.iadd, 1) := by decide +kernel
theorem dJ6_bitCount_0f7a4_47 : decode cJ6_bitCount_0f7a4 47 = .ok (.istore_n 0, 1) := by decide +kernel
theorem dJ6_bitCount_0f7a4_48 : decode cJ6_bitCount_0f7a4 48 = .ok (.iload_n 0, 1) := by decide +kernel
theorem dJ6_bitCount_0f7a4_49 : decode cJ6_bitCount_0f7a4 49 = .ok (.bipush 63, 2) := by decide +kernel
theorem dJ6_bitCount_0f7a4_51 : decode cJ6_bitCount_0f7a4 51 = .ok (.iand, 1) := by decide +kernel
theorem dJ6_bitCount_0f7a4_52 : decode cJ6_bitCount_0f7a4 52 = .ok (.ireturn, 1) := by decide +kernel
theorem dJ9_max_7cf53_0 : decode cJ9_max_7cf53 0 = .ok (.iload_n 0, 1) := by decide +kernel
theorem dJ9_max_7cf53_1 : decode cJ9_max_7cf53 1 = .ok (.iload_n 1, 1) := by decide +kernel
theorem dJ9_max_7cf53_2 : decode cJ9_max_7cf53 2 = .ok (.if_icmp .lt 7, 3) := by decide +kernel
theorem dJ9_max_7cf53_5 : decode cJ9_max_7cf53 5 = .ok (.iload_n 0, 1) := by decide +kernel
theorem dJ9_max_7cf53_6 : decode cJ9_max_7cf53 6 = .ok (.goto 4, 3) := by decide +kernel
theorem dJ9_max_7cf53_9 : decode cJ9_max_7cf53 9 = .ok (.iload_n 1, 1) := by decide +kernel
theorem dJ9_max_7cf53_10 : decode cJ9_max_7cf53 10 = .ok (.ireturn, 1) := by decide +kernel
theorem dJ9_min_7cf53_0 : decode cJ9_min_7cf53 0 = .ok (.iload_n 0, 1) := by decide +kernel
theorem dJ9_min_7cf53_1 : decode cJ9_min_7cf53 1 = .ok (.iload_n 1, 1) := by decide +kernel
theorem dJ9_min_7cf53_2 : decode cJ9_min_7cf53 2 = .ok (.if_icmp .gt 7, 3) := by decide +kernel
theorem dJ9_min_7cf53_5 : decode cJ9_min_7cf53 5 = .ok (.iload_n 0, 1) := by decide +kernel
theorem dJ9_min_7cf53_6 : decode cJ9_min_7cf53 6 = .ok (.goto 4, 3) := by decide +kernel
theorem dJ9_min_7cf53_9 : decode cJ9_min_7cf53 9 = .ok (.iload_n 1, 1) := by decide +kernel
theorem dJ9_min_7cf53_10 : decode cJ9_min_7cf53 10 = .ok (.ireturn, 1) := by decide +kernel
theorem dJ0_length_8abf5_0 : decode cJ0_length_8abf5 0 = .ok (.aload_n 0, 1) := by decide +kernel
theorem dJ0_length_8abf5_1 : decode cJ0_length_8abf5 1 = .ok (.getfield 9, 3) := by decide +kernel
theorem dJ0_length_8abf5_4 : decode cJ0_length_8abf5 4 = .ok (.arraylength, 1) := by decide +kernel
theorem dJ0_length_8abf5_5 : decode cJ0_length_8abf5 5 = .ok (.aload_n 0, 1) := by decide +kernel
theorem dJ0_length_8abf5_6 : decode cJ0_length_8abf5 6 = .ok (.invokevirtual 335, 3) := by decide +kernel
theorem dJ0_length_8abf5_9 : decode cJ0_length_8abf5 9 = .ok (.ishr, 1) := by decide +kernel
theorem dJ0_length_8abf5_10 : decode cJ0_length_8abf5 10 = .ok (.ireturn, 1) := by decide +kernel
theorem dJ0_charAt_5068e_0 : decode cJ0_charAt_5068e 0 = .ok (.aload_n 0, 1) := by decide +kernel
theorem dJ0_charAt_5068e_1 : decode cJ0_charAt_5068e 1 = .ok (.invokevirtual 492, 3) := by decide +kernel
theorem dJ0_charAt_5068e_4 : decode cJ0_charAt_5068e 4 = .ok (.ifCond .eq 12, 3) := by decide +kernel
theorem dJ0_charAt_5068e_7 : decode cJ0_charAt_5068e 7 = .ok (.aload_n 0, 1) := by decide +kernel
theorem dJ0_charAt_5068e_8 : decode cJ0_charAt_5068e 8 = .ok (.getfield 9, 3) := by decide +kernel
theorem dJ0_charAt_5068e_11 : decode cJ0_charAt_5068e 11 = .ok (.iload_n 1, 1) := by decide +kernel
theorem dJ0_charAt_5068e_12 : decode cJ0_charAt_5068e 12 = .ok (.invokestatic 495, 3) := by decide +kernel
theorem dJ0_charAt_5068e_15 : decode cJ0_charAt_5068e 15 = .ok (.ireturn, 1) := by decide +kernel
theorem dJ0_charAt_5068e_16 : decode cJ0_charAt_5068e 16 = .ok (.aload_n 0, 1) := by decide +kernel
theorem dJ0_charAt_5068e_17 : decode cJ0_charAt_5068e 17 = .ok (.getfield 9, 3) := by decide +kernel
theorem dJ0_charAt_5068e_20 : decode cJ0_charAt_5068e 20 = .ok (.iload_n 1, 1) := by decide +kernel
theorem dJ0_charAt_5068e_21 : decode cJ0_charAt_5068e 21 = .ok (.invokestatic 498, 3) := by decide +kernel
theorem dJ0_charAt_5068e_24 : decode cJ0_charAt_5068e 24 = .ok (.ireturn, 1) := by decide +kernel
theorem dJ0_indexOf_0f7a4_0 : decode cJ0_indexOf_0f7a4 0 = .ok (.aload_n 0, 1) := by decide +kernel
theorem dJ0_indexOf_0f7a4_1 : decode cJ0_indexOf_0f7a4 1 = .ok (.iload_n 1, 1) := by decide +kernel
theorem dJ0_indexOf_0f7a4_2 : decode cJ0_indexOf_0f7a4 2 = .ok (.iconst 0, 1) := by decide +kernel
theorem dJ0_indexOf_0f7a4_3 : decode cJ0_indexOf_0f7a4 3 = .ok (.invokevirtual 633, 3) := by decide +kernel
theorem dJ0_indexOf_0f7a4_6 : decode cJ0_indexOf_0f7a4 6 = .ok (.ireturn, 1) := by decide +kernel
theorem dJ0_indexOf_7cf53_0 : decode cJ0_indexOf_7cf53 0 = .ok (.aload_n 0, 1) := by decide +kernel
theorem dJ0_indexOf_7cf53_1 : decode cJ0_indexOf_7cf53 1 = .ok (.invokevirtual 492, 3) := by decide +kernel
theorem dJ0_indexOf_7cf53_4 : decode cJ0_indexOf_7cf53 4 = .ok (.ifCond .eq 19, 3) := by decide +kernel
theorem dJ0_indexOf_7cf53_7 : decode cJ0_indexOf_7cf53 7 = .ok (.aload_n 0, 1) := by decide +kernel
theorem dJ0_indexOf_7cf53_8 : decode cJ0_indexOf_7cf53 8 = .ok (.getfield 9, 3) := by decide +kernel
theorem dJ0_indexOf_7cf53_11 : decode cJ0_indexOf_7cf53 11 = .ok (.iload_n 1, 1) := by decide +kernel
theorem dJ0_indexOf_7cf53_12 : decode cJ0_indexOf_7cf53 12 = .ok (.iload_n 2, 1) := by decide +kernel
theorem dJ0_indexOf_7cf53_13 : decode cJ0_indexOf_7cf53 13 = .ok (.aload_n 0, 1) := by decide +kernel
theorem dJ0_indexOf_7cf53_14 : decode cJ0_indexOf_7cf53 14 = .ok (.invokevirtual 505, 3) := by decide +kernel
theorem dJ0_indexOf_7cf53_17 : decode cJ0_indexOf_7cf53 17 = .ok (.invokestatic 637, 3) := by decide +kernel
theorem dJ0_indexOf_7cf53_20 : decode cJ0_indexOf_7cf53 20 = .ok (.goto 16, 3) := by decide +kernel
theorem dJ0_indexOf_7cf53_23 : decode cJ0_indexOf_7cf53 23 = .ok (.aload_n 0, 1) := by decide +kernel
theorem dJ0_indexOf_7cf53_24 : decode cJ0_indexOf_7cf53 24 = .ok (.getfield 9, 3) := by decide +kernel
theorem dJ0_indexOf_7cf53_27 : decode cJ0_indexOf_7cf53 27 = .ok (.iload_n 1, 1) := by decide +kernel
theorem dJ0_indexOf_7cf53_28 : decode cJ0_indexOf_7cf53 28 = .ok (.iload_n 2, 1) := by decide +kernel
theorem dJ0_indexOf_7cf53_29 : decode cJ0_indexOf_7cf53 29 = .ok (.aload_n 0, 1) := by decide +kernel
theorem dJ0_indexOf_7cf53_30 : decode cJ0_indexOf_7cf53 30 = .ok (.invokevirtual 505, 3) := by decide +kernel
theorem dJ0_indexOf_7cf53_33 : decode cJ0_indexOf_7cf53 33 = .ok (.invokestatic 640, 3) := by decide +kernel
theorem dJ0_indexOf_7cf53_36 : decode cJ0_indexOf_7cf53 36 = .ok (.ireturn, 1) := by decide +kernel
theorem dJ0_coder_7d493_0 : decode cJ0_coder_7d493 0 = .ok (.getstatic 38, 3) := by decide +kernel
theorem dJ0_coder_7d493_3 : decode cJ0_coder_7d493 3 = .ok (.ifCond .eq 10, 3) := by decide +kernel
theorem dJ0_coder_7d493_6 : decode cJ0_coder_7d493 6 = .ok (.aload_n 0, 1) := by decide +kernel
theorem dJ0_coder_7d493_7 : decode cJ0_coder_7d493 7 = .ok (.getfield 15, 3) := by decide +kernel
theorem dJ0_coder_7d493_10 : decode cJ0_coder_7d493 10 = .ok (.goto 4, 3) := by decide +kernel
theorem dJ0_coder_7d493_13 : decode cJ0_coder_7d493 13 = .ok (.iconst 1, 1) := by decide +kernel
theorem dJ0_coder_7d493_14 : decode cJ0_coder_7d493 14 = .ok (.ireturn, 1) := by decide +kernel
theorem dJ0_isLatin1_aae02_0 : decode cJ0_isLatin1_aae02 0 = .ok (.getstatic 38, 3) := by decide +kernel
theorem dJ0_isLatin1_aae02_3 : decode cJ0_isLatin1_aae02 3 = .ok (.ifCond .eq 14, 3) := by decide +kernel
theorem dJ0_isLatin1_aae02_6 : decode cJ0_isLatin1_aae02 6 = .ok (.aload_n 0, 1) := by decide +kernel
theorem dJ0_isLatin1_aae02_7 : decode cJ0_isLatin1_aae02 7 = .ok (.getfield 15, 3) := by decide +kernel
theorem dJ0_isLatin1_aae02_10 : decode cJ0_isLatin1_aae02 10 = .ok (.ifCond .ne 7, 3) := by decide +kernel
theorem dJ0_isLatin1_aae02_13 : decode cJ0_isLatin1_aae02 13 = .ok (.iconst 1, 1) := by decide +kernel
theorem dJ0_isLatin1_aae02_14 : decode cJ0_isLatin1_aae02 14 = .ok (.goto 4, 3) := by decide +kernel
theorem dJ0_isLatin1_aae02_17 : decode cJ0_isLatin1_aae02 17 = .ok (.iconst 0, 1) := by decide +kernel
theorem dJ0_isLatin1_aae02_18 : decode cJ0_isLatin1_aae02 18 = .ok (.ireturn, 1) := by decide +kernel
theorem dJ0_checkIndex_df160_0 : decode cJ0_checkIndex_df160 0 = .ok (.iload_n 0, 1) := by decide +kernel
theorem dJ0_checkIndex_df160_1 : decode cJ0_checkIndex_df160 1 = .ok (.iload_n 1, 1) := by decide +kernel
theorem dJ0_checkIndex_df160_2 : decode cJ0_checkIndex_df160 2 = .ok (.getstatic 1053, 3) := by decide +kernel
theorem dJ0_checkIndex_df160_5 : decode cJ0_checkIndex_df160 5 = .ok (.invokestatic 1059, 3) := by decide +kernel
theorem dJ0_checkIndex_df160_8 : decode cJ0_checkIndex_df160 8 = .ok (.pop, 1) := by decide +kernel
theorem dJ0_checkIndex_df160_9 : decode cJ0_checkIndex_df160 9 = .ok (.return_, 1) := by decide +kernel
theorem dJ0_checkBoundsBeginEnd_23922_0 : decode cJ0_checkBoundsBeginEnd_23922 0 = .ok (.iload_n 0, 1) := by decide +kernel
theorem dJ0_checkBoundsBeginEnd_23922_1 : decode cJ0_checkBoundsBeginEnd_23922 1 = .ok (.iload_n 1, 1) := by decide +kernel
theorem dJ0_checkBoundsBeginEnd_23922_2 : decode cJ0_checkBoundsBeginEnd_23922 2 = .ok (.iload_n 2, 1) := by decide +kernel
theorem dJ0_checkBoundsBeginEnd_23922_3 : decode cJ0_checkBoundsBeginEnd_23922 3 = .ok (.getstatic 1053, 3) := by decide +kernel
theorem dJ0_checkBoundsBeginEnd_23922_6 : decode cJ0_checkBoundsBeginEnd_23922 6 = .ok (.invokestatic 1062, 3) := by decide +kernel
theorem dJ0_checkBoundsBeginEnd_23922_9 : decode cJ0_checkBoundsBeginEnd_23922 9 = .ok (.pop, 1) := by decide +kernel
theorem dJ0_checkBoundsBeginEnd_23922_10 : decode cJ0_checkBoundsBeginEnd_23922 10 = .ok (.return_, 1) := by decide +kernel
theorem dJ1_charAt_3b067_0 : decode cJ1_charAt_3b067 0 = .ok (.iload_n 1, 1) := by decide +kernel
theorem dJ1_charAt_3b067_1 : decode cJ1_charAt_3b067 1 = .ok (.aload_n 0, 1) := by decide +kernel
theorem dJ1_charAt_3b067_2 : decode cJ1_charAt_3b067 2 = .ok (.arraylength, 1) := by decide +kernel
theorem dJ1_charAt_3b067_3 : decode cJ1_charAt_3b067 3 = .ok (.invokestatic 9, 3) := by decide +kernel
theorem dJ1_charAt_3b067_6 : decode cJ1_charAt_3b067 6 = .ok (.aload_n 0, 1) := by decide +kernel
theorem dJ1_charAt_3b067_7 : decode cJ1_charAt_3b067 7 = .ok (.iload_n 1, 1) := by decide +kernel
theorem dJ1_charAt_3b067_8 : decode cJ1_charAt_3b067 8 = .ok (.baload, 1) := by decide +kernel
theorem dJ1_charAt_3b067_9 : decode cJ1_charAt_3b067 9 = .ok (.sipush 255, 3) := by decide +kernel
theorem dJ1_charAt_3b067_12 : decode cJ1_charAt_3b067 12 = .ok (.iand, 1) := by decide +kernel
theorem dJ1_charAt_3b067_13 : decode cJ1_charAt_3b067 13 = .ok (.i2c, 1) := by decide +kernel
theorem dJ1_charAt_3b067_14 : decode cJ1_charAt_3b067 14 = .ok (.ireturn, 1) := by decide +kernel
theorem dJ1_canEncode_9a6ad_0 : decode cJ1_canEncode_9a6ad 0 = .ok (.iload_n 0, 1) := by decide +kernel
theorem dJ1_canEncode_9a6ad_1 : decode cJ1_canEncode_9a6ad 1 = .ok (.ifCond .lt 14, 3) := by decide +kernel
theorem dJ1_canEncode_9a6ad_4 : decode cJ1_canEncode_9a6ad 4 = .ok (.iload_n 0, 1) := by decide +kernel
theorem dJ1_canEncode_9a6ad_5 : decode cJ1_canEncode_9a6ad 5 = .ok (.sipush 255, 3) := by decide +kernel
theorem dJ1_canEncode_9a6ad_8 : decode cJ1_canEncode_9a6ad 8 = .ok (.if_icmp .gt 7, 3) := by decide +kernel
theorem dJ1_canEncode_9a6ad_11 : decode cJ1_canEncode_9a6ad 11 = .ok (.iconst 1, 1) := by decide +kernel
theorem dJ1_canEncode_9a6ad_12 : decode cJ1_canEncode_9a6ad 12 = .ok (.goto 4, 3) := by decide +kernel
theorem dJ1_canEncode_9a6ad_15 : decode cJ1_canEncode_9a6ad 15 = .ok (.iconst 0, 1) := by decide +kernel
theorem dJ1_canEncode_9a6ad_16 : decode cJ1_canEncode_9a6ad 16 = .ok (.ireturn, 1) := by decide +kernel
theorem dJ1_indexOf_4cfef_0 : decode cJ1_indexOf_4cfef 0 = .ok (.iload_n 1, 1) := by decide +kernel
theorem dJ1_indexOf_4cfef_1 : decode cJ1_indexOf_4cfef 1 = .ok (.invokestatic 88, 3) := by decide +kernel
theorem dJ1_indexOf_4cfef_4 : decode cJ1_indexOf_4cfef 4 = .ok (.ifCond .ne 5, 3) := by decide +kernel
theorem dJ1_indexOf_4cfef_7 : decode cJ1_indexOf_4cfef 7 = .ok (.iconst (-1), 1) := by decide +kernel
theorem dJ1_indexOf_4cfef_8 : decode cJ1_indexOf_4cfef 8 = .ok (.ireturn, 1) := by decide +kernel
theorem dJ1_indexOf_4cfef_9 : decode cJ1_indexOf_4cfef 9 = .ok (.iload_n 2, 1) := by decide +kernel
theorem dJ1_indexOf_4cfef_10 : decode cJ1_indexOf_4cfef 10 = .ok (.iconst 0, 1) := by decide +kernel
theorem dJ1_indexOf_4cfef_11 : decode cJ1_indexOf_4cfef 11 = .ok (.invokestatic 92, 3) := by decide +kernel
theorem dJ1_indexOf_4cfef_14 : decode cJ1_indexOf_4cfef 14 = .ok (.istore_n 2, 1) := by decide +kernel
theorem dJ1_indexOf_4cfef_15 : decode cJ1_indexOf_4cfef 15 = .ok (.iload_n 3, 1) := by decide +kernel
theorem dJ1_indexOf_4cfef_16 : decode cJ1_indexOf_4cfef 16 = .ok (.aload_n 0, 1) := by decide +kernel
theorem dJ1_indexOf_4cfef_17 : decode cJ1_indexOf_4cfef 17 = .ok (.arraylength, 1) := by decide +kernel
theorem dJ1_indexOf_4cfef_18 : decode cJ1_indexOf_4cfef 18 = .ok (.invokestatic 38, 3) := by decide +kernel
theorem dJ1_indexOf_4cfef_21 : decode cJ1_indexOf_4cfef 21 = .ok (.istore_n 3, 1) := by decide +kernel
theorem dJ1_indexOf_4cfef_22 : decode cJ1_indexOf_4cfef 22 = .ok (.iload_n 2, 1) := by decide +kernel
theorem dJ1_indexOf_4cfef_23 : decode cJ1_indexOf_4cfef 23 = .ok (.iload_n 3, 1) := by decide +kernel
theorem dJ1_indexOf_4cfef_24 : decode cJ1_indexOf_4cfef 24 = .ok (.if_icmp .lt 5, 3) := by decide +kernel
theorem dJ1_indexOf_4cfef_27 : decode cJ1_indexOf_4cfef 27 = .ok (.iconst (-1), 1) := by decide +kernel
theorem dJ1_indexOf_4cfef_28 : decode cJ1_indexOf_4cfef 28 = .ok (.ireturn, 1) := by decide +kernel
theorem dJ1_indexOf_4cfef_29 : decode cJ1_indexOf_4cfef 29 = .ok (.aload_n 0, 1) := by decide +kernel
theorem dJ1_indexOf_4cfef_30 : decode cJ1_indexOf_4cfef 30 = .ok (.iload_n 1, 1) := by decide +kernel
theorem dJ1_indexOf_4cfef_31 : decode cJ1_indexOf_4cfef 31 = .ok (.iload_n 2, 1) := by decide +kernel
theorem dJ1_indexOf_4cfef_32 : decode cJ1_indexOf_4cfef 32 = .ok (.iload_n 3, 1) := by decide +kernel
theorem dJ1_indexOf_4cfef_33 : decode cJ1_indexOf_4cfef 33 = .ok (.invokestatic 95, 3) := by decide +kernel
theorem dJ1_indexOf_4cfef_36 : decode cJ1_indexOf_4cfef 36 = .ok (.ireturn, 1) := by decide +kernel
theorem dJ1_indexOfChar_4cfef_0 : decode cJ1_indexOfChar_4cfef 0 = .ok (.iload_n 1, 1) := by decide +kernel
theorem dJ1_indexOfChar_4cfef_1 : decode cJ1_indexOfChar_4cfef 1 = .ok (.i2b, 1) := by decide +kernel
theorem dJ1_indexOfChar_4cfef_2 : decode cJ1_indexOfChar_4cfef 2 = .ok (.istore 4, 2) := by decide +kernel
theorem dJ1_indexOfChar_4cfef_4 : decode cJ1_indexOfChar_4cfef 4 = .ok (.iload_n 2, 1) := by decide +kernel
theorem dJ1_indexOfChar_4cfef_5 : decode cJ1_indexOfChar_4cfef 5 = .ok (.istore 5, 2) := by decide +kernel
theorem dJ1_indexOfChar_4cfef_7 : decode cJ1_indexOfChar_4cfef 7 = .ok (.iload 5, 2) := by decide +kernel
theorem dJ1_indexOfChar_4cfef_9 : decode cJ1_indexOfChar_4cfef 9 = .ok (.iload_n 3, 1) := by decide +kernel
theorem dJ1_indexOfChar_4cfef_10 : decode cJ1_indexOfChar_4cfef 10 = .ok (.if_icmp .ge 21, 3) := by decide +kernel
theorem dJ1_indexOfChar_4cfef_13 : decode cJ1_indexOfChar_4cfef 13 = .ok (.aload_n 0, 1) := by decide +kernel
theorem dJ1_indexOfChar_4cfef_14 : decode cJ1_indexOfChar_4cfef 14 = .ok (.iload 5, 2) := by decide +kernel
theorem dJ1_indexOfChar_4cfef_16 : decode cJ1_indexOfChar_4cfef 16 = .ok (.baload, 1) := by decide +kernel
theorem dJ1_indexOfChar_4cfef_17 : decode cJ1_indexOfChar_4cfef 17 = .ok (.iload 4, 2) := by decide +kernel
theorem dJ1_indexOfChar_4cfef_19 : decode cJ1_indexOfChar_4cfef 19 = .ok (.if_icmp .ne 6, 3) := by decide +kernel
theorem dJ1_indexOfChar_4cfef_22 : decode cJ1_indexOfChar_4cfef 22 = .ok (.iload 5, 2) := by decide +kernel
theorem dJ1_indexOfChar_4cfef_24 : decode cJ1_indexOfChar_4cfef 24 = .ok (.ireturn, 1) := by decide +kernel
theorem dJ1_indexOfChar_4cfef_25 : decode cJ1_indexOfChar_4cfef 25 = .ok (.iinc 5 1, 3) := by decide +kernel
theorem dJ1_indexOfChar_4cfef_28 : decode cJ1_indexOfChar_4cfef 28 = .ok (.goto (-21), 3) := by decide +kernel
theorem dJ1_indexOfChar_4cfef_31 : decode cJ1_indexOfChar_4cfef 31 = .ok (.iconst (-1), 1) := by decide +kernel
theorem dJ1_indexOfChar_4cfef_32 : decode cJ1_indexOfChar_4cfef 32 = .ok (.ireturn, 1) := by decide +kernel
theorem dJ3_checkIndex_8e157_0 : decode cJ3_checkIndex_8e157 0 = .ok (.iload_n 0, 1) := by decide +kernel
theorem dJ3_checkIndex_8e157_1 : decode cJ3_checkIndex_8e157 1 = .ok (.ifCond .lt 8, 3) := by decide +kernel
theorem dJ3_checkIndex_8e157_4 : decode cJ3_checkIndex_8e157 4 = .ok (.iload_n 0, 1) := by decide +kernel
theorem dJ3_checkIndex_8e157_5 : decode cJ3_checkIndex_8e157 5 = .ok (.iload_n 1, 1) := by decide +kernel
theorem dJ3_checkIndex_8e157_6 : decode cJ3_checkIndex_8e157 6 = .ok (.if_icmp .lt 10, 3) := by decide +kernel
theorem dJ3_checkIndex_8e157_9 : decode cJ3_checkIndex_8e157 9 = .ok (.aload_n 2, 1) := by decide +kernel
theorem dJ3_checkIndex_8e157_10 : decode cJ3_checkIndex_8e157 10 = .ok (.iload_n 0, 1) := by decide +kernel
theorem dJ3_checkIndex_8e157_11 : decode cJ3_checkIndex_8e157 11 = .ok (.iload_n 1, 1) := by decide +kernel
theorem dJ3_checkIndex_8e157_12 : decode cJ3_checkIndex_8e157 12 = .ok (.invokestatic 95, 3) := by decide +kernel
theorem dJ3_checkIndex_8e157_15 : decode cJ3_checkIndex_8e157 15 = .ok (.athrow, 1) := by decide +kernel
theorem dJ3_checkIndex_8e157_16 : decode cJ3_checkIndex_8e157 16 = .ok (.iload_n 0, 1) := by decide +kernel
theorem dJ3_checkIndex_8e157_17 : decode cJ3_checkIndex_8e157 17 = .ok (.ireturn, 1) := by decide +kernel
theorem dJ3_checkFromToIndex_8c36e_0 : decode cJ3_checkFromToIndex_8c36e 0 = .ok (.iload_n 0, 1) := by decide +kernel
theorem dJ3_checkFromToIndex_8c36e_1 : decode cJ3_checkFromToIndex_8c36e 1 = .ok (.ifCond .lt 13, 3) := by decide +kernel
theorem dJ3_checkFromToIndex_8c36e_4 : decode cJ3_checkFromToIndex_8c36e 4 = .ok (.iload_n 0, 1) := by decide +kernel
theorem dJ3_checkFromToIndex_8c36e_5 : decode cJ3_checkFromToIndex_8c36e 5 = .ok (.iload_n 1, 1) := by decide +kernel
theorem dJ3_checkFromToIndex_8c36e_6 : decode cJ3_checkFromToIndex_8c36e 6 = .ok (.if_icmp .gt 8, 3) := by decide +kernel
theorem dJ3_checkFromToIndex_8c36e_9 : decode cJ3_checkFromToIndex_8c36e 9 = .ok (.iload_n 1, 1) := by decide +kernel
theorem dJ3_checkFromToIndex_8c36e_10 : decode cJ3_checkFromToIndex_8c36e 10 = .ok (.iload_n 2, 1) := by decide +kernel
theorem dJ3_checkFromToIndex_8c36e_11 : decode cJ3_checkFromToIndex_8c36e 11 = .ok (.if_icmp .le 11, 3) := by decide +kernel
theorem dJ3_checkFromToIndex_8c36e_14 : decode cJ3_checkFromToIndex_8c36e 14 = .ok (.aload_n 3, 1) := by decide +kernel
theorem dJ3_checkFromToIndex_8c36e_15 : decode cJ3_checkFromToIndex_8c36e 15 = .ok (.iload_n 0, 1) := by decide +kernel
theorem dJ3_checkFromToIndex_8c36e_16 : decode cJ3_checkFromToIndex_8c36e 16 = .ok (.iload_n 1, 1) := by decide +kernel
theorem dJ3_checkFromToIndex_8c36e_17 : decode cJ3_checkFromToIndex_8c36e 17 = .ok (.iload_n 2, 1) := by decide +kernel
theorem dJ3_checkFromToIndex_8c36e_18 : decode cJ3_checkFromToIndex_8c36e 18 = .ok (.invokestatic 99, 3) := by decide +kernel
theorem dJ3_checkFromToIndex_8c36e_21 : decode cJ3_checkFromToIndex_8c36e 21 = .ok (.athrow, 1) := by decide +kernel
theorem dJ3_checkFromToIndex_8c36e_22 : decode cJ3_checkFromToIndex_8c36e 22 = .ok (.iload_n 0, 1) := by decide +kernel
theorem dJ3_checkFromToIndex_8c36e_23 : decode cJ3_checkFromToIndex_8c36e 23 = .ok (.ireturn, 1) := by decide +kernel
theorem dL_law_0 : decode cL_law 0 = .ok (.new 7, 3) := by decide +kernel
theorem dL_law_3 : decode cL_law 3 = .ok (.dup, 1) := by decide +kernel
theorem dL_law_4 : decode cL_law 4 = .ok (.invokespecial 9, 3) := by decide +kernel
theorem dL_law_7 : decode cL_law 7 = .ok (.astore_n 1, 1) := by decide +kernel
theorem dL_law_8 : decode cL_law 8 = .ok (.new 10, 3) := by decide +kernel
theorem dL_law_11 : decode cL_law 11 = .ok (.dup, 1) := by decide +kernel
theorem dL_law_12 : decode cL_law 12 = .ok (.invokespecial 12, 3) := by decide +kernel
theorem dL_law_15 : decode cL_law 15 = .ok (.astore_n 2, 1) := by decide +kernel
theorem dL_law_16 : decode cL_law 16 = .ok (.iconst 0, 1) := by decide +kernel
theorem dL_law_17 : decode cL_law 17 = .ok (.istore_n 3, 1) := by decide +kernel
theorem dL_law_18 : decode cL_law 18 = .ok (.iload_n 3, 1) := by decide +kernel
theorem dL_law_19 : decode cL_law 19 = .ok (.aload_n 0, 1) := by decide +kernel
theorem dL_law_20 : decode cL_law 20 = .ok (.arraylength, 1) := by decide +kernel
theorem dL_law_21 : decode cL_law 21 = .ok (.bipush 6, 2) := by decide +kernel
theorem dL_law_23 : decode cL_law 23 = .ok (.isub, 1) := by decide +kernel
theorem dL_law_24 : decode cL_law 24 = .ok (.if_icmp .gt 1157, 3) := by decide +kernel
theorem dL_law_27 : decode cL_law 27 = .ok (.aload_n 0, 1) := by decide +kernel
theorem dL_law_28 : decode cL_law 28 = .ok (.iload_n 3, 1) := by decide +kernel
theorem dL_law_29 : decode cL_law 29 = .ok (.iaload, 1) := by decide +kernel
theorem dL_law_30 : decode cL_law 30 = .ok (.bipush 31, 2) := by decide +kernel
theorem dL_law_32 : decode cL_law 32 = .ok (.iand, 1) := by decide +kernel
theorem dL_law_33 : decode cL_law 33 = .ok (.tableswitch 1142 0 27 #[127, 170, 203, 246, 279, 302, 315, 338, 381, 414, 467, 510, 533, 566, 599, 642, 685, 738, 791, 814, 858, 871, 884, 907, 950, 993, 1056, 1109], 127) := by decide +kernel
theorem dL_law_160 : decode cL_law 160 = .ok (.aload_n 1, 1) := by decide +kernel
theorem dL_law_161 : decode cL_law 161 = .ok (.aload_n 0, 1) := by decide +kernel
theorem dL_law_162 : decode cL_law 162 = .ok (.iload_n 3, 1) := by decide +kernel
theorem dL_law_163 : decode cL_law 163 = .ok (.iconst 1, 1) := by decide +kernel
theorem dL_law_164 : decode cL_law 164 = .ok (.iadd, 1) := by decide +kernel
theorem dL_law_165 : decode cL_law 165 = .ok (.iaload, 1) := by decide +kernel
theorem dL_law_166 : decode cL_law 166 = .ok (.aload_n 0, 1) := by decide +kernel
theorem dL_law_167 : decode cL_law 167 = .ok (.iload_n 3, 1) := by decide +kernel
theorem dL_law_168 : decode cL_law 168 = .ok (.iconst 2, 1) := by decide +kernel
theorem dL_law_169 : decode cL_law 169 = .ok (.iadd, 1) := by decide +kernel
theorem dL_law_170 : decode cL_law 170 = .ok (.iaload, 1) := by decide +kernel
theorem dL_law_171 : decode cL_law 171 = .ok (.aload_n 0, 1) := by decide +kernel
theorem dL_law_172 : decode cL_law 172 = .ok (.iload_n 3, 1) := by decide +kernel
theorem dL_law_173 : decode cL_law 173 = .ok (.iconst 3, 1) := by decide +kernel
theorem dL_law_174 : decode cL_law 174 = .ok (.iadd, 1) := by decide +kernel
theorem dL_law_175 : decode cL_law 175 = .ok (.iaload, 1) := by decide +kernel
theorem dL_law_176 : decode cL_law 176 = .ok (.invokevirtual 13, 3) := by decide +kernel
theorem dL_law_179 : decode cL_law 179 = .ok (.aload_n 2, 1) := by decide +kernel
theorem dL_law_180 : decode cL_law 180 = .ok (.aload_n 0, 1) := by decide +kernel
theorem dL_law_181 : decode cL_law 181 = .ok (.iload_n 3, 1) := by decide +kernel
theorem dL_law_182 : decode cL_law 182 = .ok (.iconst 1, 1) := by decide +kernel
theorem dL_law_183 : decode cL_law 183 = .ok (.iadd, 1) := by decide +kernel
theorem dL_law_184 : decode cL_law 184 = .ok (.iaload, 1) := by decide +kernel
theorem dL_law_185 : decode cL_law 185 = .ok (.aload_n 0, 1) := by decide +kernel
theorem dL_law_186 : decode cL_law 186 = .ok (.iload_n 3, 1) := by decide +kernel
theorem dL_law_187 : decode cL_law 187 = .ok (.iconst 2, 1) := by decide +kernel
theorem dL_law_188 : decode cL_law 188 = .ok (.iadd, 1) := by decide +kernel
theorem dL_law_189 : decode cL_law 189 = .ok (.iaload, 1) := by decide +kernel
theorem dL_law_190 : decode cL_law 190 = .ok (.aload_n 0, 1) := by decide +kernel
theorem dL_law_191 : decode cL_law 191 = .ok (.iload_n 3, 1) := by decide +kernel
theorem dL_law_192 : decode cL_law 192 = .ok (.iconst 3, 1) := by decide +kernel
theorem dL_law_193 : decode cL_law 193 = .ok (.iadd, 1) := by decide +kernel
theorem dL_law_194 : decode cL_law 194 = .ok (.iaload, 1) := by decide +kernel
theorem dL_law_195 : decode cL_law 195 = .ok (.invokevirtual 17, 3) := by decide +kernel
theorem dL_law_198 : decode cL_law 198 = .ok (.if_icmp .eq 977, 3) := by decide +kernel
theorem dL_law_201 : decode cL_law 201 = .ok (.iconst 0, 1) := by decide +kernel
theorem dL_law_202 : decode cL_law 202 = .ok (.ireturn, 1) := by decide +kernel
theorem dL_law_203 : decode cL_law 203 = .ok (.aload_n 1, 1) := by decide +kernel
theorem dL_law_204 : decode cL_law 204 = .ok (.aload_n 0, 1) := by decide +kernel
theorem dL_law_205 : decode cL_law 205 = .ok (.iload_n 3, 1) := by decide +kernel
theorem dL_law_206 : decode cL_law 206 = .ok (.iconst 1, 1) := by decide +kernel
theorem dL_law_207 : decode cL_law 207 = .ok (.iadd, 1) := by decide +kernel
theorem dL_law_208 : decode cL_law 208 = .ok (.iaload, 1) := by decide +kernel
theorem dL_law_209 : decode cL_law 209 = .ok (.aload_n 0, 1) := by decide +kernel
theorem dL_law_210 : decode cL_law 210 = .ok (.iload_n 3, 1) := by decide +kernel
theorem dL_law_211 : decode cL_law 211 = .ok (.iconst 2, 1) := by decide +kernel
theorem dL_law_212 : decode cL_law 212 = .ok (.iadd, 1) := by decide +kernel
theorem dL_law_213 : decode cL_law 213 = .ok (.iaload, 1) := by decide +kernel
theorem dL_law_214 : decode cL_law 214 = .ok (.invokevirtual 18, 3) := by decide +kernel
theorem dL_law_217 : decode cL_law 217 = .ok (.aload_n 2, 1) := by decide +kernel
theorem dL_law_218 : decode cL_law 218 = .ok (.aload_n 0, 1) := by decide +kernel
theorem dL_law_219 : decode cL_law 219 = .ok (.iload_n 3, 1) := by decide +kernel
theorem dL_law_220 : decode cL_law 220 = .ok (.iconst 1, 1) := by decide +kernel
theorem dL_law_221 : decode cL_law 221 = .ok (.iadd, 1) := by decide +kernel
theorem dL_law_222 : decode cL_law 222 = .ok (.iaload, 1) := by decide +kernel
theorem dL_law_223 : decode cL_law 223 = .ok (.aload_n 0, 1) := by decide +kernel
theorem dL_law_224 : decode cL_law 224 = .ok (.iload_n 3, 1) := by decide +kernel
theorem dL_law_225 : decode cL_law 225 = .ok (.iconst 2, 1) := by decide +kernel
theorem dL_law_226 : decode cL_law 226 = .ok (.iadd, 1) := by decide +kernel
theorem dL_law_227 : decode cL_law 227 = .ok (.iaload, 1) := by decide +kernel
theorem dL_law_228 : decode cL_law 228 = .ok (.invokevirtual 22, 3) := by decide +kernel
theorem dL_law_231 : decode cL_law 231 = .ok (.if_icmp .eq 944, 3) := by decide +kernel
theorem dL_law_234 : decode cL_law 234 = .ok (.iconst 0, 1) := by decide +kernel
theorem dL_law_235 : decode cL_law 235 = .ok (.ireturn, 1) := by decide +kernel
theorem dL_law_236 : decode cL_law 236 = .ok (.aload_n 1, 1) := by decide +kernel
theorem dL_law_237 : decode cL_law 237 = .ok (.aload_n 0, 1) := by decide +kernel
theorem dL_law_238 : decode cL_law 238 = .ok (.iload_n 3, 1) := by decide +kernel
theorem dL_law_239 : decode cL_law 239 = .ok (.iconst 1, 1) := by decide +kernel
theorem dL_law_240 : decode cL_law 240 = .ok (.iadd, 1) := by decide +kernel
theorem dL_law_241 : decode cL_law 241 = .ok (.iaload, 1) := by decide +kernel
theorem dL_law_242 : decode cL_law 242 = .ok (.aload_n 0, 1) := by decide +kernel
theorem dL_law_243 : decode cL_law 243 = .ok (.iload_n 3, 1) := by decide +kernel
theorem dL_law_244 : decode cL_law 244 = .ok (.iconst 2, 1) := by decide +kernel
theorem dL_law_245 : decode cL_law 245 = .ok (.iadd, 1) := by decide +kernel
theorem dL_law_246 : decode cL_law 246 = .ok (.iaload, 1) := by decide +kernel
theorem dL_law_247 : decode cL_law 247 = .ok (.aload_n 0, 1) := by decide +kernel
theorem dL_law_248 : decode cL_law 248 = .ok (.iload_n 3, 1) := by decide +kernel
theorem dL_law_249 : decode cL_law 249 = .ok (.iconst 3, 1) := by decide +kernel
theorem dL_law_250 : decode cL_law 250 = .ok (.iadd, 1) := by decide +kernel
theorem dL_law_251 : decode cL_law 251 = .ok (.iaload, 1) := by decide +kernel
theorem dL_law_252 : decode cL_law 252 = .ok (.invokevirtual 23, 3) := by decide +kernel
theorem dL_law_255 : decode cL_law 255 = .ok (.aload_n 2, 1) := by decide +kernel
theorem dL_law_256 : decode cL_law 256 = .ok (.aload_n 0, 1) := by decide +kernel
theorem dL_law_257 : decode cL_law 257 = .ok (.iload_n 3, 1) := by decide +kernel
theorem dL_law_258 : decode cL_law 258 = .ok (.iconst 1, 1) := by decide +kernel
theorem dL_law_259 : decode cL_law 259 = .ok (.iadd, 1) := by decide +kernel
theorem dL_law_260 : decode cL_law 260 = .ok (.iaload, 1) := by decide +kernel
theorem dL_law_261 : decode cL_law 261 = .ok (.aload_n 0, 1) := by decide +kernel
theorem dL_law_262 : decode cL_law 262 = .ok (.iload_n 3, 1) := by decide +kernel
theorem dL_law_263 : decode cL_law 263 = .ok (.iconst 2, 1) := by decide +kernel
theorem dL_law_264 : decode cL_law 264 = .ok (.iadd, 1) := by decide +kernel
theorem dL_law_265 : decode cL_law 265 = .ok (.iaload, 1) := by decide +kernel
theorem dL_law_266 : decode cL_law 266 = .ok (.aload_n 0, 1) := by decide +kernel
theorem dL_law_267 : decode cL_law 267 = .ok (.iload_n 3, 1) := by decide +kernel
theorem dL_law_268 : decode cL_law 268 = .ok (.iconst 3, 1) := by decide +kernel
theorem dL_law_269 : decode cL_law 269 = .ok (.iadd, 1) := by decide +kernel
theorem dL_law_270 : decode cL_law 270 = .ok (.iaload, 1) := by decide +kernel
theorem dL_law_271 : decode cL_law 271 = .ok (.invokevirtual 26, 3) := by decide +kernel
theorem dL_law_274 : decode cL_law 274 = .ok (.if_icmp .eq 901, 3) := by decide +kernel
theorem dL_law_277 : decode cL_law 277 = .ok (.iconst 0, 1) := by decide +kernel
theorem dL_law_278 : decode cL_law 278 = .ok (.ireturn, 1) := by decide +kernel
theorem dL_law_279 : decode cL_law 279 = .ok (.aload_n 1, 1) := by decide +kernel
theorem dL_law_280 : decode cL_law 280 = .ok (.aload_n 0, 1) := by decide +kernel
theorem dL_law_281 : decode cL_law 281 = .ok (.iload_n 3, 1) := by decide +kernel
theorem dL_law_282 : decode cL_law 282 = .ok (.iconst 1, 1) := by decide +kernel
theorem dL_law_283 : decode cL_law 283 = .ok (.iadd, 1) := by decide +kernel
theorem dL_law_284 : decode cL_law 284 = .ok (.iaload, 1) := by decide +kernel
theorem dL_law_285 : decode cL_law 285 = .ok (.aload_n 0, 1) := by decide +kernel
theorem dL_law_286 : decode cL_law 286 = .ok (.iload_n 3, 1) := by decide +kernel
theorem dL_law_287 : decode cL_law 287 = .ok (.iconst 2, 1) := by decide +kernel
theorem dL_law_288 : decode cL_law 288 = .ok (.iadd, 1) := by decide +kernel
theorem dL_law_289 : decode cL_law 289 = .ok (.iaload, 1) := by decide +kernel
theorem dL_law_290 : decode cL_law 290 = .ok (.invokevirtual 27, 3) := by decide +kernel
theorem dL_law_293 : decode cL_law 293 = .ok (.aload_n 2, 1) := by decide +kernel
theorem dL_law_294 : decode cL_law 294 = .ok (.aload_n 0, 1) := by decide +kernel
theorem dL_law_295 : decode cL_law 295 = .ok (.iload_n 3, 1) := by decide +kernel
theorem dL_law_296 : decode cL_law 296 = .ok (.iconst 1, 1) := by decide +kernel
theorem dL_law_297 : decode cL_law 297 = .ok (.iadd, 1) := by decide +kernel
theorem dL_law_298 : decode cL_law 298 = .ok (.iaload, 1) := by decide +kernel
theorem dL_law_299 : decode cL_law 299 = .ok (.aload_n 0, 1) := by decide +kernel
theorem dL_law_300 : decode cL_law 300 = .ok (.iload_n 3, 1) := by decide +kernel
theorem dL_law_301 : decode cL_law 301 = .ok (.iconst 2, 1) := by decide +kernel
theorem dL_law_302 : decode cL_law 302 = .ok (.iadd, 1) := by decide +kernel
theorem dL_law_303 : decode cL_law 303 = .ok (.iaload, 1) := by decide +kernel
theorem dL_law_304 : decode cL_law 304 = .ok (.invokevirtual 30, 3) := by decide +kernel
theorem dL_law_307 : decode cL_law 307 = .ok (.if_icmp .eq 868, 3) := by decide +kernel
theorem dL_law_310 : decode cL_law 310 = .ok (.iconst 0, 1) := by decide +kernel
theorem dL_law_311 : decode cL_law 311 = .ok (.ireturn, 1) := by decide +kernel
theorem dL_law_312 : decode cL_law 312 = .ok (.aload_n 1, 1) := by decide +kernel
theorem dL_law_313 : decode cL_law 313 = .ok (.aload_n 0, 1) := by decide +kernel
theorem dL_law_314 : decode cL_law 314 = .ok (.iload_n 3, 1) := by decide +kernel
theorem dL_law_315 : decode cL_law 315 = .ok (.iconst 1, 1) := by decide +kernel
theorem dL_law_316 : decode cL_law 316 = .ok (.iadd, 1) := by decide +kernel
theorem dL_law_317 : decode cL_law 317 = .ok (.iaload, 1) := by decide +kernel
theorem dL_law_318 : decode cL_law 318 = .ok (.invokevirtual 31, 3) := by decide +kernel
theorem dL_law_321 : decode cL_law 321 = .ok (.aload_n 2, 1) := by decide +kernel
theorem dL_law_322 : decode cL_law 322 = .ok (.aload_n 0, 1) := by decide +kernel
theorem dL_law_323 : decode cL_law 323 = .ok (.iload_n 3, 1) := by decide +kernel
theorem dL_law_324 : decode cL_law 324 = .ok (.iconst 1, 1) := by decide +kernel
theorem dL_law_325 : decode cL_law 325 = .ok (.iadd, 1) := by decide +kernel
theorem dL_law_326 : decode cL_law 326 = .ok (.iaload, 1) := by decide +kernel
theorem dL_law_327 : decode cL_law 327 = .ok (.invokevirtual 35, 3) := by decide +kernel
theorem dL_law_330 : decode cL_law 330 = .ok (.if_icmp .eq 845, 3) := by decide +kernel
theorem dL_law_333 : decode cL_law 333 = .ok (.iconst 0, 1) := by decide +kernel
theorem dL_law_334 : decode cL_law 334 = .ok (.ireturn, 1) := by decide +kernel
theorem dL_law_335 : decode cL_law 335 = .ok (.aload_n 1, 1) := by decide +kernel
theorem dL_law_336 : decode cL_law 336 = .ok (.invokevirtual 36, 3) := by decide +kernel
theorem dL_law_339 : decode cL_law 339 = .ok (.aload_n 2, 1) := by decide +kernel
theorem dL_law_340 : decode cL_law 340 = .ok (.invokevirtual 40, 3) := by decide +kernel
theorem dL_law_343 : decode cL_law 343 = .ok (.if_icmp .eq 832, 3) := by decide +kernel
theorem dL_law_346 : decode cL_law 346 = .ok (.iconst 0, 1) := by decide +kernel
theorem dL_law_347 : decode cL_law 347 = .ok (.ireturn, 1) := by decide +kernel
theorem dL_law_348 : decode cL_law 348 = .ok (.aload_n 1, 1) := by decide +kernel
theorem dL_law_349 : decode cL_law 349 = .ok (.aload_n 0, 1) := by decide +kernel
theorem dL_law_350 : decode cL_law 350 = .ok (.iload_n 3, 1) := by decide +kernel
theorem dL_law_351 : decode cL_law 351 = .ok (.iconst 1, 1) := by decide +kernel
theorem dL_law_352 : decode cL_law 352 = .ok (.iadd, 1) := by decide +kernel
theorem dL_law_353 : decode cL_law 353 = .ok (.iaload, 1) := by decide +kernel
theorem dL_law_354 : decode cL_law 354 = .ok (.invokevirtual 41, 3) := by decide +kernel
theorem dL_law_357 : decode cL_law 357 = .ok (.aload_n 2, 1) := by decide +kernel
theorem dL_law_358 : decode cL_law 358 = .ok (.aload_n 0, 1) := by decide +kernel
theorem dL_law_359 : decode cL_law 359 = .ok (.iload_n 3, 1) := by decide +kernel
theorem dL_law_360 : decode cL_law 360 = .ok (.iconst 1, 1) := by decide +kernel
theorem dL_law_361 : decode cL_law 361 = .ok (.iadd, 1) := by decide +kernel
theorem dL_law_362 : decode cL_law 362 = .ok (.iaload, 1) := by decide +kernel
theorem dL_law_363 : decode cL_law 363 = .ok (.invokevirtual 44, 3) := by decide +kernel
theorem dL_law_366 : decode cL_law 366 = .ok (.if_icmp .eq 809, 3) := by decide +kernel
theorem dL_law_369 : decode cL_law 369 = .ok (.iconst 0, 1) := by decide +kernel
theorem dL_law_370 : decode cL_law 370 = .ok (.ireturn, 1) := by decide +kernel
theorem dL_law_371 : decode cL_law 371 = .ok (.aload_n 1, 1) := by decide +kernel
theorem dL_law_372 : decode cL_law 372 = .ok (.aload_n 0, 1) := by decide +kernel
theorem dL_law_373 : decode cL_law 373 = .ok (.iload_n 3, 1) := by decide +kernel
theorem dL_law_374 : decode cL_law 374 = .ok (.iconst 1, 1) := by decide +kernel
theorem dL_law_375 : decode cL_law 375 = .ok (.iadd, 1) := by decide +kernel
theorem dL_law_376 : decode cL_law 376 = .ok (.iaload, 1) := by decide +kernel
theorem dL_law_377 : decode cL_law 377 = .ok (.aload_n 0, 1) := by decide +kernel
theorem dL_law_378 : decode cL_law 378 = .ok (.iload_n 3, 1) := by decide +kernel
theorem dL_law_379 : decode cL_law 379 = .ok (.iconst 2, 1) := by decide +kernel
theorem dL_law_380 : decode cL_law 380 = .ok (.iadd, 1) := by decide +kernel
theorem dL_law_381 : decode cL_law 381 = .ok (.iaload, 1) := by decide +kernel
theorem dL_law_382 : decode cL_law 382 = .ok (.aload_n 0, 1) := by decide +kernel
theorem dL_law_383 : decode cL_law 383 = .ok (.iload_n 3, 1) := by decide +kernel
theorem dL_law_384 : decode cL_law 384 = .ok (.iconst 3, 1) := by decide +kernel
theorem dL_law_385 : decode cL_law 385 = .ok (.iadd, 1) := by decide +kernel
theorem dL_law_386 : decode cL_law 386 = .ok (.iaload, 1) := by decide +kernel
theorem dL_law_387 : decode cL_law 387 = .ok (.invokevirtual 45, 3) := by decide +kernel
theorem dL_law_390 : decode cL_law 390 = .ok (.aload_n 2, 1) := by decide +kernel
theorem dL_law_391 : decode cL_law 391 = .ok (.aload_n 0, 1) := by decide +kernel
theorem dL_law_392 : decode cL_law 392 = .ok (.iload_n 3, 1) := by decide +kernel
theorem dL_law_393 : decode cL_law 393 = .ok (.iconst 1, 1) := by decide +kernel
theorem dL_law_394 : decode cL_law 394 = .ok (.iadd, 1) := by decide +kernel
theorem dL_law_395 : decode cL_law 395 = .ok (.iaload, 1) := by decide +kernel
theorem dL_law_396 : decode cL_law 396 = .ok (.aload_n 0, 1) := by decide +kernel
theorem dL_law_397 : decode cL_law 397 = .ok (.iload_n 3, 1) := by decide +kernel
theorem dL_law_398 : decode cL_law 398 = .ok (.iconst 2, 1) := by decide +kernel
theorem dL_law_399 : decode cL_law 399 = .ok (.iadd, 1) := by decide +kernel
theorem dL_law_400 : decode cL_law 400 = .ok (.iaload, 1) := by decide +kernel
theorem dL_law_401 : decode cL_law 401 = .ok (.aload_n 0, 1) := by decide +kernel
theorem dL_law_402 : decode cL_law 402 = .ok (.iload_n 3, 1) := by decide +kernel
theorem dL_law_403 : decode cL_law 403 = .ok (.iconst 3, 1) := by decide +kernel
theorem dL_law_404 : decode cL_law 404 = .ok (.iadd, 1) := by decide +kernel
theorem dL_law_405 : decode cL_law 405 = .ok (.iaload, 1) := by decide +kernel
theorem dL_law_406 : decode cL_law 406 = .ok (.invokevirtual 48, 3) := by decide +kernel
theorem dL_law_409 : decode cL_law 409 = .ok (.if_icmp .eq 766, 3) := by decide +kernel
theorem dL_law_412 : decode cL_law 412 = .ok (.iconst 0, 1) := by decide +kernel
theorem dL_law_413 : decode cL_law 413 = .ok (.ireturn, 1) := by decide +kernel
theorem dL_law_414 : decode cL_law 414 = .ok (.aload_n 1, 1) := by decide +kernel
theorem dL_law_415 : decode cL_law 415 = .ok (.aload_n 0, 1) := by decide +kernel
theorem dL_law_416 : decode cL_law 416 = .ok (.iload_n 3, 1) := by decide +kernel
theorem dL_law_417 : decode cL_law 417 = .ok (.iconst 1, 1) := by decide +kernel
theorem dL_law_418 : decode cL_law 418 = .ok (.iadd, 1) := by decide +kernel
theorem dL_law_419 : decode cL_law 419 = .ok (.iaload, 1) := by decide +kernel
theorem dL_law_420 : decode cL_law 420 = .ok (.aload_n 0, 1) := by decide +kernel
theorem dL_law_421 : decode cL_law 421 = .ok (.iload_n 3, 1) := by decide +kernel
theorem dL_law_422 : decode cL_law 422 = .ok (.iconst 2, 1) := by decide +kernel
theorem dL_law_423 : decode cL_law 423 = .ok (.iadd, 1) := by decide +kernel
theorem dL_law_424 : decode cL_law 424 = .ok (.iaload, 1) := by decide +kernel
theorem dL_law_425 : decode cL_law 425 = .ok (.invokevirtual 49, 3) := by decide +kernel
theorem dL_law_428 : decode cL_law 428 = .ok (.aload_n 2, 1) := by decide +kernel
theorem dL_law_429 : decode cL_law 429 = .ok (.aload_n 0, 1) := by decide +kernel
theorem dL_law_430 : decode cL_law 430 = .ok (.iload_n 3, 1) := by decide +kernel
theorem dL_law_431 : decode cL_law 431 = .ok (.iconst 1, 1) := by decide +kernel
theorem dL_law_432 : decode cL_law 432 = .ok (.iadd, 1) := by decide +kernel
theorem dL_law_433 : decode cL_law 433 = .ok (.iaload, 1) := by decide +kernel
theorem dL_law_434 : decode cL_law 434 = .ok (.aload_n 0, 1) := by decide +kernel
theorem dL_law_435 : decode cL_law 435 = .ok (.iload_n 3, 1) := by decide +kernel
theorem dL_law_436 : decode cL_law 436 = .ok (.iconst 2, 1) := by decide +kernel
theorem dL_law_437 : decode cL_law 437 = .ok (.iadd, 1) := by decide +kernel
theorem dL_law_438 : decode cL_law 438 = .ok (.iaload, 1) := by decide +kernel
theorem dL_law_439 : decode cL_law 439 = .ok (.invokevirtual 52, 3) := by decide +kernel
theorem dL_law_442 : decode cL_law 442 = .ok (.if_icmp .eq 733, 3) := by decide +kernel
theorem dL_law_445 : decode cL_law 445 = .ok (.iconst 0, 1) := by decide +kernel
theorem dL_law_446 : decode cL_law 446 = .ok (.ireturn, 1) := by decide +kernel
theorem dL_law_447 : decode cL_law 447 = .ok (.aload_n 1, 1) := by decide +kernel
theorem dL_law_448 : decode cL_law 448 = .ok (.aload_n 0, 1) := by decide +kernel
theorem dL_law_449 : decode cL_law 449 = .ok (.iload_n 3, 1) := by decide +kernel
theorem dL_law_450 : decode cL_law 450 = .ok (.iconst 1, 1) := by decide +kernel
theorem dL_law_451 : decode cL_law 451 = .ok (.iadd, 1) := by decide +kernel
theorem dL_law_452 : decode cL_law 452 = .ok (.iaload, 1) := by decide +kernel
theorem dL_law_453 : decode cL_law 453 = .ok (.aload_n 0, 1) := by decide +kernel
theorem dL_law_454 : decode cL_law 454 = .ok (.iload_n 3, 1) := by decide +kernel
theorem dL_law_455 : decode cL_law 455 = .ok (.iconst 2, 1) := by decide +kernel
theorem dL_law_456 : decode cL_law 456 = .ok (.iadd, 1) := by decide +kernel
theorem dL_law_457 : decode cL_law 457 = .ok (.iaload, 1) := by decide +kernel
theorem dL_law_458 : decode cL_law 458 = .ok (.aload_n 0, 1) := by decide +kernel
theorem dL_law_459 : decode cL_law 459 = .ok (.iload_n 3, 1) := by decide +kernel
theorem dL_law_460 : decode cL_law 460 = .ok (.iconst 3, 1) := by decide +kernel
theorem dL_law_461 : decode cL_law 461 = .ok (.iadd, 1) := by decide +kernel
theorem dL_law_462 : decode cL_law 462 = .ok (.iaload, 1) := by decide +kernel
theorem dL_law_463 : decode cL_law 463 = .ok (.aload_n 0, 1) := by decide +kernel
theorem dL_law_464 : decode cL_law 464 = .ok (.iload_n 3, 1) := by decide +kernel
theorem dL_law_465 : decode cL_law 465 = .ok (.iconst 4, 1) := by decide +kernel
theorem dL_law_466 : decode cL_law 466 = .ok (.iadd, 1) := by decide +kernel
theorem dL_law_467 : decode cL_law 467 = .ok (.iaload, 1) := by decide +kernel
theorem dL_law_468 : decode cL_law 468 = .ok (.invokevirtual 53, 3) := by decide +kernel
theorem dL_law_471 : decode cL_law 471 = .ok (.aload_n 2, 1) := by decide +kernel
theorem dL_law_472 : decode cL_law 472 = .ok (.aload_n 0, 1) := by decide +kernel
theorem dL_law_473 : decode cL_law 473 = .ok (.iload_n 3, 1) := by decide +kernel
theorem dL_law_474 : decode cL_law 474 = .ok (.iconst 1, 1) := by decide +kernel
theorem dL_law_475 : decode cL_law 475 = .ok (.iadd, 1) := by decide +kernel
theorem dL_law_476 : decode cL_law 476 = .ok (.iaload, 1) := by decide +kernel
theorem dL_law_477 : decode cL_law 477 = .ok (.aload_n 0, 1) := by decide +kernel
theorem dL_law_478 : decode cL_law 478 = .ok (.iload_n 3, 1) := by decide +kernel
theorem dL_law_479 : decode cL_law 479 = .ok (.iconst 2, 1) := by decide +kernel
theorem dL_law_480 : decode cL_law 480 = .ok (.iadd, 1) := by decide +kernel
theorem dL_law_481 : decode cL_law 481 = .ok (.iaload, 1) := by decide +kernel
theorem dL_law_482 : decode cL_law 482 = .ok (.aload_n 0, 1) := by decide +kernel
theorem dL_law_483 : decode cL_law 483 = .ok (.iload_n 3, 1) := by decide +kernel
theorem dL_law_484 : decode cL_law 484 = .ok (.iconst 3, 1) := by decide +kernel
theorem dL_law_485 : decode cL_law 485 = .ok (.iadd, 1) := by decide +kernel
theorem dL_law_486 : decode cL_law 486 = .ok (.iaload, 1) := by decide +kernel
theorem dL_law_487 : decode cL_law 487 = .ok (.aload_n 0, 1) := by decide +kernel
theorem dL_law_488 : decode cL_law 488 = .ok (.iload_n 3, 1) := by decide +kernel
theorem dL_law_489 : decode cL_law 489 = .ok (.iconst 4, 1) := by decide +kernel
theorem dL_law_490 : decode cL_law 490 = .ok (.iadd, 1) := by decide +kernel
theorem dL_law_491 : decode cL_law 491 = .ok (.iaload, 1) := by decide +kernel
theorem dL_law_492 : decode cL_law 492 = .ok (.invokevirtual 57, 3) := by decide +kernel
theorem dL_law_495 : decode cL_law 495 = .ok (.if_icmp .eq 680, 3) := by decide +kernel
theorem dL_law_498 : decode cL_law 498 = .ok (.iconst 0, 1) := by decide +kernel
theorem dL_law_499 : decode cL_law 499 = .ok (.ireturn, 1) := by decide +kernel
theorem dL_law_500 : decode cL_law 500 = .ok (.aload_n 1, 1) := by decide +kernel
theorem dL_law_501 : decode cL_law 501 = .ok (.aload_n 0, 1) := by decide +kernel
theorem dL_law_502 : decode cL_law 502 = .ok (.iload_n 3, 1) := by decide +kernel
theorem dL_law_503 : decode cL_law 503 = .ok (.iconst 1, 1) := by decide +kernel
theorem dL_law_504 : decode cL_law 504 = .ok (.iadd, 1) := by decide +kernel
theorem dL_law_505 : decode cL_law 505 = .ok (.iaload, 1) := by decide +kernel
theorem dL_law_506 : decode cL_law 506 = .ok (.aload_n 0, 1) := by decide +kernel
theorem dL_law_507 : decode cL_law 507 = .ok (.iload_n 3, 1) := by decide +kernel
theorem dL_law_508 : decode cL_law 508 = .ok (.iconst 2, 1) := by decide +kernel
theorem dL_law_509 : decode cL_law 509 = .ok (.iadd, 1) := by decide +kernel
theorem dL_law_510 : decode cL_law 510 = .ok (.iaload, 1) := by decide +kernel
theorem dL_law_511 : decode cL_law 511 = .ok (.aload_n 0, 1) := by decide +kernel
theorem dL_law_512 : decode cL_law 512 = .ok (.iload_n 3, 1) := by decide +kernel
theorem dL_law_513 : decode cL_law 513 = .ok (.iconst 3, 1) := by decide +kernel
theorem dL_law_514 : decode cL_law 514 = .ok (.iadd, 1) := by decide +kernel
theorem dL_law_515 : decode cL_law 515 = .ok (.iaload, 1) := by decide +kernel
theorem dL_law_516 : decode cL_law 516 = .ok (.invokevirtual 58, 3) := by decide +kernel
theorem dL_law_519 : decode cL_law 519 = .ok (.aload_n 2, 1) := by decide +kernel
theorem dL_law_520 : decode cL_law 520 = .ok (.aload_n 0, 1) := by decide +kernel
theorem dL_law_521 : decode cL_law 521 = .ok (.iload_n 3, 1) := by decide +kernel
theorem dL_law_522 : decode cL_law 522 = .ok (.iconst 1, 1) := by decide +kernel
theorem dL_law_523 : decode cL_law 523 = .ok (.iadd, 1) := by decide +kernel
theorem dL_law_524 : decode cL_law 524 = .ok (.iaload, 1) := by decide +kernel
theorem dL_law_525 : decode cL_law 525 = .ok (.aload_n 0, 1) := by decide +kernel
theorem dL_law_526 : decode cL_law 526 = .ok (.iload_n 3, 1) := by decide +kernel
theorem dL_law_527 : decode cL_law 527 = .ok (.iconst 2, 1) := by decide +kernel
theorem dL_law_528 : decode cL_law 528 = .ok (.iadd, 1) := by decide +kernel
theorem dL_law_529 : decode cL_law 529 = .ok (.iaload, 1) := by decide +kernel
theorem dL_law_530 : decode cL_law 530 = .ok (.aload_n 0, 1) := by decide +kernel
theorem dL_law_531 : decode cL_law 531 = .ok (.iload_n 3, 1) := by decide +kernel
theorem dL_law_532 : decode cL_law 532 = .ok (.iconst 3, 1) := by decide +kernel
theorem dL_law_533 : decode cL_law 533 = .ok (.iadd, 1) := by decide +kernel
theorem dL_law_534 : decode cL_law 534 = .ok (.iaload, 1) := by decide +kernel
theorem dL_law_535 : decode cL_law 535 = .ok (.invokevirtual 61, 3) := by decide +kernel
theorem dL_law_538 : decode cL_law 538 = .ok (.if_icmp .eq 637, 3) := by decide +kernel
theorem dL_law_541 : decode cL_law 541 = .ok (.iconst 0, 1) := by decide +kernel
theorem dL_law_542 : decode cL_law 542 = .ok (.ireturn, 1) := by decide +kernel
theorem dL_law_543 : decode cL_law 543 = .ok (.aload_n 1, 1) := by decide +kernel
theorem dL_law_544 : decode cL_law 544 = .ok (.aload_n 0, 1) := by decide +kernel
theorem dL_law_545 : decode cL_law 545 = .ok (.iload_n 3, 1) := by decide +kernel
theorem dL_law_546 : decode cL_law 546 = .ok (.iconst 1, 1) := by decide +kernel
theorem dL_law_547 : decode cL_law 547 = .ok (.iadd, 1) := by decide +kernel
theorem dL_law_548 : decode cL_law 548 = .ok (.iaload, 1) := by decide +kernel
theorem dL_law_549 : decode cL_law 549 = .ok (.invokevirtual 62, 3) := by decide +kernel
theorem dL_law_552 : decode cL_law 552 = .ok (.aload_n 2, 1) := by decide +kernel
theorem dL_law_553 : decode cL_law 553 = .ok (.aload_n 0, 1) := by decide +kernel
theorem dL_law_554 : decode cL_law 554 = .ok (.iload_n 3, 1) := by decide +kernel
theorem dL_law_555 : decode cL_law 555 = .ok (.iconst 1, 1) := by decide +kernel
theorem dL_law_556 : decode cL_law 556 = .ok (.iadd, 1) := by decide +kernel
theorem dL_law_557 : decode cL_law 557 = .ok (.iaload, 1) := by decide +kernel
theorem dL_law_558 : decode cL_law 558 = .ok (.invokevirtual 65, 3) := by decide +kernel
theorem dL_law_561 : decode cL_law 561 = .ok (.if_icmp .eq 614, 3) := by decide +kernel
theorem dL_law_564 : decode cL_law 564 = .ok (.iconst 0, 1) := by decide +kernel
theorem dL_law_565 : decode cL_law 565 = .ok (.ireturn, 1) := by decide +kernel
theorem dL_law_566 : decode cL_law 566 = .ok (.aload_n 1, 1) := by decide +kernel
theorem dL_law_567 : decode cL_law 567 = .ok (.aload_n 0, 1) := by decide +kernel
theorem dL_law_568 : decode cL_law 568 = .ok (.iload_n 3, 1) := by decide +kernel
theorem dL_law_569 : decode cL_law 569 = .ok (.iconst 1, 1) := by decide +kernel
theorem dL_law_570 : decode cL_law 570 = .ok (.iadd, 1) := by decide +kernel
theorem dL_law_571 : decode cL_law 571 = .ok (.iaload, 1) := by decide +kernel
theorem dL_law_572 : decode cL_law 572 = .ok (.aload_n 0, 1) := by decide +kernel
theorem dL_law_573 : decode cL_law 573 = .ok (.iload_n 3, 1) := by decide +kernel
theorem dL_law_574 : decode cL_law 574 = .ok (.iconst 2, 1) := by decide +kernel
theorem dL_law_575 : decode cL_law 575 = .ok (.iadd, 1) := by decide +kernel
theorem dL_law_576 : decode cL_law 576 = .ok (.iaload, 1) := by decide +kernel
theorem dL_law_577 : decode cL_law 577 = .ok (.invokevirtual 66, 3) := by decide +kernel
theorem dL_law_580 : decode cL_law 580 = .ok (.aload_n 2, 1) := by decide +kernel
theorem dL_law_581 : decode cL_law 581 = .ok (.aload_n 0, 1) := by decide +kernel
theorem dL_law_582 : decode cL_law 582 = .ok (.iload_n 3, 1) := by decide +kernel
theorem dL_law_583 : decode cL_law 583 = .ok (.iconst 1, 1) := by decide +kernel
theorem dL_law_584 : decode cL_law 584 = .ok (.iadd, 1) := by decide +kernel
theorem dL_law_585 : decode cL_law 585 = .ok (.iaload, 1) := by decide +kernel
theorem dL_law_586 : decode cL_law 586 = .ok (.aload_n 0, 1) := by decide +kernel
theorem dL_law_587 : decode cL_law 587 = .ok (.iload_n 3, 1) := by decide +kernel
theorem dL_law_588 : decode cL_law 588 = .ok (.iconst 2, 1) := by decide +kernel
theorem dL_law_589 : decode cL_law 589 = .ok (.iadd, 1) := by decide +kernel
theorem dL_law_590 : decode cL_law 590 = .ok (.iaload, 1) := by decide +kernel
theorem dL_law_591 : decode cL_law 591 = .ok (.invokevirtual 69, 3) := by decide +kernel
theorem dL_law_594 : decode cL_law 594 = .ok (.if_icmp .eq 581, 3) := by decide +kernel
theorem dL_law_597 : decode cL_law 597 = .ok (.iconst 0, 1) := by decide +kernel
theorem dL_law_598 : decode cL_law 598 = .ok (.ireturn, 1) := by decide +kernel
theorem dL_law_599 : decode cL_law 599 = .ok (.aload_n 1, 1) := by decide +kernel
theorem dL_law_600 : decode cL_law 600 = .ok (.aload_n 0, 1) := by decide +kernel
theorem dL_law_601 : decode cL_law 601 = .ok (.iload_n 3, 1) := by decide +kernel
theorem dL_law_602 : decode cL_law 602 = .ok (.iconst 1, 1) := by decide +kernel
theorem dL_law_603 : decode cL_law 603 = .ok (.iadd, 1) := by decide +kernel
theorem dL_law_604 : decode cL_law 604 = .ok (.iaload, 1) := by decide +kernel
theorem dL_law_605 : decode cL_law 605 = .ok (.aload_n 0, 1) := by decide +kernel
theorem dL_law_606 : decode cL_law 606 = .ok (.iload_n 3, 1) := by decide +kernel
theorem dL_law_607 : decode cL_law 607 = .ok (.iconst 2, 1) := by decide +kernel
theorem dL_law_608 : decode cL_law 608 = .ok (.iadd, 1) := by decide +kernel
theorem dL_law_609 : decode cL_law 609 = .ok (.iaload, 1) := by decide +kernel
theorem dL_law_610 : decode cL_law 610 = .ok (.invokevirtual 70, 3) := by decide +kernel
theorem dL_law_613 : decode cL_law 613 = .ok (.aload_n 2, 1) := by decide +kernel
theorem dL_law_614 : decode cL_law 614 = .ok (.aload_n 0, 1) := by decide +kernel
theorem dL_law_615 : decode cL_law 615 = .ok (.iload_n 3, 1) := by decide +kernel
theorem dL_law_616 : decode cL_law 616 = .ok (.iconst 1, 1) := by decide +kernel
theorem dL_law_617 : decode cL_law 617 = .ok (.iadd, 1) := by decide +kernel
theorem dL_law_618 : decode cL_law 618 = .ok (.iaload, 1) := by decide +kernel
theorem dL_law_619 : decode cL_law 619 = .ok (.aload_n 0, 1) := by decide +kernel
theorem dL_law_620 : decode cL_law 620 = .ok (.iload_n 3, 1) := by decide +kernel
theorem dL_law_621 : decode cL_law 621 = .ok (.iconst 2, 1) := by decide +kernel
theorem dL_law_622 : decode cL_law 622 = .ok (.iadd, 1) := by decide +kernel
theorem dL_law_623 : decode cL_law 623 = .ok (.iaload, 1) := by decide +kernel
theorem dL_law_624 : decode cL_law 624 = .ok (.invokevirtual 73, 3) := by decide +kernel
theorem dL_law_627 : decode cL_law 627 = .ok (.if_icmp .eq 548, 3) := by decide +kernel
theorem dL_law_630 : decode cL_law 630 = .ok (.iconst 0, 1) := by decide +kernel
theorem dL_law_631 : decode cL_law 631 = .ok (.ireturn, 1) := by decide +kernel
theorem dL_law_632 : decode cL_law 632 = .ok (.aload_n 1, 1) := by decide +kernel
theorem dL_law_633 : decode cL_law 633 = .ok (.aload_n 0, 1) := by decide +kernel
theorem dL_law_634 : decode cL_law 634 = .ok (.iload_n 3, 1) := by decide +kernel
theorem dL_law_635 : decode cL_law 635 = .ok (.iconst 1, 1) := by decide +kernel
theorem dL_law_636 : decode cL_law 636 = .ok (.iadd, 1) := by decide +kernel
theorem dL_law_637 : decode cL_law 637 = .ok (.iaload, 1) := by decide +kernel
theorem dL_law_638 : decode cL_law 638 = .ok (.aload_n 0, 1) := by decide +kernel
theorem dL_law_639 : decode cL_law 639 = .ok (.iload_n 3, 1) := by decide +kernel
theorem dL_law_640 : decode cL_law 640 = .ok (.iconst 2, 1) := by decide +kernel
theorem dL_law_641 : decode cL_law 641 = .ok (.iadd, 1) := by decide +kernel
theorem dL_law_642 : decode cL_law 642 = .ok (.iaload, 1) := by decide +kernel
theorem dL_law_643 : decode cL_law 643 = .ok (.aload_n 0, 1) := by decide +kernel
theorem dL_law_644 : decode cL_law 644 = .ok (.iload_n 3, 1) := by decide +kernel
theorem dL_law_645 : decode cL_law 645 = .ok (.iconst 3, 1) := by decide +kernel
theorem dL_law_646 : decode cL_law 646 = .ok (.iadd, 1) := by decide +kernel
theorem dL_law_647 : decode cL_law 647 = .ok (.iaload, 1) := by decide +kernel
theorem dL_law_648 : decode cL_law 648 = .ok (.invokevirtual 74, 3) := by decide +kernel
theorem dL_law_651 : decode cL_law 651 = .ok (.aload_n 2, 1) := by decide +kernel
theorem dL_law_652 : decode cL_law 652 = .ok (.aload_n 0, 1) := by decide +kernel
theorem dL_law_653 : decode cL_law 653 = .ok (.iload_n 3, 1) := by decide +kernel
theorem dL_law_654 : decode cL_law 654 = .ok (.iconst 1, 1) := by decide +kernel
theorem dL_law_655 : decode cL_law 655 = .ok (.iadd, 1) := by decide +kernel
theorem dL_law_656 : decode cL_law 656 = .ok (.iaload, 1) := by decide +kernel
theorem dL_law_657 : decode cL_law 657 = .ok (.aload_n 0, 1) := by decide +kernel
theorem dL_law_658 : decode cL_law 658 = .ok (.iload_n 3, 1) := by decide +kernel
theorem dL_law_659 : decode cL_law 659 = .ok (.iconst 2, 1) := by decide +kernel
theorem dL_law_660 : decode cL_law 660 = .ok (.iadd, 1) := by decide +kernel
theorem dL_law_661 : decode cL_law 661 = .ok (.iaload, 1) := by decide +kernel
theorem dL_law_662 : decode cL_law 662 = .ok (.aload_n 0, 1) := by decide +kernel
theorem dL_law_663 : decode cL_law 663 = .ok (.iload_n 3, 1) := by decide +kernel
theorem dL_law_664 : decode cL_law 664 = .ok (.iconst 3, 1) := by decide +kernel
theorem dL_law_665 : decode cL_law 665 = .ok (.iadd, 1) := by decide +kernel
theorem dL_law_666 : decode cL_law 666 = .ok (.iaload, 1) := by decide +kernel
theorem dL_law_667 : decode cL_law 667 = .ok (.invokevirtual 77, 3) := by decide +kernel
theorem dL_law_670 : decode cL_law 670 = .ok (.if_icmp .eq 505, 3) := by decide +kernel
theorem dL_law_673 : decode cL_law 673 = .ok (.iconst 0, 1) := by decide +kernel
theorem dL_law_674 : decode cL_law 674 = .ok (.ireturn, 1) := by decide +kernel
theorem dL_law_675 : decode cL_law 675 = .ok (.aload_n 1, 1) := by decide +kernel
theorem dL_law_676 : decode cL_law 676 = .ok (.aload_n 0, 1) := by decide +kernel
theorem dL_law_677 : decode cL_law 677 = .ok (.iload_n 3, 1) := by decide +kernel
theorem dL_law_678 : decode cL_law 678 = .ok (.iconst 1, 1) := by decide +kernel
theorem dL_law_679 : decode cL_law 679 = .ok (.iadd, 1) := by decide +kernel
theorem dL_law_680 : decode cL_law 680 = .ok (.iaload, 1) := by decide +kernel
theorem dL_law_681 : decode cL_law 681 = .ok (.aload_n 0, 1) := by decide +kernel
theorem dL_law_682 : decode cL_law 682 = .ok (.iload_n 3, 1) := by decide +kernel
theorem dL_law_683 : decode cL_law 683 = .ok (.iconst 2, 1) := by decide +kernel
theorem dL_law_684 : decode cL_law 684 = .ok (.iadd, 1) := by decide +kernel
theorem dL_law_685 : decode cL_law 685 = .ok (.iaload, 1) := by decide +kernel
theorem dL_law_686 : decode cL_law 686 = .ok (.aload_n 0, 1) := by decide +kernel
theorem dL_law_687 : decode cL_law 687 = .ok (.iload_n 3, 1) := by decide +kernel
theorem dL_law_688 : decode cL_law 688 = .ok (.iconst 3, 1) := by decide +kernel
theorem dL_law_689 : decode cL_law 689 = .ok (.iadd, 1) := by decide +kernel
theorem dL_law_690 : decode cL_law 690 = .ok (.iaload, 1) := by decide +kernel
theorem dL_law_691 : decode cL_law 691 = .ok (.invokevirtual 78, 3) := by decide +kernel
theorem dL_law_694 : decode cL_law 694 = .ok (.aload_n 2, 1) := by decide +kernel
theorem dL_law_695 : decode cL_law 695 = .ok (.aload_n 0, 1) := by decide +kernel
theorem dL_law_696 : decode cL_law 696 = .ok (.iload_n 3, 1) := by decide +kernel
theorem dL_law_697 : decode cL_law 697 = .ok (.iconst 1, 1) := by decide +kernel
theorem dL_law_698 : decode cL_law 698 = .ok (.iadd, 1) := by decide +kernel
theorem dL_law_699 : decode cL_law 699 = .ok (.iaload, 1) := by decide +kernel
theorem dL_law_700 : decode cL_law 700 = .ok (.aload_n 0, 1) := by decide +kernel
theorem dL_law_701 : decode cL_law 701 = .ok (.iload_n 3, 1) := by decide +kernel
theorem dL_law_702 : decode cL_law 702 = .ok (.iconst 2, 1) := by decide +kernel
theorem dL_law_703 : decode cL_law 703 = .ok (.iadd, 1) := by decide +kernel
theorem dL_law_704 : decode cL_law 704 = .ok (.iaload, 1) := by decide +kernel
theorem dL_law_705 : decode cL_law 705 = .ok (.aload_n 0, 1) := by decide +kernel
theorem dL_law_706 : decode cL_law 706 = .ok (.iload_n 3, 1) := by decide +kernel
theorem dL_law_707 : decode cL_law 707 = .ok (.iconst 3, 1) := by decide +kernel
theorem dL_law_708 : decode cL_law 708 = .ok (.iadd, 1) := by decide +kernel
theorem dL_law_709 : decode cL_law 709 = .ok (.iaload, 1) := by decide +kernel
theorem dL_law_710 : decode cL_law 710 = .ok (.invokevirtual 81, 3) := by decide +kernel
theorem dL_law_713 : decode cL_law 713 = .ok (.if_icmp .eq 462, 3) := by decide +kernel
theorem dL_law_716 : decode cL_law 716 = .ok (.iconst 0, 1) := by decide +kernel
theorem dL_law_717 : decode cL_law 717 = .ok (.ireturn, 1) := by decide +kernel
theorem dL_law_718 : decode cL_law 718 = .ok (.aload_n 1, 1) := by decide +kernel
theorem dL_law_719 : decode cL_law 719 = .ok (.aload_n 0, 1) := by decide +kernel
theorem dL_law_720 : decode cL_law 720 = .ok (.iload_n 3, 1) := by decide +kernel
theorem dL_law_721 : decode cL_law 721 = .ok (.iconst 1, 1) := by decide +kernel
theorem dL_law_722 : decode cL_law 722 = .ok (.iadd, 1) := by decide +kernel
theorem dL_law_723 : decode cL_law 723 = .ok (.iaload, 1) := by decide +kernel
theorem dL_law_724 : decode cL_law 724 = .ok (.aload_n 0, 1) := by decide +kernel
theorem dL_law_725 : decode cL_law 725 = .ok (.iload_n 3, 1) := by decide +kernel
theorem dL_law_726 : decode cL_law 726 = .ok (.iconst 2, 1) := by decide +kernel
theorem dL_law_727 : decode cL_law 727 = .ok (.iadd, 1) := by decide +kernel
theorem dL_law_728 : decode cL_law 728 = .ok (.iaload, 1) := by decide +kernel
theorem dL_law_729 : decode cL_law 729 = .ok (.aload_n 0, 1) := by decide +kernel
theorem dL_law_730 : decode cL_law 730 = .ok (.iload_n 3, 1) := by decide +kernel
theorem dL_law_731 : decode cL_law 731 = .ok (.iconst 3, 1) := by decide +kernel
theorem dL_law_732 : decode cL_law 732 = .ok (.iadd, 1) := by decide +kernel
theorem dL_law_733 : decode cL_law 733 = .ok (.iaload, 1) := by decide +kernel
theorem dL_law_734 : decode cL_law 734 = .ok (.aload_n 0, 1) := by decide +kernel
theorem dL_law_735 : decode cL_law 735 = .ok (.iload_n 3, 1) := by decide +kernel
theorem dL_law_736 : decode cL_law 736 = .ok (.iconst 4, 1) := by decide +kernel
theorem dL_law_737 : decode cL_law 737 = .ok (.iadd, 1) := by decide +kernel
theorem dL_law_738 : decode cL_law 738 = .ok (.iaload, 1) := by decide +kernel
theorem dL_law_739 : decode cL_law 739 = .ok (.invokevirtual 82, 3) := by decide +kernel
theorem dL_law_742 : decode cL_law 742 = .ok (.aload_n 2, 1) := by decide +kernel
theorem dL_law_743 : decode cL_law 743 = .ok (.aload_n 0, 1) := by decide +kernel
theorem dL_law_744 : decode cL_law 744 = .ok (.iload_n 3, 1) := by decide +kernel
theorem dL_law_745 : decode cL_law 745 = .ok (.iconst 1, 1) := by decide +kernel
theorem dL_law_746 : decode cL_law 746 = .ok (.iadd, 1) := by decide +kernel
theorem dL_law_747 : decode cL_law 747 = .ok (.iaload, 1) := by decide +kernel
theorem dL_law_748 : decode cL_law 748 = .ok (.aload_n 0, 1) := by decide +kernel
theorem dL_law_749 : decode cL_law 749 = .ok (.iload_n 3, 1) := by decide +kernel
theorem dL_law_750 : decode cL_law 750 = .ok (.iconst 2, 1) := by decide +kernel
theorem dL_law_751 : decode cL_law 751 = .ok (.iadd, 1) := by decide +kernel
theorem dL_law_752 : decode cL_law 752 = .ok (.iaload, 1) := by decide +kernel
theorem dL_law_753 : decode cL_law 753 = .ok (.aload_n 0, 1) := by decide +kernel
theorem dL_law_754 : decode cL_law 754 = .ok (.iload_n 3, 1) := by decide +kernel
theorem dL_law_755 : decode cL_law 755 = .ok (.iconst 3, 1) := by decide +kernel
theorem dL_law_756 : decode cL_law 756 = .ok (.iadd, 1) := by decide +kernel
theorem dL_law_757 : decode cL_law 757 = .ok (.iaload, 1) := by decide +kernel
theorem dL_law_758 : decode cL_law 758 = .ok (.aload_n 0, 1) := by decide +kernel
theorem dL_law_759 : decode cL_law 759 = .ok (.iload_n 3, 1) := by decide +kernel
theorem dL_law_760 : decode cL_law 760 = .ok (.iconst 4, 1) := by decide +kernel
theorem dL_law_761 : decode cL_law 761 = .ok (.iadd, 1) := by decide +kernel
theorem dL_law_762 : decode cL_law 762 = .ok (.iaload, 1) := by decide +kernel
theorem dL_law_763 : decode cL_law 763 = .ok (.invokevirtual 85, 3) := by decide +kernel
theorem dL_law_766 : decode cL_law 766 = .ok (.if_icmp .eq 409, 3) := by decide +kernel
theorem dL_law_769 : decode cL_law 769 = .ok (.iconst 0, 1) := by decide +kernel
theorem dL_law_770 : decode cL_law 770 = .ok (.ireturn, 1) := by decide +kernel
theorem dL_law_771 : decode cL_law 771 = .ok (.aload_n 1, 1) := by decide +kernel
theorem dL_law_772 : decode cL_law 772 = .ok (.aload_n 0, 1) := by decide +kernel
theorem dL_law_773 : decode cL_law 773 = .ok (.iload_n 3, 1) := by decide +kernel
theorem dL_law_774 : decode cL_law 774 = .ok (.iconst 1, 1) := by decide +kernel
theorem dL_law_775 : decode cL_law 775 = .ok (.iadd, 1) := by decide +kernel
theorem dL_law_776 : decode cL_law 776 = .ok (.iaload, 1) := by decide +kernel
theorem dL_law_777 : decode cL_law 777 = .ok (.aload_n 0, 1) := by decide +kernel
theorem dL_law_778 : decode cL_law 778 = .ok (.iload_n 3, 1) := by decide +kernel
theorem dL_law_779 : decode cL_law 779 = .ok (.iconst 2, 1) := by decide +kernel
theorem dL_law_780 : decode cL_law 780 = .ok (.iadd, 1) := by decide +kernel
theorem dL_law_781 : decode cL_law 781 = .ok (.iaload, 1) := by decide +kernel
theorem dL_law_782 : decode cL_law 782 = .ok (.aload_n 0, 1) := by decide +kernel
theorem dL_law_783 : decode cL_law 783 = .ok (.iload_n 3, 1) := by decide +kernel
theorem dL_law_784 : decode cL_law 784 = .ok (.iconst 3, 1) := by decide +kernel
theorem dL_law_785 : decode cL_law 785 = .ok (.iadd, 1) := by decide +kernel
theorem dL_law_786 : decode cL_law 786 = .ok (.iaload, 1) := by decide +kernel
theorem dL_law_787 : decode cL_law 787 = .ok (.aload_n 0, 1) := by decide +kernel
theorem dL_law_788 : decode cL_law 788 = .ok (.iload_n 3, 1) := by decide +kernel
theorem dL_law_789 : decode cL_law 789 = .ok (.iconst 4, 1) := by decide +kernel
theorem dL_law_790 : decode cL_law 790 = .ok (.iadd, 1) := by decide +kernel
theorem dL_law_791 : decode cL_law 791 = .ok (.iaload, 1) := by decide +kernel
theorem dL_law_792 : decode cL_law 792 = .ok (.invokevirtual 86, 3) := by decide +kernel
theorem dL_law_795 : decode cL_law 795 = .ok (.aload_n 2, 1) := by decide +kernel
theorem dL_law_796 : decode cL_law 796 = .ok (.aload_n 0, 1) := by decide +kernel
theorem dL_law_797 : decode cL_law 797 = .ok (.iload_n 3, 1) := by decide +kernel
theorem dL_law_798 : decode cL_law 798 = .ok (.iconst 1, 1) := by decide +kernel
theorem dL_law_799 : decode cL_law 799 = .ok (.iadd, 1) := by decide +kernel
theorem dL_law_800 : decode cL_law 800 = .ok (.iaload, 1) := by decide +kernel
theorem dL_law_801 : decode cL_law 801 = .ok (.aload_n 0, 1) := by decide +kernel
theorem dL_law_802 : decode cL_law 802 = .ok (.iload_n 3, 1) := by decide +kernel
theorem dL_law_803 : decode cL_law 803 = .ok (.iconst 2, 1) := by decide +kernel
theorem dL_law_804 : decode cL_law 804 = .ok (.iadd, 1) := by decide +kernel
theorem dL_law_805 : decode cL_law 805 = .ok (.iaload, 1) := by decide +kernel
theorem dL_law_806 : decode cL_law 806 = .ok (.aload_n 0, 1) := by decide +kernel
theorem dL_law_807 : decode cL_law 807 = .ok (.iload_n 3, 1) := by decide +kernel
theorem dL_law_808 : decode cL_law 808 = .ok (.iconst 3, 1) := by decide +kernel
theorem dL_law_809 : decode cL_law 809 = .ok (.iadd, 1) := by decide +kernel
theorem dL_law_810 : decode cL_law 810 = .ok (.iaload, 1) := by decide +kernel
theorem dL_law_811 : decode cL_law 811 = .ok (.aload_n 0, 1) := by decide +kernel
theorem dL_law_812 : decode cL_law 812 = .ok (.iload_n 3, 1) := by decide +kernel
theorem dL_law_813 : decode cL_law 813 = .ok (.iconst 4, 1) := by decide +kernel
theorem dL_law_814 : decode cL_law 814 = .ok (.iadd, 1) := by decide +kernel
theorem dL_law_815 : decode cL_law 815 = .ok (.iaload, 1) := by decide +kernel
theorem dL_law_816 : decode cL_law 816 = .ok (.invokevirtual 89, 3) := by decide +kernel
theorem dL_law_819 : decode cL_law 819 = .ok (.if_icmp .eq 356, 3) := by decide +kernel
theorem dL_law_822 : decode cL_law 822 = .ok (.iconst 0, 1) := by decide +kernel
theorem dL_law_823 : decode cL_law 823 = .ok (.ireturn, 1) := by decide +kernel
theorem dL_law_824 : decode cL_law 824 = .ok (.aload_n 1, 1) := by decide +kernel
theorem dL_law_825 : decode cL_law 825 = .ok (.aload_n 0, 1) := by decide +kernel
theorem dL_law_826 : decode cL_law 826 = .ok (.iload_n 3, 1) := by decide +kernel
theorem dL_law_827 : decode cL_law 827 = .ok (.iconst 1, 1) := by decide +kernel
theorem dL_law_828 : decode cL_law 828 = .ok (.iadd, 1) := by decide +kernel
theorem dL_law_829 : decode cL_law 829 = .ok (.iaload, 1) := by decide +kernel
theorem dL_law_830 : decode cL_law 830 = .ok (.invokevirtual 90, 3) := by decide +kernel
theorem dL_law_833 : decode cL_law 833 = .ok (.aload_n 2, 1) := by decide +kernel
theorem dL_law_834 : decode cL_law 834 = .ok (.aload_n 0, 1) := by decide +kernel
theorem dL_law_835 : decode cL_law 835 = .ok (.iload_n 3, 1) := by decide +kernel
theorem dL_law_836 : decode cL_law 836 = .ok (.iconst 1, 1) := by decide +kernel
theorem dL_law_837 : decode cL_law 837 = .ok (.iadd, 1) := by decide +kernel
theorem dL_law_838 : decode cL_law 838 = .ok (.iaload, 1) := by decide +kernel
theorem dL_law_839 : decode cL_law 839 = .ok (.invokevirtual 93, 3) := by decide +kernel
theorem dL_law_842 : decode cL_law 842 = .ok (.if_icmp .eq 333, 3) := by decide +kernel
theorem dL_law_845 : decode cL_law 845 = .ok (.iconst 0, 1) := by decide +kernel
theorem dL_law_846 : decode cL_law 846 = .ok (.ireturn, 1) := by decide +kernel
theorem dL_law_847 : decode cL_law 847 = .ok (.aload_n 1, 1) := by decide +kernel
theorem dL_law_848 : decode cL_law 848 = .ok (.aload_n 0, 1) := by decide +kernel
theorem dL_law_849 : decode cL_law 849 = .ok (.iload_n 3, 1) := by decide +kernel
theorem dL_law_850 : decode cL_law 850 = .ok (.iconst 1, 1) := by decide +kernel
theorem dL_law_851 : decode cL_law 851 = .ok (.iadd, 1) := by decide +kernel
theorem dL_law_852 : decode cL_law 852 = .ok (.iaload, 1) := by decide +kernel
theorem dL_law_853 : decode cL_law 853 = .ok (.aload_n 0, 1) := by decide +kernel
theorem dL_law_854 : decode cL_law 854 = .ok (.iload_n 3, 1) := by decide +kernel
theorem dL_law_855 : decode cL_law 855 = .ok (.iconst 2, 1) := by decide +kernel
theorem dL_law_856 : decode cL_law 856 = .ok (.iadd, 1) := by decide +kernel
theorem dL_law_857 : decode cL_law 857 = .ok (.iaload, 1) := by decide +kernel
theorem dL_law_858 : decode cL_law 858 = .ok (.aload_n 0, 1) := by decide +kernel
theorem dL_law_859 : decode cL_law 859 = .ok (.iload_n 3, 1) := by decide +kernel
theorem dL_law_860 : decode cL_law 860 = .ok (.iconst 3, 1) := by decide +kernel
theorem dL_law_861 : decode cL_law 861 = .ok (.iadd, 1) := by decide +kernel
theorem dL_law_862 : decode cL_law 862 = .ok (.iaload, 1) := by decide +kernel
theorem dL_law_863 : decode cL_law 863 = .ok (.invokevirtual 94, 3) := by decide +kernel
theorem dL_law_866 : decode cL_law 866 = .ok (.aload_n 2, 1) := by decide +kernel
theorem dL_law_867 : decode cL_law 867 = .ok (.aload_n 0, 1) := by decide +kernel
theorem dL_law_868 : decode cL_law 868 = .ok (.iload_n 3, 1) := by decide +kernel
theorem dL_law_869 : decode cL_law 869 = .ok (.iconst 1, 1) := by decide +kernel
theorem dL_law_870 : decode cL_law 870 = .ok (.iadd, 1) := by decide +kernel
theorem dL_law_871 : decode cL_law 871 = .ok (.iaload, 1) := by decide +kernel
theorem dL_law_872 : decode cL_law 872 = .ok (.aload_n 0, 1) := by decide +kernel
theorem dL_law_873 : decode cL_law 873 = .ok (.iload_n 3, 1) := by decide +kernel
theorem dL_law_874 : decode cL_law 874 = .ok (.iconst 2, 1) := by decide +kernel
theorem dL_law_875 : decode cL_law 875 = .ok (.iadd, 1) := by decide +kernel
theorem dL_law_876 : decode cL_law 876 = .ok (.iaload, 1) := by decide +kernel
theorem dL_law_877 : decode cL_law 877 = .ok (.aload_n 0, 1) := by decide +kernel
theorem dL_law_878 : decode cL_law 878 = .ok (.iload_n 3, 1) := by decide +kernel
theorem dL_law_879 : decode cL_law 879 = .ok (.iconst 3, 1) := by decide +kernel
theorem dL_law_880 : decode cL_law 880 = .ok (.iadd, 1) := by decide +kernel
theorem dL_law_881 : decode cL_law 881 = .ok (.iaload, 1) := by decide +kernel
theorem dL_law_882 : decode cL_law 882 = .ok (.invokevirtual 98, 3) := by decide +kernel
theorem dL_law_885 : decode cL_law 885 = .ok (.lcmp, 1) := by decide +kernel
theorem dL_law_886 : decode cL_law 886 = .ok (.ifCond .eq 289, 3) := by decide +kernel
theorem dL_law_889 : decode cL_law 889 = .ok (.iconst 0, 1) := by decide +kernel
theorem dL_law_890 : decode cL_law 890 = .ok (.ireturn, 1) := by decide +kernel
theorem dL_law_891 : decode cL_law 891 = .ok (.aload_n 1, 1) := by decide +kernel
theorem dL_law_892 : decode cL_law 892 = .ok (.invokevirtual 99, 3) := by decide +kernel
theorem dL_law_895 : decode cL_law 895 = .ok (.aload_n 2, 1) := by decide +kernel
theorem dL_law_896 : decode cL_law 896 = .ok (.invokevirtual 102, 3) := by decide +kernel
theorem dL_law_899 : decode cL_law 899 = .ok (.if_icmp .eq 276, 3) := by decide +kernel
theorem dL_law_902 : decode cL_law 902 = .ok (.iconst 0, 1) := by decide +kernel
theorem dL_law_903 : decode cL_law 903 = .ok (.ireturn, 1) := by decide +kernel
theorem dL_law_904 : decode cL_law 904 = .ok (.aload_n 1, 1) := by decide +kernel
theorem dL_law_905 : decode cL_law 905 = .ok (.invokevirtual 103, 3) := by decide +kernel
theorem dL_law_908 : decode cL_law 908 = .ok (.aload_n 2, 1) := by decide +kernel
theorem dL_law_909 : decode cL_law 909 = .ok (.invokevirtual 106, 3) := by decide +kernel
theorem dL_law_912 : decode cL_law 912 = .ok (.if_icmp .eq 263, 3) := by decide +kernel
theorem dL_law_915 : decode cL_law 915 = .ok (.iconst 0, 1) := by decide +kernel
theorem dL_law_916 : decode cL_law 916 = .ok (.ireturn, 1) := by decide +kernel
theorem dL_law_917 : decode cL_law 917 = .ok (.aload_n 1, 1) := by decide +kernel
theorem dL_law_918 : decode cL_law 918 = .ok (.aload_n 0, 1) := by decide +kernel
theorem dL_law_919 : decode cL_law 919 = .ok (.iload_n 3, 1) := by decide +kernel
theorem dL_law_920 : decode cL_law 920 = .ok (.iconst 1, 1) := by decide +kernel
theorem dL_law_921 : decode cL_law 921 = .ok (.iadd, 1) := by decide +kernel
theorem dL_law_922 : decode cL_law 922 = .ok (.iaload, 1) := by decide +kernel
theorem dL_law_923 : decode cL_law 923 = .ok (.invokevirtual 107, 3) := by decide +kernel
theorem dL_law_926 : decode cL_law 926 = .ok (.aload_n 2, 1) := by decide +kernel
theorem dL_law_927 : decode cL_law 927 = .ok (.aload_n 0, 1) := by decide +kernel
theorem dL_law_928 : decode cL_law 928 = .ok (.iload_n 3, 1) := by decide +kernel
theorem dL_law_929 : decode cL_law 929 = .ok (.iconst 1, 1) := by decide +kernel
theorem dL_law_930 : decode cL_law 930 = .ok (.iadd, 1) := by decide +kernel
theorem dL_law_931 : decode cL_law 931 = .ok (.iaload, 1) := by decide +kernel
theorem dL_law_932 : decode cL_law 932 = .ok (.invokevirtual 110, 3) := by decide +kernel
theorem dL_law_935 : decode cL_law 935 = .ok (.if_icmp .eq 240, 3) := by decide +kernel
theorem dL_law_938 : decode cL_law 938 = .ok (.iconst 0, 1) := by decide +kernel
theorem dL_law_939 : decode cL_law 939 = .ok (.ireturn, 1) := by decide +kernel
theorem dL_law_940 : decode cL_law 940 = .ok (.aload_n 1, 1) := by decide +kernel
theorem dL_law_941 : decode cL_law 941 = .ok (.aload_n 0, 1) := by decide +kernel
theorem dL_law_942 : decode cL_law 942 = .ok (.iload_n 3, 1) := by decide +kernel
theorem dL_law_943 : decode cL_law 943 = .ok (.iconst 1, 1) := by decide +kernel
theorem dL_law_944 : decode cL_law 944 = .ok (.iadd, 1) := by decide +kernel
theorem dL_law_945 : decode cL_law 945 = .ok (.iaload, 1) := by decide +kernel
theorem dL_law_946 : decode cL_law 946 = .ok (.aload_n 0, 1) := by decide +kernel
theorem dL_law_947 : decode cL_law 947 = .ok (.iload_n 3, 1) := by decide +kernel
theorem dL_law_948 : decode cL_law 948 = .ok (.iconst 2, 1) := by decide +kernel
theorem dL_law_949 : decode cL_law 949 = .ok (.iadd, 1) := by decide +kernel
theorem dL_law_950 : decode cL_law 950 = .ok (.iaload, 1) := by decide +kernel
theorem dL_law_951 : decode cL_law 951 = .ok (.aload_n 0, 1) := by decide +kernel
theorem dL_law_952 : decode cL_law 952 = .ok (.iload_n 3, 1) := by decide +kernel
theorem dL_law_953 : decode cL_law 953 = .ok (.iconst 3, 1) := by decide +kernel
theorem dL_law_954 : decode cL_law 954 = .ok (.iadd, 1) := by decide +kernel
theorem dL_law_955 : decode cL_law 955 = .ok (.iaload, 1) := by decide +kernel
theorem dL_law_956 : decode cL_law 956 = .ok (.invokevirtual 111, 3) := by decide +kernel
theorem dL_law_959 : decode cL_law 959 = .ok (.aload_n 2, 1) := by decide +kernel
theorem dL_law_960 : decode cL_law 960 = .ok (.aload_n 0, 1) := by decide +kernel
theorem dL_law_961 : decode cL_law 961 = .ok (.iload_n 3, 1) := by decide +kernel
theorem dL_law_962 : decode cL_law 962 = .ok (.iconst 1, 1) := by decide +kernel
theorem dL_law_963 : decode cL_law 963 = .ok (.iadd, 1) := by decide +kernel
theorem dL_law_964 : decode cL_law 964 = .ok (.iaload, 1) := by decide +kernel
theorem dL_law_965 : decode cL_law 965 = .ok (.aload_n 0, 1) := by decide +kernel
theorem dL_law_966 : decode cL_law 966 = .ok (.iload_n 3, 1) := by decide +kernel
theorem dL_law_967 : decode cL_law 967 = .ok (.iconst 2, 1) := by decide +kernel
theorem dL_law_968 : decode cL_law 968 = .ok (.iadd, 1) := by decide +kernel
theorem dL_law_969 : decode cL_law 969 = .ok (.iaload, 1) := by decide +kernel
theorem dL_law_970 : decode cL_law 970 = .ok (.aload_n 0, 1) := by decide +kernel
theorem dL_law_971 : decode cL_law 971 = .ok (.iload_n 3, 1) := by decide +kernel
theorem dL_law_972 : decode cL_law 972 = .ok (.iconst 3, 1) := by decide +kernel
theorem dL_law_973 : decode cL_law 973 = .ok (.iadd, 1) := by decide +kernel
theorem dL_law_974 : decode cL_law 974 = .ok (.iaload, 1) := by decide +kernel
theorem dL_law_975 : decode cL_law 975 = .ok (.invokevirtual 114, 3) := by decide +kernel
theorem dL_law_978 : decode cL_law 978 = .ok (.if_icmp .eq 197, 3) := by decide +kernel
theorem dL_law_981 : decode cL_law 981 = .ok (.iconst 0, 1) := by decide +kernel
theorem dL_law_982 : decode cL_law 982 = .ok (.ireturn, 1) := by decide +kernel
theorem dL_law_983 : decode cL_law 983 = .ok (.aload_n 1, 1) := by decide +kernel
theorem dL_law_984 : decode cL_law 984 = .ok (.aload_n 0, 1) := by decide +kernel
theorem dL_law_985 : decode cL_law 985 = .ok (.iload_n 3, 1) := by decide +kernel
theorem dL_law_986 : decode cL_law 986 = .ok (.iconst 1, 1) := by decide +kernel
theorem dL_law_987 : decode cL_law 987 = .ok (.iadd, 1) := by decide +kernel
theorem dL_law_988 : decode cL_law 988 = .ok (.iaload, 1) := by decide +kernel
theorem dL_law_989 : decode cL_law 989 = .ok (.aload_n 0, 1) := by decide +kernel
theorem dL_law_990 : decode cL_law 990 = .ok (.iload_n 3, 1) := by decide +kernel
theorem dL_law_991 : decode cL_law 991 = .ok (.iconst 2, 1) := by decide +kernel
theorem dL_law_992 : decode cL_law 992 = .ok (.iadd, 1) := by decide +kernel
theorem dL_law_993 : decode cL_law 993 = .ok (.iaload, 1) := by decide +kernel
theorem dL_law_994 : decode cL_law 994 = .ok (.aload_n 0, 1) := by decide +kernel
theorem dL_law_995 : decode cL_law 995 = .ok (.iload_n 3, 1) := by decide +kernel
theorem dL_law_996 : decode cL_law 996 = .ok (.iconst 3, 1) := by decide +kernel
theorem dL_law_997 : decode cL_law 997 = .ok (.iadd, 1) := by decide +kernel
theorem dL_law_998 : decode cL_law 998 = .ok (.iaload, 1) := by decide +kernel
theorem dL_law_999 : decode cL_law 999 = .ok (.invokevirtual 115, 3) := by decide +kernel
theorem dL_law_1002 : decode cL_law 1002 = .ok (.aload_n 2, 1) := by decide +kernel
theorem dL_law_1003 : decode cL_law 1003 = .ok (.aload_n 0, 1) := by decide +kernel
theorem dL_law_1004 : decode cL_law 1004 = .ok (.iload_n 3, 1) := by decide +kernel
theorem dL_law_1005 : decode cL_law 1005 = .ok (.iconst 1, 1) := by decide +kernel
theorem dL_law_1006 : decode cL_law 1006 = .ok (.iadd, 1) := by decide +kernel
theorem dL_law_1007 : decode cL_law 1007 = .ok (.iaload, 1) := by decide +kernel
theorem dL_law_1008 : decode cL_law 1008 = .ok (.aload_n 0, 1) := by decide +kernel
theorem dL_law_1009 : decode cL_law 1009 = .ok (.iload_n 3, 1) := by decide +kernel
theorem dL_law_1010 : decode cL_law 1010 = .ok (.iconst 2, 1) := by decide +kernel
theorem dL_law_1011 : decode cL_law 1011 = .ok (.iadd, 1) := by decide +kernel
theorem dL_law_1012 : decode cL_law 1012 = .ok (.iaload, 1) := by decide +kernel
theorem dL_law_1013 : decode cL_law 1013 = .ok (.aload_n 0, 1) := by decide +kernel
theorem dL_law_1014 : decode cL_law 1014 = .ok (.iload_n 3, 1) := by decide +kernel
theorem dL_law_1015 : decode cL_law 1015 = .ok (.iconst 3, 1) := by decide +kernel
theorem dL_law_1016 : decode cL_law 1016 = .ok (.iadd, 1) := by decide +kernel
theorem dL_law_1017 : decode cL_law 1017 = .ok (.iaload, 1) := by decide +kernel
theorem dL_law_1018 : decode cL_law 1018 = .ok (.invokevirtual 118, 3) := by decide +kernel
theorem dL_law_1021 : decode cL_law 1021 = .ok (.if_icmp .eq 154, 3) := by decide +kernel
theorem dL_law_1024 : decode cL_law 1024 = .ok (.iconst 0, 1) := by decide +kernel
theorem dL_law_1025 : decode cL_law 1025 = .ok (.ireturn, 1) := by decide +kernel
theorem dL_law_1026 : decode cL_law 1026 = .ok (.aload_n 1, 1) := by decide +kernel
theorem dL_law_1027 : decode cL_law 1027 = .ok (.aload_n 0, 1) := by decide +kernel
theorem dL_law_1028 : decode cL_law 1028 = .ok (.iload_n 3, 1) := by decide +kernel
theorem dL_law_1029 : decode cL_law 1029 = .ok (.iconst 1, 1) := by decide +kernel
theorem dL_law_1030 : decode cL_law 1030 = .ok (.iadd, 1) := by decide +kernel
theorem dL_law_1031 : decode cL_law 1031 = .ok (.iaload, 1) := by decide +kernel
theorem dL_law_1032 : decode cL_law 1032 = .ok (.aload_n 0, 1) := by decide +kernel
theorem dL_law_1033 : decode cL_law 1033 = .ok (.iload_n 3, 1) := by decide +kernel
theorem dL_law_1034 : decode cL_law 1034 = .ok (.iconst 2, 1) := by decide +kernel
theorem dL_law_1035 : decode cL_law 1035 = .ok (.iadd, 1) := by decide +kernel
theorem dL_law_1036 : decode cL_law 1036 = .ok (.iaload, 1) := by decide +kernel
theorem dL_law_1037 : decode cL_law 1037 = .ok (.aload_n 0, 1) := by decide +kernel
theorem dL_law_1038 : decode cL_law 1038 = .ok (.iload_n 3, 1) := by decide +kernel
theorem dL_law_1039 : decode cL_law 1039 = .ok (.iconst 3, 1) := by decide +kernel
theorem dL_law_1040 : decode cL_law 1040 = .ok (.iadd, 1) := by decide +kernel
theorem dL_law_1041 : decode cL_law 1041 = .ok (.iaload, 1) := by decide +kernel
theorem dL_law_1042 : decode cL_law 1042 = .ok (.aload_n 0, 1) := by decide +kernel
theorem dL_law_1043 : decode cL_law 1043 = .ok (.iload_n 3, 1) := by decide +kernel
theorem dL_law_1044 : decode cL_law 1044 = .ok (.iconst 4, 1) := by decide +kernel
theorem dL_law_1045 : decode cL_law 1045 = .ok (.iadd, 1) := by decide +kernel
theorem dL_law_1046 : decode cL_law 1046 = .ok (.iaload, 1) := by decide +kernel
theorem dL_law_1047 : decode cL_law 1047 = .ok (.aload_n 0, 1) := by decide +kernel
theorem dL_law_1048 : decode cL_law 1048 = .ok (.iload_n 3, 1) := by decide +kernel
theorem dL_law_1049 : decode cL_law 1049 = .ok (.iconst 5, 1) := by decide +kernel
theorem dL_law_1050 : decode cL_law 1050 = .ok (.iadd, 1) := by decide +kernel
theorem dL_law_1051 : decode cL_law 1051 = .ok (.iaload, 1) := by decide +kernel
theorem dL_law_1052 : decode cL_law 1052 = .ok (.invokevirtual 119, 3) := by decide +kernel
theorem dL_law_1055 : decode cL_law 1055 = .ok (.aload_n 2, 1) := by decide +kernel
theorem dL_law_1056 : decode cL_law 1056 = .ok (.aload_n 0, 1) := by decide +kernel
theorem dL_law_1057 : decode cL_law 1057 = .ok (.iload_n 3, 1) := by decide +kernel
theorem dL_law_1058 : decode cL_law 1058 = .ok (.iconst 1, 1) := by decide +kernel
theorem dL_law_1059 : decode cL_law 1059 = .ok (.iadd, 1) := by decide +kernel
theorem dL_law_1060 : decode cL_law 1060 = .ok (.iaload, 1) := by decide +kernel
theorem dL_law_1061 : decode cL_law 1061 = .ok (.aload_n 0, 1) := by decide +kernel
theorem dL_law_1062 : decode cL_law 1062 = .ok (.iload_n 3, 1) := by decide +kernel
theorem dL_law_1063 : decode cL_law 1063 = .ok (.iconst 2, 1) := by decide +kernel
theorem dL_law_1064 : decode cL_law 1064 = .ok (.iadd, 1) := by decide +kernel
theorem dL_law_1065 : decode cL_law 1065 = .ok (.iaload, 1) := by decide +kernel
theorem dL_law_1066 : decode cL_law 1066 = .ok (.aload_n 0, 1) := by decide +kernel
theorem dL_law_1067 : decode cL_law 1067 = .ok (.iload_n 3, 1) := by decide +kernel
theorem dL_law_1068 : decode cL_law 1068 = .ok (.iconst 3, 1) := by decide +kernel
theorem dL_law_1069 : decode cL_law 1069 = .ok (.iadd, 1) := by decide +kernel
theorem dL_law_1070 : decode cL_law 1070 = .ok (.iaload, 1) := by decide +kernel
theorem dL_law_1071 : decode cL_law 1071 = .ok (.aload_n 0, 1) := by decide +kernel
theorem dL_law_1072 : decode cL_law 1072 = .ok (.iload_n 3, 1) := by decide +kernel
theorem dL_law_1073 : decode cL_law 1073 = .ok (.iconst 4, 1) := by decide +kernel
theorem dL_law_1074 : decode cL_law 1074 = .ok (.iadd, 1) := by decide +kernel
theorem dL_law_1075 : decode cL_law 1075 = .ok (.iaload, 1) := by decide +kernel
theorem dL_law_1076 : decode cL_law 1076 = .ok (.aload_n 0, 1) := by decide +kernel
theorem dL_law_1077 : decode cL_law 1077 = .ok (.iload_n 3, 1) := by decide +kernel
theorem dL_law_1078 : decode cL_law 1078 = .ok (.iconst 5, 1) := by decide +kernel
theorem dL_law_1079 : decode cL_law 1079 = .ok (.iadd, 1) := by decide +kernel
theorem dL_law_1080 : decode cL_law 1080 = .ok (.iaload, 1) := by decide +kernel
theorem dL_law_1081 : decode cL_law 1081 = .ok (.invokevirtual 123, 3) := by decide +kernel
theorem dL_law_1084 : decode cL_law 1084 = .ok (.if_icmp .eq 91, 3) := by decide +kernel
theorem dL_law_1087 : decode cL_law 1087 = .ok (.iconst 0, 1) := by decide +kernel
theorem dL_law_1088 : decode cL_law 1088 = .ok (.ireturn, 1) := by decide +kernel
theorem dL_law_1089 : decode cL_law 1089 = .ok (.aload_n 1, 1) := by decide +kernel
theorem dL_law_1090 : decode cL_law 1090 = .ok (.aload_n 0, 1) := by decide +kernel
theorem dL_law_1091 : decode cL_law 1091 = .ok (.iload_n 3, 1) := by decide +kernel
theorem dL_law_1092 : decode cL_law 1092 = .ok (.iconst 1, 1) := by decide +kernel
theorem dL_law_1093 : decode cL_law 1093 = .ok (.iadd, 1) := by decide +kernel
theorem dL_law_1094 : decode cL_law 1094 = .ok (.iaload, 1) := by decide +kernel
theorem dL_law_1095 : decode cL_law 1095 = .ok (.aload_n 0, 1) := by decide +kernel
theorem dL_law_1096 : decode cL_law 1096 = .ok (.iload_n 3, 1) := by decide +kernel
theorem dL_law_1097 : decode cL_law 1097 = .ok (.iconst 2, 1) := by decide +kernel
theorem dL_law_1098 : decode cL_law 1098 = .ok (.iadd, 1) := by decide +kernel
theorem dL_law_1099 : decode cL_law 1099 = .ok (.iaload, 1) := by decide +kernel
theorem dL_law_1100 : decode cL_law 1100 = .ok (.aload_n 0, 1) := by decide +kernel
theorem dL_law_1101 : decode cL_law 1101 = .ok (.iload_n 3, 1) := by decide +kernel
theorem dL_law_1102 : decode cL_law 1102 = .ok (.iconst 3, 1) := by decide +kernel
theorem dL_law_1103 : decode cL_law 1103 = .ok (.iadd, 1) := by decide +kernel
theorem dL_law_1104 : decode cL_law 1104 = .ok (.iaload, 1) := by decide +kernel
theorem dL_law_1105 : decode cL_law 1105 = .ok (.aload_n 0, 1) := by decide +kernel
theorem dL_law_1106 : decode cL_law 1106 = .ok (.iload_n 3, 1) := by decide +kernel
theorem dL_law_1107 : decode cL_law 1107 = .ok (.iconst 4, 1) := by decide +kernel
theorem dL_law_1108 : decode cL_law 1108 = .ok (.iadd, 1) := by decide +kernel
theorem dL_law_1109 : decode cL_law 1109 = .ok (.iaload, 1) := by decide +kernel
theorem dL_law_1110 : decode cL_law 1110 = .ok (.invokevirtual 124, 3) := by decide +kernel
theorem dL_law_1113 : decode cL_law 1113 = .ok (.aload_n 2, 1) := by decide +kernel
theorem dL_law_1114 : decode cL_law 1114 = .ok (.aload_n 0, 1) := by decide +kernel
theorem dL_law_1115 : decode cL_law 1115 = .ok (.iload_n 3, 1) := by decide +kernel
theorem dL_law_1116 : decode cL_law 1116 = .ok (.iconst 1, 1) := by decide +kernel
theorem dL_law_1117 : decode cL_law 1117 = .ok (.iadd, 1) := by decide +kernel
theorem dL_law_1118 : decode cL_law 1118 = .ok (.iaload, 1) := by decide +kernel
theorem dL_law_1119 : decode cL_law 1119 = .ok (.aload_n 0, 1) := by decide +kernel
theorem dL_law_1120 : decode cL_law 1120 = .ok (.iload_n 3, 1) := by decide +kernel
theorem dL_law_1121 : decode cL_law 1121 = .ok (.iconst 2, 1) := by decide +kernel
theorem dL_law_1122 : decode cL_law 1122 = .ok (.iadd, 1) := by decide +kernel
theorem dL_law_1123 : decode cL_law 1123 = .ok (.iaload, 1) := by decide +kernel
theorem dL_law_1124 : decode cL_law 1124 = .ok (.aload_n 0, 1) := by decide +kernel
theorem dL_law_1125 : decode cL_law 1125 = .ok (.iload_n 3, 1) := by decide +kernel
theorem dL_law_1126 : decode cL_law 1126 = .ok (.iconst 3, 1) := by decide +kernel
theorem dL_law_1127 : decode cL_law 1127 = .ok (.iadd, 1) := by decide +kernel
theorem dL_law_1128 : decode cL_law 1128 = .ok (.iaload, 1) := by decide +kernel
theorem dL_law_1129 : decode cL_law 1129 = .ok (.aload_n 0, 1) := by decide +kernel
theorem dL_law_1130 : decode cL_law 1130 = .ok (.iload_n 3, 1) := by decide +kernel
theorem dL_law_1131 : decode cL_law 1131 = .ok (.iconst 4, 1) := by decide +kernel
theorem dL_law_1132 : decode cL_law 1132 = .ok (.iadd, 1) := by decide +kernel
theorem dL_law_1133 : decode cL_law 1133 = .ok (.iaload, 1) := by decide +kernel
theorem dL_law_1134 : decode cL_law 1134 = .ok (.invokevirtual 127, 3) := by decide +kernel
theorem dL_law_1137 : decode cL_law 1137 = .ok (.if_icmp .eq 38, 3) := by decide +kernel
theorem dL_law_1140 : decode cL_law 1140 = .ok (.iconst 0, 1) := by decide +kernel
theorem dL_law_1141 : decode cL_law 1141 = .ok (.ireturn, 1) := by decide +kernel
theorem dL_law_1142 : decode cL_law 1142 = .ok (.aload_n 1, 1) := by decide +kernel
theorem dL_law_1143 : decode cL_law 1143 = .ok (.aload_n 0, 1) := by decide +kernel
theorem dL_law_1144 : decode cL_law 1144 = .ok (.iload_n 3, 1) := by decide +kernel
theorem dL_law_1145 : decode cL_law 1145 = .ok (.iconst 1, 1) := by decide +kernel
theorem dL_law_1146 : decode cL_law 1146 = .ok (.iadd, 1) := by decide +kernel
theorem dL_law_1147 : decode cL_law 1147 = .ok (.iaload, 1) := by decide +kernel
theorem dL_law_1148 : decode cL_law 1148 = .ok (.aload_n 0, 1) := by decide +kernel
theorem dL_law_1149 : decode cL_law 1149 = .ok (.iload_n 3, 1) := by decide +kernel
theorem dL_law_1150 : decode cL_law 1150 = .ok (.iconst 2, 1) := by decide +kernel
theorem dL_law_1151 : decode cL_law 1151 = .ok (.iadd, 1) := by decide +kernel
theorem dL_law_1152 : decode cL_law 1152 = .ok (.iaload, 1) := by decide +kernel
theorem dL_law_1153 : decode cL_law 1153 = .ok (.invokevirtual 128, 3) := by decide +kernel
theorem dL_law_1156 : decode cL_law 1156 = .ok (.aload_n 2, 1) := by decide +kernel
theorem dL_law_1157 : decode cL_law 1157 = .ok (.aload_n 0, 1) := by decide +kernel
theorem dL_law_1158 : decode cL_law 1158 = .ok (.iload_n 3, 1) := by decide +kernel
theorem dL_law_1159 : decode cL_law 1159 = .ok (.iconst 1, 1) := by decide +kernel
theorem dL_law_1160 : decode cL_law 1160 = .ok (.iadd, 1) := by decide +kernel
theorem dL_law_1161 : decode cL_law 1161 = .ok (.iaload, 1) := by decide +kernel
theorem dL_law_1162 : decode cL_law 1162 = .ok (.aload_n 0, 1) := by decide +kernel
theorem dL_law_1163 : decode cL_law 1163 = .ok (.iload_n 3, 1) := by decide +kernel
theorem dL_law_1164 : decode cL_law 1164 = .ok (.iconst 2, 1) := by decide +kernel
theorem dL_law_1165 : decode cL_law 1165 = .ok (.iadd, 1) := by decide +kernel
theorem dL_law_1166 : decode cL_law 1166 = .ok (.iaload, 1) := by decide +kernel
theorem dL_law_1167 : decode cL_law 1167 = .ok (.invokevirtual 131, 3) := by decide +kernel
theorem dL_law_1170 : decode cL_law 1170 = .ok (.if_icmp .eq 5, 3) := by decide +kernel
theorem dL_law_1173 : decode cL_law 1173 = .ok (.iconst 0, 1) := by decide +kernel
theorem dL_law_1174 : decode cL_law 1174 = .ok (.ireturn, 1) := by decide +kernel
theorem dL_law_1175 : decode cL_law 1175 = .ok (.iinc 3 6, 3) := by decide +kernel
theorem dL_law_1178 : decode cL_law 1178 = .ok (.goto (-1160), 3) := by decide +kernel
theorem dL_law_1181 : decode cL_law 1181 = .ok (.iconst 1, 1) := by decide +kernel
theorem dL_law_1182 : decode cL_law 1182 = .ok (.ireturn, 1) := by decide +kernel
