theorem dX8_give_66 : decode cX8_give 66 = .ok (.aload_n 0, 1) := by decide +kernel
theorem dX8_give_67 : decode cX8_give 67 = .ok (.getfield 16, 3) := by decide +kernel
theorem dX8_give_70 : decode cX8_give 70 = .ok (.iload_n 2, 1) := by decide +kernel
theorem dX8_give_71 : decode cX8_give 71 = .ok (.dup2, 1) := by decide +kernel
theorem dX8_give_72 : decode cX8_give 72 = .ok (.iaload, 1) := by decide +kernel
theorem dX8_give_73 : decode cX8_give 73 = .ok (.iconst 1, 1) := by decide +kernel
theorem dX8_give_74 : decode cX8_give 74 = .ok (.iload_n 3, 1) := by decide +kernel
theorem dX8_give_75 : decode cX8_give 75 = .ok (.iconst 1, 1) := by decide +kernel
theorem dX8_give_76 : decode cX8_give 76 = .ok (.isub, 1) := by decide +kernel
theorem dX8_give_77 : decode cX8_give 77 = .ok (.ishl, 1) := by decide +kernel
theorem dX8_give_78 : decode cX8_give 78 = .ok (.iadd, 1) := by decide +kernel
theorem dX8_give_79 : decode cX8_give 79 = .ok (.iastore, 1) := by decide +kernel
theorem dX8_give_80 : decode cX8_give 80 = .ok (.aload_n 0, 1) := by decide +kernel
theorem dX8_give_81 : decode cX8_give 81 = .ok (.getfield 16, 3) := by decide +kernel
theorem dX8_give_84 : decode cX8_give 84 = .ok (.iload_n 1, 1) := by decide +kernel
theorem dX8_give_85 : decode cX8_give 85 = .ok (.iaload, 1) := by decide +kernel
theorem dX8_give_86 : decode cX8_give 86 = .ok (.invokestatic 97, 3) := by decide +kernel
theorem dX8_give_89 : decode cX8_give 89 = .ok (.ireturn, 1) := by decide +kernel
theorem dX8_told_0 : decode cX8_told 0 = .ok (.iload_n 2, 1) := by decide +kernel
theorem dX8_told_1 : decode cX8_told 1 = .ok (.iconst 0, 1) := by decide +kernel
theorem dX8_told_2 : decode cX8_told 2 = .ok (.iconst 5, 1) := by decide +kernel
theorem dX8_told_3 : decode cX8_told 3 = .ok (.invokestatic 85, 3) := by decide +kernel
theorem dX8_told_6 : decode cX8_told 6 = .ok (.ifCond .eq 24, 3) := by decide +kernel
theorem dX8_told_9 : decode cX8_told 9 = .ok (.iload_n 2, 1) := by decide +kernel
theorem dX8_told_10 : decode cX8_told 10 = .ok (.ifCond .eq 11, 3) := by decide +kernel
theorem dX8_told_13 : decode cX8_told 13 = .ok (.aload_n 0, 1) := by decide +kernel
theorem dX8_told_14 : decode cX8_told 14 = .ok (.iload_n 1, 1) := by decide +kernel
theorem dX8_told_15 : decode cX8_told 15 = .ok (.invokevirtual 89, 3) := by decide +kernel
theorem dX8_told_18 : decode cX8_told 18 = .ok (.ifCond .eq 12, 3) := by decide +kernel
theorem dX8_told_21 : decode cX8_told 21 = .ok (.aload_n 0, 1) := by decide +kernel
theorem dX8_told_22 : decode cX8_told 22 = .ok (.iload_n 1, 1) := by decide +kernel
theorem dX8_told_23 : decode cX8_told 23 = .ok (.iload_n 2, 1) := by decide +kernel
theorem dX8_told_24 : decode cX8_told 24 = .ok (.invokevirtual 108, 3) := by decide +kernel
theorem dX8_told_27 : decode cX8_told 27 = .ok (.goto 5, 3) := by decide +kernel
theorem dX8_told_30 : decode cX8_told 30 = .ok (.bipush (-2), 2) := by decide +kernel
theorem dX8_told_32 : decode cX8_told 32 = .ok (.ireturn, 1) := by decide +kernel
theorem dX8_feed_0 : decode cX8_feed 0 = .ok (.iload_n 1, 1) := by decide +kernel
theorem dX8_feed_1 : decode cX8_feed 1 = .ok (.iconst 0, 1) := by decide +kernel
theorem dX8_feed_2 : decode cX8_feed 2 = .ok (.sipush 255, 3) := by decide +kernel
theorem dX8_feed_5 : decode cX8_feed 5 = .ok (.invokestatic 85, 3) := by decide +kernel
theorem dX8_feed_8 : decode cX8_feed 8 = .ok (.ifCond .ne 6, 3) := by decide +kernel
theorem dX8_feed_11 : decode cX8_feed 11 = .ok (.bipush (-2), 2) := by decide +kernel
theorem dX8_feed_13 : decode cX8_feed 13 = .ok (.ireturn, 1) := by decide +kernel
theorem dX8_feed_14 : decode cX8_feed 14 = .ok (.aload_n 0, 1) := by decide +kernel
theorem dX8_feed_15 : decode cX8_feed 15 = .ok (.getfield 121, 3) := by decide +kernel
theorem dX8_feed_18 : decode cX8_feed 18 = .ok (.sipush 160, 3) := by decide +kernel
theorem dX8_feed_21 : decode cX8_feed 21 = .ok (.if_icmp .ne 6, 3) := by decide +kernel
theorem dX8_feed_24 : decode cX8_feed 24 = .ok (.bipush (-4), 2) := by decide +kernel
theorem dX8_feed_26 : decode cX8_feed 26 = .ok (.ireturn, 1) := by decide +kernel
theorem dX8_feed_27 : decode cX8_feed 27 = .ok (.aload_n 0, 1) := by decide +kernel
theorem dX8_feed_28 : decode cX8_feed 28 = .ok (.getfield 19, 3) := by decide +kernel
theorem dX8_feed_31 : decode cX8_feed 31 = .ok (.aload_n 0, 1) := by decide +kernel
theorem dX8_feed_32 : decode cX8_feed 32 = .ok (.dup, 1) := by decide +kernel
theorem dX8_feed_33 : decode cX8_feed 33 = .ok (.getfield 121, 3) := by decide +kernel
theorem dX8_feed_36 : decode cX8_feed 36 = .ok (.dup_x1, 1) := by decide +kernel
theorem dX8_feed_37 : decode cX8_feed 37 = .ok (.iconst 1, 1) := by decide +kernel
theorem dX8_feed_38 : decode cX8_feed 38 = .ok (.iadd, 1) := by decide +kernel
theorem dX8_feed_39 : decode cX8_feed 39 = .ok (.putfield 121, 3) := by decide +kernel
theorem dX8_feed_42 : decode cX8_feed 42 = .ok (.iload_n 1, 1) := by decide +kernel
theorem dX8_feed_43 : decode cX8_feed 43 = .ok (.iastore, 1) := by decide +kernel
theorem dX8_feed_44 : decode cX8_feed 44 = .ok (.aload_n 0, 1) := by decide +kernel
theorem dX8_feed_45 : decode cX8_feed 45 = .ok (.getfield 121, 3) := by decide +kernel
theorem dX8_feed_48 : decode cX8_feed 48 = .ok (.ireturn, 1) := by decide +kernel
theorem dX8_isLetter_0 : decode cX8_isLetter 0 = .ok (.iload_n 0, 1) := by decide +kernel
theorem dX8_isLetter_1 : decode cX8_isLetter 1 = .ok (.bipush 97, 2) := by decide +kernel
theorem dX8_isLetter_3 : decode cX8_isLetter 3 = .ok (.if_icmp .lt 13, 3) := by decide +kernel
theorem dX8_isLetter_6 : decode cX8_isLetter 6 = .ok (.iload_n 0, 1) := by decide +kernel
theorem dX8_isLetter_7 : decode cX8_isLetter 7 = .ok (.bipush 122, 2) := by decide +kernel
theorem dX8_isLetter_9 : decode cX8_isLetter 9 = .ok (.if_icmp .gt 7, 3) := by decide +kernel
theorem dX8_isLetter_12 : decode cX8_isLetter 12 = .ok (.iconst 1, 1) := by decide +kernel
theorem dX8_isLetter_13 : decode cX8_isLetter 13 = .ok (.goto 4, 3) := by decide +kernel
theorem dX8_isLetter_16 : decode cX8_isLetter 16 = .ok (.iconst 0, 1) := by decide +kernel
theorem dX8_isLetter_17 : decode cX8_isLetter 17 = .ok (.ireturn, 1) := by decide +kernel
theorem dX8_isDigit_0 : decode cX8_isDigit 0 = .ok (.iload_n 0, 1) := by decide +kernel
theorem dX8_isDigit_1 : decode cX8_isDigit 1 = .ok (.bipush 48, 2) := by decide +kernel
theorem dX8_isDigit_3 : decode cX8_isDigit 3 = .ok (.if_icmp .lt 13, 3) := by decide +kernel
theorem dX8_isDigit_6 : decode cX8_isDigit 6 = .ok (.iload_n 0, 1) := by decide +kernel
theorem dX8_isDigit_7 : decode cX8_isDigit 7 = .ok (.bipush 57, 2) := by decide +kernel
theorem dX8_isDigit_9 : decode cX8_isDigit 9 = .ok (.if_icmp .gt 7, 3) := by decide +kernel
theorem dX8_isDigit_12 : decode cX8_isDigit 12 = .ok (.iconst 1, 1) := by decide +kernel
theorem dX8_isDigit_13 : decode cX8_isDigit 13 = .ok (.goto 4, 3) := by decide +kernel
theorem dX8_isDigit_16 : decode cX8_isDigit 16 = .ok (.iconst 0, 1) := by decide +kernel
theorem dX8_isDigit_17 : decode cX8_isDigit 17 = .ok (.ireturn, 1) := by decide +kernel
theorem dX8_isSign_0 : decode cX8_isSign 0 = .ok (.iload_n 0, 1) := by decide +kernel
theorem dX8_isSign_1 : decode cX8_isSign 1 = .ok (.tableswitch 105 40 61 #[103, 103, 103, 103, 105, 103, 105, 105, 105, 105, 105, 105, 105, 105, 105, 105, 105, 105, 105, 103, 103, 103], 103) := by decide +kernel
theorem dX8_isSign_104 : decode cX8_isSign 104 = .ok (.iconst 1, 1) := by decide +kernel
theorem dX8_isSign_105 : decode cX8_isSign 105 = .ok (.ireturn, 1) := by decide +kernel
theorem dX8_isSign_106 : decode cX8_isSign 106 = .ok (.iconst 0, 1) := by decide +kernel
theorem dX8_isSign_107 : decode cX8_isSign 107 = .ok (.ireturn, 1) := by decide +kernel
theorem dX8_named_0 : decode cX8_named 0 = .ok (.aload_n 0, 1) := by decide +kernel
theorem dX8_named_1 : decode cX8_named 1 = .ok (.getfield 124, 3) := by decide +kernel
theorem dX8_named_4 : decode cX8_named 4 = .ok (.lookupswitch 72 #[(14, 60), (2968, 70), (11570, 62), (161370, 68), (257011, 66), (267305, 64)], 60) := by decide +kernel
theorem dX8_named_64 : decode cX8_named 64 = .ok (.iconst 0, 1) := by decide +kernel
theorem dX8_named_65 : decode cX8_named 65 = .ok (.ireturn, 1) := by decide +kernel
theorem dX8_named_66 : decode cX8_named 66 = .ok (.iconst 1, 1) := by decide +kernel
theorem dX8_named_67 : decode cX8_named 67 = .ok (.ireturn, 1) := by decide +kernel
theorem dX8_named_68 : decode cX8_named 68 = .ok (.iconst 2, 1) := by decide +kernel
theorem dX8_named_69 : decode cX8_named 69 = .ok (.ireturn, 1) := by decide +kernel
theorem dX8_named_70 : decode cX8_named 70 = .ok (.iconst 3, 1) := by decide +kernel
theorem dX8_named_71 : decode cX8_named 71 = .ok (.ireturn, 1) := by decide +kernel
theorem dX8_named_72 : decode cX8_named 72 = .ok (.iconst 4, 1) := by decide +kernel
theorem dX8_named_73 : decode cX8_named 73 = .ok (.ireturn, 1) := by decide +kernel
theorem dX8_named_74 : decode cX8_named 74 = .ok (.iconst 5, 1) := by decide +kernel
theorem dX8_named_75 : decode cX8_named 75 = .ok (.ireturn, 1) := by decide +kernel
theorem dX8_named_76 : decode cX8_named 76 = .ok (.iconst (-1), 1) := by decide +kernel
theorem dX8_named_77 : decode cX8_named 77 = .ok (.ireturn, 1) := by decide +kernel
theorem dX8_isKey_0 : decode cX8_isKey 0 = .ok (.aload_n 0, 1) := by decide +kernel
theorem dX8_isKey_1 : decode cX8_isKey 1 = .ok (.getfield 124, 3) := by decide +kernel
theorem dX8_isKey_4 : decode cX8_isKey 4 = .ok (.lookupswitch 62 #[(423, 60), (1111, 60), (10631, 60), (375400, 60), (7008275, 60), (12532058, 60)], 60) := by decide +kernel
theorem dX8_isKey_64 : decode cX8_isKey 64 = .ok (.iconst 1, 1) := by decide +kernel
theorem dX8_isKey_65 : decode cX8_isKey 65 = .ok (.ireturn, 1) := by decide +kernel
theorem dX8_isKey_66 : decode cX8_isKey 66 = .ok (.iconst 0, 1) := by decide +kernel
theorem dX8_isKey_67 : decode cX8_isKey 67 = .ok (.ireturn, 1) := by decide +kernel
theorem dX8_next_0 : decode cX8_next 0 = .ok (.aload_n 0, 1) := by decide +kernel
theorem dX8_next_1 : decode cX8_next 1 = .ok (.aload_n 0, 1) := by decide +kernel
theorem dX8_next_2 : decode cX8_next 2 = .ok (.getfield 127, 3) := by decide +kernel
theorem dX8_next_5 : decode cX8_next 5 = .ok (.putfield 130, 3) := by decide +kernel
theorem dX8_next_8 : decode cX8_next 8 = .ok (.aload_n 0, 1) := by decide +kernel
theorem dX8_next_9 : decode cX8_next 9 = .ok (.getfield 130, 3) := by decide +kernel
theorem dX8_next_12 : decode cX8_next 12 = .ok (.aload_n 0, 1) := by decide +kernel
theorem dX8_next_13 : decode cX8_next 13 = .ok (.getfield 121, 3) := by decide +kernel
theorem dX8_next_16 : decode cX8_next 16 = .ok (.if_icmp .ge 44, 3) := by decide +kernel
theorem dX8_next_19 : decode cX8_next 19 = .ok (.aload_n 0, 1) := by decide +kernel
theorem dX8_next_20 : decode cX8_next 20 = .ok (.getfield 19, 3) := by decide +kernel
theorem dX8_next_23 : decode cX8_next 23 = .ok (.aload_n 0, 1) := by decide +kernel
theorem dX8_next_24 : decode cX8_next 24 = .ok (.getfield 130, 3) := by decide +kernel
theorem dX8_next_27 : decode cX8_next 27 = .ok (.iaload, 1) := by decide +kernel
theorem dX8_next_28 : decode cX8_next 28 = .ok (.bipush 32, 2) := by decide +kernel
theorem dX8_next_30 : decode cX8_next 30 = .ok (.if_icmp .eq 17, 3) := by decide +kernel
theorem dX8_next_33 : decode cX8_next 33 = .ok (.aload_n 0, 1) := by decide +kernel
theorem dX8_next_34 : decode cX8_next 34 = .ok (.getfield 19, 3) := by decide +kernel
theorem dX8_next_37 : decode cX8_next 37 = .ok (.aload_n 0, 1) := by decide +kernel
theorem dX8_next_38 : decode cX8_next 38 = .ok (.getfield 130, 3) := by decide +kernel
theorem dX8_next_41 : decode cX8_next 41 = .ok (.iaload, 1) := by decide +kernel
theorem dX8_next_42 : decode cX8_next 42 = .ok (.bipush 10, 2) := by decide +kernel
theorem dX8_next_44 : decode cX8_next 44 = .ok (.if_icmp .ne 16, 3) := by decide +kernel
theorem dX8_next_47 : decode cX8_next 47 = .ok (.aload_n 0, 1) := by decide +kernel
theorem dX8_next_48 : decode cX8_next 48 = .ok (.dup, 1) := by decide +kernel
theorem dX8_next_49 : decode cX8_next 49 = .ok (.getfield 130, 3) := by decide +kernel
theorem dX8_next_52 : decode cX8_next 52 = .ok (.iconst 1, 1) := by decide +kernel
theorem dX8_next_53 : decode cX8_next 53 = .ok (.iadd, 1) := by decide +kernel
theorem dX8_next_54 : decode cX8_next 54 = .ok (.putfield 130, 3) := by decide +kernel
theorem dX8_next_57 : decode cX8_next 57 = .ok (.goto (-49), 3) := by decide +kernel
theorem dX8_next_60 : decode cX8_next 60 = .ok (.aload_n 0, 1) := by decide +kernel
theorem dX8_next_61 : decode cX8_next 61 = .ok (.aload_n 0, 1) := by decide +kernel
theorem dX8_next_62 : decode cX8_next 62 = .ok (.getfield 130, 3) := by decide +kernel
theorem dX8_next_65 : decode cX8_next 65 = .ok (.putfield 127, 3) := by decide +kernel
theorem dX8_next_68 : decode cX8_next 68 = .ok (.aload_n 0, 1) := by decide +kernel
theorem dX8_next_69 : decode cX8_next 69 = .ok (.iconst 0, 1) := by decide +kernel
theorem dX8_next_70 : decode cX8_next 70 = .ok (.putfield 124, 3) := by decide +kernel
theorem dX8_next_73 : decode cX8_next 73 = .ok (.aload_n 0, 1) := by decide +kernel
theorem dX8_next_74 : decode cX8_next 74 = .ok (.getfield 130, 3) := by decide +kernel
theorem dX8_next_77 : decode cX8_next 77 = .ok (.aload_n 0, 1) := by decide +kernel
theorem dX8_next_78 : decode cX8_next 78 = .ok (.getfield 121, 3) := by decide +kernel
theorem dX8_next_81 : decode cX8_next 81 = .ok (.if_icmp .ne 10, 3) := by decide +kernel
theorem dX8_next_84 : decode cX8_next 84 = .ok (.aload_n 0, 1) := by decide +kernel
theorem dX8_next_85 : decode cX8_next 85 = .ok (.bipush 101, 2) := by decide +kernel
theorem dX8_next_87 : decode cX8_next 87 = .ok (.putfield 133, 3) := by decide +kernel
theorem dX8_next_90 : decode cX8_next 90 = .ok (.return_, 1) := by decide +kernel
theorem dX8_next_91 : decode cX8_next 91 = .ok (.aload_n 0, 1) := by decide +kernel
theorem dX8_next_92 : decode cX8_next 92 = .ok (.getfield 19, 3) := by decide +kernel
theorem dX8_next_95 : decode cX8_next 95 = .ok (.aload_n 0, 1) := by decide +kernel
theorem dX8_next_96 : decode cX8_next 96 = .ok (.getfield 130, 3) := by decide +kernel
theorem dX8_next_99 : decode cX8_next 99 = .ok (.iaload, 1) := by decide +kernel
theorem dX8_next_100 : decode cX8_next 100 = .ok (.istore_n 1, 1) := by decide +kernel
theorem dX8_next_101 : decode cX8_next 101 = .ok (.iload_n 1, 1) := by decide +kernel
theorem dX8_next_102 : decode cX8_next 102 = .ok (.invokestatic 136, 3) := by decide +kernel
theorem dX8_next_105 : decode cX8_next 105 = .ok (.ifCond .eq 126, 3) := by decide +kernel
theorem dX8_next_108 : decode cX8_next 108 = .ok (.aload_n 0, 1) := by decide +kernel
theorem dX8_next_109 : decode cX8_next 109 = .ok (.getfield 127, 3) := by decide +kernel
theorem dX8_next_112 : decode cX8_next 112 = .ok (.aload_n 0, 1) := by decide +kernel
theorem dX8_next_113 : decode cX8_next 113 = .ok (.getfield 121, 3) := by decide +kernel
theorem dX8_next_116 : decode cX8_next 116 = .ok (.if_icmp .ge 68, 3) := by decide +kernel
theorem dX8_next_119 : decode cX8_next 119 = .ok (.aload_n 0, 1) := by decide +kernel
theorem dX8_next_120 : decode cX8_next 120 = .ok (.getfield 19, 3) := by decide +kernel
theorem dX8_next_123 : decode cX8_next 123 = .ok (.aload_n 0, 1) := by decide +kernel
theorem dX8_next_124 : decode cX8_next 124 = .ok (.getfield 127, 3) := by decide +kernel
theorem dX8_next_127 : decode cX8_next 127 = .ok (.iaload, 1) := by decide +kernel
theorem dX8_next_128 : decode cX8_next 128 = .ok (.invokestatic 136, 3) := by decide +kernel
theorem dX8_next_131 : decode cX8_next 131 = .ok (.ifCond .eq 53, 3) := by decide +kernel
theorem dX8_next_134 : decode cX8_next 134 = .ok (.aload_n 0, 1) := by decide +kernel
theorem dX8_next_135 : decode cX8_next 135 = .ok (.getfield 127, 3) := by decide +kernel
theorem dX8_next_138 : decode cX8_next 138 = .ok (.aload_n 0, 1) := by decide +kernel
theorem dX8_next_139 : decode cX8_next 139 = .ok (.getfield 130, 3) := by decide +kernel
theorem dX8_next_142 : decode cX8_next 142 = .ok (.isub, 1) := by decide +kernel
theorem dX8_next_143 : decode cX8_next 143 = .ok (.iconst 5, 1) := by decide +kernel
theorem dX8_next_144 : decode cX8_next 144 = .ok (.if_icmp .ge 27, 3) := by decide +kernel
theorem dX8_next_147 : decode cX8_next 147 = .ok (.aload_n 0, 1) := by decide +kernel
theorem dX8_next_148 : decode cX8_next 148 = .ok (.bipush 27, 2) := by decide +kernel
theorem dX8_next_150 : decode cX8_next 150 = .ok (.aload_n 0, 1) := by decide +kernel
theorem dX8_next_151 : decode cX8_next 151 = .ok (.getfield 124, 3) := by decide +kernel
theorem dX8_next_154 : decode cX8_next 154 = .ok (.imul, 1) := by decide +kernel
theorem dX8_next_155 : decode cX8_next 155 = .ok (.aload_n 0, 1) := by decide +kernel
theorem dX8_next_156 : decode cX8_next 156 = .ok (.getfield 19, 3) := by decide +kernel
theorem dX8_next_159 : decode cX8_next 159 = .ok (.aload_n 0, 1) := by decide +kernel
theorem dX8_next_160 : decode cX8_next 160 = .ok (.getfield 127, 3) := by decide +kernel
theorem dX8_next_163 : decode cX8_next 163 = .ok (.iaload, 1) := by decide +kernel
theorem dX8_next_164 : decode cX8_next 164 = .ok (.iadd, 1) := by decide +kernel
theorem dX8_next_165 : decode cX8_next 165 = .ok (.bipush 96, 2) := by decide +kernel
theorem dX8_next_167 : decode cX8_next 167 = .ok (.isub, 1) := by decide +kernel
theorem dX8_next_168 : decode cX8_next 168 = .ok (.putfield 124, 3) := by decide +kernel
theorem dX8_next_171 : decode cX8_next 171 = .ok (.aload_n 0, 1) := by decide +kernel
theorem dX8_next_172 : decode cX8_next 172 = .ok (.dup, 1) := by decide +kernel
theorem dX8_next_173 : decode cX8_next 173 = .ok (.getfield 127, 3) := by decide +kernel
theorem dX8_next_176 : decode cX8_next 176 = .ok (.iconst 1, 1) := by decide +kernel
theorem dX8_next_177 : decode cX8_next 177 = .ok (.iadd, 1) := by decide +kernel
theorem dX8_next_178 : decode cX8_next 178 = .ok (.putfield 127, 3) := by decide +kernel
theorem dX8_next_181 : decode cX8_next 181 = .ok (.goto (-73), 3) := by decide +kernel
theorem dX8_next_184 : decode cX8_next 184 = .ok (.aload_n 0, 1) := by decide +kernel
theorem dX8_next_185 : decode cX8_next 185 = .ok (.getfield 127, 3) := by decide +kernel
theorem dX8_next_188 : decode cX8_next 188 = .ok (.aload_n 0, 1) := by decide +kernel
theorem dX8_next_189 : decode cX8_next 189 = .ok (.getfield 130, 3) := by decide +kernel
theorem dX8_next_192 : decode cX8_next 192 = .ok (.isub, 1) := by decide +kernel
theorem dX8_next_193 : decode cX8_next 193 = .ok (.iconst 5, 1) := by decide +kernel
theorem dX8_next_194 : decode cX8_next 194 = .ok (.if_icmp .le 8, 3) := by decide +kernel
theorem dX8_next_197 : decode cX8_next 197 = .ok (.aload_n 0, 1) := by decide +kernel
theorem dX8_next_198 : decode cX8_next 198 = .ok (.iconst (-1), 1) := by decide +kernel
theorem dX8_next_199 : decode cX8_next 199 = .ok (.putfield 124, 3) := by decide +kernel
theorem dX8_next_202 : decode cX8_next 202 = .ok (.aload_n 0, 1) := by decide +kernel
theorem dX8_next_203 : decode cX8_next 203 = .ok (.aload_n 0, 1) := by decide +kernel
theorem dX8_next_204 : decode cX8_next 204 = .ok (.invokevirtual 139, 3) := by decide +kernel
theorem dX8_next_207 : decode cX8_next 207 = .ok (.iconst (-1), 1) := by decide +kernel
theorem dX8_next_208 : decode cX8_next 208 = .ok (.if_icmp .ne 15, 3) := by decide +kernel
theorem dX8_next_211 : decode cX8_next 211 = .ok (.aload_n 0, 1) := by decide +kernel
theorem dX8_next_212 : decode cX8_next 212 = .ok (.invokevirtual 143, 3) := by decide +kernel
theorem dX8_next_215 : decode cX8_next 215 = .ok (.ifCond .ne 8, 3) := by decide +kernel
theorem dX8_next_218 : decode cX8_next 218 = .ok (.bipush 120, 2) := by decide +kernel
theorem dX8_next_220 : decode cX8_next 220 = .ok (.goto 5, 3) := by decide +kernel
theorem dX8_next_223 : decode cX8_next 223 = .ok (.bipush 119, 2) := by decide +kernel
theorem dX8_next_225 : decode cX8_next 225 = .ok (.putfield 133, 3) := by decide +kernel
theorem dX8_next_228 : decode cX8_next 228 = .ok (.goto 145, 3) := by decide +kernel
theorem dX8_next_231 : decode cX8_next 231 = .ok (.iload_n 1, 1) := by decide +kernel
theorem dX8_next_232 : decode cX8_next 232 = .ok (.invokestatic 147, 3) := by decide +kernel
theorem dX8_next_235 : decode cX8_next 235 = .ok (.ifCond .eq 111, 3) := by decide +kernel
theorem dX8_next_238 : decode cX8_next 238 = .ok (.aload_n 0, 1) := by decide +kernel
theorem dX8_next_239 : decode cX8_next 239 = .ok (.iconst 0, 1) := by decide +kernel
theorem dX8_next_240 : decode cX8_next 240 = .ok (.putfield 150, 3) := by decide +kernel
theorem dX8_next_243 : decode cX8_next 243 = .ok (.aload_n 0, 1) := by decide +kernel
theorem dX8_next_244 : decode cX8_next 244 = .ok (.getfield 127, 3) := by decide +kernel
theorem dX8_next_247 : decode cX8_next 247 = .ok (.aload_n 0, 1) := by decide +kernel
theorem dX8_next_248 : decode cX8_next 248 = .ok (.getfield 121, 3) := by decide +kernel
theorem dX8_next_251 : decode cX8_next 251 = .ok (.if_icmp .ge 68, 3) := by decide +kernel
theorem dX8_next_254 : decode cX8_next 254 = .ok (.aload_n 0, 1) := by decide +kernel
theorem dX8_next_255 : decode cX8_next 255 = .ok (.getfield 19, 3) := by decide +kernel
theorem dX8_next_258 : decode cX8_next 258 = .ok (.aload_n 0, 1) := by decide +kernel
theorem dX8_next_259 : decode cX8_next 259 = .ok (.getfield 127, 3) := by decide +kernel
theorem dX8_next_262 : decode cX8_next 262 = .ok (.iaload, 1) := by decide +kernel
theorem dX8_next_263 : decode cX8_next 263 = .ok (.invokestatic 147, 3) := by decide +kernel
theorem dX8_next_266 : decode cX8_next 266 = .ok (.ifCond .eq 53, 3) := by decide +kernel
theorem dX8_next_269 : decode cX8_next 269 = .ok (.aload_n 0, 1) := by decide +kernel
theorem dX8_next_270 : decode cX8_next 270 = .ok (.getfield 127, 3) := by decide +kernel
theorem dX8_next_273 : decode cX8_next 273 = .ok (.aload_n 0, 1) := by decide +kernel
theorem dX8_next_274 : decode cX8_next 274 = .ok (.getfield 130, 3) := by decide +kernel
theorem dX8_next_277 : decode cX8_next 277 = .ok (.isub, 1) := by decide +kernel
theorem dX8_next_278 : decode cX8_next 278 = .ok (.iconst 4, 1) := by decide +kernel
theorem dX8_next_279 : decode cX8_next 279 = .ok (.if_icmp .ge 27, 3) := by decide +kernel
theorem dX8_next_282 : decode cX8_next 282 = .ok (.aload_n 0, 1) := by decide +kernel
theorem dX8_next_283 : decode cX8_next 283 = .ok (.bipush 10, 2) := by decide +kernel
theorem dX8_next_285 : decode cX8_next 285 = .ok (.aload_n 0, 1) := by decide +kernel
theorem dX8_next_286 : decode cX8_next 286 = .ok (.getfield 150, 3) := by decide +kernel
theorem dX8_next_289 : decode cX8_next 289 = .ok (.imul, 1) := by decide +kernel
theorem dX8_next_290 : decode cX8_next 290 = .ok (.aload_n 0, 1) := by decide +kernel
theorem dX8_next_291 : decode cX8_next 291 = .ok (.getfield 19, 3) := by decide +kernel
theorem dX8_next_294 : decode cX8_next 294 = .ok (.aload_n 0, 1) := by decide +kernel
theorem dX8_next_295 : decode cX8_next 295 = .ok (.getfield 127, 3) := by decide +kernel
theorem dX8_next_298 : decode cX8_next 298 = .ok (.iaload, 1) := by decide +kernel
theorem dX8_next_299 : decode cX8_next 299 = .ok (.iadd, 1) := by decide +kernel
theorem dX8_next_300 : decode cX8_next 300 = .ok (.bipush 48, 2) := by decide +kernel
theorem dX8_next_302 : decode cX8_next 302 = .ok (.isub, 1) := by decide +kernel
theorem dX8_next_303 : decode cX8_next 303 = .ok (.putfield 150, 3) := by decide +kernel
theorem dX8_next_306 : decode cX8_next 306 = .ok (.aload_n 0, 1) := by decide +kernel
theorem dX8_next_307 : decode cX8_next 307 = .ok (.dup, 1) := by decide +kernel
theorem dX8_next_308 : decode cX8_next 308 = .ok (.getfield 127, 3) := by decide +kernel
theorem dX8_next_311 : decode cX8_next 311 = .ok (.iconst 1, 1) := by decide +kernel
theorem dX8_next_312 : decode cX8_next 312 = .ok (.iadd, 1) := by decide +kernel
theorem dX8_next_313 : decode cX8_next 313 = .ok (.putfield 127, 3) := by decide +kernel
theorem dX8_next_316 : decode cX8_next 316 = .ok (.goto (-73), 3) := by decide +kernel
theorem dX8_next_319 : decode cX8_next 319 = .ok (.aload_n 0, 1) := by decide +kernel
theorem dX8_next_320 : decode cX8_next 320 = .ok (.aload_n 0, 1) := by decide +kernel
theorem dX8_next_321 : decode cX8_next 321 = .ok (.getfield 127, 3) := by decide +kernel
theorem dX8_next_324 : decode cX8_next 324 = .ok (.aload_n 0, 1) := by decide +kernel
theorem dX8_next_325 : decode cX8_next 325 = .ok (.getfield 130, 3) := by decide +kernel
theorem dX8_next_328 : decode cX8_next 328 = .ok (.isub, 1) := by decide +kernel
theorem dX8_next_329 : decode cX8_next 329 = .ok (.iconst 4, 1) := by decide +kernel
theorem dX8_next_330 : decode cX8_next 330 = .ok (.if_icmp .le 8, 3) := by decide +kernel
theorem dX8_next_333 : decode cX8_next 333 = .ok (.bipush 120, 2) := by decide +kernel
theorem dX8_next_335 : decode cX8_next 335 = .ok (.goto 5, 3) := by decide +kernel
theorem dX8_next_338 : decode cX8_next 338 = .ok (.bipush 48, 2) := by decide +kernel
theorem dX8_next_340 : decode cX8_next 340 = .ok (.putfield 133, 3) := by decide +kernel
theorem dX8_next_343 : decode cX8_next 343 = .ok (.goto 30, 3) := by decide +kernel
theorem dX8_next_346 : decode cX8_next 346 = .ok (.aload_n 0, 1) := by decide +kernel
theorem dX8_next_347 : decode cX8_next 347 = .ok (.dup, 1) := by decide +kernel
theorem dX8_next_348 : decode cX8_next 348 = .ok (.getfield 127, 3) := by decide +kernel
theorem dX8_next_351 : decode cX8_next 351 = .ok (.iconst 1, 1) := by decide +kernel
theorem dX8_next_352 : decode cX8_next 352 = .ok (.iadd, 1) := by decide +kernel
theorem dX8_next_353 : decode cX8_next 353 = .ok (.putfield 127, 3) := by decide +kernel
theorem dX8_next_356 : decode cX8_next 356 = .ok (.aload_n 0, 1) := by decide +kernel
theorem dX8_next_357 : decode cX8_next 357 = .ok (.iload_n 1, 1) := by decide +kernel
theorem dX8_next_358 : decode cX8_next 358 = .ok (.invokestatic 153, 3) := by decide +kernel
theorem dX8_next_361 : decode cX8_next 361 = .ok (.ifCond .eq 7, 3) := by decide +kernel
theorem dX8_next_364 : decode cX8_next 364 = .ok (.iload_n 1, 1) := by decide +kernel
theorem dX8_next_365 : decode cX8_next 365 = .ok (.goto 5, 3) := by decide +kernel
theorem dX8_next_368 : decode cX8_next 368 = .ok (.bipush 120, 2) := by decide +kernel
theorem dX8_next_370 : decode cX8_next 370 = .ok (.putfield 133, 3) := by decide +kernel
theorem dX8_next_373 : decode cX8_next 373 = .ok (.return_, 1) := by decide +kernel
theorem dX8_takes_0 : decode cX8_takes 0 = .ok (.aload_n 0, 1) := by decide +kernel
theorem dX8_takes_1 : decode cX8_takes 1 = .ok (.getfield 133, 3) := by decide +kernel
theorem dX8_takes_4 : decode cX8_takes 4 = .ok (.bipush 119, 2) := by decide +kernel
theorem dX8_takes_6 : decode cX8_takes 6 = .ok (.if_icmp .ne 11, 3) := by decide +kernel
theorem dX8_takes_9 : decode cX8_takes 9 = .ok (.aload_n 0, 1) := by decide +kernel
theorem dX8_takes_10 : decode cX8_takes 10 = .ok (.getfield 124, 3) := by decide +kernel
theorem dX8_takes_13 : decode cX8_takes 13 = .ok (.iload_n 1, 1) := by decide +kernel
theorem dX8_takes_14 : decode cX8_takes 14 = .ok (.if_icmp .eq 5, 3) := by decide +kernel
theorem dX8_takes_17 : decode cX8_takes 17 = .ok (.iconst 0, 1) := by decide +kernel
theorem dX8_takes_18 : decode cX8_takes 18 = .ok (.ireturn, 1) := by decide +kernel
theorem dX8_takes_19 : decode cX8_takes 19 = .ok (.aload_n 0, 1) := by decide +kernel
theorem dX8_takes_20 : decode cX8_takes 20 = .ok (.invokevirtual 156, 3) := by decide +kernel
theorem dX8_takes_23 : decode cX8_takes 23 = .ok (.iconst 1, 1) := by decide +kernel
theorem dX8_takes_24 : decode cX8_takes 24 = .ok (.ireturn, 1) := by decide +kernel
theorem dX8_codes_0 : decode cX8_codes 0 = .ok (.aload_n 0, 1) := by decide +kernel
theorem dX8_codes_1 : decode cX8_codes 1 = .ok (.getfield 28, 3) := by decide +kernel
theorem dX8_codes_4 : decode cX8_codes 4 = .ok (.aload_n 0, 1) := by decide +kernel
theorem dX8_codes_5 : decode cX8_codes 5 = .ok (.dup, 1) := by decide +kernel
theorem dX8_codes_6 : decode cX8_codes 6 = .ok (.getfield 159, 3) := by decide +kernel
theorem dX8_codes_9 : decode cX8_codes 9 = .ok (.dup_x1, 1) := by decide +kernel
theorem dX8_codes_10 : decode cX8_codes 10 = .ok (.iconst 1, 1) := by decide +kernel
theorem dX8_codes_11 : decode cX8_codes 11 = .ok (.iadd, 1) := by decide +kernel
theorem dX8_codes_12 : decode cX8_codes 12 = .ok (.putfield 159, 3) := by decide +kernel
theorem dX8_codes_15 : decode cX8_codes 15 = .ok (.iload_n 1, 1) := by decide +kernel
theorem dX8_codes_16 : decode cX8_codes 16 = .ok (.iastore, 1) := by decide +kernel
theorem dX8_codes_17 : decode cX8_codes 17 = .ok (.return_, 1) := by decide +kernel
theorem dX8_rank_0 : decode cX8_rank 0 = .ok (.iload_n 0, 1) := by decide +kernel
theorem dX8_rank_1 : decode cX8_rank 1 = .ok (.tableswitch 67 6 14 #[59, 59, 61, 57, 57, 53, 51, 55, 64], 51) := by decide +kernel
theorem dX8_rank_52 : decode cX8_rank 52 = .ok (.iconst 1, 1) := by decide +kernel
theorem dX8_rank_53 : decode cX8_rank 53 = .ok (.ireturn, 1) := by decide +kernel
theorem dX8_rank_54 : decode cX8_rank 54 = .ok (.iconst 2, 1) := by decide +kernel
theorem dX8_rank_55 : decode cX8_rank 55 = .ok (.ireturn, 1) := by decide +kernel
theorem dX8_rank_56 : decode cX8_rank 56 = .ok (.iconst 3, 1) := by decide +kernel
theorem dX8_rank_57 : decode cX8_rank 57 = .ok (.ireturn, 1) := by decide +kernel
theorem dX8_rank_58 : decode cX8_rank 58 = .ok (.iconst 4, 1) := by decide +kernel
theorem dX8_rank_59 : decode cX8_rank 59 = .ok (.ireturn, 1) := by decide +kernel
theorem dX8_rank_60 : decode cX8_rank 60 = .ok (.iconst 5, 1) := by decide +kernel
theorem dX8_rank_61 : decode cX8_rank 61 = .ok (.ireturn, 1) := by decide +kernel
theorem dX8_rank_62 : decode cX8_rank 62 = .ok (.bipush 6, 2) := by decide +kernel
theorem dX8_rank_64 : decode cX8_rank 64 = .ok (.ireturn, 1) := by decide +kernel
theorem dX8_rank_65 : decode cX8_rank 65 = .ok (.bipush 7, 2) := by decide +kernel
theorem dX8_rank_67 : decode cX8_rank 67 = .ok (.ireturn, 1) := by decide +kernel
theorem dX8_rank_68 : decode cX8_rank 68 = .ok (.iconst 0, 1) := by decide +kernel
theorem dX8_rank_69 : decode cX8_rank 69 = .ok (.ireturn, 1) := by decide +kernel
theorem dX8_lays_0 : decode cX8_lays 0 = .ok (.aload_n 0, 1) := by decide +kernel
theorem dX8_lays_1 : decode cX8_lays 1 = .ok (.getfield 162, 3) := by decide +kernel
theorem dX8_lays_4 : decode cX8_lays 4 = .ok (.ifCond .le 85, 3) := by decide +kernel
theorem dX8_lays_7 : decode cX8_lays 7 = .ok (.aload_n 0, 1) := by decide +kernel
theorem dX8_lays_8 : decode cX8_lays 8 = .ok (.getfield 31, 3) := by decide +kernel
theorem dX8_lays_11 : decode cX8_lays 11 = .ok (.aload_n 0, 1) := by decide +kernel
theorem dX8_lays_12 : decode cX8_lays 12 = .ok (.getfield 162, 3) := by decide +kernel
theorem dX8_lays_15 : decode cX8_lays 15 = .ok (.iconst 1, 1) := by decide +kernel
theorem dX8_lays_16 : decode cX8_lays 16 = .ok (.isub, 1) := by decide +kernel
theorem dX8_lays_17 : decode cX8_lays 17 = .ok (.iaload, 1) := by decide +kernel
theorem dX8_lays_18 : decode cX8_lays 18 = .ok (.invokestatic 165, 3) := by decide +kernel
theorem dX8_lays_21 : decode cX8_lays 21 = .ok (.iload_n 1, 1) := by decide +kernel
theorem dX8_lays_22 : decode cX8_lays 22 = .ok (.if_icmp .lt 67, 3) := by decide +kernel
theorem dX8_lays_25 : decode cX8_lays 25 = .ok (.aload_n 0, 1) := by decide +kernel
theorem dX8_lays_26 : decode cX8_lays 26 = .ok (.dup, 1) := by decide +kernel
theorem dX8_lays_27 : decode cX8_lays 27 = .ok (.getfield 162, 3) := by decide +kernel
theorem dX8_lays_30 : decode cX8_lays 30 = .ok (.iconst 1, 1) := by decide +kernel
theorem dX8_lays_31 : decode cX8_lays 31 = .ok (.isub, 1) := by decide +kernel
theorem dX8_lays_32 : decode cX8_lays 32 = .ok (.putfield 162, 3) := by decide +kernel
theorem dX8_lays_35 : decode cX8_lays 35 = .ok (.aload_n 0, 1) := by decide +kernel
theorem dX8_lays_36 : decode cX8_lays 36 = .ok (.aload_n 0, 1) := by decide +kernel
theorem dX8_lays_37 : decode cX8_lays 37 = .ok (.getfield 31, 3) := by decide +kernel
theorem dX8_lays_40 : decode cX8_lays 40 = .ok (.aload_n 0, 1) := by decide +kernel
theorem dX8_lays_41 : decode cX8_lays 41 = .ok (.getfield 162, 3) := by decide +kernel
theorem dX8_lays_44 : decode cX8_lays 44 = .ok (.iaload, 1) := by decide +kernel
theorem dX8_lays_45 : decode cX8_lays 45 = .ok (.invokevirtual 74, 3) := by decide +kernel
theorem dX8_lays_48 : decode cX8_lays 48 = .ok (.aload_n 0, 1) := by decide +kernel
theorem dX8_lays_49 : decode cX8_lays 49 = .ok (.getfield 31, 3) := by decide +kernel
theorem dX8_lays_52 : decode cX8_lays 52 = .ok (.aload_n 0, 1) := by decide +kernel
theorem dX8_lays_53 : decode cX8_lays 53 = .ok (.getfield 162, 3) := by decide +kernel
theorem dX8_lays_56 : decode cX8_lays 56 = .ok (.iaload, 1) := by decide +kernel
theorem dX8_lays_57 : decode cX8_lays 57 = .ok (.bipush 13, 2) := by decide +kernel
theorem dX8_lays_59 : decode cX8_lays 59 = .ok (.if_icmp .eq 17, 3) := by decide +kernel
theorem dX8_lays_62 : decode cX8_lays 62 = .ok (.aload_n 0, 1) := by decide +kernel
theorem dX8_lays_63 : decode cX8_lays 63 = .ok (.getfield 31, 3) := by decide +kernel
theorem dX8_lays_66 : decode cX8_lays 66 = .ok (.aload_n 0, 1) := by decide +kernel
theorem dX8_lays_67 : decode cX8_lays 67 = .ok (.getfield 162, 3) := by decide +kernel
theorem dX8_lays_70 : decode cX8_lays 70 = .ok (.iaload, 1) := by decide +kernel
theorem dX8_lays_71 : decode cX8_lays 71 = .ok (.bipush 14, 2) := by decide +kernel
theorem dX8_lays_73 : decode cX8_lays 73 = .ok (.if_icmp .ne (-73), 3) := by decide +kernel
theorem dX8_lays_76 : decode cX8_lays 76 = .ok (.aload_n 0, 1) := by decide +kernel
theorem dX8_lays_77 : decode cX8_lays 77 = .ok (.dup, 1) := by decide +kernel
theorem dX8_lays_78 : decode cX8_lays 78 = .ok (.getfield 168, 3) := by decide +kernel
theorem dX8_lays_81 : decode cX8_lays 81 = .ok (.iconst 1, 1) := by decide +kernel
theorem dX8_lays_82 : decode cX8_lays 82 = .ok (.isub, 1) := by decide +kernel
theorem dX8_lays_83 : decode cX8_lays 83 = .ok (.putfield 168, 3) := by decide +kernel
theorem dX8_lays_86 : decode cX8_lays 86 = .ok (.goto (-86), 3) := by decide +kernel
theorem dX8_lays_89 : decode cX8_lays 89 = .ok (.return_, 1) := by decide +kernel
theorem dX8_push_0 : decode cX8_push 0 = .ok (.aload_n 0, 1) := by decide +kernel
theorem dX8_push_1 : decode cX8_push 1 = .ok (.getfield 31, 3) := by decide +kernel
theorem dX8_push_4 : decode cX8_push 4 = .ok (.aload_n 0, 1) := by decide +kernel
theorem dX8_push_5 : decode cX8_push 5 = .ok (.dup, 1) := by decide +kernel
theorem dX8_push_6 : decode cX8_push 6 = .ok (.getfield 162, 3) := by decide +kernel
theorem dX8_push_9 : decode cX8_push 9 = .ok (.dup_x1, 1) := by decide +kernel
theorem dX8_push_10 : decode cX8_push 10 = .ok (.iconst 1, 1) := by decide +kernel
theorem dX8_push_11 : decode cX8_push 11 = .ok (.iadd, 1) := by decide +kernel
theorem dX8_push_12 : decode cX8_push 12 = .ok (.putfield 162, 3) := by decide +kernel
theorem dX8_push_15 : decode cX8_push 15 = .ok (.iload_n 1, 1) := by decide +kernel
theorem dX8_push_16 : decode cX8_push 16 = .ok (.iastore, 1) := by decide +kernel
theorem dX8_push_17 : decode cX8_push 17 = .ok (.iload_n 1, 1) := by decide +kernel
theorem dX8_push_18 : decode cX8_push 18 = .ok (.bipush 13, 2) := by decide +kernel
theorem dX8_push_20 : decode cX8_push 20 = .ok (.if_icmp .eq 16, 3) := by decide +kernel
theorem dX8_push_23 : decode cX8_push 23 = .ok (.iload_n 1, 1) := by decide +kernel
theorem dX8_push_24 : decode cX8_push 24 = .ok (.bipush 14, 2) := by decide +kernel
theorem dX8_push_26 : decode cX8_push 26 = .ok (.if_icmp .eq 10, 3) := by decide +kernel
theorem dX8_push_29 : decode cX8_push 29 = .ok (.iload_n 1, 1) := by decide +kernel
theorem dX8_push_30 : decode cX8_push 30 = .ok (.invokestatic 165, 3) := by decide +kernel
theorem dX8_push_33 : decode cX8_push 33 = .ok (.ifCond .ne 13, 3) := by decide +kernel
theorem dX8_push_36 : decode cX8_push 36 = .ok (.aload_n 0, 1) := by decide +kernel
theorem dX8_push_37 : decode cX8_push 37 = .ok (.dup, 1) := by decide +kernel
theorem dX8_push_38 : decode cX8_push 38 = .ok (.getfield 168, 3) := by decide +kernel
theorem dX8_push_41 : decode cX8_push 41 = .ok (.iconst 1, 1) := by decide +kernel
theorem dX8_push_42 : decode cX8_push 42 = .ok (.iadd, 1) := by decide +kernel
theorem dX8_push_43 : decode cX8_push 43 = .ok (.putfield 168, 3) := by decide +kernel
theorem dX8_push_46 : decode cX8_push 46 = .ok (.return_, 1) := by decide +kernel
theorem dX8_one_0 : decode cX8_one 0 = .ok (.aload_n 0, 1) := by decide +kernel
theorem dX8_one_1 : decode cX8_one 1 = .ok (.getfield 133, 3) := by decide +kernel
theorem dX8_one_4 : decode cX8_one 4 = .ok (.bipush 119, 2) := by decide +kernel
theorem dX8_one_6 : decode cX8_one 6 = .ok (.if_icmp .ne 10, 3) := by decide +kernel
theorem dX8_one_9 : decode cX8_one 9 = .ok (.aload_n 0, 1) := by decide +kernel
theorem dX8_one_10 : decode cX8_one 10 = .ok (.invokevirtual 139, 3) := by decide +kernel
theorem dX8_one_13 : decode cX8_one 13 = .ok (.goto 4, 3) := by decide +kernel
theorem dX8_one_16 : decode cX8_one 16 = .ok (.iconst (-1), 1) := by decide +kernel
theorem dX8_one_17 : decode cX8_one 17 = .ok (.istore_n 2, 1) := by decide +kernel
theorem dX8_one_18 : decode cX8_one 18 = .ok (.aload_n 0, 1) := by decide +kernel
theorem dX8_one_19 : decode cX8_one 19 = .ok (.getfield 133, 3) := by decide +kernel
theorem dX8_one_22 : decode cX8_one 22 = .ok (.bipush 48, 2) := by decide +kernel
theorem dX8_one_24 : decode cX8_one 24 = .ok (.if_icmp .eq 8, 3) := by decide +kernel
theorem dX8_one_27 : decode cX8_one 27 = .ok (.iload_n 2, 1) := by decide +kernel
theorem dX8_one_28 : decode cX8_one 28 = .ok (.iconst (-1), 1) := by decide +kernel
theorem dX8_one_29 : decode cX8_one 29 = .ok (.if_icmp .eq 36, 3) := by decide +kernel
theorem dX8_one_32 : decode cX8_one 32 = .ok (.aload_n 0, 1) := by decide +kernel
theorem dX8_one_33 : decode cX8_one 33 = .ok (.iload_n 2, 1) := by decide +kernel
theorem dX8_one_34 : decode cX8_one 34 = .ok (.iconst (-1), 1) := by decide +kernel
theorem dX8_one_35 : decode cX8_one 35 = .ok (.if_icmp .ne 13, 3) := by decide +kernel
theorem dX8_one_38 : decode cX8_one 38 = .ok (.bipush 15, 2) := by decide +kernel
theorem dX8_one_40 : decode cX8_one 40 = .ok (.aload_n 0, 1) := by decide +kernel
theorem dX8_one_41 : decode cX8_one 41 = .ok (.getfield 150, 3) := by decide +kernel
theorem dX8_one_44 : decode cX8_one 44 = .ok (.iadd, 1) := by decide +kernel
theorem dX8_one_45 : decode cX8_one 45 = .ok (.goto 4, 3) := by decide +kernel
theorem dX8_one_48 : decode cX8_one 48 = .ok (.iload_n 2, 1) := by decide +kernel
theorem dX8_one_49 : decode cX8_one 49 = .ok (.invokevirtual 74, 3) := by decide +kernel
theorem dX8_one_52 : decode cX8_one 52 = .ok (.aload_n 0, 1) := by decide +kernel
theorem dX8_one_53 : decode cX8_one 53 = .ok (.bipush 7, 2) := by decide +kernel
theorem dX8_one_55 : decode cX8_one 55 = .ok (.invokevirtual 171, 3) := by decide +kernel
theorem dX8_one_58 : decode cX8_one 58 = .ok (.aload_n 0, 1) := by decide +kernel
theorem dX8_one_59 : decode cX8_one 59 = .ok (.iconst 1, 1) := by decide +kernel
theorem dX8_one_60 : decode cX8_one 60 = .ok (.putfield 174, 3) := by decide +kernel
theorem dX8_one_63 : decode cX8_one 63 = .ok (.iconst 1, 1) := by decide +kernel
theorem dX8_one_64 : decode cX8_one 64 = .ok (.ireturn, 1) := by decide +kernel
theorem dX8_one_65 : decode cX8_one 65 = .ok (.iload_n 1, 1) := by decide +kernel
theorem dX8_one_66 : decode cX8_one 66 = .ok (.ifCond .eq 26, 3) := by decide +kernel
theorem dX8_one_69 : decode cX8_one 69 = .ok (.aload_n 0, 1) := by decide +kernel
theorem dX8_one_70 : decode cX8_one 70 = .ok (.getfield 133, 3) := by decide +kernel
theorem dX8_one_73 : decode cX8_one 73 = .ok (.bipush 119, 2) := by decide +kernel
theorem dX8_one_75 : decode cX8_one 75 = .ok (.if_icmp .ne 17, 3) := by decide +kernel
theorem dX8_one_78 : decode cX8_one 78 = .ok (.aload_n 0, 1) := by decide +kernel
theorem dX8_one_79 : decode cX8_one 79 = .ok (.getfield 124, 3) := by decide +kernel
theorem dX8_one_82 : decode cX8_one 82 = .ok (.sipush 10631, 3) := by decide +kernel
theorem dX8_one_85 : decode cX8_one 85 = .ok (.if_icmp .ne 7, 3) := by decide +kernel
theorem dX8_one_88 : decode cX8_one 88 = .ok (.iconst 1, 1) := by decide +kernel
theorem dX8_one_89 : decode cX8_one 89 = .ok (.goto 4, 3) := by decide +kernel
theorem dX8_one_92 : decode cX8_one 92 = .ok (.iconst 0, 1) := by decide +kernel
theorem dX8_one_93 : decode cX8_one 93 = .ok (.istore_n 3, 1) := by decide +kernel
theorem dX8_one_94 : decode cX8_one 94 = .ok (.iload_n 3, 1) := by decide +kernel
theorem dX8_one_95 : decode cX8_one 95 = .ok (.ifCond .ne 21, 3) := by decide +kernel
theorem dX8_one_98 : decode cX8_one 98 = .ok (.aload_n 0, 1) := by decide +kernel
theorem dX8_one_99 : decode cX8_one 99 = .ok (.getfield 133, 3) := by decide +kernel
theorem dX8_one_102 : decode cX8_one 102 = .ok (.bipush 45, 2) := by decide +kernel
theorem dX8_one_104 : decode cX8_one 104 = .ok (.if_icmp .eq 12, 3) := by decide +kernel
theorem dX8_one_107 : decode cX8_one 107 = .ok (.aload_n 0, 1) := by decide +kernel
theorem dX8_one_108 : decode cX8_one 108 = .ok (.getfield 133, 3) := by decide +kernel
theorem dX8_one_111 : decode cX8_one 111 = .ok (.bipush 40, 2) := by decide +kernel
theorem dX8_one_113 : decode cX8_one 113 = .ok (.if_icmp .ne 11, 3) := by decide +kernel
theorem dX8_one_116 : decode cX8_one 116 = .ok (.aload_n 0, 1) := by decide +kernel
theorem dX8_one_117 : decode cX8_one 117 = .ok (.getfield 168, 3) := by decide +kernel
theorem dX8_one_120 : decode cX8_one 120 = .ok (.iconst 5, 1) := by decide +kernel
theorem dX8_one_121 : decode cX8_one 121 = .ok (.if_icmp .ne 5, 3) := by decide +kernel
theorem dX8_one_124 : decode cX8_one 124 = .ok (.iconst 0, 1) := by decide +kernel
theorem dX8_one_125 : decode cX8_one 125 = .ok (.ireturn, 1) := by decide +kernel
theorem dX8_one_126 : decode cX8_one 126 = .ok (.aload_n 0, 1) := by decide +kernel
theorem dX8_one_127 : decode cX8_one 127 = .ok (.getfield 133, 3) := by decide +kernel
theorem dX8_one_130 : decode cX8_one 130 = .ok (.bipush 40, 2) := by decide +kernel
theorem dX8_one_132 : decode cX8_one 132 = .ok (.if_icmp .ne 28, 3) := by decide +kernel
theorem dX8_one_135 : decode cX8_one 135 = .ok (.aload_n 0, 1) := by decide +kernel
theorem dX8_one_136 : decode cX8_one 136 = .ok (.aload_n 0, 1) := by decide +kernel
theorem dX8_one_137 : decode cX8_one 137 = .ok (.getfield 178, 3) := by decide +kernel
theorem dX8_one_140 : decode cX8_one 140 = .ok (.ifCond .eq 8, 3) := by decide +kernel
theorem dX8_one_143 : decode cX8_one 143 = .ok (.bipush (-2), 2) := by decide +kernel
theorem dX8_one_145 : decode cX8_one 145 = .ok (.goto 4, 3) := by decide +kernel
theorem dX8_one_148 : decode cX8_one 148 = .ok (.iconst (-1), 1) := by decide +kernel
theorem dX8_one_149 : decode cX8_one 149 = .ok (.invokevirtual 181, 3) := by decide +kernel
theorem dX8_one_152 : decode cX8_one 152 = .ok (.aload_n 0, 1) := by decide +kernel
theorem dX8_one_153 : decode cX8_one 153 = .ok (.iconst 0, 1) := by decide +kernel
theorem dX8_one_154 : decode cX8_one 154 = .ok (.putfield 178, 3) := by decide +kernel
theorem dX8_one_157 : decode cX8_one 157 = .ok (.goto 18, 3) := by decide +kernel
theorem dX8_one_160 : decode cX8_one 160 = .ok (.aload_n 0, 1) := by decide +kernel
theorem dX8_one_161 : decode cX8_one 161 = .ok (.iload_n 3, 1) := by decide +kernel
theorem dX8_one_162 : decode cX8_one 162 = .ok (.ifCond .eq 8, 3) := by decide +kernel
theorem dX8_one_165 : decode cX8_one 165 = .ok (.bipush 13, 2) := by decide +kernel
theorem dX8_one_167 : decode cX8_one 167 = .ok (.goto 5, 3) := by decide +kernel
theorem dX8_one_170 : decode cX8_one 170 = .ok (.bipush 14, 2) := by decide +kernel
theorem dX8_one_172 : decode cX8_one 172 = .ok (.invokevirtual 181, 3) := by decide +kernel
theorem dX8_one_175 : decode cX8_one 175 = .ok (.aload_n 0, 1) := by decide +kernel
theorem dX8_one_176 : decode cX8_one 176 = .ok (.aload_n 0, 1) := by decide +kernel
theorem dX8_one_177 : decode cX8_one 177 = .ok (.getfield 133, 3) := by decide +kernel
theorem dX8_one_180 : decode cX8_one 180 = .ok (.bipush 45, 2) := by decide +kernel
theorem dX8_one_182 : decode cX8_one 182 = .ok (.if_icmp .eq 7, 3) := by decide +kernel
theorem dX8_one_185 : decode cX8_one 185 = .ok (.iconst 1, 1) := by decide +kernel
theorem dX8_one_186 : decode cX8_one 186 = .ok (.goto 4, 3) := by decide +kernel
theorem dX8_one_189 : decode cX8_one 189 = .ok (.iconst 0, 1) := by decide +kernel
theorem dX8_one_190 : decode cX8_one 190 = .ok (.putfield 184, 3) := by decide +kernel
theorem dX8_one_193 : decode cX8_one 193 = .ok (.iconst 1, 1) := by decide +kernel
theorem dX8_one_194 : decode cX8_one 194 = .ok (.ireturn, 1) := by decide +kernel
theorem dX8_signed_0 : decode cX8_signed 0 = .ok (.aload_n 0, 1) := by decide +kernel
theorem dX8_signed_1 : decode cX8_signed 1 = .ok (.getfield 133, 3) := by decide +kernel
theorem dX8_signed_4 : decode cX8_signed 4 = .ok (.lookupswitch 129 #[(42, 60), (43, 63), (45, 66), (60, 69), (61, 83), (119, 97)], 60) := by decide +kernel
theorem dX8_signed_64 : decode cX8_signed 64 = .ok (.bipush 8, 2) := by decide +kernel
theorem dX8_signed_66 : decode cX8_signed 66 = .ok (.ireturn, 1) := by decide +kernel
theorem dX8_signed_67 : decode cX8_signed 67 = .ok (.bipush 6, 2) := by decide +kernel
theorem dX8_signed_69 : decode cX8_signed 69 = .ok (.ireturn, 1) := by decide +kernel
theorem dX8_signed_70 : decode cX8_signed 70 = .ok (.bipush 7, 2) := by decide +kernel
theorem dX8_signed_72 : decode cX8_signed 72 = .ok (.ireturn, 1) := by decide +kernel
theorem dX8_signed_73 : decode cX8_signed 73 = .ok (.aload_n 0, 1) := by decide +kernel
theorem dX8_signed_74 : decode cX8_signed 74 = .ok (.getfield 178, 3) := by decide +kernel
theorem dX8_signed_77 : decode cX8_signed 77 = .ok (.ifCond .eq 7, 3) := by decide +kernel
theorem dX8_signed_80 : decode cX8_signed 80 = .ok (.iconst (-1), 1) := by decide +kernel
theorem dX8_signed_81 : decode cX8_signed 81 = .ok (.goto 5, 3) := by decide +kernel
theorem dX8_signed_84 : decode cX8_signed 84 = .ok (.bipush 9, 2) := by decide +kernel
theorem dX8_signed_86 : decode cX8_signed 86 = .ok (.ireturn, 1) := by decide +kernel
theorem dX8_signed_87 : decode cX8_signed 87 = .ok (.aload_n 0, 1) := by decide +kernel
theorem dX8_signed_88 : decode cX8_signed 88 = .ok (.getfield 178, 3) := by decide +kernel
theorem dX8_signed_91 : decode cX8_signed 91 = .ok (.ifCond .eq 7, 3) := by decide +kernel
theorem dX8_signed_94 : decode cX8_signed 94 = .ok (.iconst (-1), 1) := by decide +kernel
theorem dX8_signed_95 : decode cX8_signed 95 = .ok (.goto 5, 3) := by decide +kernel
theorem dX8_signed_98 : decode cX8_signed 98 = .ok (.bipush 10, 2) := by decide +kernel
theorem dX8_signed_100 : decode cX8_signed 100 = .ok (.ireturn, 1) := by decide +kernel
theorem dX8_signed_101 : decode cX8_signed 101 = .ok (.aload_n 0, 1) := by decide +kernel
theorem dX8_signed_102 : decode cX8_signed 102 = .ok (.getfield 124, 3) := by decide +kernel
theorem dX8_signed_105 : decode cX8_signed 105 = .ok (.sipush 1111, 3) := by decide +kernel
theorem dX8_signed_108 : decode cX8_signed 108 = .ok (.if_icmp .ne 8, 3) := by decide +kernel
theorem dX8_signed_111 : decode cX8_signed 111 = .ok (.bipush 11, 2) := by decide +kernel
theorem dX8_signed_113 : decode cX8_signed 113 = .ok (.goto 19, 3) := by decide +kernel
theorem dX8_signed_116 : decode cX8_signed 116 = .ok (.aload_n 0, 1) := by decide +kernel
theorem dX8_signed_117 : decode cX8_signed 117 = .ok (.getfield 124, 3) := by decide +kernel
theorem dX8_signed_120 : decode cX8_signed 120 = .ok (.sipush 423, 3) := by decide +kernel
theorem dX8_signed_123 : decode cX8_signed 123 = .ok (.if_icmp .ne 8, 3) := by decide +kernel
theorem dX8_signed_126 : decode cX8_signed 126 = .ok (.bipush 12, 2) := by decide +kernel
theorem dX8_signed_128 : decode cX8_signed 128 = .ok (.goto 4, 3) := by decide +kernel
theorem dX8_signed_131 : decode cX8_signed 131 = .ok (.iconst (-1), 1) := by decide +kernel
theorem dX8_signed_132 : decode cX8_signed 132 = .ok (.ireturn, 1) := by decide +kernel
theorem dX8_signed_133 : decode cX8_signed 133 = .ok (.iconst (-1), 1) := by decide +kernel
theorem dX8_signed_134 : decode cX8_signed 134 = .ok (.ireturn, 1) := by decide +kernel
theorem dX8_closes_0 : decode cX8_closes 0 = .ok (.aload_n 0, 1) := by decide +kernel
theorem dX8_closes_1 : decode cX8_closes 1 = .ok (.iconst 1, 1) := by decide +kernel
theorem dX8_closes_2 : decode cX8_closes 2 = .ok (.invokevirtual 171, 3) := by decide +kernel
theorem dX8_closes_5 : decode cX8_closes 5 = .ok (.aload_n 0, 1) := by decide +kernel
theorem dX8_closes_6 : decode cX8_closes 6 = .ok (.getfield 162, 3) := by decide +kernel
theorem dX8_closes_9 : decode cX8_closes 9 = .ok (.ifCond .ne 5, 3) := by decide +kernel
theorem dX8_closes_12 : decode cX8_closes 12 = .ok (.iconst 0, 1) := by decide +kernel
theorem dX8_closes_13 : decode cX8_closes 13 = .ok (.ireturn, 1) := by decide +kernel
theorem dX8_closes_14 : decode cX8_closes 14 = .ok (.aload_n 0, 1) := by decide +kernel
theorem dX8_closes_15 : decode cX8_closes 15 = .ok (.dup, 1) := by decide +kernel
theorem dX8_closes_16 : decode cX8_closes 16 = .ok (.getfield 162, 3) := by decide +kernel
theorem dX8_closes_19 : decode cX8_closes 19 = .ok (.iconst 1, 1) := by decide +kernel
theorem dX8_closes_20 : decode cX8_closes 20 = .ok (.isub, 1) := by decide +kernel
theorem dX8_closes_21 : decode cX8_closes 21 = .ok (.putfield 162, 3) := by decide +kernel
theorem dX8_closes_24 : decode cX8_closes 24 = .ok (.aload_n 0, 1) := by decide +kernel
theorem dX8_closes_25 : decode cX8_closes 25 = .ok (.aload_n 0, 1) := by decide +kernel
theorem dX8_closes_26 : decode cX8_closes 26 = .ok (.getfield 31, 3) := by decide +kernel
theorem dX8_closes_29 : decode cX8_closes 29 = .ok (.aload_n 0, 1) := by decide +kernel
theorem dX8_closes_30 : decode cX8_closes 30 = .ok (.getfield 162, 3) := by decide +kernel
theorem dX8_closes_33 : decode cX8_closes 33 = .ok (.iaload, 1) := by decide +kernel
theorem dX8_closes_34 : decode cX8_closes 34 = .ok (.bipush (-2), 2) := by decide +kernel
theorem dX8_closes_36 : decode cX8_closes 36 = .ok (.if_icmp .ne 7, 3) := by decide +kernel
theorem dX8_closes_39 : decode cX8_closes 39 = .ok (.iconst 1, 1) := by decide +kernel
theorem dX8_closes_40 : decode cX8_closes 40 = .ok (.goto 4, 3) := by decide +kernel
theorem dX8_closes_43 : decode cX8_closes 43 = .ok (.iconst 0, 1) := by decide +kernel
theorem dX8_closes_44 : decode cX8_closes 44 = .ok (.putfield 178, 3) := by decide +kernel
theorem dX8_closes_47 : decode cX8_closes 47 = .ok (.aload_n 0, 1) := by decide +kernel
theorem dX8_closes_48 : decode cX8_closes 48 = .ok (.dup, 1) := by decide +kernel
theorem dX8_closes_49 : decode cX8_closes 49 = .ok (.getfield 168, 3) := by decide +kernel
theorem dX8_closes_52 : decode cX8_closes 52 = .ok (.iconst 1, 1) := by decide +kernel
theorem dX8_closes_53 : decode cX8_closes 53 = .ok (.isub, 1) := by decide +kernel
theorem dX8_closes_54 : decode cX8_closes 54 = .ok (.putfield 168, 3) := by decide +kernel
theorem dX8_closes_57 : decode cX8_closes 57 = .ok (.aload_n 0, 1) := by decide +kernel
theorem dX8_closes_58 : decode cX8_closes 58 = .ok (.bipush 7, 2) := by decide +kernel
theorem dX8_closes_60 : decode cX8_closes 60 = .ok (.invokevirtual 171, 3) := by decide +kernel
theorem dX8_closes_63 : decode cX8_closes 63 = .ok (.iconst 1, 1) := by decide +kernel
theorem dX8_closes_64 : decode cX8_closes 64 = .ok (.ireturn, 1) := by decide +kernel
theorem dX8_goesOn_0 : decode cX8_goesOn 0 = .ok (.aload_n 0, 1) := by decide +kernel
theorem dX8_goesOn_1 : decode cX8_goesOn 1 = .ok (.getfield 174, 3) := by decide +kernel
theorem dX8_goesOn_4 : decode cX8_goesOn 4 = .ok (.ifCond .ne 12, 3) := by decide +kernel
theorem dX8_goesOn_7 : decode cX8_goesOn 7 = .ok (.aload_n 0, 1) := by decide +kernel
theorem dX8_goesOn_8 : decode cX8_goesOn 8 = .ok (.aload_n 0, 1) := by decide +kernel
theorem dX8_goesOn_9 : decode cX8_goesOn 9 = .ok (.getfield 184, 3) := by decide +kernel
theorem dX8_goesOn_12 : decode cX8_goesOn 12 = .ok (.invokevirtual 187, 3) := by decide +kernel
theorem dX8_goesOn_15 : decode cX8_goesOn 15 = .ok (.ireturn, 1) := by decide +kernel
theorem dX8_goesOn_16 : decode cX8_goesOn 16 = .ok (.aload_n 0, 1) := by decide +kernel
theorem dX8_goesOn_17 : decode cX8_goesOn 17 = .ok (.getfield 133, 3) := by decide +kernel
theorem dX8_goesOn_20 : decode cX8_goesOn 20 = .ok (.bipush 41, 2) := by decide +kernel
theorem dX8_goesOn_22 : decode cX8_goesOn 22 = .ok (.if_icmp .ne 8, 3) := by decide +kernel
theorem dX8_goesOn_25 : decode cX8_goesOn 25 = .ok (.aload_n 0, 1) := by decide +kernel
theorem dX8_goesOn_26 : decode cX8_goesOn 26 = .ok (.invokevirtual 191, 3) := by decide +kernel
theorem dX8_goesOn_29 : decode cX8_goesOn 29 = .ok (.ireturn, 1) := by decide +kernel
theorem dX8_goesOn_30 : decode cX8_goesOn 30 = .ok (.aload_n 0, 1) := by decide +kernel
theorem dX8_goesOn_31 : decode cX8_goesOn 31 = .ok (.invokevirtual 194, 3) := by decide +kernel
theorem dX8_goesOn_34 : decode cX8_goesOn 34 = .ok (.istore_n 1, 1) := by decide +kernel
theorem dX8_goesOn_35 : decode cX8_goesOn 35 = .ok (.iload_n 1, 1) := by decide +kernel
theorem dX8_goesOn_36 : decode cX8_goesOn 36 = .ok (.iconst (-1), 1) := by decide +kernel
theorem dX8_goesOn_37 : decode cX8_goesOn 37 = .ok (.if_icmp .ne 5, 3) := by decide +kernel
theorem dX8_goesOn_40 : decode cX8_goesOn 40 = .ok (.iconst 0, 1) := by decide +kernel
theorem dX8_goesOn_41 : decode cX8_goesOn 41 = .ok (.ireturn, 1) := by decide +kernel
theorem dX8_goesOn_42 : decode cX8_goesOn 42 = .ok (.aload_n 0, 1) := by decide +kernel
theorem dX8_goesOn_43 : decode cX8_goesOn 43 = .ok (.iload_n 1, 1) := by decide +kernel
theorem dX8_goesOn_44 : decode cX8_goesOn 44 = .ok (.invokestatic 165, 3) := by decide +kernel
theorem dX8_goesOn_47 : decode cX8_goesOn 47 = .ok (.invokevirtual 171, 3) := by decide +kernel
theorem dX8_goesOn_50 : decode cX8_goesOn 50 = .ok (.aload_n 0, 1) := by decide +kernel
theorem dX8_goesOn_51 : decode cX8_goesOn 51 = .ok (.iload_n 1, 1) := by decide +kernel
theorem dX8_goesOn_52 : decode cX8_goesOn 52 = .ok (.invokevirtual 181, 3) := by decide +kernel
theorem dX8_goesOn_55 : decode cX8_goesOn 55 = .ok (.aload_n 0, 1) := by decide +kernel
theorem dX8_goesOn_56 : decode cX8_goesOn 56 = .ok (.iconst 0, 1) := by decide +kernel
theorem dX8_goesOn_57 : decode cX8_goesOn 57 = .ok (.putfield 174, 3) := by decide +kernel
theorem dX8_goesOn_60 : decode cX8_goesOn 60 = .ok (.aload_n 0, 1) := by decide +kernel
theorem dX8_goesOn_61 : decode cX8_goesOn 61 = .ok (.iload_n 1, 1) := by decide +kernel
theorem dX8_goesOn_62 : decode cX8_goesOn 62 = .ok (.invokestatic 165, 3) := by decide +kernel
theorem dX8_goesOn_65 : decode cX8_goesOn 65 = .ok (.iconst 3, 1) := by decide +kernel
theorem dX8_goesOn_66 : decode cX8_goesOn 66 = .ok (.if_icmp .ge 7, 3) := by decide +kernel
theorem dX8_goesOn_69 : decode cX8_goesOn 69 = .ok (.iconst 1, 1) := by decide +kernel
theorem dX8_goesOn_70 : decode cX8_goesOn 70 = .ok (.goto 4, 3) := by decide +kernel
theorem dX8_goesOn_73 : decode cX8_goesOn 73 = .ok (.iconst 0, 1) := by decide +kernel
theorem dX8_goesOn_74 : decode cX8_goesOn 74 = .ok (.putfield 184, 3) := by decide +kernel
theorem dX8_goesOn_77 : decode cX8_goesOn 77 = .ok (.aload_n 0, 1) := by decide +kernel
theorem dX8_goesOn_78 : decode cX8_goesOn 78 = .ok (.getfield 184, 3) := by decide +kernel
theorem dX8_goesOn_81 : decode cX8_goesOn 81 = .ok (.ifCond .eq 11, 3) := by decide +kernel
theorem dX8_goesOn_84 : decode cX8_goesOn 84 = .ok (.aload_n 0, 1) := by decide +kernel
theorem dX8_goesOn_85 : decode cX8_goesOn 85 = .ok (.iconst 0, 1) := by decide +kernel
theorem dX8_goesOn_86 : decode cX8_goesOn 86 = .ok (.putfield 178, 3) := by decide +kernel
theorem dX8_goesOn_89 : decode cX8_goesOn 89 = .ok (.goto 16, 3) := by decide +kernel
theorem dX8_goesOn_92 : decode cX8_goesOn 92 = .ok (.iload_n 1, 1) := by decide +kernel
theorem dX8_goesOn_93 : decode cX8_goesOn 93 = .ok (.invokestatic 165, 3) := by decide +kernel
theorem dX8_goesOn_96 : decode cX8_goesOn 96 = .ok (.iconst 4, 1) := by decide +kernel
theorem dX8_goesOn_97 : decode cX8_goesOn 97 = .ok (.if_icmp .ne 8, 3) := by decide +kernel
theorem dX8_goesOn_100 : decode cX8_goesOn 100 = .ok (.aload_n 0, 1) := by decide +kernel
theorem dX8_goesOn_101 : decode cX8_goesOn 101 = .ok (.iconst 1, 1) := by decide +kernel
theorem dX8_goesOn_102 : decode cX8_goesOn 102 = .ok (.putfield 178, 3) := by decide +kernel
theorem dX8_goesOn_105 : decode cX8_goesOn 105 = .ok (.iconst 1, 1) := by decide +kernel
theorem dX8_goesOn_106 : decode cX8_goesOn 106 = .ok (.ireturn, 1) := by decide +kernel
theorem dX8_part_0 : decode cX8_part 0 = .ok (.aload_n 0, 1) := by decide +kernel
theorem dX8_part_1 : decode cX8_part 1 = .ok (.iload_n 2, 1) := by decide +kernel
theorem dX8_part_2 : decode cX8_part 2 = .ok (.invokevirtual 197, 3) := by decide +kernel
theorem dX8_part_5 : decode cX8_part 5 = .ok (.ifCond .ne 5, 3) := by decide +kernel
theorem dX8_part_8 : decode cX8_part 8 = .ok (.iconst 0, 1) := by decide +kernel
theorem dX8_part_9 : decode cX8_part 9 = .ok (.ireturn, 1) := by decide +kernel
theorem dX8_part_10 : decode cX8_part 10 = .ok (.aload_n 0, 1) := by decide +kernel
theorem dX8_part_11 : decode cX8_part 11 = .ok (.getfield 22, 3) := by decide +kernel
theorem dX8_part_14 : decode cX8_part 14 = .ok (.iload_n 1, 1) := by decide +kernel
theorem dX8_part_15 : decode cX8_part 15 = .ok (.aload_n 0, 1) := by decide +kernel
theorem dX8_part_16 : decode cX8_part 16 = .ok (.getfield 159, 3) := by decide +kernel
theorem dX8_part_19 : decode cX8_part 19 = .ok (.iastore, 1) := by decide +kernel
theorem dX8_part_20 : decode cX8_part 20 = .ok (.aload_n 0, 1) := by decide +kernel
theorem dX8_part_21 : decode cX8_part 21 = .ok (.iconst 0, 1) := by decide +kernel
theorem dX8_part_22 : decode cX8_part 22 = .ok (.putfield 162, 3) := by decide +kernel
theorem dX8_part_25 : decode cX8_part 25 = .ok (.aload_n 0, 1) := by decide +kernel
theorem dX8_part_26 : decode cX8_part 26 = .ok (.iconst 0, 1) := by decide +kernel
theorem dX8_part_27 : decode cX8_part 27 = .ok (.putfield 168, 3) := by decide +kernel
theorem dX8_part_30 : decode cX8_part 30 = .ok (.aload_n 0, 1) := by decide +kernel
theorem dX8_part_31 : decode cX8_part 31 = .ok (.iconst 0, 1) := by decide +kernel
theorem dX8_part_32 : decode cX8_part 32 = .ok (.putfield 178, 3) := by decide +kernel
theorem dX8_part_35 : decode cX8_part 35 = .ok (.aload_n 0, 1) := by decide +kernel
theorem dX8_part_36 : decode cX8_part 36 = .ok (.iconst 0, 1) := by decide +kernel
theorem dX8_part_37 : decode cX8_part 37 = .ok (.putfield 174, 3) := by decide +kernel
theorem dX8_part_40 : decode cX8_part 40 = .ok (.aload_n 0, 1) := by decide +kernel
theorem dX8_part_41 : decode cX8_part 41 = .ok (.iconst 1, 1) := by decide +kernel
theorem dX8_part_42 : decode cX8_part 42 = .ok (.putfield 184, 3) := by decide +kernel
theorem dX8_part_45 : decode cX8_part 45 = .ok (.aload_n 0, 1) := by decide +kernel
theorem dX8_part_46 : decode cX8_part 46 = .ok (.getfield 174, 3) := by decide +kernel
theorem dX8_part_49 : decode cX8_part 49 = .ok (.ifCond .eq 12, 3) := by decide +kernel
theorem dX8_part_52 : decode cX8_part 52 = .ok (.aload_n 0, 1) := by decide +kernel
theorem dX8_part_53 : decode cX8_part 53 = .ok (.getfield 133, 3) := by decide +kernel
theorem dX8_part_56 : decode cX8_part 56 = .ok (.bipush 59, 2) := by decide +kernel
theorem dX8_part_58 : decode cX8_part 58 = .ok (.if_icmp .eq 19, 3) := by decide +kernel
theorem dX8_part_61 : decode cX8_part 61 = .ok (.aload_n 0, 1) := by decide +kernel
theorem dX8_part_62 : decode cX8_part 62 = .ok (.invokevirtual 200, 3) := by decide +kernel
theorem dX8_part_65 : decode cX8_part 65 = .ok (.ifCond .ne 5, 3) := by decide +kernel
theorem dX8_part_68 : decode cX8_part 68 = .ok (.iconst 0, 1) := by decide +kernel
theorem dX8_part_69 : decode cX8_part 69 = .ok (.ireturn, 1) := by decide +kernel
theorem dX8_part_70 : decode cX8_part 70 = .ok (.aload_n 0, 1) := by decide +kernel
theorem dX8_part_71 : decode cX8_part 71 = .ok (.invokevirtual 156, 3) := by decide +kernel
theorem dX8_part_74 : decode cX8_part 74 = .ok (.goto (-29), 3) := by decide +kernel
theorem dX8_part_77 : decode cX8_part 77 = .ok (.aload_n 0, 1) := by decide +kernel
theorem dX8_part_78 : decode cX8_part 78 = .ok (.iconst 1, 1) := by decide +kernel
theorem dX8_part_79 : decode cX8_part 79 = .ok (.invokevirtual 171, 3) := by decide +kernel
theorem dX8_part_82 : decode cX8_part 82 = .ok (.aload_n 0, 1) := by decide +kernel
theorem dX8_part_83 : decode cX8_part 83 = .ok (.getfield 162, 3) := by decide +kernel
theorem dX8_part_86 : decode cX8_part 86 = .ok (.ifCond .le 5, 3) := by decide +kernel
theorem dX8_part_89 : decode cX8_part 89 = .ok (.iconst 0, 1) := by decide +kernel
theorem dX8_part_90 : decode cX8_part 90 = .ok (.ireturn, 1) := by decide +kernel
theorem dX8_part_91 : decode cX8_part 91 = .ok (.aload_n 0, 1) := by decide +kernel
theorem dX8_part_92 : decode cX8_part 92 = .ok (.getfield 25, 3) := by decide +kernel
theorem dX8_part_95 : decode cX8_part 95 = .ok (.iload_n 1, 1) := by decide +kernel
theorem dX8_part_96 : decode cX8_part 96 = .ok (.aload_n 0, 1) := by decide +kernel
theorem dX8_part_97 : decode cX8_part 97 = .ok (.getfield 159, 3) := by decide +kernel
theorem dX8_part_100 : decode cX8_part 100 = .ok (.aload_n 0, 1) := by decide +kernel
theorem dX8_part_101 : decode cX8_part 101 = .ok (.getfield 22, 3) := by decide +kernel
theorem dX8_part_104 : decode cX8_part 104 = .ok (.iload_n 1, 1) := by decide +kernel
theorem dX8_part_105 : decode cX8_part 105 = .ok (.iaload, 1) := by decide +kernel
theorem dX8_part_106 : decode cX8_part 106 = .ok (.isub, 1) := by decide +kernel
theorem dX8_part_107 : decode cX8_part 107 = .ok (.iastore, 1) := by decide +kernel
theorem dX8_part_108 : decode cX8_part 108 = .ok (.aload_n 0, 1) := by decide +kernel
theorem dX8_part_109 : decode cX8_part 109 = .ok (.invokevirtual 156, 3) := by decide +kernel
theorem dX8_part_112 : decode cX8_part 112 = .ok (.iconst 1, 1) := by decide +kernel
theorem dX8_part_113 : decode cX8_part 113 = .ok (.ireturn, 1) := by decide +kernel
theorem dX8_text_0 : decode cX8_text 0 = .ok (.aload_n 0, 1) := by decide +kernel
theorem dX8_text_1 : decode cX8_text 1 = .ok (.getfield 78, 3) := by decide +kernel
theorem dX8_text_4 : decode cX8_text 4 = .ok (.bipush 6, 2) := by decide +kernel
theorem dX8_text_6 : decode cX8_text 6 = .ok (.if_icmp .ne 6, 3) := by decide +kernel
theorem dX8_text_9 : decode cX8_text 9 = .ok (.bipush (-4), 2) := by decide +kernel
theorem dX8_text_11 : decode cX8_text 11 = .ok (.ireturn, 1) := by decide +kernel
theorem dX8_text_12 : decode cX8_text 12 = .ok (.aload_n 0, 1) := by decide +kernel
theorem dX8_text_13 : decode cX8_text 13 = .ok (.getfield 159, 3) := by decide +kernel
theorem dX8_text_16 : decode cX8_text 16 = .ok (.istore_n 1, 1) := by decide +kernel
theorem dX8_text_17 : decode cX8_text 17 = .ok (.aload_n 0, 1) := by decide +kernel
theorem dX8_text_18 : decode cX8_text 18 = .ok (.iconst 0, 1) := by decide +kernel
theorem dX8_text_19 : decode cX8_text 19 = .ok (.putfield 127, 3) := by decide +kernel
theorem dX8_text_22 : decode cX8_text 22 = .ok (.aload_n 0, 1) := by decide +kernel
theorem dX8_text_23 : decode cX8_text 23 = .ok (.invokevirtual 156, 3) := by decide +kernel
theorem dX8_text_26 : decode cX8_text 26 = .ok (.aload_n 0, 1) := by decide +kernel
theorem dX8_text_27 : decode cX8_text 27 = .ok (.iconst 3, 1) := by decide +kernel
theorem dX8_text_28 : decode cX8_text 28 = .ok (.aload_n 0, 1) := by decide +kernel
theorem dX8_text_29 : decode cX8_text 29 = .ok (.getfield 78, 3) := by decide +kernel
theorem dX8_text_32 : decode cX8_text 32 = .ok (.imul, 1) := by decide +kernel
theorem dX8_text_33 : decode cX8_text 33 = .ok (.ldc 203, 2) := by decide +kernel
theorem dX8_text_35 : decode cX8_text 35 = .ok (.invokevirtual 204, 3) := by decide +kernel
theorem dX8_text_38 : decode cX8_text 38 = .ok (.ifCond .eq 50, 3) := by decide +kernel
theorem dX8_text_41 : decode cX8_text 41 = .ok (.aload_n 0, 1) := by decide +kernel
theorem dX8_text_42 : decode cX8_text 42 = .ok (.iconst 3, 1) := by decide +kernel
theorem dX8_text_43 : decode cX8_text 43 = .ok (.aload_n 0, 1) := by decide +kernel
theorem dX8_text_44 : decode cX8_text 44 = .ok (.getfield 78, 3) := by decide +kernel
theorem dX8_text_47 : decode cX8_text 47 = .ok (.imul, 1) := by decide +kernel
theorem dX8_text_48 : decode cX8_text 48 = .ok (.iconst 1, 1) := by decide +kernel
theorem dX8_text_49 : decode cX8_text 49 = .ok (.iadd, 1) := by decide +kernel
theorem dX8_text_50 : decode cX8_text 50 = .ok (.ldc 207, 2) := by decide +kernel
theorem dX8_text_52 : decode cX8_text 52 = .ok (.invokevirtual 204, 3) := by decide +kernel
theorem dX8_text_55 : decode cX8_text 55 = .ok (.ifCond .eq 33, 3) := by decide +kernel
theorem dX8_text_58 : decode cX8_text 58 = .ok (.aload_n 0, 1) := by decide +kernel
theorem dX8_text_59 : decode cX8_text 59 = .ok (.iconst 3, 1) := by decide +kernel
theorem dX8_text_60 : decode cX8_text 60 = .ok (.aload_n 0, 1) := by decide +kernel
theorem dX8_text_61 : decode cX8_text 61 = .ok (.getfield 78, 3) := by decide +kernel
theorem dX8_text_64 : decode cX8_text 64 = .ok (.imul, 1) := by decide +kernel
theorem dX8_text_65 : decode cX8_text 65 = .ok (.iconst 2, 1) := by decide +kernel
theorem dX8_text_66 : decode cX8_text 66 = .ok (.iadd, 1) := by decide +kernel
theorem dX8_text_67 : decode cX8_text 67 = .ok (.ldc 208, 2) := by decide +kernel
theorem dX8_text_69 : decode cX8_text 69 = .ok (.invokevirtual 204, 3) := by decide +kernel
theorem dX8_text_72 : decode cX8_text 72 = .ok (.ifCond .eq 16, 3) := by decide +kernel
theorem dX8_text_75 : decode cX8_text 75 = .ok (.aload_n 0, 1) := by decide +kernel
theorem dX8_text_76 : decode cX8_text 76 = .ok (.getfield 133, 3) := by decide +kernel
theorem dX8_text_79 : decode cX8_text 79 = .ok (.bipush 101, 2) := by decide +kernel
theorem dX8_text_81 : decode cX8_text 81 = .ok (.if_icmp .ne 7, 3) := by decide +kernel
theorem dX8_text_84 : decode cX8_text 84 = .ok (.iconst 1, 1) := by decide +kernel
theorem dX8_text_85 : decode cX8_text 85 = .ok (.goto 4, 3) := by decide +kernel
theorem dX8_text_88 : decode cX8_text 88 = .ok (.iconst 0, 1) := by decide +kernel
theorem dX8_text_89 : decode cX8_text 89 = .ok (.istore_n 2, 1) := by decide +kernel
theorem dX8_text_90 : decode cX8_text 90 = .ok (.aload_n 0, 1) := by decide +kernel
theorem dX8_text_91 : decode cX8_text 91 = .ok (.iconst 0, 1) := by decide +kernel
theorem dX8_text_92 : decode cX8_text 92 = .ok (.putfield 121, 3) := by decide +kernel
theorem dX8_text_95 : decode cX8_text 95 = .ok (.iload_n 2, 1) := by decide +kernel
theorem dX8_text_96 : decode cX8_text 96 = .ok (.ifCond .eq 15, 3) := by decide +kernel
theorem dX8_text_99 : decode cX8_text 99 = .ok (.aload_n 0, 1) := by decide +kernel
theorem dX8_text_100 : decode cX8_text 100 = .ok (.dup, 1) := by decide +kernel
theorem dX8_text_101 : decode cX8_text 101 = .ok (.getfield 78, 3) := by decide +kernel
theorem dX8_text_104 : decode cX8_text 104 = .ok (.dup_x1, 1) := by decide +kernel
theorem dX8_text_105 : decode cX8_text 105 = .ok (.iconst 1, 1) := by decide +kernel
theorem dX8_text_106 : decode cX8_text 106 = .ok (.iadd, 1) := by decide +kernel
theorem dX8_text_107 : decode cX8_text 107 = .ok (.putfield 78, 3) := by decide +kernel
theorem dX8_text_110 : decode cX8_text 110 = .ok (.ireturn, 1) := by decide +kernel
theorem dX8_text_111 : decode cX8_text 111 = .ok (.aload_n 0, 1) := by decide +kernel
theorem dX8_text_112 : decode cX8_text 112 = .ok (.iload_n 1, 1) := by decide +kernel
theorem dX8_text_113 : decode cX8_text 113 = .ok (.putfield 159, 3) := by decide +kernel
theorem dX8_text_116 : decode cX8_text 116 = .ok (.bipush (-100), 2) := by decide +kernel
theorem dX8_text_118 : decode cX8_text 118 = .ok (.aload_n 0, 1) := by decide +kernel
theorem dX8_text_119 : decode cX8_text 119 = .ok (.getfield 130, 3) := by decide +kernel
theorem dX8_text_122 : decode cX8_text 122 = .ok (.isub, 1) := by decide +kernel
theorem dX8_text_123 : decode cX8_text 123 = .ok (.ireturn, 1) := by decide +kernel
theorem dX8_force_0 : decode cX8_force 0 = .ok (.iload_n 1, 1) := by decide +kernel
theorem dX8_force_1 : decode cX8_force 1 = .ok (.iconst 0, 1) := by decide +kernel
theorem dX8_force_2 : decode cX8_force 2 = .ok (.aload_n 0, 1) := by decide +kernel
theorem dX8_force_3 : decode cX8_force 3 = .ok (.getfield 78, 3) := by decide +kernel
theorem dX8_force_6 : decode cX8_force 6 = .ok (.iconst 1, 1) := by decide +kernel
theorem dX8_force_7 : decode cX8_force 7 = .ok (.isub, 1) := by decide +kernel
theorem dX8_force_8 : decode cX8_force 8 = .ok (.invokestatic 85, 3) := by decide +kernel
theorem dX8_force_11 : decode cX8_force 11 = .ok (.ifCond .ne 6, 3) := by decide +kernel
theorem dX8_force_14 : decode cX8_force 14 = .ok (.bipush (-2), 2) := by decide +kernel
theorem dX8_force_16 : decode cX8_force 16 = .ok (.ireturn, 1) := by decide +kernel
theorem dX8_force_17 : decode cX8_force 17 = .ok (.aload_n 0, 1) := by decide +kernel
theorem dX8_force_18 : decode cX8_force 18 = .ok (.getfield 209, 3) := by decide +kernel
theorem dX8_force_21 : decode cX8_force 21 = .ok (.istore_n 2, 1) := by decide +kernel
theorem dX8_force_22 : decode cX8_force 22 = .ok (.aload_n 0, 1) := by decide +kernel
theorem dX8_force_23 : decode cX8_force 23 = .ok (.iload_n 1, 1) := by decide +kernel
theorem dX8_force_24 : decode cX8_force 24 = .ok (.putfield 209, 3) := by decide +kernel
theorem dX8_force_27 : decode cX8_force 27 = .ok (.iload_n 2, 1) := by decide +kernel
theorem dX8_force_28 : decode cX8_force 28 = .ok (.ireturn, 1) := by decide +kernel
theorem dX8_tells_0 : decode cX8_tells 0 = .ok (.iconst 0, 1) := by decide +kernel
theorem dX8_tells_1 : decode cX8_tells 1 = .ok (.istore 4, 2) := by decide +kernel
theorem dX8_tells_3 : decode cX8_tells 3 = .ok (.aload_n 0, 1) := by decide +kernel
theorem dX8_tells_4 : decode cX8_tells 4 = .ok (.getfield 22, 3) := by decide +kernel
theorem dX8_tells_7 : decode cX8_tells 7 = .ok (.iconst 3, 1) := by decide +kernel
theorem dX8_tells_8 : decode cX8_tells 8 = .ok (.aload_n 0, 1) := by decide +kernel
theorem dX8_tells_9 : decode cX8_tells 9 = .ok (.getfield 209, 3) := by decide +kernel
theorem dX8_tells_12 : decode cX8_tells 12 = .ok (.imul, 1) := by decide +kernel
theorem dX8_tells_13 : decode cX8_tells 13 = .ok (.iload_n 1, 1) := by decide +kernel
theorem dX8_tells_14 : decode cX8_tells 14 = .ok (.iadd, 1) := by decide +kernel
theorem dX8_tells_15 : decode cX8_tells 15 = .ok (.iaload, 1) := by decide +kernel
theorem dX8_tells_16 : decode cX8_tells 16 = .ok (.istore 5, 2) := by decide +kernel
theorem dX8_tells_18 : decode cX8_tells 18 = .ok (.iload_n 1, 1) := by decide +kernel
theorem dX8_tells_19 : decode cX8_tells 19 = .ok (.ifCond .ne 22, 3) := by decide +kernel
theorem dX8_tells_22 : decode cX8_tells 22 = .ok (.aload_n 0, 1) := by decide +kernel
theorem dX8_tells_23 : decode cX8_tells 23 = .ok (.getfield 16, 3) := by decide +kernel
theorem dX8_tells_26 : decode cX8_tells 26 = .ok (.iload_n 2, 1) := by decide +kernel
theorem dX8_tells_27 : decode cX8_tells 27 = .ok (.iaload, 1) := by decide +kernel
theorem dX8_tells_28 : decode cX8_tells 28 = .ok (.iload_n 3, 1) := by decide +kernel
theorem dX8_tells_29 : decode cX8_tells 29 = .ok (.iconst 1, 1) := by decide +kernel
theorem dX8_tells_30 : decode cX8_tells 30 = .ok (.isub, 1) := by decide +kernel
theorem dX8_tells_31 : decode cX8_tells 31 = .ok (.invokestatic 118, 3) := by decide +kernel
theorem dX8_tells_34 : decode cX8_tells 34 = .ok (.ifCond .eq 7, 3) := by decide +kernel
theorem dX8_tells_37 : decode cX8_tells 37 = .ok (.iconst 1, 1) := by decide +kernel
theorem dX8_tells_38 : decode cX8_tells 38 = .ok (.goto 4, 3) := by decide +kernel
theorem dX8_tells_41 : decode cX8_tells 41 = .ok (.iconst 0, 1) := by decide +kernel
theorem dX8_tells_42 : decode cX8_tells 42 = .ok (.istore 6, 2) := by decide +kernel
theorem dX8_tells_44 : decode cX8_tells 44 = .ok (.iload 5, 2) := by decide +kernel
theorem dX8_tells_46 : decode cX8_tells 46 = .ok (.istore 7, 2) := by decide +kernel
theorem dX8_tells_48 : decode cX8_tells 48 = .ok (.iload 7, 2) := by decide +kernel
theorem dX8_tells_50 : decode cX8_tells 50 = .ok (.iload 5, 2) := by decide +kernel
theorem dX8_tells_52 : decode cX8_tells 52 = .ok (.aload_n 0, 1) := by decide +kernel
theorem dX8_tells_53 : decode cX8_tells 53 = .ok (.getfield 25, 3) := by decide +kernel
theorem dX8_tells_56 : decode cX8_tells 56 = .ok (.iconst 3, 1) := by decide +kernel
theorem dX8_tells_57 : decode cX8_tells 57 = .ok (.aload_n 0, 1) := by decide +kernel
theorem dX8_tells_58 : decode cX8_tells 58 = .ok (.getfield 209, 3) := by decide +kernel
theorem dX8_tells_61 : decode cX8_tells 61 = .ok (.imul, 1) := by decide +kernel
theorem dX8_tells_62 : decode cX8_tells 62 = .ok (.iload_n 1, 1) := by decide +kernel
theorem dX8_tells_63 : decode cX8_tells 63 = .ok (.iadd, 1) := by decide +kernel
theorem dX8_tells_64 : decode cX8_tells 64 = .ok (.iaload, 1) := by decide +kernel
theorem dX8_tells_65 : decode cX8_tells 65 = .ok (.iadd, 1) := by decide +kernel
theorem dX8_tells_66 : decode cX8_tells 66 = .ok (.if_icmp .ge 230, 3) := by decide +kernel
theorem dX8_tells_69 : decode cX8_tells 69 = .ok (.aload_n 0, 1) := by decide +kernel
theorem dX8_tells_70 : decode cX8_tells 70 = .ok (.getfield 28, 3) := by decide +kernel
theorem dX8_tells_73 : decode cX8_tells 73 = .ok (.iload 7, 2) := by decide +kernel
theorem dX8_tells_75 : decode cX8_tells 75 = .ok (.iaload, 1) := by decide +kernel
theorem dX8_tells_76 : decode cX8_tells 76 = .ok (.istore 8, 2) := by decide +kernel
theorem dX8_tells_78 : decode cX8_tells 78 = .ok (.iload 8, 2) := by decide +kernel
theorem dX8_tells_80 : decode cX8_tells 80 = .ok (.bipush 15, 2) := by decide +kernel
theorem dX8_tells_82 : decode cX8_tells 82 = .ok (.if_icmp .ge 9, 3) := by decide +kernel
theorem dX8_tells_85 : decode cX8_tells 85 = .ok (.iload 8, 2) := by decide +kernel
theorem dX8_tells_87 : decode cX8_tells 87 = .ok (.iconst 5, 1) := by decide +kernel
theorem dX8_tells_88 : decode cX8_tells 88 = .ok (.if_icmp .gt 106, 3) := by decide +kernel
theorem dX8_tells_91 : decode cX8_tells 91 = .ok (.aload_n 0, 1) := by decide +kernel
theorem dX8_tells_92 : decode cX8_tells 92 = .ok (.getfield 34, 3) := by decide +kernel
theorem dX8_tells_95 : decode cX8_tells 95 = .ok (.iload 4, 2) := by decide +kernel
theorem dX8_tells_97 : decode cX8_tells 97 = .ok (.iinc 4 1, 3) := by decide +kernel
theorem dX8_tells_100 : decode cX8_tells 100 = .ok (.iload 8, 2) := by decide +kernel
theorem dX8_tells_102 : decode cX8_tells 102 = .ok (.bipush 15, 2) := by decide +kernel
theorem dX8_tells_104 : decode cX8_tells 104 = .ok (.if_icmp .lt 11, 3) := by decide +kernel
theorem dX8_tells_107 : decode cX8_tells 107 = .ok (.iload 8, 2) := by decide +kernel
theorem dX8_tells_109 : decode cX8_tells 109 = .ok (.bipush 15, 2) := by decide +kernel
theorem dX8_tells_111 : decode cX8_tells 111 = .ok (.isub, 1) := by decide +kernel
theorem dX8_tells_112 : decode cX8_tells 112 = .ok (.goto 78, 3) := by decide +kernel
theorem dX8_tells_115 : decode cX8_tells 115 = .ok (.iload 8, 2) := by decide +kernel
theorem dX8_tells_117 : decode cX8_tells 117 = .ok (.ifCond .ne 7, 3) := by decide +kernel
theorem dX8_tells_120 : decode cX8_tells 120 = .ok (.iload_n 3, 1) := by decide +kernel
theorem dX8_tells_121 : decode cX8_tells 121 = .ok (.goto 69, 3) := by decide +kernel
theorem dX8_tells_124 : decode cX8_tells 124 = .ok (.iload 8, 2) := by decide +kernel
theorem dX8_tells_126 : decode cX8_tells 126 = .ok (.iconst 1, 1) := by decide +kernel
theorem dX8_tells_127 : decode cX8_tells 127 = .ok (.if_icmp .ne 16, 3) := by decide +kernel
theorem dX8_tells_130 : decode cX8_tells 130 = .ok (.iload 6, 2) := by decide +kernel
theorem dX8_tells_132 : decode cX8_tells 132 = .ok (.ifCond .eq 7, 3) := by decide +kernel
theorem dX8_tells_135 : decode cX8_tells 135 = .ok (.iconst 1, 1) := by decide +kernel
theorem dX8_tells_136 : decode cX8_tells 136 = .ok (.goto 54, 3) := by decide +kernel
theorem dX8_tells_139 : decode cX8_tells 139 = .ok (.iconst 0, 1) := by decide +kernel
theorem dX8_tells_140 : decode cX8_tells 140 = .ok (.goto 50, 3) := by decide +kernel
theorem dX8_tells_143 : decode cX8_tells 143 = .ok (.iload 8, 2) := by decide +kernel
theorem dX8_tells_145 : decode cX8_tells 145 = .ok (.iconst 2, 1) := by decide +kernel
theorem dX8_tells_146 : decode cX8_tells 146 = .ok (.if_icmp .ne 12, 3) := by decide +kernel
theorem dX8_tells_149 : decode cX8_tells 149 = .ok (.aload_n 0, 1) := by decide +kernel
theorem dX8_tells_150 : decode cX8_tells 150 = .ok (.getfield 13, 3) := by decide +kernel
theorem dX8_tells_153 : decode cX8_tells 153 = .ok (.iload_n 2, 1) := by decide +kernel
theorem dX8_tells_154 : decode cX8_tells 154 = .ok (.iaload, 1) := by decide +kernel
theorem dX8_tells_155 : decode cX8_tells 155 = .ok (.goto 35, 3) := by decide +kernel
theorem dX8_tells_158 : decode cX8_tells 158 = .ok (.iload 8, 2) := by decide +kernel
theorem dX8_tells_160 : decode cX8_tells 160 = .ok (.iconst 3, 1) := by decide +kernel
theorem dX8_tells_161 : decode cX8_tells 161 = .ok (.if_icmp .ne 15, 3) := by decide +kernel
theorem dX8_tells_164 : decode cX8_tells 164 = .ok (.aload_n 0, 1) := by decide +kernel
theorem dX8_tells_165 : decode cX8_tells 165 = .ok (.getfield 16, 3) := by decide +kernel
theorem dX8_tells_168 : decode cX8_tells 168 = .ok (.iload_n 2, 1) := by decide +kernel
theorem dX8_tells_169 : decode cX8_tells 169 = .ok (.iaload, 1) := by decide +kernel
theorem dX8_tells_170 : decode cX8_tells 170 = .ok (.invokestatic 97, 3) := by decide +kernel
theorem dX8_tells_173 : decode cX8_tells 173 = .ok (.goto 17, 3) := by decide +kernel
theorem dX8_tells_176 : decode cX8_tells 176 = .ok (.iload 8, 2) := by decide +kernel
theorem dX8_tells_178 : decode cX8_tells 178 = .ok (.iconst 4, 1) := by decide +kernel
theorem dX8_tells_179 : decode cX8_tells 179 = .ok (.if_icmp .ne 7, 3) := by decide +kernel
theorem dX8_tells_182 : decode cX8_tells 182 = .ok (.iload_n 2, 1) := by decide +kernel
theorem dX8_tells_183 : decode cX8_tells 183 = .ok (.goto 7, 3) := by decide +kernel
theorem dX8_tells_186 : decode cX8_tells 186 = .ok (.aload_n 0, 1) := by decide +kernel
theorem dX8_tells_187 : decode cX8_tells 187 = .ok (.getfield 94, 3) := by decide +kernel
theorem dX8_tells_190 : decode cX8_tells 190 = .ok (.iastore, 1) := by decide +kernel
theorem dX8_tells_191 : decode cX8_tells 191 = .ok (.goto 99, 3) := by decide +kernel
theorem dX8_tells_194 : decode cX8_tells 194 = .ok (.iload 8, 2) := by decide +kernel
theorem dX8_tells_196 : decode cX8_tells 196 = .ok (.bipush 13, 2) := by decide +kernel
theorem dX8_tells_198 : decode cX8_tells 198 = .ok (.if_icmp .eq 10, 3) := by decide +kernel
theorem dX8_tells_201 : decode cX8_tells 201 = .ok (.iload 8, 2) := by decide +kernel
theorem dX8_tells_203 : decode cX8_tells 203 = .ok (.bipush 14, 2) := by decide +kernel
theorem dX8_tells_205 : decode cX8_tells 205 = .ok (.if_icmp .ne 52, 3) := by decide +kernel
theorem dX8_tells_208 : decode cX8_tells 208 = .ok (.aload_n 0, 1) := by decide +kernel
theorem dX8_tells_209 : decode cX8_tells 209 = .ok (.getfield 34, 3) := by decide +kernel
theorem dX8_tells_212 : decode cX8_tells 212 = .ok (.iload 4, 2) := by decide +kernel
theorem dX8_tells_214 : decode cX8_tells 214 = .ok (.iconst 1, 1) := by decide +kernel
theorem dX8_tells_215 : decode cX8_tells 215 = .ok (.isub, 1) := by decide +kernel
theorem dX8_tells_216 : decode cX8_tells 216 = .ok (.iload 8, 2) := by decide +kernel
theorem dX8_tells_218 : decode cX8_tells 218 = .ok (.bipush 14, 2) := by decide +kernel
theorem dX8_tells_220 : decode cX8_tells 220 = .ok (.if_icmp .ne 16, 3) := by decide +kernel
theorem dX8_tells_223 : decode cX8_tells 223 = .ok (.aload_n 0, 1) := by decide +kernel
theorem dX8_tells_224 : decode cX8_tells 224 = .ok (.getfield 34, 3) := by decide +kernel
theorem dX8_tells_227 : decode cX8_tells 227 = .ok (.iload 4, 2) := by decide +kernel
theorem dX8_tells_229 : decode cX8_tells 229 = .ok (.iconst 1, 1) := by decide +kernel
theorem dX8_tells_230 : decode cX8_tells 230 = .ok (.isub, 1) := by decide +kernel
theorem dX8_tells_231 : decode cX8_tells 231 = .ok (.iaload, 1) := by decide +kernel
theorem dX8_tells_232 : decode cX8_tells 232 = .ok (.ineg, 1) := by decide +kernel
theorem dX8_tells_233 : decode cX8_tells 233 = .ok (.goto 20, 3) := by decide +kernel
theorem dX8_tells_236 : decode cX8_tells 236 = .ok (.aload_n 0, 1) := by decide +kernel
theorem dX8_tells_237 : decode cX8_tells 237 = .ok (.getfield 34, 3) := by decide +kernel
theorem dX8_tells_240 : decode cX8_tells 240 = .ok (.iload 4, 2) := by decide +kernel
theorem dX8_tells_242 : decode cX8_tells 242 = .ok (.iconst 1, 1) := by decide +kernel
theorem dX8_tells_243 : decode cX8_tells 243 = .ok (.isub, 1) := by decide +kernel
theorem dX8_tells_244 : decode cX8_tells 244 = .ok (.iaload, 1) := by decide +kernel
theorem dX8_tells_245 : decode cX8_tells 245 = .ok (.ifCond .ne 7, 3) := by decide +kernel
theorem dX8_tells_248 : decode cX8_tells 248 = .ok (.iconst 1, 1) := by decide +kernel
theorem dX8_tells_249 : decode cX8_tells 249 = .ok (.goto 4, 3) := by decide +kernel
theorem dX8_tells_252 : decode cX8_tells 252 = .ok (.iconst 0, 1) := by decide +kernel
theorem dX8_tells_253 : decode cX8_tells 253 = .ok (.iastore, 1) := by decide +kernel
theorem dX8_tells_254 : decode cX8_tells 254 = .ok (.goto 36, 3) := by decide +kernel
theorem dX8_tells_257 : decode cX8_tells 257 = .ok (.iinc 4 (-1), 3) := by decide +kernel
theorem dX8_tells_260 : decode cX8_tells 260 = .ok (.aload_n 0, 1) := by decide +kernel
theorem dX8_tells_261 : decode cX8_tells 261 = .ok (.getfield 34, 3) := by decide +kernel
theorem dX8_tells_264 : decode cX8_tells 264 = .ok (.iload 4, 2) := by decide +kernel
theorem dX8_tells_266 : decode cX8_tells 266 = .ok (.iconst 1, 1) := by decide +kernel
theorem dX8_tells_267 : decode cX8_tells 267 = .ok (.isub, 1) := by decide +kernel
theorem dX8_tells_268 : decode cX8_tells 268 = .ok (.iload 8, 2) := by decide +kernel
theorem dX8_tells_270 : decode cX8_tells 270 = .ok (.aload_n 0, 1) := by decide +kernel
theorem dX8_tells_271 : decode cX8_tells 271 = .ok (.getfield 34, 3) := by decide +kernel
theorem dX8_tells_274 : decode cX8_tells 274 = .ok (.iload 4, 2) := by decide +kernel
theorem dX8_tells_276 : decode cX8_tells 276 = .ok (.iconst 1, 1) := by decide +kernel
theorem dX8_tells_277 : decode cX8_tells 277 = .ok (.isub, 1) := by decide +kernel
theorem dX8_tells_278 : decode cX8_tells 278 = .ok (.iaload, 1) := by decide +kernel
theorem dX8_tells_279 : decode cX8_tells 279 = .ok (.aload_n 0, 1) := by decide +kernel
theorem dX8_tells_280 : decode cX8_tells 280 = .ok (.getfield 34, 3) := by decide +kernel
theorem dX8_tells_283 : decode cX8_tells 283 = .ok (.iload 4, 2) := by decide +kernel
theorem dX8_tells_285 : decode cX8_tells 285 = .ok (.iaload, 1) := by decide +kernel
theorem dX8_tells_286 : decode cX8_tells 286 = .ok (.invokestatic 212, 3) := by decide +kernel
theorem dX8_tells_289 : decode cX8_tells 289 = .ok (.iastore, 1) := by decide +kernel
theorem dX8_tells_290 : decode cX8_tells 290 = .ok (.iinc 7 1, 3) := by decide +kernel
theorem dX8_tells_293 : decode cX8_tells 293 = .ok (.goto (-245), 3) := by decide +kernel
theorem dX8_tells_296 : decode cX8_tells 296 = .ok (.aload_n 0, 1) := by decide +kernel
theorem dX8_tells_297 : decode cX8_tells 297 = .ok (.getfield 34, 3) := by decide +kernel
theorem dX8_tells_300 : decode cX8_tells 300 = .ok (.iconst 0, 1) := by decide +kernel
theorem dX8_tells_301 : decode cX8_tells 301 = .ok (.iaload, 1) := by decide +kernel
theorem dX8_tells_302 : decode cX8_tells 302 = .ok (.ireturn, 1) := by decide +kernel
theorem dX8_bound_0 : decode cX8_bound 0 = .ok (.iload_n 0, 1) := by decide +kernel
theorem dX8_bound_1 : decode cX8_bound 1 = .ok (.ifCond .ge 7, 3) := by decide +kernel
theorem dX8_bound_4 : decode cX8_bound 4 = .ok (.iconst 0, 1) := by decide +kernel
theorem dX8_bound_5 : decode cX8_bound 5 = .ok (.goto 15, 3) := by decide +kernel
theorem dX8_bound_8 : decode cX8_bound 8 = .ok (.iload_n 0, 1) := by decide +kernel
theorem dX8_bound_9 : decode cX8_bound 9 = .ok (.bipush 99, 2) := by decide +kernel
theorem dX8_bound_11 : decode cX8_bound 11 = .ok (.if_icmp .le 8, 3) := by decide +kernel
theorem dX8_bound_14 : decode cX8_bound 14 = .ok (.bipush 99, 2) := by decide +kernel
theorem dX8_bound_16 : decode cX8_bound 16 = .ok (.goto 4, 3) := by decide +kernel
theorem dX8_bound_19 : decode cX8_bound 19 = .ok (.iload_n 0, 1) := by decide +kernel
theorem dX8_bound_20 : decode cX8_bound 20 = .ok (.ireturn, 1) := by decide +kernel
theorem dX8_both_0 : decode cX8_both 0 = .ok (.iload_n 0, 1) := by decide +kernel
theorem dX8_both_1 : decode cX8_both 1 = .ok (.tableswitch 87 6 11 #[39, 43, 47, 51, 62, 73], 39) := by decide +kernel
theorem dX8_both_40 : decode cX8_both 40 = .ok (.iload_n 1, 1) := by decide +kernel
theorem dX8_both_41 : decode cX8_both 41 = .ok (.iload_n 2, 1) := by decide +kernel
theorem dX8_both_42 : decode cX8_both 42 = .ok (.iadd, 1) := by decide +kernel
theorem dX8_both_43 : decode cX8_both 43 = .ok (.ireturn, 1) := by decide +kernel
theorem dX8_both_44 : decode cX8_both 44 = .ok (.iload_n 1, 1) := by decide +kernel
theorem dX8_both_45 : decode cX8_both 45 = .ok (.iload_n 2, 1) := by decide +kernel
theorem dX8_both_46 : decode cX8_both 46 = .ok (.isub, 1) := by decide +kernel
theorem dX8_both_47 : decode cX8_both 47 = .ok (.ireturn, 1) := by decide +kernel
theorem dX8_both_48 : decode cX8_both 48 = .ok (.iload_n 1, 1) := by decide +kernel
theorem dX8_both_49 : decode cX8_both 49 = .ok (.iload_n 2, 1) := by decide +kernel
theorem dX8_both_50 : decode cX8_both 50 = .ok (.imul, 1) := by decide +kernel
theorem dX8_both_51 : decode cX8_both 51 = .ok (.ireturn, 1) := by decide +kernel
theorem dX8_both_52 : decode cX8_both 52 = .ok (.iload_n 1, 1) := by decide +kernel
theorem dX8_both_53 : decode cX8_both 53 = .ok (.iload_n 2, 1) := by decide +kernel
theorem dX8_both_54 : decode cX8_both 54 = .ok (.if_icmp .ge 7, 3) := by decide +kernel
theorem dX8_both_57 : decode cX8_both 57 = .ok (.iconst 1, 1) := by decide +kernel
theorem dX8_both_58 : decode cX8_both 58 = .ok (.goto 4, 3) := by decide +kernel
theorem dX8_both_61 : decode cX8_both 61 = .ok (.iconst 0, 1) := by decide +kernel
theorem dX8_both_62 : decode cX8_both 62 = .ok (.ireturn, 1) := by decide +kernel
theorem dX8_both_63 : decode cX8_both 63 = .ok (.iload_n 1, 1) := by decide +kernel
theorem dX8_both_64 : decode cX8_both 64 = .ok (.iload_n 2, 1) := by decide +kernel
theorem dX8_both_65 : decode cX8_both 65 = .ok (.if_icmp .ne 7, 3) := by decide +kernel
theorem dX8_both_68 : decode cX8_both 68 = .ok (.iconst 1, 1) := by decide +kernel
theorem dX8_both_69 : decode cX8_both 69 = .ok (.goto 4, 3) := by decide +kernel
theorem dX8_both_72 : decode cX8_both 72 = .ok (.iconst 0, 1) := by decide +kernel
theorem dX8_both_73 : decode cX8_both 73 = .ok (.ireturn, 1) := by decide +kernel
theorem dX8_both_74 : decode cX8_both 74 = .ok (.iload_n 1, 1) := by decide +kernel
theorem dX8_both_75 : decode cX8_both 75 = .ok (.ifCond .eq 11, 3) := by decide +kernel
theorem dX8_both_78 : decode cX8_both 78 = .ok (.iload_n 2, 1) := by decide +kernel
theorem dX8_both_79 : decode cX8_both 79 = .ok (.ifCond .eq 7, 3) := by decide +kernel
theorem dX8_both_82 : decode cX8_both 82 = .ok (.iconst 1, 1) := by decide +kernel
theorem dX8_both_83 : decode cX8_both 83 = .ok (.goto 4, 3) := by decide +kernel
theorem dX8_both_86 : decode cX8_both 86 = .ok (.iconst 0, 1) := by decide +kernel
theorem dX8_both_87 : decode cX8_both 87 = .ok (.ireturn, 1) := by decide +kernel
theorem dX8_both_88 : decode cX8_both 88 = .ok (.iload_n 1, 1) := by decide +kernel
theorem dX8_both_89 : decode cX8_both 89 = .ok (.ifCond .ne 7, 3) := by decide +kernel
theorem dX8_both_92 : decode cX8_both 92 = .ok (.iload_n 2, 1) := by decide +kernel
theorem dX8_both_93 : decode cX8_both 93 = .ok (.ifCond .eq 7, 3) := by decide +kernel
theorem dX8_both_96 : decode cX8_both 96 = .ok (.iconst 1, 1) := by decide +kernel
theorem dX8_both_97 : decode cX8_both 97 = .ok (.goto 4, 3) := by decide +kernel
theorem dX8_both_100 : decode cX8_both 100 = .ok (.iconst 0, 1) := by decide +kernel
theorem dX8_both_101 : decode cX8_both 101 = .ok (.ireturn, 1) := by decide +kernel
theorem dX8_isOwn_0 : decode cX8_isOwn 0 = .ok (.iload_n 2, 1) := by decide +kernel
theorem dX8_isOwn_1 : decode cX8_isOwn 1 = .ok (.invokestatic 115, 3) := by decide +kernel
theorem dX8_isOwn_4 : decode cX8_isOwn 4 = .ok (.ifCond .eq 22, 3) := by decide +kernel
theorem dX8_isOwn_7 : decode cX8_isOwn 7 = .ok (.aload_n 0, 1) := by decide +kernel
theorem dX8_isOwn_8 : decode cX8_isOwn 8 = .ok (.getfield 16, 3) := by decide +kernel
theorem dX8_isOwn_11 : decode cX8_isOwn 11 = .ok (.iload_n 1, 1) := by decide +kernel
theorem dX8_isOwn_12 : decode cX8_isOwn 12 = .ok (.iaload, 1) := by decide +kernel
theorem dX8_isOwn_13 : decode cX8_isOwn 13 = .ok (.iload_n 2, 1) := by decide +kernel
theorem dX8_isOwn_14 : decode cX8_isOwn 14 = .ok (.iconst 1, 1) := by decide +kernel
theorem dX8_isOwn_15 : decode cX8_isOwn 15 = .ok (.isub, 1) := by decide +kernel
theorem dX8_isOwn_16 : decode cX8_isOwn 16 = .ok (.invokestatic 118, 3) := by decide +kernel
theorem dX8_isOwn_19 : decode cX8_isOwn 19 = .ok (.ifCond .eq 7, 3) := by decide +kernel
theorem dX8_isOwn_22 : decode cX8_isOwn 22 = .ok (.iconst 1, 1) := by decide +kernel
theorem dX8_isOwn_23 : decode cX8_isOwn 23 = .ok (.goto 4, 3) := by decide +kernel
theorem dX8_isOwn_26 : decode cX8_isOwn 26 = .ok (.iconst 0, 1) := by decide +kernel
theorem dX8_isOwn_27 : decode cX8_isOwn 27 = .ok (.ireturn, 1) := by decide +kernel
theorem dX8_isSaid_0 : decode cX8_isSaid 0 = .ok (.aload_n 0, 1) := by decide +kernel
theorem dX8_isSaid_1 : decode cX8_isSaid 1 = .ok (.iload_n 1, 1) := by decide +kernel
theorem dX8_isSaid_2 : decode cX8_isSaid 2 = .ok (.iload_n 2, 1) := by decide +kernel
theorem dX8_isSaid_3 : decode cX8_isSaid 3 = .ok (.invokevirtual 216, 3) := by decide +kernel
theorem dX8_isSaid_6 : decode cX8_isSaid 6 = .ok (.ifCond .eq 5, 3) := by decide +kernel
theorem dX8_isSaid_9 : decode cX8_isSaid 9 = .ok (.iconst 1, 1) := by decide +kernel
theorem dX8_isSaid_10 : decode cX8_isSaid 10 = .ok (.ireturn, 1) := by decide +kernel
theorem dX8_isSaid_11 : decode cX8_isSaid 11 = .ok (.iconst 0, 1) := by decide +kernel
theorem dX8_isSaid_12 : decode cX8_isSaid 12 = .ok (.istore_n 3, 1) := by decide +kernel
theorem dX8_isSaid_13 : decode cX8_isSaid 13 = .ok (.aload_n 0, 1) := by decide +kernel
theorem dX8_isSaid_14 : decode cX8_isSaid 14 = .ok (.getfield 7, 3) := by decide +kernel
theorem dX8_isSaid_17 : decode cX8_isSaid 17 = .ok (.iload_n 1, 1) := by decide +kernel
theorem dX8_isSaid_18 : decode cX8_isSaid 18 = .ok (.iaload, 1) := by decide +kernel
theorem dX8_isSaid_19 : decode cX8_isSaid 19 = .ok (.tableswitch 156 1 5 #[94, 128, 33, 101, 137], 33) := by decide +kernel
theorem dX8_isSaid_52 : decode cX8_isSaid 52 = .ok (.iload_n 2, 1) := by decide +kernel
theorem dX8_isSaid_53 : decode cX8_isSaid 53 = .ok (.iconst 1, 1) := by decide +kernel
theorem dX8_isSaid_54 : decode cX8_isSaid 54 = .ok (.iadd, 1) := by decide +kernel
theorem dX8_isSaid_55 : decode cX8_isSaid 55 = .ok (.istore 4, 2) := by decide +kernel
theorem dX8_isSaid_57 : decode cX8_isSaid 57 = .ok (.iload 4, 2) := by decide +kernel
theorem dX8_isSaid_59 : decode cX8_isSaid 59 = .ok (.bipush 31, 2) := by decide +kernel
theorem dX8_isSaid_61 : decode cX8_isSaid 61 = .ok (.if_icmp .ge 33, 3) := by decide +kernel
theorem dX8_isSaid_64 : decode cX8_isSaid 64 = .ok (.aload_n 0, 1) := by decide +kernel
theorem dX8_isSaid_65 : decode cX8_isSaid 65 = .ok (.iload_n 1, 1) := by decide +kernel
theorem dX8_isSaid_66 : decode cX8_isSaid 66 = .ok (.iload 4, 2) := by decide +kernel
theorem dX8_isSaid_68 : decode cX8_isSaid 68 = .ok (.invokevirtual 216, 3) := by decide +kernel
theorem dX8_isSaid_71 : decode cX8_isSaid 71 = .ok (.ifCond .eq 17, 3) := by decide +kernel
theorem dX8_isSaid_74 : decode cX8_isSaid 74 = .ok (.aload_n 0, 1) := by decide +kernel
theorem dX8_isSaid_75 : decode cX8_isSaid 75 = .ok (.iload_n 1, 1) := by decide +kernel
theorem dX8_isSaid_76 : decode cX8_isSaid 76 = .ok (.iload 4, 2) := by decide +kernel
theorem dX8_isSaid_78 : decode cX8_isSaid 78 = .ok (.iload_n 2, 1) := by decide +kernel
theorem dX8_isSaid_79 : decode cX8_isSaid 79 = .ok (.isub, 1) := by decide +kernel
theorem dX8_isSaid_80 : decode cX8_isSaid 80 = .ok (.invokevirtual 216, 3) := by decide +kernel
theorem dX8_isSaid_83 : decode cX8_isSaid 83 = .ok (.ifCond .eq 5, 3) := by decide +kernel
theorem dX8_isSaid_86 : decode cX8_isSaid 86 = .ok (.iconst 1, 1) := by decide +kernel
theorem dX8_isSaid_87 : decode cX8_isSaid 87 = .ok (.istore_n 3, 1) := by decide +kernel
theorem dX8_isSaid_88 : decode cX8_isSaid 88 = .ok (.iinc 4 1, 3) := by decide +kernel
theorem dX8_isSaid_91 : decode cX8_isSaid 91 = .ok (.goto (-34), 3) := by decide +kernel
theorem dX8_isSaid_94 : decode cX8_isSaid 94 = .ok (.iload_n 3, 1) := by decide +kernel
theorem dX8_isSaid_95 : decode cX8_isSaid 95 = .ok (.ifCond .ne 12, 3) := by decide +kernel
theorem dX8_isSaid_98 : decode cX8_isSaid 98 = .ok (.aload_n 0, 1) := by decide +kernel
theorem dX8_isSaid_99 : decode cX8_isSaid 99 = .ok (.iload_n 1, 1) := by decide +kernel
theorem dX8_isSaid_100 : decode cX8_isSaid 100 = .ok (.iload_n 2, 1) := by decide +kernel
theorem dX8_isSaid_101 : decode cX8_isSaid 101 = .ok (.invokevirtual 219, 3) := by decide +kernel
theorem dX8_isSaid_104 : decode cX8_isSaid 104 = .ok (.ifCond .eq 7, 3) := by decide +kernel
theorem dX8_isSaid_107 : decode cX8_isSaid 107 = .ok (.iconst 1, 1) := by decide +kernel
theorem dX8_isSaid_108 : decode cX8_isSaid 108 = .ok (.goto 4, 3) := by decide +kernel
theorem dX8_isSaid_111 : decode cX8_isSaid 111 = .ok (.iconst 0, 1) := by decide +kernel
theorem dX8_isSaid_112 : decode cX8_isSaid 112 = .ok (.ireturn, 1) := by decide +kernel
theorem dX8_isSaid_113 : decode cX8_isSaid 113 = .ok (.aload_n 0, 1) := by decide +kernel
theorem dX8_isSaid_114 : decode cX8_isSaid 114 = .ok (.iload_n 1, 1) := by decide +kernel
theorem dX8_isSaid_115 : decode cX8_isSaid 115 = .ok (.iload_n 2, 1) := by decide +kernel
theorem dX8_isSaid_116 : decode cX8_isSaid 116 = .ok (.invokevirtual 219, 3) := by decide +kernel
theorem dX8_isSaid_119 : decode cX8_isSaid 119 = .ok (.ireturn, 1) := by decide +kernel
theorem dX8_isSaid_120 : decode cX8_isSaid 120 = .ok (.iload_n 2, 1) := by decide +kernel
theorem dX8_isSaid_121 : decode cX8_isSaid 121 = .ok (.aload_n 0, 1) := by decide +kernel
theorem dX8_isSaid_122 : decode cX8_isSaid 122 = .ok (.getfield 13, 3) := by decide +kernel
theorem dX8_isSaid_125 : decode cX8_isSaid 125 = .ok (.iload_n 1, 1) := by decide +kernel
theorem dX8_isSaid_126 : decode cX8_isSaid 126 = .ok (.iaload, 1) := by decide +kernel
theorem dX8_isSaid_127 : decode cX8_isSaid 127 = .ok (.if_icmp .eq 14, 3) := by decide +kernel
theorem dX8_isSaid_130 : decode cX8_isSaid 130 = .ok (.aload_n 0, 1) := by decide +kernel
theorem dX8_isSaid_131 : decode cX8_isSaid 131 = .ok (.iload_n 1, 1) := by decide +kernel
theorem dX8_isSaid_132 : decode cX8_isSaid 132 = .ok (.iconst 2, 1) := by decide +kernel
theorem dX8_isSaid_133 : decode cX8_isSaid 133 = .ok (.iload_n 2, 1) := by decide +kernel
theorem dX8_isSaid_134 : decode cX8_isSaid 134 = .ok (.imul, 1) := by decide +kernel
theorem dX8_isSaid_135 : decode cX8_isSaid 135 = .ok (.invokevirtual 216, 3) := by decide +kernel
theorem dX8_isSaid_138 : decode cX8_isSaid 138 = .ok (.ifCond .eq 7, 3) := by decide +kernel
theorem dX8_isSaid_141 : decode cX8_isSaid 141 = .ok (.iconst 1, 1) := by decide +kernel
theorem dX8_isSaid_142 : decode cX8_isSaid 142 = .ok (.goto 4, 3) := by decide +kernel
theorem dX8_isSaid_145 : decode cX8_isSaid 145 = .ok (.iconst 0, 1) := by decide +kernel
theorem dX8_isSaid_146 : decode cX8_isSaid 146 = .ok (.ireturn, 1) := by decide +kernel
theorem dX8_isSaid_147 : decode cX8_isSaid 147 = .ok (.aload_n 0, 1) := by decide +kernel
theorem dX8_isSaid_148 : decode cX8_isSaid 148 = .ok (.iload_n 1, 1) := by decide +kernel
theorem dX8_isSaid_149 : decode cX8_isSaid 149 = .ok (.iconst 2, 1) := by decide +kernel
theorem dX8_isSaid_150 : decode cX8_isSaid 150 = .ok (.iload_n 2, 1) := by decide +kernel
theorem dX8_isSaid_151 : decode cX8_isSaid 151 = .ok (.imul, 1) := by decide +kernel
theorem dX8_isSaid_152 : decode cX8_isSaid 152 = .ok (.invokevirtual 216, 3) := by decide +kernel
theorem dX8_isSaid_155 : decode cX8_isSaid 155 = .ok (.ireturn, 1) := by decide +kernel
theorem dX8_isSaid_156 : decode cX8_isSaid 156 = .ok (.iload_n 2, 1) := by decide +kernel
theorem dX8_isSaid_157 : decode cX8_isSaid 157 = .ok (.bipush 20, 2) := by decide +kernel
theorem dX8_isSaid_159 : decode cX8_isSaid 159 = .ok (.aload_n 0, 1) := by decide +kernel
theorem dX8_isSaid_160 : decode cX8_isSaid 160 = .ok (.getfield 13, 3) := by decide +kernel
theorem dX8_isSaid_163 : decode cX8_isSaid 163 = .ok (.iload_n 1, 1) := by decide +kernel
theorem dX8_isSaid_164 : decode cX8_isSaid 164 = .ok (.iaload, 1) := by decide +kernel
theorem dX8_isSaid_165 : decode cX8_isSaid 165 = .ok (.iadd, 1) := by decide +kernel
theorem dX8_isSaid_166 : decode cX8_isSaid 166 = .ok (.if_icmp .le 7, 3) := by decide +kernel
theorem dX8_isSaid_169 : decode cX8_isSaid 169 = .ok (.iconst 1, 1) := by decide +kernel
theorem dX8_isSaid_170 : decode cX8_isSaid 170 = .ok (.goto 4, 3) := by decide +kernel
theorem dX8_isSaid_173 : decode cX8_isSaid 173 = .ok (.iconst 0, 1) := by decide +kernel
theorem dX8_isSaid_174 : decode cX8_isSaid 174 = .ok (.ireturn, 1) := by decide +kernel
theorem dX8_isSaid_175 : decode cX8_isSaid 175 = .ok (.iconst 0, 1) := by decide +kernel
theorem dX8_isSaid_176 : decode cX8_isSaid 176 = .ok (.ireturn, 1) := by decide +kernel
theorem dX8_isMade_0 : decode cX8_isMade 0 = .ok (.iconst 1, 1) := by decide +kernel
theorem dX8_isMade_1 : decode cX8_isMade 1 = .ok (.istore_n 3, 1) := by decide +kernel
theorem dX8_isMade_2 : decode cX8_isMade 2 = .ok (.iload_n 3, 1) := by decide +kernel
theorem dX8_isMade_3 : decode cX8_isMade 3 = .ok (.iload_n 2, 1) := by decide +kernel
theorem dX8_isMade_4 : decode cX8_isMade 4 = .ok (.if_icmp .ge 31, 3) := by decide +kernel
theorem dX8_isMade_7 : decode cX8_isMade 7 = .ok (.aload_n 0, 1) := by decide +kernel
theorem dX8_isMade_8 : decode cX8_isMade 8 = .ok (.iload_n 1, 1) := by decide +kernel
theorem dX8_isMade_9 : decode cX8_isMade 9 = .ok (.iload_n 3, 1) := by decide +kernel
theorem dX8_isMade_10 : decode cX8_isMade 10 = .ok (.invokevirtual 216, 3) := by decide +kernel
theorem dX8_isMade_13 : decode cX8_isMade 13 = .ok (.ifCond .eq 16, 3) := by decide +kernel
theorem dX8_isMade_16 : decode cX8_isMade 16 = .ok (.aload_n 0, 1) := by decide +kernel
theorem dX8_isMade_17 : decode cX8_isMade 17 = .ok (.iload_n 1, 1) := by decide +kernel
theorem dX8_isMade_18 : decode cX8_isMade 18 = .ok (.iload_n 2, 1) := by decide +kernel
theorem dX8_isMade_19 : decode cX8_isMade 19 = .ok (.iload_n 3, 1) := by decide +kernel
theorem dX8_isMade_20 : decode cX8_isMade 20 = .ok (.isub, 1) := by decide +kernel
theorem dX8_isMade_21 : decode cX8_isMade 21 = .ok (.invokevirtual 216, 3) := by decide +kernel
theorem dX8_isMade_24 : decode cX8_isMade 24 = .ok (.ifCond .eq 5, 3) := by decide +kernel
theorem dX8_isMade_27 : decode cX8_isMade 27 = .ok (.iconst 1, 1) := by decide +kernel
theorem dX8_isMade_28 : decode cX8_isMade 28 = .ok (.ireturn, 1) := by decide +kernel
theorem dX8_isMade_29 : decode cX8_isMade 29 = .ok (.iinc 3 1, 3) := by decide +kernel
theorem dX8_isMade_32 : decode cX8_isMade 32 = .ok (.goto (-30), 3) := by decide +kernel
theorem dX8_isMade_35 : decode cX8_isMade 35 = .ok (.iconst 0, 1) := by decide +kernel
theorem dX8_isMade_36 : decode cX8_isMade 36 = .ok (.ireturn, 1) := by decide +kernel
theorem dX8_sayable_0 : decode cX8_sayable 0 = .ok (.iconst 0, 1) := by decide +kernel
theorem dX8_sayable_1 : decode cX8_sayable 1 = .ok (.istore_n 2, 1) := by decide +kernel
theorem dX8_sayable_2 : decode cX8_sayable 2 = .ok (.iconst 1, 1) := by decide +kernel
theorem dX8_sayable_3 : decode cX8_sayable 3 = .ok (.istore_n 3, 1) := by decide +kernel
theorem dX8_sayable_4 : decode cX8_sayable 4 = .ok (.iload_n 3, 1) := by decide +kernel
theorem dX8_sayable_5 : decode cX8_sayable 5 = .ok (.bipush 31, 2) := by decide +kernel
theorem dX8_sayable_7 : decode cX8_sayable 7 = .ok (.if_icmp .ge 26, 3) := by decide +kernel
theorem dX8_sayable_10 : decode cX8_sayable 10 = .ok (.aload_n 0, 1) := by decide +kernel
theorem dX8_sayable_11 : decode cX8_sayable 11 = .ok (.iload_n 1, 1) := by decide +kernel
theorem dX8_sayable_12 : decode cX8_sayable 12 = .ok (.iload_n 3, 1) := by decide +kernel
theorem dX8_sayable_13 : decode cX8_sayable 13 = .ok (.invokevirtual 222, 3) := by decide +kernel
theorem dX8_sayable_16 : decode cX8_sayable 16 = .ok (.ifCond .eq 11, 3) := by decide +kernel
theorem dX8_sayable_19 : decode cX8_sayable 19 = .ok (.iload_n 2, 1) := by decide +kernel
theorem dX8_sayable_20 : decode cX8_sayable 20 = .ok (.iconst 1, 1) := by decide +kernel
theorem dX8_sayable_21 : decode cX8_sayable 21 = .ok (.iload_n 3, 1) := by decide +kernel
theorem dX8_sayable_22 : decode cX8_sayable 22 = .ok (.iconst 1, 1) := by decide +kernel
theorem dX8_sayable_23 : decode cX8_sayable 23 = .ok (.isub, 1) := by decide +kernel
theorem dX8_sayable_24 : decode cX8_sayable 24 = .ok (.ishl, 1) := by decide +kernel
theorem dX8_sayable_25 : decode cX8_sayable 25 = .ok (.ior, 1) := by decide +kernel
theorem dX8_sayable_26 : decode cX8_sayable 26 = .ok (.istore_n 2, 1) := by decide +kernel
theorem dX8_sayable_27 : decode cX8_sayable 27 = .ok (.iinc 3 1, 3) := by decide +kernel
theorem dX8_sayable_30 : decode cX8_sayable 30 = .ok (.goto (-26), 3) := by decide +kernel
theorem dX8_sayable_33 : decode cX8_sayable 33 = .ok (.iload_n 2, 1) := by decide +kernel
theorem dX8_sayable_34 : decode cX8_sayable 34 = .ok (.ireturn, 1) := by decide +kernel
theorem dX8_one__0 : decode cX8_one_ 0 = .ok (.iload_n 0, 1) := by decide +kernel
theorem dX8_one__1 : decode cX8_one_ 1 = .ok (.iconst 1, 1) := by decide +kernel
theorem dX8_one__2 : decode cX8_one_ 2 = .ok (.if_icmp .ge 7, 3) := by decide +kernel
theorem dX8_one__5 : decode cX8_one_ 5 = .ok (.iconst 1, 1) := by decide +kernel
theorem dX8_one__6 : decode cX8_one_ 6 = .ok (.goto 4, 3) := by decide +kernel
theorem dX8_one__9 : decode cX8_one_ 9 = .ok (.iload_n 0, 1) := by decide +kernel
theorem dX8_one__10 : decode cX8_one_ 10 = .ok (.ireturn, 1) := by decide +kernel
theorem dX8_costs_0 : decode cX8_costs 0 = .ok (.aload_n 0, 1) := by decide +kernel
theorem dX8_costs_1 : decode cX8_costs 1 = .ok (.iconst 0, 1) := by decide +kernel
theorem dX8_costs_2 : decode cX8_costs 2 = .ok (.iload_n 1, 1) := by decide +kernel
theorem dX8_costs_3 : decode cX8_costs 3 = .ok (.iload_n 2, 1) := by decide +kernel
theorem dX8_costs_4 : decode cX8_costs 4 = .ok (.invokevirtual 225, 3) := by decide +kernel
theorem dX8_costs_7 : decode cX8_costs 7 = .ok (.invokestatic 228, 3) := by decide +kernel
theorem dX8_costs_10 : decode cX8_costs 10 = .ok (.istore_n 3, 1) := by decide +kernel
theorem dX8_costs_11 : decode cX8_costs 11 = .ok (.aload_n 0, 1) := by decide +kernel
theorem dX8_costs_12 : decode cX8_costs 12 = .ok (.getfield 7, 3) := by decide +kernel
theorem dX8_costs_15 : decode cX8_costs 15 = .ok (.iload_n 1, 1) := by decide +kernel
theorem dX8_costs_16 : decode cX8_costs 16 = .ok (.iaload, 1) := by decide +kernel
theorem dX8_costs_17 : decode cX8_costs 17 = .ok (.tableswitch 67 1 5 #[35, 39, 51, 39, 60], 35) := by decide +kernel
theorem dX8_costs_52 : decode cX8_costs 52 = .ok (.iload_n 3, 1) := by decide +kernel
theorem dX8_costs_53 : decode cX8_costs 53 = .ok (.iconst 1, 1) := by decide +kernel
theorem dX8_costs_54 : decode cX8_costs 54 = .ok (.iadd, 1) := by decide +kernel
theorem dX8_costs_55 : decode cX8_costs 55 = .ok (.ireturn, 1) := by decide +kernel
theorem dX8_costs_56 : decode cX8_costs 56 = .ok (.iload_n 3, 1) := by decide +kernel
theorem dX8_costs_57 : decode cX8_costs 57 = .ok (.aload_n 0, 1) := by decide +kernel
theorem dX8_costs_58 : decode cX8_costs 58 = .ok (.getfield 13, 3) := by decide +kernel
theorem dX8_costs_61 : decode cX8_costs 61 = .ok (.iload_n 1, 1) := by decide +kernel
theorem dX8_costs_62 : decode cX8_costs 62 = .ok (.iaload, 1) := by decide +kernel
theorem dX8_costs_63 : decode cX8_costs 63 = .ok (.iadd, 1) := by decide +kernel
theorem dX8_costs_64 : decode cX8_costs 64 = .ok (.invokestatic 231, 3) := by decide +kernel
theorem dX8_costs_67 : decode cX8_costs 67 = .ok (.ireturn, 1) := by decide +kernel
theorem dX8_costs_68 : decode cX8_costs 68 = .ok (.iload_n 3, 1) := by decide +kernel
theorem dX8_costs_69 : decode cX8_costs 69 = .ok (.iconst 1, 1) := by decide +kernel
theorem dX8_costs_70 : decode cX8_costs 70 = .ok (.iadd, 1) := by decide +kernel
theorem dX8_costs_71 : decode cX8_costs 71 = .ok (.iconst 2, 1) := by decide +kernel
theorem dX8_costs_72 : decode cX8_costs 72 = .ok (.idiv, 1) := by decide +kernel
theorem dX8_costs_73 : decode cX8_costs 73 = .ok (.invokestatic 231, 3) := by decide +kernel
theorem dX8_costs_76 : decode cX8_costs 76 = .ok (.ireturn, 1) := by decide +kernel
theorem dX8_costs_77 : decode cX8_costs 77 = .ok (.iconst 2, 1) := by decide +kernel
theorem dX8_costs_78 : decode cX8_costs 78 = .ok (.iload_n 3, 1) := by decide +kernel
theorem dX8_costs_79 : decode cX8_costs 79 = .ok (.imul, 1) := by decide +kernel
theorem dX8_costs_80 : decode cX8_costs 80 = .ok (.invokestatic 231, 3) := by decide +kernel
theorem dX8_costs_83 : decode cX8_costs 83 = .ok (.ireturn, 1) := by decide +kernel
theorem dX8_costs_84 : decode cX8_costs 84 = .ok (.iload_n 3, 1) := by decide +kernel
theorem dX8_costs_85 : decode cX8_costs 85 = .ok (.invokestatic 231, 3) := by decide +kernel
theorem dX8_costs_88 : decode cX8_costs 88 = .ok (.ireturn, 1) := by decide +kernel
theorem dX8_isMeant_0 : decode cX8_isMeant 0 = .ok (.aload_n 0, 1) := by decide +kernel
theorem dX8_isMeant_1 : decode cX8_isMeant 1 = .ok (.iconst 1, 1) := by decide +kernel
theorem dX8_isMeant_2 : decode cX8_isMeant 2 = .ok (.iload_n 1, 1) := by decide +kernel
theorem dX8_isMeant_3 : decode cX8_isMeant 3 = .ok (.iload_n 2, 1) := by decide +kernel
theorem dX8_isMeant_4 : decode cX8_isMeant 4 = .ok (.invokevirtual 225, 3) := by decide +kernel
theorem dX8_isMeant_7 : decode cX8_isMeant 7 = .ok (.ifCond .eq 7, 3) := by decide +kernel
theorem dX8_isMeant_10 : decode cX8_isMeant 10 = .ok (.iconst 1, 1) := by decide +kernel
theorem dX8_isMeant_11 : decode cX8_isMeant 11 = .ok (.goto 4, 3) := by decide +kernel
theorem dX8_isMeant_14 : decode cX8_isMeant 14 = .ok (.iconst 0, 1) := by decide +kernel
theorem dX8_isMeant_15 : decode cX8_isMeant 15 = .ok (.ireturn, 1) := by decide +kernel
theorem dX8_worthOf_0 : decode cX8_worthOf 0 = .ok (.aload_n 0, 1) := by decide +kernel
theorem dX8_worthOf_1 : decode cX8_worthOf 1 = .ok (.iconst 2, 1) := by decide +kernel
theorem dX8_worthOf_2 : decode cX8_worthOf 2 = .ok (.iload_n 1, 1) := by decide +kernel
theorem dX8_worthOf_3 : decode cX8_worthOf 3 = .ok (.iload_n 2, 1) := by decide +kernel
theorem dX8_worthOf_4 : decode cX8_worthOf 4 = .ok (.invokevirtual 225, 3) := by decide +kernel
theorem dX8_worthOf_7 : decode cX8_worthOf 7 = .ok (.invokestatic 228, 3) := by decide +kernel
theorem dX8_worthOf_10 : decode cX8_worthOf 10 = .ok (.ireturn, 1) := by decide +kernel
theorem dX8_says_0 : decode cX8_says 0 = .ok (.aload_n 0, 1) := by decide +kernel
theorem dX8_says_1 : decode cX8_says 1 = .ok (.iload_n 1, 1) := by decide +kernel
theorem dX8_says_2 : decode cX8_says 2 = .ok (.invokevirtual 89, 3) := by decide +kernel
theorem dX8_says_5 : decode cX8_says 5 = .ok (.ifCond .eq 34, 3) := by decide +kernel
theorem dX8_says_8 : decode cX8_says 8 = .ok (.iload_n 3, 1) := by decide +kernel
theorem dX8_says_9 : decode cX8_says 9 = .ok (.iconst 0, 1) := by decide +kernel
theorem dX8_says_10 : decode cX8_says 10 = .ok (.iconst 3, 1) := by decide +kernel
theorem dX8_says_11 : decode cX8_says 11 = .ok (.invokestatic 85, 3) := by decide +kernel
theorem dX8_says_14 : decode cX8_says 14 = .ok (.ifCond .eq 25, 3) := by decide +kernel
theorem dX8_says_17 : decode cX8_says 17 = .ok (.iload_n 3, 1) := by decide +kernel
theorem dX8_says_18 : decode cX8_says 18 = .ok (.iconst 2, 1) := by decide +kernel
theorem dX8_says_19 : decode cX8_says 19 = .ok (.if_icmp .ge 13, 3) := by decide +kernel
theorem dX8_says_22 : decode cX8_says 22 = .ok (.iload_n 2, 1) := by decide +kernel
theorem dX8_says_23 : decode cX8_says 23 = .ok (.invokestatic 115, 3) := by decide +kernel
theorem dX8_says_26 : decode cX8_says 26 = .ok (.ifCond .ne 16, 3) := by decide +kernel
theorem dX8_says_29 : decode cX8_says 29 = .ok (.goto 10, 3) := by decide +kernel
theorem dX8_says_32 : decode cX8_says 32 = .ok (.iload_n 2, 1) := by decide +kernel
theorem dX8_says_33 : decode cX8_says 33 = .ok (.invokestatic 233, 3) := by decide +kernel
theorem dX8_says_36 : decode cX8_says 36 = .ok (.ifCond .ne 6, 3) := by decide +kernel
theorem dX8_says_39 : decode cX8_says 39 = .ok (.bipush (-2), 2) := by decide +kernel
theorem dX8_says_41 : decode cX8_says 41 = .ok (.ireturn, 1) := by decide +kernel
theorem dX8_says_42 : decode cX8_says 42 = .ok (.iload_n 3, 1) := by decide +kernel
theorem dX8_says_43 : decode cX8_says 43 = .ok (.tableswitch 62 0 2 #[25, 40, 47], 25) := by decide +kernel
theorem dX8_says_68 : decode cX8_says 68 = .ok (.aload_n 0, 1) := by decide +kernel
theorem dX8_says_69 : decode cX8_says 69 = .ok (.iload_n 1, 1) := by decide +kernel
theorem dX8_says_70 : decode cX8_says 70 = .ok (.iload_n 2, 1) := by decide +kernel
theorem dX8_says_71 : decode cX8_says 71 = .ok (.invokevirtual 222, 3) := by decide +kernel
theorem dX8_says_74 : decode cX8_says 74 = .ok (.ifCond .eq 7, 3) := by decide +kernel
theorem dX8_says_77 : decode cX8_says 77 = .ok (.iconst 1, 1) := by decide +kernel
theorem dX8_says_78 : decode cX8_says 78 = .ok (.goto 4, 3) := by decide +kernel
theorem dX8_says_81 : decode cX8_says 81 = .ok (.iconst 0, 1) := by decide +kernel
theorem dX8_says_82 : decode cX8_says 82 = .ok (.ireturn, 1) := by decide +kernel
theorem dX8_says_83 : decode cX8_says 83 = .ok (.aload_n 0, 1) := by decide +kernel
theorem dX8_says_84 : decode cX8_says 84 = .ok (.iload_n 1, 1) := by decide +kernel
theorem dX8_says_85 : decode cX8_says 85 = .ok (.iload_n 2, 1) := by decide +kernel
theorem dX8_says_86 : decode cX8_says 86 = .ok (.invokevirtual 236, 3) := by decide +kernel
theorem dX8_says_89 : decode cX8_says 89 = .ok (.ireturn, 1) := by decide +kernel
theorem dX8_says_90 : decode cX8_says 90 = .ok (.aload_n 0, 1) := by decide +kernel
theorem dX8_says_91 : decode cX8_says 91 = .ok (.iload_n 1, 1) := by decide +kernel
theorem dX8_says_92 : decode cX8_says 92 = .ok (.iload_n 2, 1) := by decide +kernel
theorem dX8_says_93 : decode cX8_says 93 = .ok (.invokevirtual 239, 3) := by decide +kernel
theorem dX8_says_96 : decode cX8_says 96 = .ok (.ifCond .eq 7, 3) := by decide +kernel
theorem dX8_says_99 : decode cX8_says 99 = .ok (.iconst 1, 1) := by decide +kernel
theorem dX8_says_100 : decode cX8_says 100 = .ok (.goto 4, 3) := by decide +kernel
theorem dX8_says_103 : decode cX8_says 103 = .ok (.iconst 0, 1) := by decide +kernel
theorem dX8_says_104 : decode cX8_says 104 = .ok (.ireturn, 1) := by decide +kernel
theorem dX8_says_105 : decode cX8_says 105 = .ok (.aload_n 0, 1) := by decide +kernel
theorem dX8_says_106 : decode cX8_says 106 = .ok (.iload_n 1, 1) := by decide +kernel
theorem dX8_says_107 : decode cX8_says 107 = .ok (.iload_n 2, 1) := by decide +kernel
theorem dX8_says_108 : decode cX8_says 108 = .ok (.invokevirtual 242, 3) := by decide +kernel
theorem dX8_says_111 : decode cX8_says 111 = .ok (.ireturn, 1) := by decide +kernel
theorem dX8_common_0 : decode cX8_common 0 = .ok (.aload_n 0, 1) := by decide +kernel
theorem dX8_common_1 : decode cX8_common 1 = .ok (.iload_n 1, 1) := by decide +kernel
theorem dX8_common_2 : decode cX8_common 2 = .ok (.iload_n 2, 1) := by decide +kernel
theorem dX8_common_3 : decode cX8_common 3 = .ok (.invokevirtual 112, 3) := by decide +kernel
theorem dX8_common_6 : decode cX8_common 6 = .ok (.ifCond .eq 17, 3) := by decide +kernel
theorem dX8_common_9 : decode cX8_common 9 = .ok (.aload_n 0, 1) := by decide +kernel
theorem dX8_common_10 : decode cX8_common 10 = .ok (.iload_n 1, 1) := by decide +kernel
theorem dX8_common_11 : decode cX8_common 11 = .ok (.invokevirtual 101, 3) := by decide +kernel
theorem dX8_common_14 : decode cX8_common 14 = .ok (.aload_n 0, 1) := by decide +kernel
theorem dX8_common_15 : decode cX8_common 15 = .ok (.iload_n 2, 1) := by decide +kernel
theorem dX8_common_16 : decode cX8_common 16 = .ok (.invokevirtual 101, 3) := by decide +kernel
theorem dX8_common_19 : decode cX8_common 19 = .ok (.iand, 1) := by decide +kernel
theorem dX8_common_20 : decode cX8_common 20 = .ok (.goto 5, 3) := by decide +kernel
theorem dX8_common_23 : decode cX8_common 23 = .ok (.bipush (-2), 2) := by decide +kernel
theorem dX8_common_25 : decode cX8_common 25 = .ok (.ireturn, 1) := by decide +kernel
theorem dX8_sums_0 : decode cX8_sums 0 = .ok (.iconst 1, 1) := by decide +kernel
theorem dX8_sums_1 : decode cX8_sums 1 = .ok (.istore_n 3, 1) := by decide +kernel
theorem dX8_sums_2 : decode cX8_sums 2 = .ok (.iload_n 3, 1) := by decide +kernel
theorem dX8_sums_3 : decode cX8_sums 3 = .ok (.bipush 31, 2) := by decide +kernel
theorem dX8_sums_5 : decode cX8_sums 5 = .ok (.if_icmp .ge 50, 3) := by decide +kernel
theorem dX8_sums_8 : decode cX8_sums 8 = .ok (.aload_n 0, 1) := by decide +kernel
theorem dX8_sums_9 : decode cX8_sums 9 = .ok (.getfield 37, 3) := by decide +kernel
theorem dX8_sums_12 : decode cX8_sums 12 = .ok (.iload_n 3, 1) := by decide +kernel
theorem dX8_sums_13 : decode cX8_sums 13 = .ok (.aload_n 0, 1) := by decide +kernel
theorem dX8_sums_14 : decode cX8_sums 14 = .ok (.iload_n 1, 1) := by decide +kernel
theorem dX8_sums_15 : decode cX8_sums 15 = .ok (.iload_n 3, 1) := by decide +kernel
theorem dX8_sums_16 : decode cX8_sums 16 = .ok (.invokevirtual 222, 3) := by decide +kernel
theorem dX8_sums_19 : decode cX8_sums 19 = .ok (.ifCond .eq 28, 3) := by decide +kernel
theorem dX8_sums_22 : decode cX8_sums 22 = .ok (.aload_n 0, 1) := by decide +kernel
theorem dX8_sums_23 : decode cX8_sums 23 = .ok (.iload_n 2, 1) := by decide +kernel
theorem dX8_sums_24 : decode cX8_sums 24 = .ok (.iload_n 3, 1) := by decide +kernel
theorem dX8_sums_25 : decode cX8_sums 25 = .ok (.invokevirtual 222, 3) := by decide +kernel
theorem dX8_sums_28 : decode cX8_sums 28 = .ok (.ifCond .eq 19, 3) := by decide +kernel
theorem dX8_sums_31 : decode cX8_sums 31 = .ok (.aload_n 0, 1) := by decide +kernel
theorem dX8_sums_32 : decode cX8_sums 32 = .ok (.iload_n 1, 1) := by decide +kernel
theorem dX8_sums_33 : decode cX8_sums 33 = .ok (.iload_n 3, 1) := by decide +kernel
theorem dX8_sums_34 : decode cX8_sums 34 = .ok (.invokevirtual 236, 3) := by decide +kernel
theorem dX8_sums_37 : decode cX8_sums 37 = .ok (.aload_n 0, 1) := by decide +kernel
theorem dX8_sums_38 : decode cX8_sums 38 = .ok (.iload_n 2, 1) := by decide +kernel
theorem dX8_sums_39 : decode cX8_sums 39 = .ok (.iload_n 3, 1) := by decide +kernel
theorem dX8_sums_40 : decode cX8_sums 40 = .ok (.invokevirtual 236, 3) := by decide +kernel
theorem dX8_sums_43 : decode cX8_sums 43 = .ok (.iadd, 1) := by decide +kernel
theorem dX8_sums_44 : decode cX8_sums 44 = .ok (.goto 4, 3) := by decide +kernel
theorem dX8_sums_47 : decode cX8_sums 47 = .ok (.iconst (-1), 1) := by decide +kernel
theorem dX8_sums_48 : decode cX8_sums 48 = .ok (.iastore, 1) := by decide +kernel
theorem dX8_sums_49 : decode cX8_sums 49 = .ok (.iinc 3 1, 3) := by decide +kernel
theorem dX8_sums_52 : decode cX8_sums 52 = .ok (.goto (-50), 3) := by decide +kernel
theorem dX8_sums_55 : decode cX8_sums 55 = .ok (.iconst 1, 1) := by decide +kernel
theorem dX8_sums_56 : decode cX8_sums 56 = .ok (.istore_n 3, 1) := by decide +kernel
theorem dX8_sums_57 : decode cX8_sums 57 = .ok (.iload_n 3, 1) := by decide +kernel
theorem dX8_sums_58 : decode cX8_sums 58 = .ok (.bipush 100, 2) := by decide +kernel
theorem dX8_sums_60 : decode cX8_sums 60 = .ok (.if_icmp .ge 174, 3) := by decide +kernel
theorem dX8_sums_63 : decode cX8_sums 63 = .ok (.aload_n 0, 1) := by decide +kernel
theorem dX8_sums_64 : decode cX8_sums 64 = .ok (.getfield 40, 3) := by decide +kernel
theorem dX8_sums_67 : decode cX8_sums 67 = .ok (.iload_n 3, 1) := by decide +kernel
theorem dX8_sums_68 : decode cX8_sums 68 = .ok (.iconst (-1), 1) := by decide +kernel
theorem dX8_sums_69 : decode cX8_sums 69 = .ok (.iastore, 1) := by decide +kernel
theorem dX8_sums_70 : decode cX8_sums 70 = .ok (.aload_n 0, 1) := by decide +kernel
theorem dX8_sums_71 : decode cX8_sums 71 = .ok (.getfield 43, 3) := by decide +kernel
theorem dX8_sums_74 : decode cX8_sums 74 = .ok (.iload_n 3, 1) := by decide +kernel
theorem dX8_sums_75 : decode cX8_sums 75 = .ok (.iconst (-1), 1) := by decide +kernel
theorem dX8_sums_76 : decode cX8_sums 76 = .ok (.iastore, 1) := by decide +kernel
theorem dX8_sums_77 : decode cX8_sums 77 = .ok (.iconst 1, 1) := by decide +kernel
theorem dX8_sums_78 : decode cX8_sums 78 = .ok (.istore 4, 2) := by decide +kernel
theorem dX8_sums_80 : decode cX8_sums 80 = .ok (.iload 4, 2) := by decide +kernel
theorem dX8_sums_82 : decode cX8_sums 82 = .ok (.bipush 31, 2) := by decide +kernel
theorem dX8_sums_84 : decode cX8_sums 84 = .ok (.if_icmp .ge 144, 3) := by decide +kernel
theorem dX8_sums_87 : decode cX8_sums 87 = .ok (.iload 4, 2) := by decide +kernel
theorem dX8_sums_89 : decode cX8_sums 89 = .ok (.iload_n 3, 1) := by decide +kernel
theorem dX8_sums_90 : decode cX8_sums 90 = .ok (.if_icmp .gt 138, 3) := by decide +kernel
theorem dX8_sums_93 : decode cX8_sums 93 = .ok (.iload_n 3, 1) := by decide +kernel
theorem dX8_sums_94 : decode cX8_sums 94 = .ok (.iload 4, 2) := by decide +kernel
theorem dX8_sums_96 : decode cX8_sums 96 = .ok (.isub, 1) := by decide +kernel
theorem dX8_sums_97 : decode cX8_sums 97 = .ok (.istore 5, 2) := by decide +kernel
theorem dX8_sums_99 : decode cX8_sums 99 = .ok (.aload_n 0, 1) := by decide +kernel
theorem dX8_sums_100 : decode cX8_sums 100 = .ok (.getfield 37, 3) := by decide +kernel
theorem dX8_sums_103 : decode cX8_sums 103 = .ok (.iload 4, 2) := by decide +kernel
theorem dX8_sums_105 : decode cX8_sums 105 = .ok (.iaload, 1) := by decide +kernel
theorem dX8_sums_106 : decode cX8_sums 106 = .ok (.iconst (-1), 1) := by decide +kernel
theorem dX8_sums_107 : decode cX8_sums 107 = .ok (.if_icmp .eq 115, 3) := by decide +kernel
theorem dX8_sums_110 : decode cX8_sums 110 = .ok (.aload_n 0, 1) := by decide +kernel
theorem dX8_sums_111 : decode cX8_sums 111 = .ok (.getfield 40, 3) := by decide +kernel
theorem dX8_sums_114 : decode cX8_sums 114 = .ok (.iload 5, 2) := by decide +kernel
theorem dX8_sums_116 : decode cX8_sums 116 = .ok (.iaload, 1) := by decide +kernel
theorem dX8_sums_117 : decode cX8_sums 117 = .ok (.iconst (-1), 1) := by decide +kernel
theorem dX8_sums_118 : decode cX8_sums 118 = .ok (.if_icmp .ne 6, 3) := by decide +kernel
theorem dX8_sums_121 : decode cX8_sums 121 = .ok (.goto 101, 3) := by decide +kernel
theorem dX8_sums_124 : decode cX8_sums 124 = .ok (.aload_n 0, 1) := by decide +kernel
theorem dX8_sums_125 : decode cX8_sums 125 = .ok (.getfield 40, 3) := by decide +kernel
theorem dX8_sums_128 : decode cX8_sums 128 = .ok (.iload_n 3, 1) := by decide +kernel
theorem dX8_sums_129 : decode cX8_sums 129 = .ok (.iaload, 1) := by decide +kernel
theorem dX8_sums_130 : decode cX8_sums 130 = .ok (.iconst (-1), 1) := by decide +kernel
theorem dX8_sums_131 : decode cX8_sums 131 = .ok (.if_icmp .eq 27, 3) := by decide +kernel
theorem dX8_sums_134 : decode cX8_sums 134 = .ok (.aload_n 0, 1) := by decide +kernel
theorem dX8_sums_135 : decode cX8_sums 135 = .ok (.getfield 40, 3) := by decide +kernel
theorem dX8_sums_138 : decode cX8_sums 138 = .ok (.iload 5, 2) := by decide +kernel
theorem dX8_sums_140 : decode cX8_sums 140 = .ok (.iaload, 1) := by decide +kernel
theorem dX8_sums_141 : decode cX8_sums 141 = .ok (.aload_n 0, 1) := by decide +kernel
theorem dX8_sums_142 : decode cX8_sums 142 = .ok (.getfield 37, 3) := by decide +kernel
theorem dX8_sums_145 : decode cX8_sums 145 = .ok (.iload 4, 2) := by decide +kernel
theorem dX8_sums_147 : decode cX8_sums 147 = .ok (.iaload, 1) := by decide +kernel
theorem dX8_sums_148 : decode cX8_sums 148 = .ok (.iadd, 1) := by decide +kernel
theorem dX8_sums_149 : decode cX8_sums 149 = .ok (.aload_n 0, 1) := by decide +kernel
theorem dX8_sums_150 : decode cX8_sums 150 = .ok (.getfield 40, 3) := by decide +kernel
theorem dX8_sums_153 : decode cX8_sums 153 = .ok (.iload_n 3, 1) := by decide +kernel
theorem dX8_sums_154 : decode cX8_sums 154 = .ok (.iaload, 1) := by decide +kernel
theorem dX8_sums_155 : decode cX8_sums 155 = .ok (.if_icmp .ge 24, 3) := by decide +kernel
theorem dX8_sums_158 : decode cX8_sums 158 = .ok (.aload_n 0, 1) := by decide +kernel
theorem dX8_sums_159 : decode cX8_sums 159 = .ok (.getfield 40, 3) := by decide +kernel
theorem dX8_sums_162 : decode cX8_sums 162 = .ok (.iload_n 3, 1) := by decide +kernel
theorem dX8_sums_163 : decode cX8_sums 163 = .ok (.aload_n 0, 1) := by decide +kernel
theorem dX8_sums_164 : decode cX8_sums 164 = .ok (.getfield 40, 3) := by decide +kernel
theorem dX8_sums_167 : decode cX8_sums 167 = .ok (.iload 5, 2) := by decide +kernel
theorem dX8_sums_169 : decode cX8_sums 169 = .ok (.iaload, 1) := by decide +kernel
theorem dX8_sums_170 : decode cX8_sums 170 = .ok (.aload_n 0, 1) := by decide +kernel
theorem dX8_sums_171 : decode cX8_sums 171 = .ok (.getfield 37, 3) := by decide +kernel
theorem dX8_sums_174 : decode cX8_sums 174 = .ok (.iload 4, 2) := by decide +kernel
theorem dX8_sums_176 : decode cX8_sums 176 = .ok (.iaload, 1) := by decide +kernel
theorem dX8_sums_177 : decode cX8_sums 177 = .ok (.iadd, 1) := by decide +kernel
theorem dX8_sums_178 : decode cX8_sums 178 = .ok (.iastore, 1) := by decide +kernel
theorem dX8_sums_179 : decode cX8_sums 179 = .ok (.aload_n 0, 1) := by decide +kernel
theorem dX8_sums_180 : decode cX8_sums 180 = .ok (.getfield 43, 3) := by decide +kernel
theorem dX8_sums_183 : decode cX8_sums 183 = .ok (.iload_n 3, 1) := by decide +kernel
theorem dX8_sums_184 : decode cX8_sums 184 = .ok (.iaload, 1) := by decide +kernel
theorem dX8_sums_185 : decode cX8_sums 185 = .ok (.iconst (-1), 1) := by decide +kernel
theorem dX8_sums_186 : decode cX8_sums 186 = .ok (.if_icmp .eq 21, 3) := by decide +kernel
theorem dX8_sums_189 : decode cX8_sums 189 = .ok (.aload_n 0, 1) := by decide +kernel
theorem dX8_sums_190 : decode cX8_sums 190 = .ok (.getfield 43, 3) := by decide +kernel
theorem dX8_sums_193 : decode cX8_sums 193 = .ok (.iload 5, 2) := by decide +kernel
theorem dX8_sums_195 : decode cX8_sums 195 = .ok (.iaload, 1) := by decide +kernel
theorem dX8_sums_196 : decode cX8_sums 196 = .ok (.iconst 1, 1) := by decide +kernel
theorem dX8_sums_197 : decode cX8_sums 197 = .ok (.iadd, 1) := by decide +kernel
theorem dX8_sums_198 : decode cX8_sums 198 = .ok (.aload_n 0, 1) := by decide +kernel
theorem dX8_sums_199 : decode cX8_sums 199 = .ok (.getfield 43, 3) := by decide +kernel
theorem dX8_sums_202 : decode cX8_sums 202 = .ok (.iload_n 3, 1) := by decide +kernel
theorem dX8_sums_203 : decode cX8_sums 203 = .ok (.iaload, 1) := by decide +kernel
theorem dX8_sums_204 : decode cX8_sums 204 = .ok (.if_icmp .ge 18, 3) := by decide +kernel
theorem dX8_sums_207 : decode cX8_sums 207 = .ok (.aload_n 0, 1) := by decide +kernel
theorem dX8_sums_208 : decode cX8_sums 208 = .ok (.getfield 43, 3) := by decide +kernel
theorem dX8_sums_211 : decode cX8_sums 211 = .ok (.iload_n 3, 1) := by decide +kernel
theorem dX8_sums_212 : decode cX8_sums 212 = .ok (.aload_n 0, 1) := by decide +kernel
theorem dX8_sums_213 : decode cX8_sums 213 = .ok (.getfield 43, 3) := by decide +kernel
theorem dX8_sums_216 : decode cX8_sums 216 = .ok (.iload 5, 2) := by decide +kernel
theorem dX8_sums_218 : decode cX8_sums 218 = .ok (.iaload, 1) := by decide +kernel
theorem dX8_sums_219 : decode cX8_sums 219 = .ok (.iconst 1, 1) := by decide +kernel
theorem dX8_sums_220 : decode cX8_sums 220 = .ok (.iadd, 1) := by decide +kernel
theorem dX8_sums_221 : decode cX8_sums 221 = .ok (.iastore, 1) := by decide +kernel
theorem dX8_sums_222 : decode cX8_sums 222 = .ok (.iinc 4 1, 3) := by decide +kernel
theorem dX8_sums_225 : decode cX8_sums 225 = .ok (.goto (-145), 3) := by decide +kernel
theorem dX8_sums_228 : decode cX8_sums 228 = .ok (.iinc 3 1, 3) := by decide +kernel
theorem dX8_sums_231 : decode cX8_sums 231 = .ok (.goto (-174), 3) := by decide +kernel
theorem dX8_sums_234 : decode cX8_sums 234 = .ok (.return_, 1) := by decide +kernel
theorem dX8_legs_0 : decode cX8_legs 0 = .ok (.iconst 0, 1) := by decide +kernel
theorem dX8_legs_1 : decode cX8_legs 1 = .ok (.istore_n 2, 1) := by decide +kernel
theorem dX8_legs_2 : decode cX8_legs 2 = .ok (.iload_n 2, 1) := by decide +kernel
theorem dX8_legs_3 : decode cX8_legs 3 = .ok (.aload_n 0, 1) := by decide +kernel
theorem dX8_legs_4 : decode cX8_legs 4 = .ok (.getfield 82, 3) := by decide +kernel
theorem dX8_legs_7 : decode cX8_legs 7 = .ok (.if_icmp .ge 62, 3) := by decide +kernel
theorem dX8_legs_10 : decode cX8_legs 10 = .ok (.iconst 0, 1) := by decide +kernel
theorem dX8_legs_11 : decode cX8_legs 11 = .ok (.istore_n 3, 1) := by decide +kernel
theorem dX8_legs_12 : decode cX8_legs 12 = .ok (.iload_n 3, 1) := by decide +kernel
theorem dX8_legs_13 : decode cX8_legs 13 = .ok (.iload_n 2, 1) := by decide +kernel
theorem dX8_legs_14 : decode cX8_legs 14 = .ok (.if_icmp .ge 49, 3) := by decide +kernel
theorem dX8_legs_17 : decode cX8_legs 17 = .ok (.aload_n 0, 1) := by decide +kernel
theorem dX8_legs_18 : decode cX8_legs 18 = .ok (.iload_n 2, 1) := by decide +kernel
theorem dX8_legs_19 : decode cX8_legs 19 = .ok (.iload_n 3, 1) := by decide +kernel
theorem dX8_legs_20 : decode cX8_legs 20 = .ok (.invokevirtual 245, 3) := by decide +kernel
theorem dX8_legs_23 : decode cX8_legs 23 = .ok (.aload_n 0, 1) := by decide +kernel
theorem dX8_legs_24 : decode cX8_legs 24 = .ok (.getfield 50, 3) := by decide +kernel
theorem dX8_legs_27 : decode cX8_legs 27 = .ok (.bipush 6, 2) := by decide +kernel
theorem dX8_legs_29 : decode cX8_legs 29 = .ok (.iload_n 2, 1) := by decide +kernel
theorem dX8_legs_30 : decode cX8_legs 30 = .ok (.imul, 1) := by decide +kernel
theorem dX8_legs_31 : decode cX8_legs 31 = .ok (.iload_n 3, 1) := by decide +kernel
theorem dX8_legs_32 : decode cX8_legs 32 = .ok (.iadd, 1) := by decide +kernel
theorem dX8_legs_33 : decode cX8_legs 33 = .ok (.aload_n 0, 1) := by decide +kernel
theorem dX8_legs_34 : decode cX8_legs 34 = .ok (.getfield 40, 3) := by decide +kernel
theorem dX8_legs_37 : decode cX8_legs 37 = .ok (.iload_n 1, 1) := by decide +kernel
theorem dX8_legs_38 : decode cX8_legs 38 = .ok (.iaload, 1) := by decide +kernel
theorem dX8_legs_39 : decode cX8_legs 39 = .ok (.iastore, 1) := by decide +kernel
theorem dX8_legs_40 : decode cX8_legs 40 = .ok (.aload_n 0, 1) := by decide +kernel
theorem dX8_legs_41 : decode cX8_legs 41 = .ok (.getfield 50, 3) := by decide +kernel
theorem dX8_legs_44 : decode cX8_legs 44 = .ok (.bipush 6, 2) := by decide +kernel
theorem dX8_legs_46 : decode cX8_legs 46 = .ok (.iload_n 3, 1) := by decide +kernel
theorem dX8_legs_47 : decode cX8_legs 47 = .ok (.imul, 1) := by decide +kernel
theorem dX8_legs_48 : decode cX8_legs 48 = .ok (.iload_n 2, 1) := by decide +kernel
theorem dX8_legs_49 : decode cX8_legs 49 = .ok (.iadd, 1) := by decide +kernel
theorem dX8_legs_50 : decode cX8_legs 50 = .ok (.aload_n 0, 1) := by decide +kernel
theorem dX8_legs_51 : decode cX8_legs 51 = .ok (.getfield 40, 3) := by decide +kernel
theorem dX8_legs_54 : decode cX8_legs 54 = .ok (.iload_n 1, 1) := by decide +kernel
theorem dX8_legs_55 : decode cX8_legs 55 = .ok (.iaload, 1) := by decide +kernel
theorem dX8_legs_56 : decode cX8_legs 56 = .ok (.iastore, 1) := by decide +kernel
theorem dX8_legs_57 : decode cX8_legs 57 = .ok (.iinc 3 1, 3) := by decide +kernel
theorem dX8_legs_60 : decode cX8_legs 60 = .ok (.goto (-48), 3) := by decide +kernel
theorem dX8_legs_63 : decode cX8_legs 63 = .ok (.iinc 2 1, 3) := by decide +kernel
theorem dX8_legs_66 : decode cX8_legs 66 = .ok (.goto (-64), 3) := by decide +kernel
theorem dX8_legs_69 : decode cX8_legs 69 = .ok (.return_, 1) := by decide +kernel
theorem dX8_ways_0 : decode cX8_ways 0 = .ok (.iconst 0, 1) := by decide +kernel
theorem dX8_ways_1 : decode cX8_ways 1 = .ok (.istore_n 2, 1) := by decide +kernel
theorem dX8_ways_2 : decode cX8_ways 2 = .ok (.iload_n 2, 1) := by decide +kernel
theorem dX8_ways_3 : decode cX8_ways 3 = .ok (.aload_n 0, 1) := by decide +kernel
theorem dX8_ways_4 : decode cX8_ways 4 = .ok (.getfield 82, 3) := by decide +kernel
theorem dX8_ways_7 : decode cX8_ways 7 = .ok (.if_icmp .ge 32, 3) := by decide +kernel
theorem dX8_ways_10 : decode cX8_ways 10 = .ok (.aload_n 0, 1) := by decide +kernel
theorem dX8_ways_11 : decode cX8_ways 11 = .ok (.getfield 53, 3) := by decide +kernel
theorem dX8_ways_14 : decode cX8_ways 14 = .ok (.iload_n 2, 1) := by decide +kernel
theorem dX8_ways_15 : decode cX8_ways 15 = .ok (.iload_n 2, 1) := by decide +kernel
theorem dX8_ways_16 : decode cX8_ways 16 = .ok (.iload_n 1, 1) := by decide +kernel
theorem dX8_ways_17 : decode cX8_ways 17 = .ok (.if_icmp .ne 7, 3) := by decide +kernel
theorem dX8_ways_20 : decode cX8_ways 20 = .ok (.iconst 0, 1) := by decide +kernel
theorem dX8_ways_21 : decode cX8_ways 21 = .ok (.goto 4, 3) := by decide +kernel
theorem dX8_ways_24 : decode cX8_ways 24 = .ok (.iconst (-1), 1) := by decide +kernel
theorem dX8_ways_25 : decode cX8_ways 25 = .ok (.iastore, 1) := by decide +kernel
theorem dX8_ways_26 : decode cX8_ways 26 = .ok (.aload_n 0, 1) := by decide +kernel
theorem dX8_ways_27 : decode cX8_ways 27 = .ok (.getfield 56, 3) := by decide +kernel
theorem dX8_ways_30 : decode cX8_ways 30 = .ok (.iload_n 2, 1) := by decide +kernel
theorem dX8_ways_31 : decode cX8_ways 31 = .ok (.iconst 0, 1) := by decide +kernel
theorem dX8_ways_32 : decode cX8_ways 32 = .ok (.iastore, 1) := by decide +kernel
theorem dX8_ways_33 : decode cX8_ways 33 = .ok (.iinc 2 1, 3) := by decide +kernel
theorem dX8_ways_36 : decode cX8_ways 36 = .ok (.goto (-34), 3) := by decide +kernel
theorem dX8_ways_39 : decode cX8_ways 39 = .ok (.iconst 0, 1) := by decide +kernel
theorem dX8_ways_40 : decode cX8_ways 40 = .ok (.istore_n 2, 1) := by decide +kernel
theorem dX8_ways_41 : decode cX8_ways 41 = .ok (.iload_n 2, 1) := by decide +kernel
theorem dX8_ways_42 : decode cX8_ways 42 = .ok (.bipush 6, 2) := by decide +kernel
theorem dX8_ways_44 : decode cX8_ways 44 = .ok (.if_icmp .ge 179, 3) := by decide +kernel
theorem dX8_ways_47 : decode cX8_ways 47 = .ok (.iconst 0, 1) := by decide +kernel
theorem dX8_ways_48 : decode cX8_ways 48 = .ok (.istore_n 3, 1) := by decide +kernel
theorem dX8_ways_49 : decode cX8_ways 49 = .ok (.iload_n 3, 1) := by decide +kernel
theorem dX8_ways_50 : decode cX8_ways 50 = .ok (.aload_n 0, 1) := by decide +kernel
theorem dX8_ways_51 : decode cX8_ways 51 = .ok (.getfield 82, 3) := by decide +kernel
theorem dX8_ways_54 : decode cX8_ways 54 = .ok (.if_icmp .ge 163, 3) := by decide +kernel
theorem dX8_ways_57 : decode cX8_ways 57 = .ok (.iconst 0, 1) := by decide +kernel
theorem dX8_ways_58 : decode cX8_ways 58 = .ok (.istore 4, 2) := by decide +kernel
theorem dX8_ways_60 : decode cX8_ways 60 = .ok (.iload 4, 2) := by decide +kernel
theorem dX8_ways_62 : decode cX8_ways 62 = .ok (.aload_n 0, 1) := by decide +kernel
theorem dX8_ways_63 : decode cX8_ways 63 = .ok (.getfield 82, 3) := by decide +kernel
theorem dX8_ways_66 : decode cX8_ways 66 = .ok (.if_icmp .ge 145, 3) := by decide +kernel
theorem dX8_ways_69 : decode cX8_ways 69 = .ok (.iload_n 3, 1) := by decide +kernel
theorem dX8_ways_70 : decode cX8_ways 70 = .ok (.iload 4, 2) := by decide +kernel
theorem dX8_ways_72 : decode cX8_ways 72 = .ok (.if_icmp .eq 133, 3) := by decide +kernel
theorem dX8_ways_75 : decode cX8_ways 75 = .ok (.aload_n 0, 1) := by decide +kernel
theorem dX8_ways_76 : decode cX8_ways 76 = .ok (.getfield 53, 3) := by decide +kernel
theorem dX8_ways_79 : decode cX8_ways 79 = .ok (.iload_n 3, 1) := by decide +kernel
theorem dX8_ways_80 : decode cX8_ways 80 = .ok (.iaload, 1) := by decide +kernel
theorem dX8_ways_81 : decode cX8_ways 81 = .ok (.iconst (-1), 1) := by decide +kernel
theorem dX8_ways_82 : decode cX8_ways 82 = .ok (.if_icmp .eq 123, 3) := by decide +kernel
theorem dX8_ways_85 : decode cX8_ways 85 = .ok (.aload_n 0, 1) := by decide +kernel
theorem dX8_ways_86 : decode cX8_ways 86 = .ok (.getfield 50, 3) := by decide +kernel
theorem dX8_ways_89 : decode cX8_ways 89 = .ok (.bipush 6, 2) := by decide +kernel
theorem dX8_ways_91 : decode cX8_ways 91 = .ok (.iload_n 3, 1) := by decide +kernel
theorem dX8_ways_92 : decode cX8_ways 92 = .ok (.imul, 1) := by decide +kernel
theorem dX8_ways_93 : decode cX8_ways 93 = .ok (.iload 4, 2) := by decide +kernel
theorem dX8_ways_95 : decode cX8_ways 95 = .ok (.iadd, 1) := by decide +kernel
theorem dX8_ways_96 : decode cX8_ways 96 = .ok (.iaload, 1) := by decide +kernel
theorem dX8_ways_97 : decode cX8_ways 97 = .ok (.iconst (-1), 1) := by decide +kernel
theorem dX8_ways_98 : decode cX8_ways 98 = .ok (.if_icmp .ne 6, 3) := by decide +kernel
theorem dX8_ways_101 : decode cX8_ways 101 = .ok (.goto 104, 3) := by decide +kernel
theorem dX8_ways_104 : decode cX8_ways 104 = .ok (.aload_n 0, 1) := by decide +kernel
theorem dX8_ways_105 : decode cX8_ways 105 = .ok (.getfield 53, 3) := by decide +kernel
theorem dX8_ways_108 : decode cX8_ways 108 = .ok (.iload_n 3, 1) := by decide +kernel
theorem dX8_ways_109 : decode cX8_ways 109 = .ok (.iaload, 1) := by decide +kernel
theorem dX8_ways_110 : decode cX8_ways 110 = .ok (.aload_n 0, 1) := by decide +kernel
theorem dX8_ways_111 : decode cX8_ways 111 = .ok (.getfield 50, 3) := by decide +kernel
theorem dX8_ways_114 : decode cX8_ways 114 = .ok (.bipush 6, 2) := by decide +kernel
theorem dX8_ways_116 : decode cX8_ways 116 = .ok (.iload_n 3, 1) := by decide +kernel
theorem dX8_ways_117 : decode cX8_ways 117 = .ok (.imul, 1) := by decide +kernel
theorem dX8_ways_118 : decode cX8_ways 118 = .ok (.iload 4, 2) := by decide +kernel
theorem dX8_ways_120 : decode cX8_ways 120 = .ok (.iadd, 1) := by decide +kernel
theorem dX8_ways_121 : decode cX8_ways 121 = .ok (.iaload, 1) := by decide +kernel
theorem dX8_ways_122 : decode cX8_ways 122 = .ok (.iadd, 1) := by decide +kernel
theorem dX8_ways_123 : decode cX8_ways 123 = .ok (.istore 5, 2) := by decide +kernel
theorem dX8_ways_125 : decode cX8_ways 125 = .ok (.aload_n 0, 1) := by decide +kernel
theorem dX8_ways_126 : decode cX8_ways 126 = .ok (.getfield 53, 3) := by decide +kernel
theorem dX8_ways_129 : decode cX8_ways 129 = .ok (.iload 4, 2) := by decide +kernel
theorem dX8_ways_131 : decode cX8_ways 131 = .ok (.iaload, 1) := by decide +kernel
theorem dX8_ways_132 : decode cX8_ways 132 = .ok (.iconst (-1), 1) := by decide +kernel
theorem dX8_ways_133 : decode cX8_ways 133 = .ok (.if_icmp .eq 48, 3) := by decide +kernel
theorem dX8_ways_136 : decode cX8_ways 136 = .ok (.iload 5, 2) := by decide +kernel
theorem dX8_ways_138 : decode cX8_ways 138 = .ok (.aload_n 0, 1) := by decide +kernel
theorem dX8_ways_139 : decode cX8_ways 139 = .ok (.getfield 53, 3) := by decide +kernel
theorem dX8_ways_142 : decode cX8_ways 142 = .ok (.iload 4, 2) := by decide +kernel
theorem dX8_ways_144 : decode cX8_ways 144 = .ok (.iaload, 1) := by decide +kernel
theorem dX8_ways_145 : decode cX8_ways 145 = .ok (.if_icmp .gt 60, 3) := by decide +kernel
theorem dX8_ways_148 : decode cX8_ways 148 = .ok (.iload 5, 2) := by decide +kernel
theorem dX8_ways_150 : decode cX8_ways 150 = .ok (.aload_n 0, 1) := by decide +kernel
theorem dX8_ways_151 : decode cX8_ways 151 = .ok (.getfield 53, 3) := by decide +kernel
theorem dX8_ways_154 : decode cX8_ways 154 = .ok (.iload 4, 2) := by decide +kernel
theorem dX8_ways_156 : decode cX8_ways 156 = .ok (.iaload, 1) := by decide +kernel
theorem dX8_ways_157 : decode cX8_ways 157 = .ok (.if_icmp .ne 24, 3) := by decide +kernel
theorem dX8_ways_160 : decode cX8_ways 160 = .ok (.aload_n 0, 1) := by decide +kernel
theorem dX8_ways_161 : decode cX8_ways 161 = .ok (.getfield 56, 3) := by decide +kernel
theorem dX8_ways_164 : decode cX8_ways 164 = .ok (.iload_n 3, 1) := by decide +kernel
theorem dX8_ways_165 : decode cX8_ways 165 = .ok (.iaload, 1) := by decide +kernel
theorem dX8_ways_166 : decode cX8_ways 166 = .ok (.iconst 1, 1) := by decide +kernel
theorem dX8_ways_167 : decode cX8_ways 167 = .ok (.iadd, 1) := by decide +kernel
theorem dX8_ways_168 : decode cX8_ways 168 = .ok (.aload_n 0, 1) := by decide +kernel
theorem dX8_ways_169 : decode cX8_ways 169 = .ok (.getfield 56, 3) := by decide +kernel
theorem dX8_ways_172 : decode cX8_ways 172 = .ok (.iload 4, 2) := by decide +kernel
theorem dX8_ways_174 : decode cX8_ways 174 = .ok (.iaload, 1) := by decide +kernel
theorem dX8_ways_175 : decode cX8_ways 175 = .ok (.if_icmp .lt 6, 3) := by decide +kernel
theorem dX8_ways_178 : decode cX8_ways 178 = .ok (.goto 27, 3) := by decide +kernel
theorem dX8_ways_181 : decode cX8_ways 181 = .ok (.aload_n 0, 1) := by decide +kernel
theorem dX8_ways_182 : decode cX8_ways 182 = .ok (.getfield 53, 3) := by decide +kernel
theorem dX8_ways_185 : decode cX8_ways 185 = .ok (.iload 4, 2) := by decide +kernel
theorem dX8_ways_187 : decode cX8_ways 187 = .ok (.iload 5, 2) := by decide +kernel
theorem dX8_ways_189 : decode cX8_ways 189 = .ok (.iastore, 1) := by decide +kernel
theorem dX8_ways_190 : decode cX8_ways 190 = .ok (.aload_n 0, 1) := by decide +kernel
theorem dX8_ways_191 : decode cX8_ways 191 = .ok (.getfield 56, 3) := by decide +kernel
theorem dX8_ways_194 : decode cX8_ways 194 = .ok (.iload 4, 2) := by decide +kernel
theorem dX8_ways_196 : decode cX8_ways 196 = .ok (.aload_n 0, 1) := by decide +kernel
theorem dX8_ways_197 : decode cX8_ways 197 = .ok (.getfield 56, 3) := by decide +kernel
theorem dX8_ways_200 : decode cX8_ways 200 = .ok (.iload_n 3, 1) := by decide +kernel
theorem dX8_ways_201 : decode cX8_ways 201 = .ok (.iaload, 1) := by decide +kernel
theorem dX8_ways_202 : decode cX8_ways 202 = .ok (.iconst 1, 1) := by decide +kernel
theorem dX8_ways_203 : decode cX8_ways 203 = .ok (.iadd, 1) := by decide +kernel
theorem dX8_ways_204 : decode cX8_ways 204 = .ok (.iastore, 1) := by decide +kernel
theorem dX8_ways_205 : decode cX8_ways 205 = .ok (.iinc 4 1, 3) := by decide +kernel
theorem dX8_ways_208 : decode cX8_ways 208 = .ok (.goto (-148), 3) := by decide +kernel
theorem dX8_ways_211 : decode cX8_ways 211 = .ok (.iinc 3 1, 3) := by decide +kernel
theorem dX8_ways_214 : decode cX8_ways 214 = .ok (.goto (-165), 3) := by decide +kernel
theorem dX8_ways_217 : decode cX8_ways 217 = .ok (.iinc 2 1, 3) := by decide +kernel
theorem dX8_ways_220 : decode cX8_ways 220 = .ok (.goto (-179), 3) := by decide +kernel
theorem dX8_ways_223 : decode cX8_ways 223 = .ok (.return_, 1) := by decide +kernel
theorem dX8_pays_0 : decode cX8_pays 0 = .ok (.aload_n 0, 1) := by decide +kernel
theorem dX8_pays_1 : decode cX8_pays 1 = .ok (.iload_n 1, 1) := by decide +kernel
theorem dX8_pays_2 : decode cX8_pays 2 = .ok (.iload_n 2, 1) := by decide +kernel
theorem dX8_pays_3 : decode cX8_pays 3 = .ok (.invokevirtual 112, 3) := by decide +kernel
theorem dX8_pays_6 : decode cX8_pays 6 = .ok (.ifCond .eq 20, 3) := by decide +kernel
theorem dX8_pays_9 : decode cX8_pays 9 = .ok (.iload_n 3, 1) := by decide +kernel
theorem dX8_pays_10 : decode cX8_pays 10 = .ok (.invokestatic 233, 3) := by decide +kernel
theorem dX8_pays_13 : decode cX8_pays 13 = .ok (.ifCond .eq 13, 3) := by decide +kernel
theorem dX8_pays_16 : decode cX8_pays 16 = .ok (.iload 4, 2) := by decide +kernel
theorem dX8_pays_18 : decode cX8_pays 18 = .ok (.iconst 0, 1) := by decide +kernel
theorem dX8_pays_19 : decode cX8_pays 19 = .ok (.iconst 3, 1) := by decide +kernel
theorem dX8_pays_20 : decode cX8_pays 20 = .ok (.invokestatic 85, 3) := by decide +kernel
theorem dX8_pays_23 : decode cX8_pays 23 = .ok (.ifCond .ne 6, 3) := by decide +kernel
theorem dX8_pays_26 : decode cX8_pays 26 = .ok (.bipush (-2), 2) := by decide +kernel
theorem dX8_pays_28 : decode cX8_pays 28 = .ok (.ireturn, 1) := by decide +kernel
theorem dX8_pays_29 : decode cX8_pays 29 = .ok (.iload 4, 2) := by decide +kernel
theorem dX8_pays_31 : decode cX8_pays 31 = .ok (.iconst 2, 1) := by decide +kernel
theorem dX8_pays_32 : decode cX8_pays 32 = .ok (.if_icmp .ge 30, 3) := by decide +kernel
theorem dX8_pays_35 : decode cX8_pays 35 = .ok (.aload_n 0, 1) := by decide +kernel
theorem dX8_pays_36 : decode cX8_pays 36 = .ok (.iload_n 1, 1) := by decide +kernel
theorem dX8_pays_37 : decode cX8_pays 37 = .ok (.iload_n 2, 1) := by decide +kernel
theorem dX8_pays_38 : decode cX8_pays 38 = .ok (.invokevirtual 245, 3) := by decide +kernel
theorem dX8_pays_41 : decode cX8_pays 41 = .ok (.iload 4, 2) := by decide +kernel
theorem dX8_pays_43 : decode cX8_pays 43 = .ok (.ifCond .ne 12, 3) := by decide +kernel
theorem dX8_pays_46 : decode cX8_pays 46 = .ok (.aload_n 0, 1) := by decide +kernel
theorem dX8_pays_47 : decode cX8_pays 47 = .ok (.getfield 40, 3) := by decide +kernel
theorem dX8_pays_50 : decode cX8_pays 50 = .ok (.iload_n 3, 1) := by decide +kernel
theorem dX8_pays_51 : decode cX8_pays 51 = .ok (.iaload, 1) := by decide +kernel
theorem dX8_pays_52 : decode cX8_pays 52 = .ok (.goto 9, 3) := by decide +kernel
theorem dX8_pays_55 : decode cX8_pays 55 = .ok (.aload_n 0, 1) := by decide +kernel
theorem dX8_pays_56 : decode cX8_pays 56 = .ok (.getfield 43, 3) := by decide +kernel
theorem dX8_pays_59 : decode cX8_pays 59 = .ok (.iload_n 3, 1) := by decide +kernel
theorem dX8_pays_60 : decode cX8_pays 60 = .ok (.iaload, 1) := by decide +kernel
theorem dX8_pays_61 : decode cX8_pays 61 = .ok (.ireturn, 1) := by decide +kernel
theorem dX8_pays_62 : decode cX8_pays 62 = .ok (.aload_n 0, 1) := by decide +kernel
theorem dX8_pays_63 : decode cX8_pays 63 = .ok (.iload_n 3, 1) := by decide +kernel
theorem dX8_pays_64 : decode cX8_pays 64 = .ok (.invokevirtual 249, 3) := by decide +kernel
theorem dX8_pays_67 : decode cX8_pays 67 = .ok (.aload_n 0, 1) := by decide +kernel
theorem dX8_pays_68 : decode cX8_pays 68 = .ok (.iload_n 1, 1) := by decide +kernel
theorem dX8_pays_69 : decode cX8_pays 69 = .ok (.invokevirtual 252, 3) := by decide +kernel
theorem dX8_pays_72 : decode cX8_pays 72 = .ok (.aload_n 0, 1) := by decide +kernel
theorem dX8_pays_73 : decode cX8_pays 73 = .ok (.getfield 53, 3) := by decide +kernel
theorem dX8_pays_76 : decode cX8_pays 76 = .ok (.iload_n 2, 1) := by decide +kernel
theorem dX8_pays_77 : decode cX8_pays 77 = .ok (.iaload, 1) := by decide +kernel
theorem dX8_pays_78 : decode cX8_pays 78 = .ok (.iconst (-1), 1) := by decide +kernel
theorem dX8_pays_79 : decode cX8_pays 79 = .ok (.if_icmp .ne 7, 3) := by decide +kernel
theorem dX8_pays_82 : decode cX8_pays 82 = .ok (.iconst (-1), 1) := by decide +kernel
theorem dX8_pays_83 : decode cX8_pays 83 = .ok (.goto 24, 3) := by decide +kernel
theorem dX8_pays_86 : decode cX8_pays 86 = .ok (.iload 4, 2) := by decide +kernel
theorem dX8_pays_88 : decode cX8_pays 88 = .ok (.iconst 2, 1) := by decide +kernel
theorem dX8_pays_89 : decode cX8_pays 89 = .ok (.if_icmp .ne 12, 3) := by decide +kernel
theorem dX8_pays_92 : decode cX8_pays 92 = .ok (.aload_n 0, 1) := by decide +kernel
theorem dX8_pays_93 : decode cX8_pays 93 = .ok (.getfield 53, 3) := by decide +kernel
theorem dX8_pays_96 : decode cX8_pays 96 = .ok (.iload_n 2, 1) := by decide +kernel
theorem dX8_pays_97 : decode cX8_pays 97 = .ok (.iaload, 1) := by decide +kernel
theorem dX8_pays_98 : decode cX8_pays 98 = .ok (.goto 9, 3) := by decide +kernel
theorem dX8_pays_101 : decode cX8_pays 101 = .ok (.aload_n 0, 1) := by decide +kernel
theorem dX8_pays_102 : decode cX8_pays 102 = .ok (.getfield 56, 3) := by decide +kernel
theorem dX8_pays_105 : decode cX8_pays 105 = .ok (.iload_n 2, 1) := by decide +kernel
theorem dX8_pays_106 : decode cX8_pays 106 = .ok (.iaload, 1) := by decide +kernel
theorem dX8_pays_107 : decode cX8_pays 107 = .ok (.ireturn, 1) := by decide +kernel
theorem dX8_barredOf_0 : decode cX8_barredOf 0 = .ok (.aload_n 0, 1) := by decide +kernel
theorem dX8_barredOf_1 : decode cX8_barredOf 1 = .ok (.iload_n 1, 1) := by decide +kernel
theorem dX8_barredOf_2 : decode cX8_barredOf 2 = .ok (.iload_n 2, 1) := by decide +kernel
theorem dX8_barredOf_3 : decode cX8_barredOf 3 = .ok (.invokevirtual 245, 3) := by decide +kernel
theorem dX8_barredOf_6 : decode cX8_barredOf 6 = .ok (.iconst 0, 1) := by decide +kernel
theorem dX8_barredOf_7 : decode cX8_barredOf 7 = .ok (.istore 4, 2) := by decide +kernel
theorem dX8_barredOf_9 : decode cX8_barredOf 9 = .ok (.iconst (-1), 1) := by decide +kernel
theorem dX8_barredOf_10 : decode cX8_barredOf 10 = .ok (.istore 5, 2) := by decide +kernel
theorem dX8_barredOf_12 : decode cX8_barredOf 12 = .ok (.iconst 0, 1) := by decide +kernel
theorem dX8_barredOf_13 : decode cX8_barredOf 13 = .ok (.istore 6, 2) := by decide +kernel
theorem dX8_barredOf_15 : decode cX8_barredOf 15 = .ok (.iconst 1, 1) := by decide +kernel
theorem dX8_barredOf_16 : decode cX8_barredOf 16 = .ok (.istore 7, 2) := by decide +kernel
theorem dX8_barredOf_18 : decode cX8_barredOf 18 = .ok (.iload 7, 2) := by decide +kernel
theorem dX8_barredOf_20 : decode cX8_barredOf 20 = .ok (.bipush 100, 2) := by decide +kernel
theorem dX8_barredOf_22 : decode cX8_barredOf 22 = .ok (.if_icmp .ge 58, 3) := by decide +kernel
theorem dX8_barredOf_25 : decode cX8_barredOf 25 = .ok (.aload_n 0, 1) := by decide +kernel
theorem dX8_barredOf_26 : decode cX8_barredOf 26 = .ok (.getfield 40, 3) := by decide +kernel
theorem dX8_barredOf_29 : decode cX8_barredOf 29 = .ok (.iload 7, 2) := by decide +kernel
theorem dX8_barredOf_31 : decode cX8_barredOf 31 = .ok (.iaload, 1) := by decide +kernel
theorem dX8_barredOf_32 : decode cX8_barredOf 32 = .ok (.iconst (-1), 1) := by decide +kernel
theorem dX8_barredOf_33 : decode cX8_barredOf 33 = .ok (.if_icmp .ne 41, 3) := by decide +kernel
theorem dX8_barredOf_36 : decode cX8_barredOf 36 = .ok (.aload_n 0, 1) := by decide +kernel
theorem dX8_barredOf_37 : decode cX8_barredOf 37 = .ok (.iload_n 1, 1) := by decide +kernel
theorem dX8_barredOf_38 : decode cX8_barredOf 38 = .ok (.iload 7, 2) := by decide +kernel
theorem dX8_barredOf_40 : decode cX8_barredOf 40 = .ok (.invokevirtual 239, 3) := by decide +kernel
theorem dX8_barredOf_43 : decode cX8_barredOf 43 = .ok (.ifCond .ne 6, 3) := by decide +kernel
theorem dX8_barredOf_46 : decode cX8_barredOf 46 = .ok (.goto 28, 3) := by decide +kernel
theorem dX8_barredOf_49 : decode cX8_barredOf 49 = .ok (.iinc 4 1, 3) := by decide +kernel
theorem dX8_barredOf_52 : decode cX8_barredOf 52 = .ok (.iload 5, 2) := by decide +kernel
theorem dX8_barredOf_54 : decode cX8_barredOf 54 = .ok (.iconst (-1), 1) := by decide +kernel
theorem dX8_barredOf_55 : decode cX8_barredOf 55 = .ok (.if_icmp .ne 7, 3) := by decide +kernel
theorem dX8_barredOf_58 : decode cX8_barredOf 58 = .ok (.iload 7, 2) := by decide +kernel
theorem dX8_barredOf_60 : decode cX8_barredOf 60 = .ok (.istore 5, 2) := by decide +kernel
theorem dX8_barredOf_62 : decode cX8_barredOf 62 = .ok (.iload 6, 2) := by decide +kernel
theorem dX8_barredOf_64 : decode cX8_barredOf 64 = .ok (.aload_n 0, 1) := by decide +kernel
theorem dX8_barredOf_65 : decode cX8_barredOf 65 = .ok (.iload_n 1, 1) := by decide +kernel
theorem dX8_barredOf_66 : decode cX8_barredOf 66 = .ok (.iload 7, 2) := by decide +kernel
theorem dX8_barredOf_68 : decode cX8_barredOf 68 = .ok (.invokevirtual 242, 3) := by decide +kernel
theorem dX8_barredOf_71 : decode cX8_barredOf 71 = .ok (.iadd, 1) := by decide +kernel
theorem dX8_barredOf_72 : decode cX8_barredOf 72 = .ok (.istore 6, 2) := by decide +kernel
theorem dX8_barredOf_74 : decode cX8_barredOf 74 = .ok (.iinc 7 1, 3) := by decide +kernel
theorem dX8_barredOf_77 : decode cX8_barredOf 77 = .ok (.goto (-59), 3) := by decide +kernel
theorem dX8_barredOf_80 : decode cX8_barredOf 80 = .ok (.iload_n 3, 1) := by decide +kernel
theorem dX8_barredOf_81 : decode cX8_barredOf 81 = .ok (.ifCond .ne 8, 3) := by decide +kernel
theorem dX8_barredOf_84 : decode cX8_barredOf 84 = .ok (.iload 4, 2) := by decide +kernel
theorem dX8_barredOf_86 : decode cX8_barredOf 86 = .ok (.goto 15, 3) := by decide +kernel
theorem dX8_barredOf_89 : decode cX8_barredOf 89 = .ok (.iload_n 3, 1) := by decide +kernel
theorem dX8_barredOf_90 : decode cX8_barredOf 90 = .ok (.iconst 1, 1) := by decide +kernel
theorem dX8_barredOf_91 : decode cX8_barredOf 91 = .ok (.if_icmp .ne 8, 3) := by decide +kernel
theorem dX8_barredOf_94 : decode cX8_barredOf 94 = .ok (.iload 5, 2) := by decide +kernel
theorem dX8_barredOf_96 : decode cX8_barredOf 96 = .ok (.goto 5, 3) := by decide +kernel
theorem dX8_barredOf_99 : decode cX8_barredOf 99 = .ok (.iload 6, 2) := by decide +kernel
theorem dX8_barredOf_101 : decode cX8_barredOf 101 = .ok (.ireturn, 1) := by decide +kernel
theorem dX8_barred_0 : decode cX8_barred 0 = .ok (.aload_n 0, 1) := by decide +kernel
theorem dX8_barred_1 : decode cX8_barred 1 = .ok (.iload_n 1, 1) := by decide +kernel
theorem dX8_barred_2 : decode cX8_barred 2 = .ok (.iload_n 2, 1) := by decide +kernel
theorem dX8_barred_3 : decode cX8_barred 3 = .ok (.invokevirtual 112, 3) := by decide +kernel
theorem dX8_barred_6 : decode cX8_barred 6 = .ok (.ifCond .eq 22, 3) := by decide +kernel
theorem dX8_barred_9 : decode cX8_barred 9 = .ok (.iload_n 3, 1) := by decide +kernel
theorem dX8_barred_10 : decode cX8_barred 10 = .ok (.iconst 0, 1) := by decide +kernel
theorem dX8_barred_11 : decode cX8_barred 11 = .ok (.iconst 2, 1) := by decide +kernel
theorem dX8_barred_12 : decode cX8_barred 12 = .ok (.invokestatic 85, 3) := by decide +kernel
theorem dX8_barred_15 : decode cX8_barred 15 = .ok (.ifCond .eq 13, 3) := by decide +kernel
theorem dX8_barred_18 : decode cX8_barred 18 = .ok (.aload_n 0, 1) := by decide +kernel
theorem dX8_barred_19 : decode cX8_barred 19 = .ok (.iload_n 1, 1) := by decide +kernel
theorem dX8_barred_20 : decode cX8_barred 20 = .ok (.iload_n 2, 1) := by decide +kernel
theorem dX8_barred_21 : decode cX8_barred 21 = .ok (.iload_n 3, 1) := by decide +kernel
theorem dX8_barred_22 : decode cX8_barred 22 = .ok (.invokevirtual 255, 3) := by decide +kernel
theorem dX8_barred_25 : decode cX8_barred 25 = .ok (.goto 5, 3) := by decide +kernel
theorem dX8_barred_28 : decode cX8_barred 28 = .ok (.bipush (-2), 2) := by decide +kernel
theorem dX8_barred_30 : decode cX8_barred 30 = .ok (.ireturn, 1) := by decide +kernel
theorem dX8_silent_0 : decode cX8_silent 0 = .ok (.iload_n 1, 1) := by decide +kernel
theorem dX8_silent_1 : decode cX8_silent 1 = .ok (.iconst 0, 1) := by decide +kernel
theorem dX8_silent_2 : decode cX8_silent 2 = .ok (.iconst 1, 1) := by decide +kernel
theorem dX8_silent_3 : decode cX8_silent 3 = .ok (.invokestatic 85, 3) := by decide +kernel
theorem dX8_silent_6 : decode cX8_silent 6 = .ok (.ifCond .ne 6, 3) := by decide +kernel
theorem dX8_silent_9 : decode cX8_silent 9 = .ok (.bipush (-2), 2) := by decide +kernel
theorem dX8_silent_11 : decode cX8_silent 11 = .ok (.ireturn, 1) := by decide +kernel
theorem dX8_silent_12 : decode cX8_silent 12 = .ok (.iconst 1, 1) := by decide +kernel
theorem dX8_silent_13 : decode cX8_silent 13 = .ok (.istore_n 2, 1) := by decide +kernel
theorem dX8_silent_14 : decode cX8_silent 14 = .ok (.iload_n 2, 1) := by decide +kernel
theorem dX8_silent_15 : decode cX8_silent 15 = .ok (.bipush 100, 2) := by decide +kernel
theorem dX8_silent_17 : decode cX8_silent 17 = .ok (.if_icmp .ge 16, 3) := by decide +kernel
theorem dX8_silent_20 : decode cX8_silent 20 = .ok (.aload_n 0, 1) := by decide +kernel
theorem dX8_silent_21 : decode cX8_silent 21 = .ok (.getfield 46, 3) := by decide +kernel
theorem dX8_silent_24 : decode cX8_silent 24 = .ok (.iload_n 2, 1) := by decide +kernel
theorem dX8_silent_25 : decode cX8_silent 25 = .ok (.iconst 0, 1) := by decide +kernel
theorem dX8_silent_26 : decode cX8_silent 26 = .ok (.bastore, 1) := by decide +kernel
theorem dX8_silent_27 : decode cX8_silent 27 = .ok (.iinc 2 1, 3) := by decide +kernel
theorem dX8_silent_30 : decode cX8_silent 30 = .ok (.goto (-16), 3) := by decide +kernel
theorem dX8_silent_33 : decode cX8_silent 33 = .ok (.iconst 0, 1) := by decide +kernel
theorem dX8_silent_34 : decode cX8_silent 34 = .ok (.istore_n 2, 1) := by decide +kernel
theorem dX8_silent_35 : decode cX8_silent 35 = .ok (.iload_n 2, 1) := by decide +kernel
theorem dX8_silent_36 : decode cX8_silent 36 = .ok (.aload_n 0, 1) := by decide +kernel
theorem dX8_silent_37 : decode cX8_silent 37 = .ok (.getfield 82, 3) := by decide +kernel
theorem dX8_silent_40 : decode cX8_silent 40 = .ok (.if_icmp .ge 63, 3) := by decide +kernel
theorem dX8_silent_43 : decode cX8_silent 43 = .ok (.iconst 0, 1) := by decide +kernel
theorem dX8_silent_44 : decode cX8_silent 44 = .ok (.istore_n 3, 1) := by decide +kernel
theorem dX8_silent_45 : decode cX8_silent 45 = .ok (.iload_n 3, 1) := by decide +kernel
theorem dX8_silent_46 : decode cX8_silent 46 = .ok (.iload_n 2, 1) := by decide +kernel
theorem dX8_silent_47 : decode cX8_silent 47 = .ok (.if_icmp .ge 50, 3) := by decide +kernel
theorem dX8_silent_50 : decode cX8_silent 50 = .ok (.aload_n 0, 1) := by decide +kernel
theorem dX8_silent_51 : decode cX8_silent 51 = .ok (.iload_n 2, 1) := by decide +kernel
theorem dX8_silent_52 : decode cX8_silent 52 = .ok (.iload_n 3, 1) := by decide +kernel
theorem dX8_silent_53 : decode cX8_silent 53 = .ok (.invokevirtual 245, 3) := by decide +kernel
theorem dX8_silent_56 : decode cX8_silent 56 = .ok (.iconst 1, 1) := by decide +kernel
theorem dX8_silent_57 : decode cX8_silent 57 = .ok (.istore 4, 2) := by decide +kernel
theorem dX8_silent_59 : decode cX8_silent 59 = .ok (.iload 4, 2) := by decide +kernel
theorem dX8_silent_61 : decode cX8_silent 61 = .ok (.bipush 100, 2) := by decide +kernel
theorem dX8_silent_63 : decode cX8_silent 63 = .ok (.if_icmp .ge 28, 3) := by decide +kernel
theorem dX8_silent_66 : decode cX8_silent 66 = .ok (.aload_n 0, 1) := by decide +kernel
theorem dX8_silent_67 : decode cX8_silent 67 = .ok (.getfield 40, 3) := by decide +kernel
theorem dX8_silent_70 : decode cX8_silent 70 = .ok (.iload 4, 2) := by decide +kernel
theorem dX8_silent_72 : decode cX8_silent 72 = .ok (.iaload, 1) := by decide +kernel
theorem dX8_silent_73 : decode cX8_silent 73 = .ok (.iconst (-1), 1) := by decide +kernel
theorem dX8_silent_74 : decode cX8_silent 74 = .ok (.if_icmp .eq 11, 3) := by decide +kernel
theorem dX8_silent_77 : decode cX8_silent 77 = .ok (.aload_n 0, 1) := by decide +kernel
theorem dX8_silent_78 : decode cX8_silent 78 = .ok (.getfield 46, 3) := by decide +kernel
theorem dX8_silent_81 : decode cX8_silent 81 = .ok (.iload 4, 2) := by decide +kernel
theorem dX8_silent_83 : decode cX8_silent 83 = .ok (.iconst 1, 1) := by decide +kernel
theorem dX8_silent_84 : decode cX8_silent 84 = .ok (.bastore, 1) := by decide +kernel
theorem dX8_silent_85 : decode cX8_silent 85 = .ok (.iinc 4 1, 3) := by decide +kernel
theorem dX8_silent_88 : decode cX8_silent 88 = .ok (.goto (-29), 3) := by decide +kernel
theorem dX8_silent_91 : decode cX8_silent 91 = .ok (.iinc 3 1, 3) := by decide +kernel
theorem dX8_silent_94 : decode cX8_silent 94 = .ok (.goto (-49), 3) := by decide +kernel
theorem dX8_silent_97 : decode cX8_silent 97 = .ok (.iinc 2 1, 3) := by decide +kernel
theorem dX8_silent_100 : decode cX8_silent 100 = .ok (.goto (-65), 3) := by decide +kernel
theorem dX8_silent_103 : decode cX8_silent 103 = .ok (.iconst 0, 1) := by decide +kernel
theorem dX8_silent_104 : decode cX8_silent 104 = .ok (.istore_n 2, 1) := by decide +kernel
theorem dX8_silent_105 : decode cX8_silent 105 = .ok (.iconst (-1), 1) := by decide +kernel
theorem dX8_silent_106 : decode cX8_silent 106 = .ok (.istore_n 3, 1) := by decide +kernel
theorem dX8_silent_107 : decode cX8_silent 107 = .ok (.bipush 99, 2) := by decide +kernel
theorem dX8_silent_109 : decode cX8_silent 109 = .ok (.istore 4, 2) := by decide +kernel
theorem dX8_silent_111 : decode cX8_silent 111 = .ok (.iload 4, 2) := by decide +kernel
theorem dX8_silent_113 : decode cX8_silent 113 = .ok (.ifCond .le 28, 3) := by decide +kernel
theorem dX8_silent_116 : decode cX8_silent 116 = .ok (.aload_n 0, 1) := by decide +kernel
theorem dX8_silent_117 : decode cX8_silent 117 = .ok (.getfield 46, 3) := by decide +kernel
theorem dX8_silent_120 : decode cX8_silent 120 = .ok (.iload 4, 2) := by decide +kernel
theorem dX8_silent_122 : decode cX8_silent 122 = .ok (.baload, 1) := by decide +kernel
theorem dX8_silent_123 : decode cX8_silent 123 = .ok (.ifCond .eq 6, 3) := by decide +kernel
theorem dX8_silent_126 : decode cX8_silent 126 = .ok (.goto 9, 3) := by decide +kernel
theorem dX8_silent_129 : decode cX8_silent 129 = .ok (.iinc 2 1, 3) := by decide +kernel
theorem dX8_silent_132 : decode cX8_silent 132 = .ok (.iload 4, 2) := by decide +kernel
theorem dX8_silent_134 : decode cX8_silent 134 = .ok (.istore_n 3, 1) := by decide +kernel
theorem dX8_silent_135 : decode cX8_silent 135 = .ok (.iinc 4 (-1), 3) := by decide +kernel
theorem dX8_silent_138 : decode cX8_silent 138 = .ok (.goto (-27), 3) := by decide +kernel
theorem dX8_silent_141 : decode cX8_silent 141 = .ok (.iload_n 1, 1) := by decide +kernel
theorem dX8_silent_142 : decode cX8_silent 142 = .ok (.ifCond .ne 7, 3) := by decide +kernel
theorem dX8_silent_145 : decode cX8_silent 145 = .ok (.iload_n 2, 1) := by decide +kernel
theorem dX8_silent_146 : decode cX8_silent 146 = .ok (.goto 4, 3) := by decide +kernel
theorem dX8_silent_149 : decode cX8_silent 149 = .ok (.iload_n 3, 1) := by decide +kernel
theorem dX8_silent_150 : decode cX8_silent 150 = .ok (.ireturn, 1) := by decide +kernel
theorem dX8_reached_0 : decode cX8_reached 0 = .ok (.iconst 1, 1) := by decide +kernel
theorem dX8_reached_1 : decode cX8_reached 1 = .ok (.iload_n 1, 1) := by decide +kernel
theorem dX8_reached_2 : decode cX8_reached 2 = .ok (.ishl, 1) := by decide +kernel
theorem dX8_reached_3 : decode cX8_reached 3 = .ok (.istore_n 3, 1) := by decide +kernel
theorem dX8_reached_4 : decode cX8_reached 4 = .ok (.iconst 0, 1) := by decide +kernel
theorem dX8_reached_5 : decode cX8_reached 5 = .ok (.istore 4, 2) := by decide +kernel
theorem dX8_reached_7 : decode cX8_reached 7 = .ok (.iload 4, 2) := by decide +kernel
theorem dX8_reached_9 : decode cX8_reached 9 = .ok (.bipush 6, 2) := by decide +kernel
theorem dX8_reached_11 : decode cX8_reached 11 = .ok (.if_icmp .ge 91, 3) := by decide +kernel
theorem dX8_reached_14 : decode cX8_reached 14 = .ok (.iconst 0, 1) := by decide +kernel
theorem dX8_reached_15 : decode cX8_reached 15 = .ok (.istore 5, 2) := by decide +kernel
theorem dX8_reached_17 : decode cX8_reached 17 = .ok (.iload 5, 2) := by decide +kernel
theorem dX8_reached_19 : decode cX8_reached 19 = .ok (.aload_n 0, 1) := by decide +kernel
theorem dX8_reached_20 : decode cX8_reached 20 = .ok (.getfield 82, 3) := by decide +kernel
theorem dX8_reached_23 : decode cX8_reached 23 = .ok (.if_icmp .ge 73, 3) := by decide +kernel
theorem dX8_reached_26 : decode cX8_reached 26 = .ok (.iconst 0, 1) := by decide +kernel
theorem dX8_reached_27 : decode cX8_reached 27 = .ok (.istore 6, 2) := by decide +kernel
theorem dX8_reached_29 : decode cX8_reached 29 = .ok (.iload 6, 2) := by decide +kernel
theorem dX8_reached_31 : decode cX8_reached 31 = .ok (.aload_n 0, 1) := by decide +kernel
theorem dX8_reached_32 : decode cX8_reached 32 = .ok (.getfield 82, 3) := by decide +kernel
theorem dX8_reached_35 : decode cX8_reached 35 = .ok (.if_icmp .ge 55, 3) := by decide +kernel
theorem dX8_reached_38 : decode cX8_reached 38 = .ok (.iload_n 3, 1) := by decide +kernel
theorem dX8_reached_39 : decode cX8_reached 39 = .ok (.iload 5, 2) := by decide +kernel
theorem dX8_reached_41 : decode cX8_reached 41 = .ok (.invokestatic 118, 3) := by decide +kernel
theorem dX8_reached_44 : decode cX8_reached 44 = .ok (.ifCond .eq 40, 3) := by decide +kernel
theorem dX8_reached_47 : decode cX8_reached 47 = .ok (.iload 5, 2) := by decide +kernel
theorem dX8_reached_49 : decode cX8_reached 49 = .ok (.iload 6, 2) := by decide +kernel
theorem dX8_reached_51 : decode cX8_reached 51 = .ok (.if_icmp .eq 33, 3) := by decide +kernel
theorem dX8_reached_54 : decode cX8_reached 54 = .ok (.iload 6, 2) := by decide +kernel
theorem dX8_reached_56 : decode cX8_reached 56 = .ok (.iload_n 2, 1) := by decide +kernel
theorem dX8_reached_57 : decode cX8_reached 57 = .ok (.if_icmp .eq 27, 3) := by decide +kernel
theorem dX8_reached_60 : decode cX8_reached 60 = .ok (.aload_n 0, 1) := by decide +kernel
theorem dX8_reached_61 : decode cX8_reached 61 = .ok (.getfield 50, 3) := by decide +kernel
theorem dX8_reached_64 : decode cX8_reached 64 = .ok (.bipush 6, 2) := by decide +kernel
theorem dX8_reached_66 : decode cX8_reached 66 = .ok (.iload 5, 2) := by decide +kernel
theorem dX8_reached_68 : decode cX8_reached 68 = .ok (.imul, 1) := by decide +kernel
theorem dX8_reached_69 : decode cX8_reached 69 = .ok (.iload 6, 2) := by decide +kernel
theorem dX8_reached_71 : decode cX8_reached 71 = .ok (.iadd, 1) := by decide +kernel
theorem dX8_reached_72 : decode cX8_reached 72 = .ok (.iaload, 1) := by decide +kernel
theorem dX8_reached_73 : decode cX8_reached 73 = .ok (.iconst (-1), 1) := by decide +kernel
theorem dX8_reached_74 : decode cX8_reached 74 = .ok (.if_icmp .eq 10, 3) := by decide +kernel
theorem dX8_reached_77 : decode cX8_reached 77 = .ok (.iload_n 3, 1) := by decide +kernel
theorem dX8_reached_78 : decode cX8_reached 78 = .ok (.iconst 1, 1) := by decide +kernel
theorem dX8_reached_79 : decode cX8_reached 79 = .ok (.iload 6, 2) := by decide +kernel
theorem dX8_reached_81 : decode cX8_reached 81 = .ok (.ishl, 1) := by decide +kernel
theorem dX8_reached_82 : decode cX8_reached 82 = .ok (.ior, 1) := by decide +kernel
theorem dX8_reached_83 : decode cX8_reached 83 = .ok (.istore_n 3, 1) := by decide +kernel
theorem dX8_reached_84 : decode cX8_reached 84 = .ok (.iinc 6 1, 3) := by decide +kernel
theorem dX8_reached_87 : decode cX8_reached 87 = .ok (.goto (-58), 3) := by decide +kernel
theorem dX8_reached_90 : decode cX8_reached 90 = .ok (.iinc 5 1, 3) := by decide +kernel
theorem dX8_reached_93 : decode cX8_reached 93 = .ok (.goto (-76), 3) := by decide +kernel
theorem dX8_reached_96 : decode cX8_reached 96 = .ok (.iinc 4 1, 3) := by decide +kernel
theorem dX8_reached_99 : decode cX8_reached 99 = .ok (.goto (-92), 3) := by decide +kernel
theorem dX8_reached_102 : decode cX8_reached 102 = .ok (.iload_n 3, 1) := by decide +kernel
theorem dX8_reached_103 : decode cX8_reached 103 = .ok (.ireturn, 1) := by decide +kernel
theorem dX8_middle_0 : decode cX8_middle 0 = .ok (.iload_n 1, 1) := by decide +kernel
theorem dX8_middle_1 : decode cX8_middle 1 = .ok (.iconst 1, 1) := by decide +kernel
theorem dX8_middle_2 : decode cX8_middle 2 = .ok (.bipush 99, 2) := by decide +kernel
theorem dX8_middle_4 : decode cX8_middle 4 = .ok (.invokestatic 85, 3) := by decide +kernel
theorem dX8_middle_7 : decode cX8_middle 7 = .ok (.ifCond .eq 12, 3) := by decide +kernel
theorem dX8_middle_10 : decode cX8_middle 10 = .ok (.iload_n 2, 1) := by decide +kernel
theorem dX8_middle_11 : decode cX8_middle 11 = .ok (.iconst 0, 1) := by decide +kernel
theorem dX8_middle_12 : decode cX8_middle 12 = .ok (.iconst 1, 1) := by decide +kernel
theorem dX8_middle_13 : decode cX8_middle 13 = .ok (.invokestatic 85, 3) := by decide +kernel
theorem dX8_middle_16 : decode cX8_middle 16 = .ok (.ifCond .ne 6, 3) := by decide +kernel
theorem dX8_middle_19 : decode cX8_middle 19 = .ok (.bipush (-2), 2) := by decide +kernel
theorem dX8_middle_21 : decode cX8_middle 21 = .ok (.ireturn, 1) := by decide +kernel
theorem dX8_middle_22 : decode cX8_middle 22 = .ok (.aload_n 0, 1) := by decide +kernel
theorem dX8_middle_23 : decode cX8_middle 23 = .ok (.iload_n 1, 1) := by decide +kernel
theorem dX8_middle_24 : decode cX8_middle 24 = .ok (.invokevirtual 249, 3) := by decide +kernel
theorem dX8_middle_27 : decode cX8_middle 27 = .ok (.iconst (-1), 1) := by decide +kernel
theorem dX8_middle_28 : decode cX8_middle 28 = .ok (.istore_n 3, 1) := by decide +kernel
theorem dX8_middle_29 : decode cX8_middle 29 = .ok (.iconst 0, 1) := by decide +kernel
theorem dX8_middle_30 : decode cX8_middle 30 = .ok (.istore 4, 2) := by decide +kernel
theorem dX8_middle_32 : decode cX8_middle 32 = .ok (.iconst 0, 1) := by decide +kernel
theorem dX8_middle_33 : decode cX8_middle 33 = .ok (.istore 5, 2) := by decide +kernel
theorem dX8_middle_35 : decode cX8_middle 35 = .ok (.iload 5, 2) := by decide +kernel
theorem dX8_middle_37 : decode cX8_middle 37 = .ok (.aload_n 0, 1) := by decide +kernel
theorem dX8_middle_38 : decode cX8_middle 38 = .ok (.getfield 82, 3) := by decide +kernel
theorem dX8_middle_41 : decode cX8_middle 41 = .ok (.if_icmp .ge 111, 3) := by decide +kernel
theorem dX8_middle_44 : decode cX8_middle 44 = .ok (.iconst 0, 1) := by decide +kernel
theorem dX8_middle_45 : decode cX8_middle 45 = .ok (.istore 6, 2) := by decide +kernel
theorem dX8_middle_47 : decode cX8_middle 47 = .ok (.iconst 0, 1) := by decide +kernel
theorem dX8_middle_48 : decode cX8_middle 48 = .ok (.istore 7, 2) := by decide +kernel
theorem dX8_middle_50 : decode cX8_middle 50 = .ok (.iload 7, 2) := by decide +kernel
theorem dX8_middle_52 : decode cX8_middle 52 = .ok (.aload_n 0, 1) := by decide +kernel
theorem dX8_middle_53 : decode cX8_middle 53 = .ok (.getfield 82, 3) := by decide +kernel
theorem dX8_middle_56 : decode cX8_middle 56 = .ok (.if_icmp .ge 73, 3) := by decide +kernel
theorem dX8_middle_59 : decode cX8_middle 59 = .ok (.iconst 0, 1) := by decide +kernel
theorem dX8_middle_60 : decode cX8_middle 60 = .ok (.istore 8, 2) := by decide +kernel
theorem dX8_middle_62 : decode cX8_middle 62 = .ok (.iload 8, 2) := by decide +kernel
theorem dX8_middle_64 : decode cX8_middle 64 = .ok (.iload 7, 2) := by decide +kernel
theorem dX8_middle_66 : decode cX8_middle 66 = .ok (.if_icmp .ge 57, 3) := by decide +kernel
theorem dX8_middle_69 : decode cX8_middle 69 = .ok (.iload 7, 2) := by decide +kernel
theorem dX8_middle_71 : decode cX8_middle 71 = .ok (.iload 5, 2) := by decide +kernel
theorem dX8_middle_73 : decode cX8_middle 73 = .ok (.if_icmp .eq 44, 3) := by decide +kernel
theorem dX8_middle_76 : decode cX8_middle 76 = .ok (.iload 8, 2) := by decide +kernel
theorem dX8_middle_78 : decode cX8_middle 78 = .ok (.iload 5, 2) := by decide +kernel
theorem dX8_middle_80 : decode cX8_middle 80 = .ok (.if_icmp .eq 37, 3) := by decide +kernel
theorem dX8_middle_83 : decode cX8_middle 83 = .ok (.aload_n 0, 1) := by decide +kernel
theorem dX8_middle_84 : decode cX8_middle 84 = .ok (.iload 7, 2) := by decide +kernel
theorem dX8_middle_86 : decode cX8_middle 86 = .ok (.iconst (-1), 1) := by decide +kernel
theorem dX8_middle_87 : decode cX8_middle 87 = .ok (.invokevirtual 258, 3) := by decide +kernel
theorem dX8_middle_90 : decode cX8_middle 90 = .ok (.iload 8, 2) := by decide +kernel
theorem dX8_middle_92 : decode cX8_middle 92 = .ok (.invokestatic 118, 3) := by decide +kernel
theorem dX8_middle_95 : decode cX8_middle 95 = .ok (.ifCond .eq 22, 3) := by decide +kernel
theorem dX8_middle_98 : decode cX8_middle 98 = .ok (.aload_n 0, 1) := by decide +kernel
theorem dX8_middle_99 : decode cX8_middle 99 = .ok (.iload 7, 2) := by decide +kernel
theorem dX8_middle_101 : decode cX8_middle 101 = .ok (.iload 5, 2) := by decide +kernel
theorem dX8_middle_103 : decode cX8_middle 103 = .ok (.invokevirtual 258, 3) := by decide +kernel
theorem dX8_middle_106 : decode cX8_middle 106 = .ok (.iload 8, 2) := by decide +kernel
theorem dX8_middle_108 : decode cX8_middle 108 = .ok (.invokestatic 118, 3) := by decide +kernel
theorem dX8_middle_111 : decode cX8_middle 111 = .ok (.ifCond .ne 6, 3) := by decide +kernel
theorem dX8_middle_114 : decode cX8_middle 114 = .ok (.iinc 6 1, 3) := by decide +kernel
theorem dX8_middle_117 : decode cX8_middle 117 = .ok (.iinc 8 1, 3) := by decide +kernel
theorem dX8_middle_120 : decode cX8_middle 120 = .ok (.goto (-58), 3) := by decide +kernel
theorem dX8_middle_123 : decode cX8_middle 123 = .ok (.iinc 7 1, 3) := by decide +kernel
theorem dX8_middle_126 : decode cX8_middle 126 = .ok (.goto (-76), 3) := by decide +kernel
theorem dX8_middle_129 : decode cX8_middle 129 = .ok (.iload 6, 2) := by decide +kernel
theorem dX8_middle_131 : decode cX8_middle 131 = .ok (.iload 4, 2) := by decide +kernel
theorem dX8_middle_133 : decode cX8_middle 133 = .ok (.if_icmp .gt 6, 3) := by decide +kernel
theorem dX8_middle_136 : decode cX8_middle 136 = .ok (.goto 10, 3) := by decide +kernel
theorem dX8_middle_139 : decode cX8_middle 139 = .ok (.iload 6, 2) := by decide +kernel
theorem dX8_middle_141 : decode cX8_middle 141 = .ok (.istore 4, 2) := by decide +kernel
theorem dX8_middle_143 : decode cX8_middle 143 = .ok (.iload 5, 2) := by decide +kernel
theorem dX8_middle_145 : decode cX8_middle 145 = .ok (.istore_n 3, 1) := by decide +kernel
theorem dX8_middle_146 : decode cX8_middle 146 = .ok (.iinc 5 1, 3) := by decide +kernel
theorem dX8_middle_149 : decode cX8_middle 149 = .ok (.goto (-114), 3) := by decide +kernel
theorem dX8_middle_152 : decode cX8_middle 152 = .ok (.iload_n 2, 1) := by decide +kernel
theorem dX8_middle_153 : decode cX8_middle 153 = .ok (.ifCond .ne 7, 3) := by decide +kernel
theorem dX8_middle_156 : decode cX8_middle 156 = .ok (.iload_n 3, 1) := by decide +kernel
theorem dX8_middle_157 : decode cX8_middle 157 = .ok (.goto 5, 3) := by decide +kernel
theorem dX8_middle_160 : decode cX8_middle 160 = .ok (.iload 4, 2) := by decide +kernel
theorem dX8_middle_162 : decode cX8_middle 162 = .ok (.ireturn, 1) := by decide +kernel
theorem dX8_leave_0 : decode cX8_leave 0 = .ok (.aload_n 0, 1) := by decide +kernel
theorem dX8_leave_1 : decode cX8_leave 1 = .ok (.iload_n 1, 1) := by decide +kernel
theorem dX8_leave_2 : decode cX8_leave 2 = .ok (.invokevirtual 89, 3) := by decide +kernel
theorem dX8_leave_5 : decode cX8_leave 5 = .ok (.ifCond .eq 12, 3) := by decide +kernel
theorem dX8_leave_8 : decode cX8_leave 8 = .ok (.iload_n 2, 1) := by decide +kernel
theorem dX8_leave_9 : decode cX8_leave 9 = .ok (.iconst 0, 1) := by decide +kernel
theorem dX8_leave_10 : decode cX8_leave 10 = .ok (.iconst 1, 1) := by decide +kernel
theorem dX8_leave_11 : decode cX8_leave 11 = .ok (.invokestatic 85, 3) := by decide +kernel
theorem dX8_leave_14 : decode cX8_leave 14 = .ok (.ifCond .ne 6, 3) := by decide +kernel
theorem dX8_leave_17 : decode cX8_leave 17 = .ok (.bipush (-2), 2) := by decide +kernel
theorem dX8_leave_19 : decode cX8_leave 19 = .ok (.ireturn, 1) := by decide +kernel
theorem dX8_leave_20 : decode cX8_leave 20 = .ok (.aload_n 0, 1) := by decide +kernel
theorem dX8_leave_21 : decode cX8_leave 21 = .ok (.getfield 16, 3) := by decide +kernel
theorem dX8_leave_24 : decode cX8_leave 24 = .ok (.iload_n 1, 1) := by decide +kernel
theorem dX8_leave_25 : decode cX8_leave 25 = .ok (.iaload, 1) := by decide +kernel
theorem dX8_leave_26 : decode cX8_leave 26 = .ok (.istore_n 3, 1) := by decide +kernel
theorem dX8_leave_27 : decode cX8_leave 27 = .ok (.iconst (-1), 1) := by decide +kernel
theorem dX8_leave_28 : decode cX8_leave 28 = .ok (.istore 4, 2) := by decide +kernel
theorem dX8_leave_30 : decode cX8_leave 30 = .ok (.iconst (-1), 1) := by decide +kernel
theorem dX8_leave_31 : decode cX8_leave 31 = .ok (.istore 5, 2) := by decide +kernel
theorem dX8_leave_33 : decode cX8_leave 33 = .ok (.iconst 0, 1) := by decide +kernel
theorem dX8_leave_34 : decode cX8_leave 34 = .ok (.istore 6, 2) := by decide +kernel
theorem dX8_leave_36 : decode cX8_leave 36 = .ok (.iload 6, 2) := by decide +kernel
theorem dX8_leave_38 : decode cX8_leave 38 = .ok (.aload_n 0, 1) := by decide +kernel
theorem dX8_leave_39 : decode cX8_leave 39 = .ok (.getfield 82, 3) := by decide +kernel
theorem dX8_leave_42 : decode cX8_leave 42 = .ok (.if_icmp .ge 133, 3) := by decide +kernel
theorem dX8_leave_45 : decode cX8_leave 45 = .ok (.iload 6, 2) := by decide +kernel
theorem dX8_leave_47 : decode cX8_leave 47 = .ok (.iload_n 1, 1) := by decide +kernel
theorem dX8_leave_48 : decode cX8_leave 48 = .ok (.if_icmp .ne 6, 3) := by decide +kernel
theorem dX8_leave_51 : decode cX8_leave 51 = .ok (.goto 118, 3) := by decide +kernel
theorem dX8_leave_54 : decode cX8_leave 54 = .ok (.aload_n 0, 1) := by decide +kernel
theorem dX8_leave_55 : decode cX8_leave 55 = .ok (.getfield 16, 3) := by decide +kernel
theorem dX8_leave_58 : decode cX8_leave 58 = .ok (.iload 6, 2) := by decide +kernel
theorem dX8_leave_60 : decode cX8_leave 60 = .ok (.iaload, 1) := by decide +kernel
theorem dX8_leave_61 : decode cX8_leave 61 = .ok (.istore 7, 2) := by decide +kernel
theorem dX8_leave_63 : decode cX8_leave 63 = .ok (.aload_n 0, 1) := by decide +kernel
theorem dX8_leave_64 : decode cX8_leave 64 = .ok (.getfield 16, 3) := by decide +kernel
theorem dX8_leave_67 : decode cX8_leave 67 = .ok (.iload 6, 2) := by decide +kernel
theorem dX8_leave_69 : decode cX8_leave 69 = .ok (.dup2, 1) := by decide +kernel
theorem dX8_leave_70 : decode cX8_leave 70 = .ok (.iaload, 1) := by decide +kernel
theorem dX8_leave_71 : decode cX8_leave 71 = .ok (.iload_n 3, 1) := by decide +kernel
theorem dX8_leave_72 : decode cX8_leave 72 = .ok (.ior, 1) := by decide +kernel
theorem dX8_leave_73 : decode cX8_leave 73 = .ok (.iastore, 1) := by decide +kernel
theorem dX8_leave_74 : decode cX8_leave 74 = .ok (.aload_n 0, 1) := by decide +kernel
theorem dX8_leave_75 : decode cX8_leave 75 = .ok (.getfield 16, 3) := by decide +kernel
theorem dX8_leave_78 : decode cX8_leave 78 = .ok (.iload_n 1, 1) := by decide +kernel
theorem dX8_leave_79 : decode cX8_leave 79 = .ok (.iconst 0, 1) := by decide +kernel
theorem dX8_leave_80 : decode cX8_leave 80 = .ok (.iastore, 1) := by decide +kernel
theorem dX8_leave_81 : decode cX8_leave 81 = .ok (.iconst 0, 1) := by decide +kernel
theorem dX8_leave_82 : decode cX8_leave 82 = .ok (.istore 8, 2) := by decide +kernel
theorem dX8_leave_84 : decode cX8_leave 84 = .ok (.iconst 0, 1) := by decide +kernel
theorem dX8_leave_85 : decode cX8_leave 85 = .ok (.istore 9, 2) := by decide +kernel
theorem dX8_leave_87 : decode cX8_leave 87 = .ok (.iload 9, 2) := by decide +kernel
theorem dX8_leave_89 : decode cX8_leave 89 = .ok (.aload_n 0, 1) := by decide +kernel
theorem dX8_leave_90 : decode cX8_leave 90 = .ok (.getfield 82, 3) := by decide +kernel
theorem dX8_leave_93 : decode cX8_leave 93 = .ok (.if_icmp .ge 36, 3) := by decide +kernel
theorem dX8_leave_96 : decode cX8_leave 96 = .ok (.iload 9, 2) := by decide +kernel
theorem dX8_leave_98 : decode cX8_leave 98 = .ok (.iload 6, 2) := by decide +kernel
theorem dX8_leave_100 : decode cX8_leave 100 = .ok (.if_icmp .eq 23, 3) := by decide +kernel
theorem dX8_leave_103 : decode cX8_leave 103 = .ok (.iload 9, 2) := by decide +kernel
theorem dX8_leave_105 : decode cX8_leave 105 = .ok (.iload_n 1, 1) := by decide +kernel
theorem dX8_leave_106 : decode cX8_leave 106 = .ok (.if_icmp .eq 17, 3) := by decide +kernel
theorem dX8_leave_109 : decode cX8_leave 109 = .ok (.iload 8, 2) := by decide +kernel
theorem dX8_leave_111 : decode cX8_leave 111 = .ok (.aload_n 0, 1) := by decide +kernel
theorem dX8_leave_112 : decode cX8_leave 112 = .ok (.iload 6, 2) := by decide +kernel
theorem dX8_leave_114 : decode cX8_leave 114 = .ok (.iload 9, 2) := by decide +kernel
theorem dX8_leave_116 : decode cX8_leave 116 = .ok (.iconst 2, 1) := by decide +kernel
theorem dX8_leave_117 : decode cX8_leave 117 = .ok (.invokevirtual 255, 3) := by decide +kernel
theorem dX8_leave_120 : decode cX8_leave 120 = .ok (.iadd, 1) := by decide +kernel
theorem dX8_leave_121 : decode cX8_leave 121 = .ok (.istore 8, 2) := by decide +kernel
theorem dX8_leave_123 : decode cX8_leave 123 = .ok (.iinc 9 1, 3) := by decide +kernel
theorem dX8_leave_126 : decode cX8_leave 126 = .ok (.goto (-39), 3) := by decide +kernel
theorem dX8_leave_129 : decode cX8_leave 129 = .ok (.aload_n 0, 1) := by decide +kernel
theorem dX8_leave_130 : decode cX8_leave 130 = .ok (.getfield 16, 3) := by decide +kernel
theorem dX8_leave_133 : decode cX8_leave 133 = .ok (.iload 6, 2) := by decide +kernel
theorem dX8_leave_135 : decode cX8_leave 135 = .ok (.iload 7, 2) := by decide +kernel
theorem dX8_leave_137 : decode cX8_leave 137 = .ok (.iastore, 1) := by decide +kernel
theorem dX8_leave_138 : decode cX8_leave 138 = .ok (.aload_n 0, 1) := by decide +kernel
theorem dX8_leave_139 : decode cX8_leave 139 = .ok (.getfield 16, 3) := by decide +kernel
theorem dX8_leave_142 : decode cX8_leave 142 = .ok (.iload_n 1, 1) := by decide +kernel
theorem dX8_leave_143 : decode cX8_leave 143 = .ok (.iload_n 3, 1) := by decide +kernel
theorem dX8_leave_144 : decode cX8_leave 144 = .ok (.iastore, 1) := by decide +kernel
theorem dX8_leave_145 : decode cX8_leave 145 = .ok (.iload 4, 2) := by decide +kernel
theorem dX8_leave_147 : decode cX8_leave 147 = .ok (.iconst (-1), 1) := by decide +kernel
theorem dX8_leave_148 : decode cX8_leave 148 = .ok (.if_icmp .eq 13, 3) := by decide +kernel
theorem dX8_leave_151 : decode cX8_leave 151 = .ok (.iload 8, 2) := by decide +kernel
theorem dX8_leave_153 : decode cX8_leave 153 = .ok (.iload 5, 2) := by decide +kernel
theorem dX8_leave_155 : decode cX8_leave 155 = .ok (.if_icmp .lt 6, 3) := by decide +kernel
theorem dX8_leave_158 : decode cX8_leave 158 = .ok (.goto 11, 3) := by decide +kernel
theorem dX8_leave_161 : decode cX8_leave 161 = .ok (.iload 6, 2) := by decide +kernel
theorem dX8_leave_163 : decode cX8_leave 163 = .ok (.istore 4, 2) := by decide +kernel
theorem dX8_leave_165 : decode cX8_leave 165 = .ok (.iload 8, 2) := by decide +kernel
theorem dX8_leave_167 : decode cX8_leave 167 = .ok (.istore 5, 2) := by decide +kernel
theorem dX8_leave_169 : decode cX8_leave 169 = .ok (.iinc 6 1, 3) := by decide +kernel
theorem dX8_leave_172 : decode cX8_leave 172 = .ok (.goto (-136), 3) := by decide +kernel
theorem dX8_leave_175 : decode cX8_leave 175 = .ok (.iload_n 2, 1) := by decide +kernel
theorem dX8_leave_176 : decode cX8_leave 176 = .ok (.ifCond .ne 8, 3) := by decide +kernel
theorem dX8_leave_179 : decode cX8_leave 179 = .ok (.iload 4, 2) := by decide +kernel
theorem dX8_leave_181 : decode cX8_leave 181 = .ok (.goto 5, 3) := by decide +kernel
theorem dX8_leave_184 : decode cX8_leave 184 = .ok (.iload 5, 2) := by decide +kernel
theorem dX8_leave_186 : decode cX8_leave 186 = .ok (.ireturn, 1) := by decide +kernel
theorem dX8_buy_0 : decode cX8_buy 0 = .ok (.aload_n 0, 1) := by decide +kernel
theorem dX8_buy_1 : decode cX8_buy 1 = .ok (.iload_n 1, 1) := by decide +kernel
theorem dX8_buy_2 : decode cX8_buy 2 = .ok (.iload_n 2, 1) := by decide +kernel
theorem dX8_buy_3 : decode cX8_buy 3 = .ok (.invokevirtual 112, 3) := by decide +kernel
theorem dX8_buy_6 : decode cX8_buy 6 = .ok (.ifCond .eq 12, 3) := by decide +kernel
theorem dX8_buy_9 : decode cX8_buy 9 = .ok (.iload_n 3, 1) := by decide +kernel
theorem dX8_buy_10 : decode cX8_buy 10 = .ok (.iconst 0, 1) := by decide +kernel
theorem dX8_buy_11 : decode cX8_buy 11 = .ok (.iconst 1, 1) := by decide +kernel
theorem dX8_buy_12 : decode cX8_buy 12 = .ok (.invokestatic 85, 3) := by decide +kernel
theorem dX8_buy_15 : decode cX8_buy 15 = .ok (.ifCond .ne 6, 3) := by decide +kernel
theorem dX8_buy_18 : decode cX8_buy 18 = .ok (.bipush (-2), 2) := by decide +kernel
theorem dX8_buy_20 : decode cX8_buy 20 = .ok (.ireturn, 1) := by decide +kernel
theorem dX8_buy_21 : decode cX8_buy 21 = .ok (.aload_n 0, 1) := by decide +kernel
theorem dX8_buy_22 : decode cX8_buy 22 = .ok (.getfield 16, 3) := by decide +kernel
theorem dX8_buy_25 : decode cX8_buy 25 = .ok (.iload_n 1, 1) := by decide +kernel
theorem dX8_buy_26 : decode cX8_buy 26 = .ok (.iaload, 1) := by decide +kernel
theorem dX8_buy_27 : decode cX8_buy 27 = .ok (.istore 4, 2) := by decide +kernel
theorem dX8_buy_29 : decode cX8_buy 29 = .ok (.iconst (-1), 1) := by decide +kernel
theorem dX8_buy_30 : decode cX8_buy 30 = .ok (.istore 5, 2) := by decide +kernel
theorem dX8_buy_32 : decode cX8_buy 32 = .ok (.iconst 0, 1) := by decide +kernel
theorem dX8_buy_33 : decode cX8_buy 33 = .ok (.istore 6, 2) := by decide +kernel
theorem dX8_buy_35 : decode cX8_buy 35 = .ok (.iconst 1, 1) := by decide +kernel
theorem dX8_buy_36 : decode cX8_buy 36 = .ok (.istore 7, 2) := by decide +kernel
theorem dX8_buy_38 : decode cX8_buy 38 = .ok (.iload 7, 2) := by decide +kernel
theorem dX8_buy_40 : decode cX8_buy 40 = .ok (.bipush 31, 2) := by decide +kernel
theorem dX8_buy_42 : decode cX8_buy 42 = .ok (.if_icmp .ge 57, 3) := by decide +kernel
theorem dX8_buy_45 : decode cX8_buy 45 = .ok (.aload_n 0, 1) := by decide +kernel
theorem dX8_buy_46 : decode cX8_buy 46 = .ok (.getfield 16, 3) := by decide +kernel
theorem dX8_buy_49 : decode cX8_buy 49 = .ok (.iload_n 1, 1) := by decide +kernel
theorem dX8_buy_50 : decode cX8_buy 50 = .ok (.iload 4, 2) := by decide +kernel
theorem dX8_buy_52 : decode cX8_buy 52 = .ok (.iconst 1, 1) := by decide +kernel
theorem dX8_buy_53 : decode cX8_buy 53 = .ok (.iload 7, 2) := by decide +kernel
theorem dX8_buy_55 : decode cX8_buy 55 = .ok (.iconst 1, 1) := by decide +kernel
theorem dX8_buy_56 : decode cX8_buy 56 = .ok (.isub, 1) := by decide +kernel
theorem dX8_buy_57 : decode cX8_buy 57 = .ok (.ishl, 1) := by decide +kernel
theorem dX8_buy_58 : decode cX8_buy 58 = .ok (.ior, 1) := by decide +kernel
theorem dX8_buy_59 : decode cX8_buy 59 = .ok (.iastore, 1) := by decide +kernel
theorem dX8_buy_60 : decode cX8_buy 60 = .ok (.aload_n 0, 1) := by decide +kernel
theorem dX8_buy_61 : decode cX8_buy 61 = .ok (.iload_n 1, 1) := by decide +kernel
theorem dX8_buy_62 : decode cX8_buy 62 = .ok (.iload_n 2, 1) := by decide +kernel
theorem dX8_buy_63 : decode cX8_buy 63 = .ok (.iconst 0, 1) := by decide +kernel
theorem dX8_buy_64 : decode cX8_buy 64 = .ok (.invokevirtual 255, 3) := by decide +kernel
theorem dX8_buy_67 : decode cX8_buy 67 = .ok (.istore 8, 2) := by decide +kernel
theorem dX8_buy_69 : decode cX8_buy 69 = .ok (.iload 5, 2) := by decide +kernel
theorem dX8_buy_71 : decode cX8_buy 71 = .ok (.iconst (-1), 1) := by decide +kernel
theorem dX8_buy_72 : decode cX8_buy 72 = .ok (.if_icmp .eq 13, 3) := by decide +kernel
theorem dX8_buy_75 : decode cX8_buy 75 = .ok (.iload 8, 2) := by decide +kernel
theorem dX8_buy_77 : decode cX8_buy 77 = .ok (.iload 6, 2) := by decide +kernel
theorem dX8_buy_79 : decode cX8_buy 79 = .ok (.if_icmp .lt 6, 3) := by decide +kernel
theorem dX8_buy_82 : decode cX8_buy 82 = .ok (.goto 11, 3) := by decide +kernel
theorem dX8_buy_85 : decode cX8_buy 85 = .ok (.iload 7, 2) := by decide +kernel
theorem dX8_buy_87 : decode cX8_buy 87 = .ok (.istore 5, 2) := by decide +kernel
theorem dX8_buy_89 : decode cX8_buy 89 = .ok (.iload 8, 2) := by decide +kernel
theorem dX8_buy_91 : decode cX8_buy 91 = .ok (.istore 6, 2) := by decide +kernel
theorem dX8_buy_93 : decode cX8_buy 93 = .ok (.iinc 7 1, 3) := by decide +kernel
theorem dX8_buy_96 : decode cX8_buy 96 = .ok (.goto (-58), 3) := by decide +kernel
theorem dX8_buy_99 : decode cX8_buy 99 = .ok (.aload_n 0, 1) := by decide +kernel
theorem dX8_buy_100 : decode cX8_buy 100 = .ok (.getfield 16, 3) := by decide +kernel
theorem dX8_buy_103 : decode cX8_buy 103 = .ok (.iload_n 1, 1) := by decide +kernel
theorem dX8_buy_104 : decode cX8_buy 104 = .ok (.iload 4, 2) := by decide +kernel
theorem dX8_buy_106 : decode cX8_buy 106 = .ok (.iastore, 1) := by decide +kernel
theorem dX8_buy_107 : decode cX8_buy 107 = .ok (.iload_n 3, 1) := by decide +kernel
theorem dX8_buy_108 : decode cX8_buy 108 = .ok (.ifCond .ne 8, 3) := by decide +kernel
theorem dX8_buy_111 : decode cX8_buy 111 = .ok (.iload 5, 2) := by decide +kernel
theorem dX8_buy_113 : decode cX8_buy 113 = .ok (.goto 5, 3) := by decide +kernel
theorem dX8_buy_116 : decode cX8_buy 116 = .ok (.iload 6, 2) := by decide +kernel
theorem dX8_buy_118 : decode cX8_buy 118 = .ok (.ireturn, 1) := by decide +kernel
theorem dX8_unpaid_0 : decode cX8_unpaid 0 = .ok (.aload_n 0, 1) := by decide +kernel
theorem dX8_unpaid_1 : decode cX8_unpaid 1 = .ok (.iload_n 1, 1) := by decide +kernel
theorem dX8_unpaid_2 : decode cX8_unpaid 2 = .ok (.iload_n 2, 1) := by decide +kernel
theorem dX8_unpaid_3 : decode cX8_unpaid 3 = .ok (.invokevirtual 245, 3) := by decide +kernel
theorem dX8_unpaid_6 : decode cX8_unpaid 6 = .ok (.iconst 0, 1) := by decide +kernel
theorem dX8_unpaid_7 : decode cX8_unpaid 7 = .ok (.istore_n 3, 1) := by decide +kernel
theorem dX8_unpaid_8 : decode cX8_unpaid 8 = .ok (.iconst 1, 1) := by decide +kernel
theorem dX8_unpaid_9 : decode cX8_unpaid 9 = .ok (.istore 4, 2) := by decide +kernel
theorem dX8_unpaid_11 : decode cX8_unpaid 11 = .ok (.iload 4, 2) := by decide +kernel
theorem dX8_unpaid_13 : decode cX8_unpaid 13 = .ok (.bipush 100, 2) := by decide +kernel
theorem dX8_unpaid_15 : decode cX8_unpaid 15 = .ok (.if_icmp .ge 23, 3) := by decide +kernel
theorem dX8_unpaid_18 : decode cX8_unpaid 18 = .ok (.aload_n 0, 1) := by decide +kernel
theorem dX8_unpaid_19 : decode cX8_unpaid 19 = .ok (.getfield 40, 3) := by decide +kernel
theorem dX8_unpaid_22 : decode cX8_unpaid 22 = .ok (.iload 4, 2) := by decide +kernel
theorem dX8_unpaid_24 : decode cX8_unpaid 24 = .ok (.iaload, 1) := by decide +kernel
theorem dX8_unpaid_25 : decode cX8_unpaid 25 = .ok (.iconst (-1), 1) := by decide +kernel
theorem dX8_unpaid_26 : decode cX8_unpaid 26 = .ok (.if_icmp .ne 6, 3) := by decide +kernel
theorem dX8_unpaid_29 : decode cX8_unpaid 29 = .ok (.iinc 3 1, 3) := by decide +kernel
theorem dX8_unpaid_32 : decode cX8_unpaid 32 = .ok (.iinc 4 1, 3) := by decide +kernel
theorem dX8_unpaid_35 : decode cX8_unpaid 35 = .ok (.goto (-24), 3) := by decide +kernel
theorem dX8_unpaid_38 : decode cX8_unpaid 38 = .ok (.iload_n 3, 1) := by decide +kernel
theorem dX8_unpaid_39 : decode cX8_unpaid 39 = .ok (.ireturn, 1) := by decide +kernel
theorem dX8_pawn_0 : decode cX8_pawn 0 = .ok (.aload_n 0, 1) := by decide +kernel
theorem dX8_pawn_1 : decode cX8_pawn 1 = .ok (.iload_n 1, 1) := by decide +kernel
theorem dX8_pawn_2 : decode cX8_pawn 2 = .ok (.iload_n 2, 1) := by decide +kernel
theorem dX8_pawn_3 : decode cX8_pawn 3 = .ok (.invokevirtual 112, 3) := by decide +kernel
theorem dX8_pawn_6 : decode cX8_pawn 6 = .ok (.ifCond .eq 12, 3) := by decide +kernel
theorem dX8_pawn_9 : decode cX8_pawn 9 = .ok (.iload_n 3, 1) := by decide +kernel
theorem dX8_pawn_10 : decode cX8_pawn 10 = .ok (.iconst 0, 1) := by decide +kernel
theorem dX8_pawn_11 : decode cX8_pawn 11 = .ok (.iconst 1, 1) := by decide +kernel
theorem dX8_pawn_12 : decode cX8_pawn 12 = .ok (.invokestatic 85, 3) := by decide +kernel
theorem dX8_pawn_15 : decode cX8_pawn 15 = .ok (.ifCond .ne 6, 3) := by decide +kernel
theorem dX8_pawn_18 : decode cX8_pawn 18 = .ok (.bipush (-2), 2) := by decide +kernel
theorem dX8_pawn_20 : decode cX8_pawn 20 = .ok (.ireturn, 1) := by decide +kernel
theorem dX8_pawn_21 : decode cX8_pawn 21 = .ok (.aload_n 0, 1) := by decide +kernel
theorem dX8_pawn_22 : decode cX8_pawn 22 = .ok (.getfield 16, 3) := by decide +kernel
theorem dX8_pawn_25 : decode cX8_pawn 25 = .ok (.iload_n 1, 1) := by decide +kernel
theorem dX8_pawn_26 : decode cX8_pawn 26 = .ok (.iaload, 1) := by decide +kernel
theorem dX8_pawn_27 : decode cX8_pawn 27 = .ok (.istore 4, 2) := by decide +kernel
theorem dX8_pawn_29 : decode cX8_pawn 29 = .ok (.iconst (-1), 1) := by decide +kernel
theorem dX8_pawn_30 : decode cX8_pawn 30 = .ok (.istore 5, 2) := by decide +kernel
theorem dX8_pawn_32 : decode cX8_pawn 32 = .ok (.iconst (-1), 1) := by decide +kernel
theorem dX8_pawn_33 : decode cX8_pawn 33 = .ok (.istore 6, 2) := by decide +kernel
theorem dX8_pawn_35 : decode cX8_pawn 35 = .ok (.iconst 1, 1) := by decide +kernel
theorem dX8_pawn_36 : decode cX8_pawn 36 = .ok (.istore 7, 2) := by decide +kernel
theorem dX8_pawn_38 : decode cX8_pawn 38 = .ok (.iload 7, 2) := by decide +kernel
theorem dX8_pawn_40 : decode cX8_pawn 40 = .ok (.bipush 31, 2) := by decide +kernel
theorem dX8_pawn_42 : decode cX8_pawn 42 = .ok (.if_icmp .ge 71, 3) := by decide +kernel
theorem dX8_pawn_45 : decode cX8_pawn 45 = .ok (.iload 4, 2) := by decide +kernel
theorem dX8_pawn_47 : decode cX8_pawn 47 = .ok (.iload 7, 2) := by decide +kernel
theorem dX8_pawn_49 : decode cX8_pawn 49 = .ok (.iconst 1, 1) := by decide +kernel
theorem dX8_pawn_50 : decode cX8_pawn 50 = .ok (.isub, 1) := by decide +kernel
theorem dX8_pawn_51 : decode cX8_pawn 51 = .ok (.invokestatic 118, 3) := by decide +kernel
theorem dX8_pawn_54 : decode cX8_pawn 54 = .ok (.ifCond .ne 6, 3) := by decide +kernel
theorem dX8_pawn_57 : decode cX8_pawn 57 = .ok (.goto 50, 3) := by decide +kernel
theorem dX8_pawn_60 : decode cX8_pawn 60 = .ok (.aload_n 0, 1) := by decide +kernel
