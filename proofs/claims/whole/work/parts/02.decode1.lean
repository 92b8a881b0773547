theorem dX7_init_47 : decode cX7_init 47 = .ok (.aload_n 0, 1) := by decide +kernel
theorem dX7_init_48 : decode cX7_init 48 = .ok (.new 37, 3) := by decide +kernel
theorem dX7_init_51 : decode cX7_init 51 = .ok (.dup, 1) := by decide +kernel
theorem dX7_init_52 : decode cX7_init 52 = .ok (.aload_n 0, 1) := by decide +kernel
theorem dX7_init_53 : decode cX7_init 53 = .ok (.getfield 33, 3) := by decide +kernel
theorem dX7_init_56 : decode cX7_init 56 = .ok (.invokespecial 39, 3) := by decide +kernel
theorem dX7_init_59 : decode cX7_init 59 = .ok (.putfield 42, 3) := by decide +kernel
theorem dX7_init_62 : decode cX7_init 62 = .ok (.aload_n 0, 1) := by decide +kernel
theorem dX7_init_63 : decode cX7_init 63 = .ok (.new 46, 3) := by decide +kernel
theorem dX7_init_66 : decode cX7_init 66 = .ok (.dup, 1) := by decide +kernel
theorem dX7_init_67 : decode cX7_init 67 = .ok (.invokespecial 48, 3) := by decide +kernel
theorem dX7_init_70 : decode cX7_init 70 = .ok (.putfield 49, 3) := by decide +kernel
theorem dX7_init_73 : decode cX7_init 73 = .ok (.aload_n 0, 1) := by decide +kernel
theorem dX7_init_74 : decode cX7_init 74 = .ok (.new 9, 3) := by decide +kernel
theorem dX7_init_77 : decode cX7_init 77 = .ok (.dup, 1) := by decide +kernel
theorem dX7_init_78 : decode cX7_init 78 = .ok (.invokespecial 53, 3) := by decide +kernel
theorem dX7_init_81 : decode cX7_init 81 = .ok (.putfield 54, 3) := by decide +kernel
theorem dX7_init_84 : decode cX7_init 84 = .ok (.aload_n 0, 1) := by decide +kernel
theorem dX7_init_85 : decode cX7_init 85 = .ok (.new 9, 3) := by decide +kernel
theorem dX7_init_88 : decode cX7_init 88 = .ok (.dup, 1) := by decide +kernel
theorem dX7_init_89 : decode cX7_init 89 = .ok (.invokespecial 53, 3) := by decide +kernel
theorem dX7_init_92 : decode cX7_init 92 = .ok (.putfield 58, 3) := by decide +kernel
theorem dX7_init_95 : decode cX7_init 95 = .ok (.iconst 0, 1) := by decide +kernel
theorem dX7_init_96 : decode cX7_init 96 = .ok (.istore_n 1, 1) := by decide +kernel
theorem dX7_init_97 : decode cX7_init 97 = .ok (.iload_n 1, 1) := by decide +kernel
theorem dX7_init_98 : decode cX7_init 98 = .ok (.bipush 6, 2) := by decide +kernel
theorem dX7_init_100 : decode cX7_init 100 = .ok (.if_icmp .ge 22, 3) := by decide +kernel
theorem dX7_init_103 : decode cX7_init 103 = .ok (.aload_n 0, 1) := by decide +kernel
theorem dX7_init_104 : decode cX7_init 104 = .ok (.getfield 11, 3) := by decide +kernel
theorem dX7_init_107 : decode cX7_init 107 = .ok (.iload_n 1, 1) := by decide +kernel
theorem dX7_init_108 : decode cX7_init 108 = .ok (.new 9, 3) := by decide +kernel
theorem dX7_init_111 : decode cX7_init 111 = .ok (.dup, 1) := by decide +kernel
theorem dX7_init_112 : decode cX7_init 112 = .ok (.invokespecial 53, 3) := by decide +kernel
theorem dX7_init_115 : decode cX7_init 115 = .ok (.aastore, 1) := by decide +kernel
theorem dX7_init_116 : decode cX7_init 116 = .ok (.iinc 1 1, 3) := by decide +kernel
theorem dX7_init_119 : decode cX7_init 119 = .ok (.goto (-22), 3) := by decide +kernel
theorem dX7_init_122 : decode cX7_init 122 = .ok (.iconst 0, 1) := by decide +kernel
theorem dX7_init_123 : decode cX7_init 123 = .ok (.istore_n 1, 1) := by decide +kernel
theorem dX7_init_124 : decode cX7_init 124 = .ok (.iload_n 1, 1) := by decide +kernel
theorem dX7_init_125 : decode cX7_init 125 = .ok (.iconst 4, 1) := by decide +kernel
theorem dX7_init_126 : decode cX7_init 126 = .ok (.if_icmp .ge 22, 3) := by decide +kernel
theorem dX7_init_129 : decode cX7_init 129 = .ok (.aload_n 0, 1) := by decide +kernel
theorem dX7_init_130 : decode cX7_init 130 = .ok (.getfield 17, 3) := by decide +kernel
theorem dX7_init_133 : decode cX7_init 133 = .ok (.iload_n 1, 1) := by decide +kernel
theorem dX7_init_134 : decode cX7_init 134 = .ok (.new 15, 3) := by decide +kernel
theorem dX7_init_137 : decode cX7_init 137 = .ok (.dup, 1) := by decide +kernel
theorem dX7_init_138 : decode cX7_init 138 = .ok (.invokespecial 61, 3) := by decide +kernel
theorem dX7_init_141 : decode cX7_init 141 = .ok (.aastore, 1) := by decide +kernel
theorem dX7_init_142 : decode cX7_init 142 = .ok (.iinc 1 1, 3) := by decide +kernel
theorem dX7_init_145 : decode cX7_init 145 = .ok (.goto (-21), 3) := by decide +kernel
theorem dX7_init_148 : decode cX7_init 148 = .ok (.return_, 1) := by decide +kernel
theorem dX7_set_0 : decode cX7_set 0 = .ok (.iload_n 1, 1) := by decide +kernel
theorem dX7_set_1 : decode cX7_set 1 = .ok (.ifCond .ne 9, 3) := by decide +kernel
theorem dX7_set_4 : decode cX7_set 4 = .ok (.aload_n 0, 1) := by decide +kernel
theorem dX7_set_5 : decode cX7_set 5 = .ok (.iload_n 3, 1) := by decide +kernel
theorem dX7_set_6 : decode cX7_set 6 = .ok (.invokevirtual 62, 3) := by decide +kernel
theorem dX7_set_9 : decode cX7_set 9 = .ok (.ireturn, 1) := by decide +kernel
theorem dX7_set_10 : decode cX7_set 10 = .ok (.aload_n 0, 1) := by decide +kernel
theorem dX7_set_11 : decode cX7_set 11 = .ok (.iload_n 2, 1) := by decide +kernel
theorem dX7_set_12 : decode cX7_set 12 = .ok (.invokevirtual 66, 3) := by decide +kernel
theorem dX7_set_15 : decode cX7_set 15 = .ok (.astore 4, 2) := by decide +kernel
theorem dX7_set_17 : decode cX7_set 17 = .ok (.aload 4, 2) := by decide +kernel
theorem dX7_set_19 : decode cX7_set 19 = .ok (.ifnull 13, 3) := by decide +kernel
theorem dX7_set_22 : decode cX7_set 22 = .ok (.iload_n 1, 1) := by decide +kernel
theorem dX7_set_23 : decode cX7_set 23 = .ok (.iconst 1, 1) := by decide +kernel
theorem dX7_set_24 : decode cX7_set 24 = .ok (.if_icmp .lt 8, 3) := by decide +kernel
theorem dX7_set_27 : decode cX7_set 27 = .ok (.iload_n 1, 1) := by decide +kernel
theorem dX7_set_28 : decode cX7_set 28 = .ok (.iconst 2, 1) := by decide +kernel
theorem dX7_set_29 : decode cX7_set 29 = .ok (.if_icmp .le 6, 3) := by decide +kernel
theorem dX7_set_32 : decode cX7_set 32 = .ok (.bipush (-2), 2) := by decide +kernel
theorem dX7_set_34 : decode cX7_set 34 = .ok (.ireturn, 1) := by decide +kernel
theorem dX7_set_35 : decode cX7_set 35 = .ok (.iload_n 1, 1) := by decide +kernel
theorem dX7_set_36 : decode cX7_set 36 = .ok (.iconst 1, 1) := by decide +kernel
theorem dX7_set_37 : decode cX7_set 37 = .ok (.if_icmp .ne 10, 3) := by decide +kernel
theorem dX7_set_40 : decode cX7_set 40 = .ok (.aload 4, 2) := by decide +kernel
theorem dX7_set_42 : decode cX7_set 42 = .ok (.iload_n 3, 1) := by decide +kernel
theorem dX7_set_43 : decode cX7_set 43 = .ok (.invokestatic 70, 3) := by decide +kernel
theorem dX7_set_46 : decode cX7_set 46 = .ok (.ireturn, 1) := by decide +kernel
theorem dX7_set_47 : decode cX7_set 47 = .ok (.aload 4, 2) := by decide +kernel
theorem dX7_set_49 : decode cX7_set 49 = .ok (.iload_n 3, 1) := by decide +kernel
theorem dX7_set_50 : decode cX7_set 50 = .ok (.invokestatic 74, 3) := by decide +kernel
theorem dX7_set_53 : decode cX7_set 53 = .ok (.ireturn, 1) := by decide +kernel
theorem dX7_heir_0 : decode cX7_heir 0 = .ok (.iload_n 1, 1) := by decide +kernel
theorem dX7_heir_1 : decode cX7_heir 1 = .ok (.ifCond .lt 19, 3) := by decide +kernel
theorem dX7_heir_4 : decode cX7_heir 4 = .ok (.iload_n 1, 1) := by decide +kernel
theorem dX7_heir_5 : decode cX7_heir 5 = .ok (.bipush 6, 2) := by decide +kernel
theorem dX7_heir_7 : decode cX7_heir 7 = .ok (.if_icmp .ge 13, 3) := by decide +kernel
theorem dX7_heir_10 : decode cX7_heir 10 = .ok (.iload_n 2, 1) := by decide +kernel
theorem dX7_heir_11 : decode cX7_heir 11 = .ok (.ifCond .lt 9, 3) := by decide +kernel
theorem dX7_heir_14 : decode cX7_heir 14 = .ok (.iload_n 2, 1) := by decide +kernel
theorem dX7_heir_15 : decode cX7_heir 15 = .ok (.bipush 10, 2) := by decide +kernel
theorem dX7_heir_17 : decode cX7_heir 17 = .ok (.if_icmp .lt 6, 3) := by decide +kernel
theorem dX7_heir_20 : decode cX7_heir 20 = .ok (.bipush (-2), 2) := by decide +kernel
theorem dX7_heir_22 : decode cX7_heir 22 = .ok (.ireturn, 1) := by decide +kernel
theorem dX7_heir_23 : decode cX7_heir 23 = .ok (.aload_n 0, 1) := by decide +kernel
theorem dX7_heir_24 : decode cX7_heir 24 = .ok (.getfield 77, 3) := by decide +kernel
theorem dX7_heir_27 : decode cX7_heir 27 = .ok (.aload_n 0, 1) := by decide +kernel
theorem dX7_heir_28 : decode cX7_heir 28 = .ok (.getfield 11, 3) := by decide +kernel
theorem dX7_heir_31 : decode cX7_heir 31 = .ok (.arraylength, 1) := by decide +kernel
theorem dX7_heir_32 : decode cX7_heir 32 = .ok (.if_icmp .lt 6, 3) := by decide +kernel
theorem dX7_heir_35 : decode cX7_heir 35 = .ok (.bipush (-4), 2) := by decide +kernel
theorem dX7_heir_37 : decode cX7_heir 37 = .ok (.ireturn, 1) := by decide +kernel
theorem dX7_heir_38 : decode cX7_heir 38 = .ok (.aload_n 0, 1) := by decide +kernel
theorem dX7_heir_39 : decode cX7_heir 39 = .ok (.getfield 11, 3) := by decide +kernel
theorem dX7_heir_42 : decode cX7_heir 42 = .ok (.aload_n 0, 1) := by decide +kernel
theorem dX7_heir_43 : decode cX7_heir 43 = .ok (.getfield 77, 3) := by decide +kernel
theorem dX7_heir_46 : decode cX7_heir 46 = .ok (.aaload, 1) := by decide +kernel
theorem dX7_heir_47 : decode cX7_heir 47 = .ok (.astore_n 3, 1) := by decide +kernel
theorem dX7_heir_48 : decode cX7_heir 48 = .ok (.aload_n 3, 1) := by decide +kernel
theorem dX7_heir_49 : decode cX7_heir 49 = .ok (.aload_n 0, 1) := by decide +kernel
theorem dX7_heir_50 : decode cX7_heir 50 = .ok (.getfield 77, 3) := by decide +kernel
theorem dX7_heir_53 : decode cX7_heir 53 = .ok (.putfield 81, 3) := by decide +kernel
theorem dX7_heir_56 : decode cX7_heir 56 = .ok (.aload_n 3, 1) := by decide +kernel
theorem dX7_heir_57 : decode cX7_heir 57 = .ok (.iload_n 1, 1) := by decide +kernel
theorem dX7_heir_58 : decode cX7_heir 58 = .ok (.putfield 84, 3) := by decide +kernel
theorem dX7_heir_61 : decode cX7_heir 61 = .ok (.aload_n 3, 1) := by decide +kernel
theorem dX7_heir_62 : decode cX7_heir 62 = .ok (.iload_n 2, 1) := by decide +kernel
theorem dX7_heir_63 : decode cX7_heir 63 = .ok (.putfield 87, 3) := by decide +kernel
theorem dX7_heir_66 : decode cX7_heir 66 = .ok (.aload_n 3, 1) := by decide +kernel
theorem dX7_heir_67 : decode cX7_heir 67 = .ok (.iconst 0, 1) := by decide +kernel
theorem dX7_heir_68 : decode cX7_heir 68 = .ok (.putfield 90, 3) := by decide +kernel
theorem dX7_heir_71 : decode cX7_heir 71 = .ok (.aload_n 0, 1) := by decide +kernel
theorem dX7_heir_72 : decode cX7_heir 72 = .ok (.dup, 1) := by decide +kernel
theorem dX7_heir_73 : decode cX7_heir 73 = .ok (.getfield 77, 3) := by decide +kernel
theorem dX7_heir_76 : decode cX7_heir 76 = .ok (.iconst 1, 1) := by decide +kernel
theorem dX7_heir_77 : decode cX7_heir 77 = .ok (.iadd, 1) := by decide +kernel
theorem dX7_heir_78 : decode cX7_heir 78 = .ok (.putfield 77, 3) := by decide +kernel
theorem dX7_heir_81 : decode cX7_heir 81 = .ok (.aload_n 3, 1) := by decide +kernel
theorem dX7_heir_82 : decode cX7_heir 82 = .ok (.getfield 81, 3) := by decide +kernel
theorem dX7_heir_85 : decode cX7_heir 85 = .ok (.ireturn, 1) := by decide +kernel
theorem dX7_give_0 : decode cX7_give 0 = .ok (.aload_n 0, 1) := by decide +kernel
theorem dX7_give_1 : decode cX7_give 1 = .ok (.iload_n 1, 1) := by decide +kernel
theorem dX7_give_2 : decode cX7_give 2 = .ok (.invokevirtual 66, 3) := by decide +kernel
theorem dX7_give_5 : decode cX7_give 5 = .ok (.astore 4, 2) := by decide +kernel
theorem dX7_give_7 : decode cX7_give 7 = .ok (.aload_n 0, 1) := by decide +kernel
theorem dX7_give_8 : decode cX7_give 8 = .ok (.iload_n 2, 1) := by decide +kernel
theorem dX7_give_9 : decode cX7_give 9 = .ok (.invokevirtual 66, 3) := by decide +kernel
theorem dX7_give_12 : decode cX7_give 12 = .ok (.astore 5, 2) := by decide +kernel
theorem dX7_give_14 : decode cX7_give 14 = .ok (.aload 4, 2) := by decide +kernel
theorem dX7_give_16 : decode cX7_give 16 = .ok (.ifnull 22, 3) := by decide +kernel
theorem dX7_give_19 : decode cX7_give 19 = .ok (.aload 5, 2) := by decide +kernel
theorem dX7_give_21 : decode cX7_give 21 = .ok (.ifnull 17, 3) := by decide +kernel
theorem dX7_give_24 : decode cX7_give 24 = .ok (.aload 4, 2) := by decide +kernel
theorem dX7_give_26 : decode cX7_give 26 = .ok (.aload 5, 2) := by decide +kernel
theorem dX7_give_28 : decode cX7_give 28 = .ok (.if_acmp .eq 10, 3) := by decide +kernel
theorem dX7_give_31 : decode cX7_give 31 = .ok (.iload_n 3, 1) := by decide +kernel
theorem dX7_give_32 : decode cX7_give 32 = .ok (.invokestatic 93, 3) := by decide +kernel
theorem dX7_give_35 : decode cX7_give 35 = .ok (.ifCond .ne 6, 3) := by decide +kernel
theorem dX7_give_38 : decode cX7_give 38 = .ok (.bipush (-2), 2) := by decide +kernel
theorem dX7_give_40 : decode cX7_give 40 = .ok (.ireturn, 1) := by decide +kernel
theorem dX7_give_41 : decode cX7_give 41 = .ok (.aload 4, 2) := by decide +kernel
theorem dX7_give_43 : decode cX7_give 43 = .ok (.getfield 90, 3) := by decide +kernel
theorem dX7_give_46 : decode cX7_give 46 = .ok (.iload_n 3, 1) := by decide +kernel
theorem dX7_give_47 : decode cX7_give 47 = .ok (.invokestatic 97, 3) := by decide +kernel
theorem dX7_give_50 : decode cX7_give 50 = .ok (.ifCond .eq 15, 3) := by decide +kernel
theorem dX7_give_53 : decode cX7_give 53 = .ok (.aload 5, 2) := by decide +kernel
theorem dX7_give_55 : decode cX7_give 55 = .ok (.getfield 90, 3) := by decide +kernel
theorem dX7_give_58 : decode cX7_give 58 = .ok (.iload_n 3, 1) := by decide +kernel
theorem dX7_give_59 : decode cX7_give 59 = .ok (.invokestatic 97, 3) := by decide +kernel
theorem dX7_give_62 : decode cX7_give 62 = .ok (.ifCond .eq 6, 3) := by decide +kernel
theorem dX7_give_65 : decode cX7_give 65 = .ok (.bipush (-3), 2) := by decide +kernel
theorem dX7_give_67 : decode cX7_give 67 = .ok (.ireturn, 1) := by decide +kernel
theorem dX7_give_68 : decode cX7_give 68 = .ok (.aload 4, 2) := by decide +kernel
theorem dX7_give_70 : decode cX7_give 70 = .ok (.dup, 1) := by decide +kernel
theorem dX7_give_71 : decode cX7_give 71 = .ok (.getfield 90, 3) := by decide +kernel
theorem dX7_give_74 : decode cX7_give 74 = .ok (.iload_n 3, 1) := by decide +kernel
theorem dX7_give_75 : decode cX7_give 75 = .ok (.invokestatic 101, 3) := by decide +kernel
theorem dX7_give_78 : decode cX7_give 78 = .ok (.iconst (-1), 1) := by decide +kernel
theorem dX7_give_79 : decode cX7_give 79 = .ok (.ixor, 1) := by decide +kernel
theorem dX7_give_80 : decode cX7_give 80 = .ok (.iand, 1) := by decide +kernel
theorem dX7_give_81 : decode cX7_give 81 = .ok (.putfield 90, 3) := by decide +kernel
theorem dX7_give_84 : decode cX7_give 84 = .ok (.aload 5, 2) := by decide +kernel
theorem dX7_give_86 : decode cX7_give 86 = .ok (.dup, 1) := by decide +kernel
theorem dX7_give_87 : decode cX7_give 87 = .ok (.getfield 90, 3) := by decide +kernel
theorem dX7_give_90 : decode cX7_give 90 = .ok (.iload_n 3, 1) := by decide +kernel
theorem dX7_give_91 : decode cX7_give 91 = .ok (.invokestatic 101, 3) := by decide +kernel
theorem dX7_give_94 : decode cX7_give 94 = .ok (.ior, 1) := by decide +kernel
theorem dX7_give_95 : decode cX7_give 95 = .ok (.putfield 90, 3) := by decide +kernel
theorem dX7_give_98 : decode cX7_give 98 = .ok (.aload 4, 2) := by decide +kernel
theorem dX7_give_100 : decode cX7_give 100 = .ok (.getfield 90, 3) := by decide +kernel
theorem dX7_give_103 : decode cX7_give 103 = .ok (.invokestatic 104, 3) := by decide +kernel
theorem dX7_give_106 : decode cX7_give 106 = .ok (.ireturn, 1) := by decide +kernel
theorem dX7_told_0 : decode cX7_told 0 = .ok (.iload_n 2, 1) := by decide +kernel
theorem dX7_told_1 : decode cX7_told 1 = .ok (.ifCond .ne 11, 3) := by decide +kernel
theorem dX7_told_4 : decode cX7_told 4 = .ok (.aload_n 0, 1) := by decide +kernel
theorem dX7_told_5 : decode cX7_told 5 = .ok (.getfield 24, 3) := by decide +kernel
theorem dX7_told_8 : decode cX7_told 8 = .ok (.getfield 109, 3) := by decide +kernel
theorem dX7_told_11 : decode cX7_told 11 = .ok (.ireturn, 1) := by decide +kernel
theorem dX7_told_12 : decode cX7_told 12 = .ok (.aload_n 0, 1) := by decide +kernel
theorem dX7_told_13 : decode cX7_told 13 = .ok (.iload_n 1, 1) := by decide +kernel
theorem dX7_told_14 : decode cX7_told 14 = .ok (.invokevirtual 66, 3) := by decide +kernel
theorem dX7_told_17 : decode cX7_told 17 = .ok (.astore_n 3, 1) := by decide +kernel
theorem dX7_told_18 : decode cX7_told 18 = .ok (.aload_n 3, 1) := by decide +kernel
theorem dX7_told_19 : decode cX7_told 19 = .ok (.ifnonnull 6, 3) := by decide +kernel
theorem dX7_told_22 : decode cX7_told 22 = .ok (.bipush (-2), 2) := by decide +kernel
theorem dX7_told_24 : decode cX7_told 24 = .ok (.ireturn, 1) := by decide +kernel
theorem dX7_told_25 : decode cX7_told 25 = .ok (.iload_n 2, 1) := by decide +kernel
theorem dX7_told_26 : decode cX7_told 26 = .ok (.tableswitch 62 1 5 #[34, 39, 44, 49, 57], 34) := by decide +kernel
theorem dX7_told_60 : decode cX7_told 60 = .ok (.aload_n 3, 1) := by decide +kernel
theorem dX7_told_61 : decode cX7_told 61 = .ok (.getfield 87, 3) := by decide +kernel
theorem dX7_told_64 : decode cX7_told 64 = .ok (.ireturn, 1) := by decide +kernel
theorem dX7_told_65 : decode cX7_told 65 = .ok (.aload_n 3, 1) := by decide +kernel
theorem dX7_told_66 : decode cX7_told 66 = .ok (.getfield 90, 3) := by decide +kernel
theorem dX7_told_69 : decode cX7_told 69 = .ok (.ireturn, 1) := by decide +kernel
theorem dX7_told_70 : decode cX7_told 70 = .ok (.aload_n 3, 1) := by decide +kernel
theorem dX7_told_71 : decode cX7_told 71 = .ok (.getfield 84, 3) := by decide +kernel
theorem dX7_told_74 : decode cX7_told 74 = .ok (.ireturn, 1) := by decide +kernel
theorem dX7_told_75 : decode cX7_told 75 = .ok (.aload_n 3, 1) := by decide +kernel
theorem dX7_told_76 : decode cX7_told 76 = .ok (.getfield 90, 3) := by decide +kernel
theorem dX7_told_79 : decode cX7_told 79 = .ok (.invokestatic 104, 3) := by decide +kernel
theorem dX7_told_82 : decode cX7_told 82 = .ok (.ireturn, 1) := by decide +kernel
theorem dX7_told_83 : decode cX7_told 83 = .ok (.aload_n 3, 1) := by decide +kernel
theorem dX7_told_84 : decode cX7_told 84 = .ok (.invokevirtual 112, 3) := by decide +kernel
theorem dX7_told_87 : decode cX7_told 87 = .ok (.ireturn, 1) := by decide +kernel
theorem dX7_told_88 : decode cX7_told 88 = .ok (.bipush (-2), 2) := by decide +kernel
theorem dX7_told_90 : decode cX7_told 90 = .ok (.ireturn, 1) := by decide +kernel
theorem dX7_heirAt_0 : decode cX7_heirAt 0 = .ok (.iload_n 1, 1) := by decide +kernel
theorem dX7_heirAt_1 : decode cX7_heirAt 1 = .ok (.ifCond .lt 20, 3) := by decide +kernel
theorem dX7_heirAt_4 : decode cX7_heirAt 4 = .ok (.iload_n 1, 1) := by decide +kernel
theorem dX7_heirAt_5 : decode cX7_heirAt 5 = .ok (.aload_n 0, 1) := by decide +kernel
theorem dX7_heirAt_6 : decode cX7_heirAt 6 = .ok (.getfield 77, 3) := by decide +kernel
theorem dX7_heirAt_9 : decode cX7_heirAt 9 = .ok (.if_icmp .ge 12, 3) := by decide +kernel
theorem dX7_heirAt_12 : decode cX7_heirAt 12 = .ok (.iload_n 1, 1) := by decide +kernel
theorem dX7_heirAt_13 : decode cX7_heirAt 13 = .ok (.aload_n 0, 1) := by decide +kernel
theorem dX7_heirAt_14 : decode cX7_heirAt 14 = .ok (.getfield 11, 3) := by decide +kernel
theorem dX7_heirAt_17 : decode cX7_heirAt 17 = .ok (.arraylength, 1) := by decide +kernel
theorem dX7_heirAt_18 : decode cX7_heirAt 18 = .ok (.if_icmp .lt 7, 3) := by decide +kernel
theorem dX7_heirAt_21 : decode cX7_heirAt 21 = .ok (.aconst_null, 1) := by decide +kernel
theorem dX7_heirAt_22 : decode cX7_heirAt 22 = .ok (.goto 9, 3) := by decide +kernel
theorem dX7_heirAt_25 : decode cX7_heirAt 25 = .ok (.aload_n 0, 1) := by decide +kernel
theorem dX7_heirAt_26 : decode cX7_heirAt 26 = .ok (.getfield 11, 3) := by decide +kernel
theorem dX7_heirAt_29 : decode cX7_heirAt 29 = .ok (.iload_n 1, 1) := by decide +kernel
theorem dX7_heirAt_30 : decode cX7_heirAt 30 = .ok (.aaload, 1) := by decide +kernel
theorem dX7_heirAt_31 : decode cX7_heirAt 31 = .ok (.areturn, 1) := by decide +kernel
theorem dX7_setDay_0 : decode cX7_setDay 0 = .ok (.iload_n 1, 1) := by decide +kernel
theorem dX7_setDay_1 : decode cX7_setDay 1 = .ok (.ifCond .lt 9, 3) := by decide +kernel
theorem dX7_setDay_4 : decode cX7_setDay 4 = .ok (.iload_n 1, 1) := by decide +kernel
theorem dX7_setDay_5 : decode cX7_setDay 5 = .ok (.bipush 99, 2) := by decide +kernel
theorem dX7_setDay_7 : decode cX7_setDay 7 = .ok (.if_icmp .le 6, 3) := by decide +kernel
theorem dX7_setDay_10 : decode cX7_setDay 10 = .ok (.bipush (-2), 2) := by decide +kernel
theorem dX7_setDay_12 : decode cX7_setDay 12 = .ok (.ireturn, 1) := by decide +kernel
theorem dX7_setDay_13 : decode cX7_setDay 13 = .ok (.aload_n 0, 1) := by decide +kernel
theorem dX7_setDay_14 : decode cX7_setDay 14 = .ok (.getfield 24, 3) := by decide +kernel
theorem dX7_setDay_17 : decode cX7_setDay 17 = .ok (.getfield 109, 3) := by decide +kernel
theorem dX7_setDay_20 : decode cX7_setDay 20 = .ok (.istore_n 2, 1) := by decide +kernel
theorem dX7_setDay_21 : decode cX7_setDay 21 = .ok (.aload_n 0, 1) := by decide +kernel
theorem dX7_setDay_22 : decode cX7_setDay 22 = .ok (.getfield 24, 3) := by decide +kernel
theorem dX7_setDay_25 : decode cX7_setDay 25 = .ok (.iload_n 1, 1) := by decide +kernel
theorem dX7_setDay_26 : decode cX7_setDay 26 = .ok (.putfield 109, 3) := by decide +kernel
theorem dX7_setDay_29 : decode cX7_setDay 29 = .ok (.iload_n 2, 1) := by decide +kernel
theorem dX7_setDay_30 : decode cX7_setDay 30 = .ok (.ireturn, 1) := by decide +kernel
theorem dX7_setMore_0 : decode cX7_setMore 0 = .ok (.iload_n 1, 1) := by decide +kernel
theorem dX7_setMore_1 : decode cX7_setMore 1 = .ok (.ifCond .lt 9, 3) := by decide +kernel
theorem dX7_setMore_4 : decode cX7_setMore 4 = .ok (.iload_n 1, 1) := by decide +kernel
theorem dX7_setMore_5 : decode cX7_setMore 5 = .ok (.bipush 10, 2) := by decide +kernel
theorem dX7_setMore_7 : decode cX7_setMore 7 = .ok (.if_icmp .lt 6, 3) := by decide +kernel
theorem dX7_setMore_10 : decode cX7_setMore 10 = .ok (.bipush (-2), 2) := by decide +kernel
theorem dX7_setMore_12 : decode cX7_setMore 12 = .ok (.ireturn, 1) := by decide +kernel
theorem dX7_setMore_13 : decode cX7_setMore 13 = .ok (.aload_n 0, 1) := by decide +kernel
theorem dX7_setMore_14 : decode cX7_setMore 14 = .ok (.getfield 87, 3) := by decide +kernel
theorem dX7_setMore_17 : decode cX7_setMore 17 = .ok (.istore_n 2, 1) := by decide +kernel
theorem dX7_setMore_18 : decode cX7_setMore 18 = .ok (.aload_n 0, 1) := by decide +kernel
theorem dX7_setMore_19 : decode cX7_setMore 19 = .ok (.iload_n 1, 1) := by decide +kernel
theorem dX7_setMore_20 : decode cX7_setMore 20 = .ok (.putfield 87, 3) := by decide +kernel
theorem dX7_setMore_23 : decode cX7_setMore 23 = .ok (.iload_n 2, 1) := by decide +kernel
theorem dX7_setMore_24 : decode cX7_setMore 24 = .ok (.ireturn, 1) := by decide +kernel
theorem dX7_setOwn_0 : decode cX7_setOwn 0 = .ok (.iload_n 1, 1) := by decide +kernel
theorem dX7_setOwn_1 : decode cX7_setOwn 1 = .ok (.ifCond .lt 9, 3) := by decide +kernel
theorem dX7_setOwn_4 : decode cX7_setOwn 4 = .ok (.iload_n 1, 1) := by decide +kernel
theorem dX7_setOwn_5 : decode cX7_setOwn 5 = .ok (.ldc 116, 2) := by decide +kernel
theorem dX7_setOwn_7 : decode cX7_setOwn 7 = .ok (.if_icmp .le 6, 3) := by decide +kernel
theorem dX7_setOwn_10 : decode cX7_setOwn 10 = .ok (.bipush (-2), 2) := by decide +kernel
theorem dX7_setOwn_12 : decode cX7_setOwn 12 = .ok (.ireturn, 1) := by decide +kernel
theorem dX7_setOwn_13 : decode cX7_setOwn 13 = .ok (.aload_n 0, 1) := by decide +kernel
theorem dX7_setOwn_14 : decode cX7_setOwn 14 = .ok (.getfield 90, 3) := by decide +kernel
theorem dX7_setOwn_17 : decode cX7_setOwn 17 = .ok (.istore_n 2, 1) := by decide +kernel
theorem dX7_setOwn_18 : decode cX7_setOwn 18 = .ok (.aload_n 0, 1) := by decide +kernel
theorem dX7_setOwn_19 : decode cX7_setOwn 19 = .ok (.iload_n 1, 1) := by decide +kernel
theorem dX7_setOwn_20 : decode cX7_setOwn 20 = .ok (.putfield 90, 3) := by decide +kernel
theorem dX7_setOwn_23 : decode cX7_setOwn 23 = .ok (.iload_n 2, 1) := by decide +kernel
theorem dX7_setOwn_24 : decode cX7_setOwn 24 = .ok (.ireturn, 1) := by decide +kernel
theorem dX7_feed_0 : decode cX7_feed 0 = .ok (.iload_n 1, 1) := by decide +kernel
theorem dX7_feed_1 : decode cX7_feed 1 = .ok (.ifCond .lt 10, 3) := by decide +kernel
theorem dX7_feed_4 : decode cX7_feed 4 = .ok (.iload_n 1, 1) := by decide +kernel
theorem dX7_feed_5 : decode cX7_feed 5 = .ok (.sipush 255, 3) := by decide +kernel
theorem dX7_feed_8 : decode cX7_feed 8 = .ok (.if_icmp .le 6, 3) := by decide +kernel
theorem dX7_feed_11 : decode cX7_feed 11 = .ok (.bipush (-2), 2) := by decide +kernel
theorem dX7_feed_13 : decode cX7_feed 13 = .ok (.ireturn, 1) := by decide +kernel
theorem dX7_feed_14 : decode cX7_feed 14 = .ok (.aload_n 0, 1) := by decide +kernel
theorem dX7_feed_15 : decode cX7_feed 15 = .ok (.getfield 24, 3) := by decide +kernel
theorem dX7_feed_18 : decode cX7_feed 18 = .ok (.getfield 117, 3) := by decide +kernel
theorem dX7_feed_21 : decode cX7_feed 21 = .ok (.iload_n 1, 1) := by decide +kernel
theorem dX7_feed_22 : decode cX7_feed 22 = .ok (.invokevirtual 121, 3) := by decide +kernel
theorem dX7_feed_25 : decode cX7_feed 25 = .ok (.ifCond .eq 16, 3) := by decide +kernel
theorem dX7_feed_28 : decode cX7_feed 28 = .ok (.aload_n 0, 1) := by decide +kernel
theorem dX7_feed_29 : decode cX7_feed 29 = .ok (.getfield 24, 3) := by decide +kernel
theorem dX7_feed_32 : decode cX7_feed 32 = .ok (.getfield 117, 3) := by decide +kernel
theorem dX7_feed_35 : decode cX7_feed 35 = .ok (.getfield 126, 3) := by decide +kernel
theorem dX7_feed_38 : decode cX7_feed 38 = .ok (.goto 5, 3) := by decide +kernel
theorem dX7_feed_41 : decode cX7_feed 41 = .ok (.bipush (-4), 2) := by decide +kernel
theorem dX7_feed_43 : decode cX7_feed 43 = .ok (.ireturn, 1) := by decide +kernel
theorem dX7_text_0 : decode cX7_text 0 = .ok (.aload_n 0, 1) := by decide +kernel
theorem dX7_text_1 : decode cX7_text 1 = .ok (.getfield 24, 3) := by decide +kernel
theorem dX7_text_4 : decode cX7_text 4 = .ok (.getfield 127, 3) := by decide +kernel
theorem dX7_text_7 : decode cX7_text 7 = .ok (.bipush 6, 2) := by decide +kernel
theorem dX7_text_9 : decode cX7_text 9 = .ok (.if_icmp .lt 6, 3) := by decide +kernel
theorem dX7_text_12 : decode cX7_text 12 = .ok (.bipush (-4), 2) := by decide +kernel
theorem dX7_text_14 : decode cX7_text 14 = .ok (.ireturn, 1) := by decide +kernel
theorem dX7_text_15 : decode cX7_text 15 = .ok (.aload_n 0, 1) := by decide +kernel
theorem dX7_text_16 : decode cX7_text 16 = .ok (.getfield 24, 3) := by decide +kernel
theorem dX7_text_19 : decode cX7_text 19 = .ok (.invokevirtual 130, 3) := by decide +kernel
theorem dX7_text_22 : decode cX7_text 22 = .ok (.istore_n 1, 1) := by decide +kernel
theorem dX7_text_23 : decode cX7_text 23 = .ok (.iload_n 1, 1) := by decide +kernel
theorem dX7_text_24 : decode cX7_text 24 = .ok (.iconst (-1), 1) := by decide +kernel
theorem dX7_text_25 : decode cX7_text 25 = .ok (.if_icmp .ne 15, 3) := by decide +kernel
theorem dX7_text_28 : decode cX7_text 28 = .ok (.aload_n 0, 1) := by decide +kernel
theorem dX7_text_29 : decode cX7_text 29 = .ok (.getfield 24, 3) := by decide +kernel
theorem dX7_text_32 : decode cX7_text 32 = .ok (.getfield 127, 3) := by decide +kernel
theorem dX7_text_35 : decode cX7_text 35 = .ok (.iconst 1, 1) := by decide +kernel
theorem dX7_text_36 : decode cX7_text 36 = .ok (.isub, 1) := by decide +kernel
theorem dX7_text_37 : decode cX7_text 37 = .ok (.goto 7, 3) := by decide +kernel
theorem dX7_text_40 : decode cX7_text 40 = .ok (.bipush (-100), 2) := by decide +kernel
theorem dX7_text_42 : decode cX7_text 42 = .ok (.iload_n 1, 1) := by decide +kernel
theorem dX7_text_43 : decode cX7_text 43 = .ok (.isub, 1) := by decide +kernel
theorem dX7_text_44 : decode cX7_text 44 = .ok (.ireturn, 1) := by decide +kernel
theorem dX7_force_0 : decode cX7_force 0 = .ok (.iload_n 1, 1) := by decide +kernel
theorem dX7_force_1 : decode cX7_force 1 = .ok (.ifCond .lt 14, 3) := by decide +kernel
theorem dX7_force_4 : decode cX7_force 4 = .ok (.iload_n 1, 1) := by decide +kernel
theorem dX7_force_5 : decode cX7_force 5 = .ok (.aload_n 0, 1) := by decide +kernel
theorem dX7_force_6 : decode cX7_force 6 = .ok (.getfield 24, 3) := by decide +kernel
theorem dX7_force_9 : decode cX7_force 9 = .ok (.getfield 127, 3) := by decide +kernel
theorem dX7_force_12 : decode cX7_force 12 = .ok (.if_icmp .lt 6, 3) := by decide +kernel
theorem dX7_force_15 : decode cX7_force 15 = .ok (.bipush (-2), 2) := by decide +kernel
theorem dX7_force_17 : decode cX7_force 17 = .ok (.ireturn, 1) := by decide +kernel
theorem dX7_force_18 : decode cX7_force 18 = .ok (.aload_n 0, 1) := by decide +kernel
theorem dX7_force_19 : decode cX7_force 19 = .ok (.getfield 24, 3) := by decide +kernel
theorem dX7_force_22 : decode cX7_force 22 = .ok (.getfield 133, 3) := by decide +kernel
theorem dX7_force_25 : decode cX7_force 25 = .ok (.istore_n 2, 1) := by decide +kernel
theorem dX7_force_26 : decode cX7_force 26 = .ok (.aload_n 0, 1) := by decide +kernel
theorem dX7_force_27 : decode cX7_force 27 = .ok (.getfield 24, 3) := by decide +kernel
theorem dX7_force_30 : decode cX7_force 30 = .ok (.iload_n 1, 1) := by decide +kernel
theorem dX7_force_31 : decode cX7_force 31 = .ok (.putfield 133, 3) := by decide +kernel
theorem dX7_force_34 : decode cX7_force 34 = .ok (.iload_n 2, 1) := by decide +kernel
theorem dX7_force_35 : decode cX7_force 35 = .ok (.ireturn, 1) := by decide +kernel
theorem dX7_says_0 : decode cX7_says 0 = .ok (.aload_n 0, 1) := by decide +kernel
theorem dX7_says_1 : decode cX7_says 1 = .ok (.iload_n 1, 1) := by decide +kernel
theorem dX7_says_2 : decode cX7_says 2 = .ok (.invokevirtual 66, 3) := by decide +kernel
theorem dX7_says_5 : decode cX7_says 5 = .ok (.astore 4, 2) := by decide +kernel
theorem dX7_says_7 : decode cX7_says 7 = .ok (.aload 4, 2) := by decide +kernel
theorem dX7_says_9 : decode cX7_says 9 = .ok (.ifnull 12, 3) := by decide +kernel
theorem dX7_says_12 : decode cX7_says 12 = .ok (.iload_n 3, 1) := by decide +kernel
theorem dX7_says_13 : decode cX7_says 13 = .ok (.ifCond .lt 8, 3) := by decide +kernel
theorem dX7_says_16 : decode cX7_says 16 = .ok (.iload_n 3, 1) := by decide +kernel
theorem dX7_says_17 : decode cX7_says 17 = .ok (.iconst 3, 1) := by decide +kernel
theorem dX7_says_18 : decode cX7_says 18 = .ok (.if_icmp .le 6, 3) := by decide +kernel
theorem dX7_says_21 : decode cX7_says 21 = .ok (.bipush (-2), 2) := by decide +kernel
theorem dX7_says_23 : decode cX7_says 23 = .ok (.ireturn, 1) := by decide +kernel
theorem dX7_says_24 : decode cX7_says 24 = .ok (.iload_n 3, 1) := by decide +kernel
theorem dX7_says_25 : decode cX7_says 25 = .ok (.iconst 2, 1) := by decide +kernel
theorem dX7_says_26 : decode cX7_says 26 = .ok (.if_icmp .ge 13, 3) := by decide +kernel
theorem dX7_says_29 : decode cX7_says 29 = .ok (.iload_n 2, 1) := by decide +kernel
theorem dX7_says_30 : decode cX7_says 30 = .ok (.invokestatic 93, 3) := by decide +kernel
theorem dX7_says_33 : decode cX7_says 33 = .ok (.ifCond .ne 16, 3) := by decide +kernel
theorem dX7_says_36 : decode cX7_says 36 = .ok (.goto 10, 3) := by decide +kernel
theorem dX7_says_39 : decode cX7_says 39 = .ok (.iload_n 2, 1) := by decide +kernel
theorem dX7_says_40 : decode cX7_says 40 = .ok (.invokestatic 136, 3) := by decide +kernel
theorem dX7_says_43 : decode cX7_says 43 = .ok (.ifCond .ne 6, 3) := by decide +kernel
theorem dX7_says_46 : decode cX7_says 46 = .ok (.bipush (-2), 2) := by decide +kernel
theorem dX7_says_48 : decode cX7_says 48 = .ok (.ireturn, 1) := by decide +kernel
theorem dX7_says_49 : decode cX7_says 49 = .ok (.iload_n 3, 1) := by decide +kernel
theorem dX7_says_50 : decode cX7_says 50 = .ok (.tableswitch 64 0 2 #[26, 39, 50], 26) := by decide +kernel
theorem dX7_says_76 : decode cX7_says 76 = .ok (.aload 4, 2) := by decide +kernel
theorem dX7_says_78 : decode cX7_says 78 = .ok (.invokevirtual 112, 3) := by decide +kernel
theorem dX7_says_81 : decode cX7_says 81 = .ok (.iload_n 2, 1) := by decide +kernel
theorem dX7_says_82 : decode cX7_says 82 = .ok (.invokestatic 97, 3) := by decide +kernel
theorem dX7_says_85 : decode cX7_says 85 = .ok (.invokestatic 139, 3) := by decide +kernel
theorem dX7_says_88 : decode cX7_says 88 = .ok (.ireturn, 1) := by decide +kernel
theorem dX7_says_89 : decode cX7_says 89 = .ok (.aload_n 0, 1) := by decide +kernel
theorem dX7_says_90 : decode cX7_says 90 = .ok (.getfield 24, 3) := by decide +kernel
theorem dX7_says_93 : decode cX7_says 93 = .ok (.aload 4, 2) := by decide +kernel
theorem dX7_says_95 : decode cX7_says 95 = .ok (.iload_n 2, 1) := by decide +kernel
theorem dX7_says_96 : decode cX7_says 96 = .ok (.invokevirtual 143, 3) := by decide +kernel
theorem dX7_says_99 : decode cX7_says 99 = .ok (.ireturn, 1) := by decide +kernel
theorem dX7_says_100 : decode cX7_says 100 = .ok (.aload_n 0, 1) := by decide +kernel
theorem dX7_says_101 : decode cX7_says 101 = .ok (.getfield 24, 3) := by decide +kernel
theorem dX7_says_104 : decode cX7_says 104 = .ok (.aload 4, 2) := by decide +kernel
theorem dX7_says_106 : decode cX7_says 106 = .ok (.iload_n 2, 1) := by decide +kernel
theorem dX7_says_107 : decode cX7_says 107 = .ok (.invokevirtual 146, 3) := by decide +kernel
theorem dX7_says_110 : decode cX7_says 110 = .ok (.invokestatic 139, 3) := by decide +kernel
theorem dX7_says_113 : decode cX7_says 113 = .ok (.ireturn, 1) := by decide +kernel
theorem dX7_says_114 : decode cX7_says 114 = .ok (.aload_n 0, 1) := by decide +kernel
theorem dX7_says_115 : decode cX7_says 115 = .ok (.getfield 24, 3) := by decide +kernel
theorem dX7_says_118 : decode cX7_says 118 = .ok (.aload 4, 2) := by decide +kernel
theorem dX7_says_120 : decode cX7_says 120 = .ok (.iload_n 2, 1) := by decide +kernel
theorem dX7_says_121 : decode cX7_says 121 = .ok (.invokevirtual 150, 3) := by decide +kernel
theorem dX7_says_124 : decode cX7_says 124 = .ok (.ireturn, 1) := by decide +kernel
theorem dX7_common_0 : decode cX7_common 0 = .ok (.aload_n 0, 1) := by decide +kernel
theorem dX7_common_1 : decode cX7_common 1 = .ok (.iload_n 1, 1) := by decide +kernel
theorem dX7_common_2 : decode cX7_common 2 = .ok (.invokevirtual 66, 3) := by decide +kernel
theorem dX7_common_5 : decode cX7_common 5 = .ok (.astore_n 3, 1) := by decide +kernel
theorem dX7_common_6 : decode cX7_common 6 = .ok (.aload_n 0, 1) := by decide +kernel
theorem dX7_common_7 : decode cX7_common 7 = .ok (.iload_n 2, 1) := by decide +kernel
theorem dX7_common_8 : decode cX7_common 8 = .ok (.invokevirtual 66, 3) := by decide +kernel
theorem dX7_common_11 : decode cX7_common 11 = .ok (.astore 4, 2) := by decide +kernel
theorem dX7_common_13 : decode cX7_common 13 = .ok (.aload_n 3, 1) := by decide +kernel
theorem dX7_common_14 : decode cX7_common 14 = .ok (.ifnull 14, 3) := by decide +kernel
theorem dX7_common_17 : decode cX7_common 17 = .ok (.aload 4, 2) := by decide +kernel
theorem dX7_common_19 : decode cX7_common 19 = .ok (.ifnull 9, 3) := by decide +kernel
theorem dX7_common_22 : decode cX7_common 22 = .ok (.aload_n 3, 1) := by decide +kernel
theorem dX7_common_23 : decode cX7_common 23 = .ok (.aload 4, 2) := by decide +kernel
theorem dX7_common_25 : decode cX7_common 25 = .ok (.if_acmp .ne 6, 3) := by decide +kernel
theorem dX7_common_28 : decode cX7_common 28 = .ok (.bipush (-2), 2) := by decide +kernel
theorem dX7_common_30 : decode cX7_common 30 = .ok (.ireturn, 1) := by decide +kernel
theorem dX7_common_31 : decode cX7_common 31 = .ok (.aload_n 3, 1) := by decide +kernel
theorem dX7_common_32 : decode cX7_common 32 = .ok (.invokevirtual 112, 3) := by decide +kernel
theorem dX7_common_35 : decode cX7_common 35 = .ok (.aload 4, 2) := by decide +kernel
theorem dX7_common_37 : decode cX7_common 37 = .ok (.invokevirtual 112, 3) := by decide +kernel
theorem dX7_common_40 : decode cX7_common 40 = .ok (.iand, 1) := by decide +kernel
theorem dX7_common_41 : decode cX7_common 41 = .ok (.ireturn, 1) := by decide +kernel
theorem dX7_pays_0 : decode cX7_pays 0 = .ok (.aload_n 0, 1) := by decide +kernel
theorem dX7_pays_1 : decode cX7_pays 1 = .ok (.iload_n 1, 1) := by decide +kernel
theorem dX7_pays_2 : decode cX7_pays 2 = .ok (.invokevirtual 66, 3) := by decide +kernel
theorem dX7_pays_5 : decode cX7_pays 5 = .ok (.astore 5, 2) := by decide +kernel
theorem dX7_pays_7 : decode cX7_pays 7 = .ok (.aload_n 0, 1) := by decide +kernel
theorem dX7_pays_8 : decode cX7_pays 8 = .ok (.iload_n 2, 1) := by decide +kernel
theorem dX7_pays_9 : decode cX7_pays 9 = .ok (.invokevirtual 66, 3) := by decide +kernel
theorem dX7_pays_12 : decode cX7_pays 12 = .ok (.astore 6, 2) := by decide +kernel
theorem dX7_pays_14 : decode cX7_pays 14 = .ok (.aload 5, 2) := by decide +kernel
theorem dX7_pays_16 : decode cX7_pays 16 = .ok (.ifnull 33, 3) := by decide +kernel
theorem dX7_pays_19 : decode cX7_pays 19 = .ok (.aload 6, 2) := by decide +kernel
theorem dX7_pays_21 : decode cX7_pays 21 = .ok (.ifnull 28, 3) := by decide +kernel
theorem dX7_pays_24 : decode cX7_pays 24 = .ok (.aload 5, 2) := by decide +kernel
theorem dX7_pays_26 : decode cX7_pays 26 = .ok (.aload 6, 2) := by decide +kernel
theorem dX7_pays_28 : decode cX7_pays 28 = .ok (.if_acmp .eq 21, 3) := by decide +kernel
theorem dX7_pays_31 : decode cX7_pays 31 = .ok (.iload_n 3, 1) := by decide +kernel
theorem dX7_pays_32 : decode cX7_pays 32 = .ok (.invokestatic 136, 3) := by decide +kernel
theorem dX7_pays_35 : decode cX7_pays 35 = .ok (.ifCond .eq 14, 3) := by decide +kernel
theorem dX7_pays_38 : decode cX7_pays 38 = .ok (.iload 4, 2) := by decide +kernel
theorem dX7_pays_40 : decode cX7_pays 40 = .ok (.ifCond .lt 9, 3) := by decide +kernel
theorem dX7_pays_43 : decode cX7_pays 43 = .ok (.iload 4, 2) := by decide +kernel
theorem dX7_pays_45 : decode cX7_pays 45 = .ok (.iconst 3, 1) := by decide +kernel
theorem dX7_pays_46 : decode cX7_pays 46 = .ok (.if_icmp .le 6, 3) := by decide +kernel
theorem dX7_pays_49 : decode cX7_pays 49 = .ok (.bipush (-2), 2) := by decide +kernel
theorem dX7_pays_51 : decode cX7_pays 51 = .ok (.ireturn, 1) := by decide +kernel
theorem dX7_pays_52 : decode cX7_pays 52 = .ok (.iload 4, 2) := by decide +kernel
theorem dX7_pays_54 : decode cX7_pays 54 = .ok (.iconst 2, 1) := by decide +kernel
theorem dX7_pays_55 : decode cX7_pays 55 = .ok (.if_icmp .ge 35, 3) := by decide +kernel
theorem dX7_pays_58 : decode cX7_pays 58 = .ok (.aload_n 0, 1) := by decide +kernel
theorem dX7_pays_59 : decode cX7_pays 59 = .ok (.getfield 33, 3) := by decide +kernel
theorem dX7_pays_62 : decode cX7_pays 62 = .ok (.aload 5, 2) := by decide +kernel
theorem dX7_pays_64 : decode cX7_pays 64 = .ok (.aload 6, 2) := by decide +kernel
theorem dX7_pays_66 : decode cX7_pays 66 = .ok (.iload_n 3, 1) := by decide +kernel
theorem dX7_pays_67 : decode cX7_pays 67 = .ok (.iload 4, 2) := by decide +kernel
theorem dX7_pays_69 : decode cX7_pays 69 = .ok (.iconst 1, 1) := by decide +kernel
theorem dX7_pays_70 : decode cX7_pays 70 = .ok (.if_icmp .ne 7, 3) := by decide +kernel
theorem dX7_pays_73 : decode cX7_pays 73 = .ok (.iconst 1, 1) := by decide +kernel
theorem dX7_pays_74 : decode cX7_pays 74 = .ok (.goto 4, 3) := by decide +kernel
theorem dX7_pays_77 : decode cX7_pays 77 = .ok (.iconst 0, 1) := by decide +kernel
theorem dX7_pays_78 : decode cX7_pays 78 = .ok (.invokevirtual 153, 3) := by decide +kernel
theorem dX7_pays_81 : decode cX7_pays 81 = .ok (.aload_n 0, 1) := by decide +kernel
theorem dX7_pays_82 : decode cX7_pays 82 = .ok (.getfield 33, 3) := by decide +kernel
theorem dX7_pays_85 : decode cX7_pays 85 = .ok (.iload_n 3, 1) := by decide +kernel
theorem dX7_pays_86 : decode cX7_pays 86 = .ok (.invokevirtual 157, 3) := by decide +kernel
theorem dX7_pays_89 : decode cX7_pays 89 = .ok (.ireturn, 1) := by decide +kernel
theorem dX7_pays_90 : decode cX7_pays 90 = .ok (.aload_n 0, 1) := by decide +kernel
theorem dX7_pays_91 : decode cX7_pays 91 = .ok (.getfield 42, 3) := by decide +kernel
theorem dX7_pays_94 : decode cX7_pays 94 = .ok (.aload_n 0, 1) := by decide +kernel
theorem dX7_pays_95 : decode cX7_pays 95 = .ok (.getfield 11, 3) := by decide +kernel
theorem dX7_pays_98 : decode cX7_pays 98 = .ok (.aload_n 0, 1) := by decide +kernel
theorem dX7_pays_99 : decode cX7_pays 99 = .ok (.getfield 77, 3) := by decide +kernel
theorem dX7_pays_102 : decode cX7_pays 102 = .ok (.iload_n 3, 1) := by decide +kernel
theorem dX7_pays_103 : decode cX7_pays 103 = .ok (.invokevirtual 160, 3) := by decide +kernel
theorem dX7_pays_106 : decode cX7_pays 106 = .ok (.aload_n 0, 1) := by decide +kernel
theorem dX7_pays_107 : decode cX7_pays 107 = .ok (.getfield 42, 3) := by decide +kernel
theorem dX7_pays_110 : decode cX7_pays 110 = .ok (.iload_n 1, 1) := by decide +kernel
theorem dX7_pays_111 : decode cX7_pays 111 = .ok (.invokevirtual 164, 3) := by decide +kernel
theorem dX7_pays_114 : decode cX7_pays 114 = .ok (.iload 4, 2) := by decide +kernel
theorem dX7_pays_116 : decode cX7_pays 116 = .ok (.iconst 2, 1) := by decide +kernel
theorem dX7_pays_117 : decode cX7_pays 117 = .ok (.if_icmp .ne 14, 3) := by decide +kernel
theorem dX7_pays_120 : decode cX7_pays 120 = .ok (.aload_n 0, 1) := by decide +kernel
theorem dX7_pays_121 : decode cX7_pays 121 = .ok (.getfield 42, 3) := by decide +kernel
theorem dX7_pays_124 : decode cX7_pays 124 = .ok (.iload_n 2, 1) := by decide +kernel
theorem dX7_pays_125 : decode cX7_pays 125 = .ok (.invokevirtual 168, 3) := by decide +kernel
theorem dX7_pays_128 : decode cX7_pays 128 = .ok (.goto 11, 3) := by decide +kernel
theorem dX7_pays_131 : decode cX7_pays 131 = .ok (.aload_n 0, 1) := by decide +kernel
theorem dX7_pays_132 : decode cX7_pays 132 = .ok (.getfield 42, 3) := by decide +kernel
theorem dX7_pays_135 : decode cX7_pays 135 = .ok (.iload_n 2, 1) := by decide +kernel
theorem dX7_pays_136 : decode cX7_pays 136 = .ok (.invokevirtual 171, 3) := by decide +kernel
theorem dX7_pays_139 : decode cX7_pays 139 = .ok (.ireturn, 1) := by decide +kernel
theorem dX7_barred_0 : decode cX7_barred 0 = .ok (.aload_n 0, 1) := by decide +kernel
theorem dX7_barred_1 : decode cX7_barred 1 = .ok (.iload_n 1, 1) := by decide +kernel
theorem dX7_barred_2 : decode cX7_barred 2 = .ok (.invokevirtual 66, 3) := by decide +kernel
theorem dX7_barred_5 : decode cX7_barred 5 = .ok (.astore 4, 2) := by decide +kernel
theorem dX7_barred_7 : decode cX7_barred 7 = .ok (.aload_n 0, 1) := by decide +kernel
theorem dX7_barred_8 : decode cX7_barred 8 = .ok (.iload_n 2, 1) := by decide +kernel
theorem dX7_barred_9 : decode cX7_barred 9 = .ok (.invokevirtual 66, 3) := by decide +kernel
theorem dX7_barred_12 : decode cX7_barred 12 = .ok (.astore 5, 2) := by decide +kernel
theorem dX7_barred_14 : decode cX7_barred 14 = .ok (.aload 4, 2) := by decide +kernel
theorem dX7_barred_16 : decode cX7_barred 16 = .ok (.ifnull 24, 3) := by decide +kernel
theorem dX7_barred_19 : decode cX7_barred 19 = .ok (.aload 5, 2) := by decide +kernel
theorem dX7_barred_21 : decode cX7_barred 21 = .ok (.ifnull 19, 3) := by decide +kernel
theorem dX7_barred_24 : decode cX7_barred 24 = .ok (.aload 4, 2) := by decide +kernel
theorem dX7_barred_26 : decode cX7_barred 26 = .ok (.aload 5, 2) := by decide +kernel
theorem dX7_barred_28 : decode cX7_barred 28 = .ok (.if_acmp .eq 12, 3) := by decide +kernel
theorem dX7_barred_31 : decode cX7_barred 31 = .ok (.iload_n 3, 1) := by decide +kernel
theorem dX7_barred_32 : decode cX7_barred 32 = .ok (.ifCond .lt 8, 3) := by decide +kernel
theorem dX7_barred_35 : decode cX7_barred 35 = .ok (.iload_n 3, 1) := by decide +kernel
theorem dX7_barred_36 : decode cX7_barred 36 = .ok (.iconst 2, 1) := by decide +kernel
theorem dX7_barred_37 : decode cX7_barred 37 = .ok (.if_icmp .le 6, 3) := by decide +kernel
theorem dX7_barred_40 : decode cX7_barred 40 = .ok (.bipush (-2), 2) := by decide +kernel
theorem dX7_barred_42 : decode cX7_barred 42 = .ok (.ireturn, 1) := by decide +kernel
theorem dX7_barred_43 : decode cX7_barred 43 = .ok (.aload_n 0, 1) := by decide +kernel
theorem dX7_barred_44 : decode cX7_barred 44 = .ok (.getfield 33, 3) := by decide +kernel
theorem dX7_barred_47 : decode cX7_barred 47 = .ok (.aload 4, 2) := by decide +kernel
theorem dX7_barred_49 : decode cX7_barred 49 = .ok (.aload 5, 2) := by decide +kernel
theorem dX7_barred_51 : decode cX7_barred 51 = .ok (.iload_n 3, 1) := by decide +kernel
theorem dX7_barred_52 : decode cX7_barred 52 = .ok (.invokevirtual 174, 3) := by decide +kernel
theorem dX7_barred_55 : decode cX7_barred 55 = .ok (.ireturn, 1) := by decide +kernel
theorem dX7_silent_0 : decode cX7_silent 0 = .ok (.iload_n 1, 1) := by decide +kernel
theorem dX7_silent_1 : decode cX7_silent 1 = .ok (.ifCond .lt 8, 3) := by decide +kernel
theorem dX7_silent_4 : decode cX7_silent 4 = .ok (.iload_n 1, 1) := by decide +kernel
theorem dX7_silent_5 : decode cX7_silent 5 = .ok (.iconst 1, 1) := by decide +kernel
theorem dX7_silent_6 : decode cX7_silent 6 = .ok (.if_icmp .le 6, 3) := by decide +kernel
theorem dX7_silent_9 : decode cX7_silent 9 = .ok (.bipush (-2), 2) := by decide +kernel
theorem dX7_silent_11 : decode cX7_silent 11 = .ok (.ireturn, 1) := by decide +kernel
theorem dX7_silent_12 : decode cX7_silent 12 = .ok (.aload_n 0, 1) := by decide +kernel
theorem dX7_silent_13 : decode cX7_silent 13 = .ok (.getfield 33, 3) := by decide +kernel
theorem dX7_silent_16 : decode cX7_silent 16 = .ok (.invokevirtual 178, 3) := by decide +kernel
theorem dX7_silent_19 : decode cX7_silent 19 = .ok (.iconst 0, 1) := by decide +kernel
theorem dX7_silent_20 : decode cX7_silent 20 = .ok (.istore_n 2, 1) := by decide +kernel
theorem dX7_silent_21 : decode cX7_silent 21 = .ok (.iload_n 2, 1) := by decide +kernel
theorem dX7_silent_22 : decode cX7_silent 22 = .ok (.aload_n 0, 1) := by decide +kernel
theorem dX7_silent_23 : decode cX7_silent 23 = .ok (.getfield 77, 3) := by decide +kernel
theorem dX7_silent_26 : decode cX7_silent 26 = .ok (.if_icmp .ge 44, 3) := by decide +kernel
theorem dX7_silent_29 : decode cX7_silent 29 = .ok (.iload_n 2, 1) := by decide +kernel
theorem dX7_silent_30 : decode cX7_silent 30 = .ok (.iconst 1, 1) := by decide +kernel
theorem dX7_silent_31 : decode cX7_silent 31 = .ok (.iadd, 1) := by decide +kernel
theorem dX7_silent_32 : decode cX7_silent 32 = .ok (.istore_n 3, 1) := by decide +kernel
theorem dX7_silent_33 : decode cX7_silent 33 = .ok (.iload_n 3, 1) := by decide +kernel
theorem dX7_silent_34 : decode cX7_silent 34 = .ok (.aload_n 0, 1) := by decide +kernel
theorem dX7_silent_35 : decode cX7_silent 35 = .ok (.getfield 77, 3) := by decide +kernel
theorem dX7_silent_38 : decode cX7_silent 38 = .ok (.if_icmp .ge 26, 3) := by decide +kernel
theorem dX7_silent_41 : decode cX7_silent 41 = .ok (.aload_n 0, 1) := by decide +kernel
theorem dX7_silent_42 : decode cX7_silent 42 = .ok (.getfield 33, 3) := by decide +kernel
theorem dX7_silent_45 : decode cX7_silent 45 = .ok (.aload_n 0, 1) := by decide +kernel
theorem dX7_silent_46 : decode cX7_silent 46 = .ok (.iload_n 2, 1) := by decide +kernel
theorem dX7_silent_47 : decode cX7_silent 47 = .ok (.invokevirtual 66, 3) := by decide +kernel
theorem dX7_silent_50 : decode cX7_silent 50 = .ok (.aload_n 0, 1) := by decide +kernel
theorem dX7_silent_51 : decode cX7_silent 51 = .ok (.iload_n 3, 1) := by decide +kernel
theorem dX7_silent_52 : decode cX7_silent 52 = .ok (.invokevirtual 66, 3) := by decide +kernel
theorem dX7_silent_55 : decode cX7_silent 55 = .ok (.invokevirtual 181, 3) := by decide +kernel
theorem dX7_silent_58 : decode cX7_silent 58 = .ok (.iinc 3 1, 3) := by decide +kernel
theorem dX7_silent_61 : decode cX7_silent 61 = .ok (.goto (-28), 3) := by decide +kernel
theorem dX7_silent_64 : decode cX7_silent 64 = .ok (.iinc 2 1, 3) := by decide +kernel
theorem dX7_silent_67 : decode cX7_silent 67 = .ok (.goto (-46), 3) := by decide +kernel
theorem dX7_silent_70 : decode cX7_silent 70 = .ok (.iload_n 1, 1) := by decide +kernel
theorem dX7_silent_71 : decode cX7_silent 71 = .ok (.ifCond .ne 13, 3) := by decide +kernel
theorem dX7_silent_74 : decode cX7_silent 74 = .ok (.aload_n 0, 1) := by decide +kernel
theorem dX7_silent_75 : decode cX7_silent 75 = .ok (.getfield 33, 3) := by decide +kernel
theorem dX7_silent_78 : decode cX7_silent 78 = .ok (.invokevirtual 185, 3) := by decide +kernel
theorem dX7_silent_81 : decode cX7_silent 81 = .ok (.goto 10, 3) := by decide +kernel
theorem dX7_silent_84 : decode cX7_silent 84 = .ok (.aload_n 0, 1) := by decide +kernel
theorem dX7_silent_85 : decode cX7_silent 85 = .ok (.getfield 33, 3) := by decide +kernel
theorem dX7_silent_88 : decode cX7_silent 88 = .ok (.invokevirtual 188, 3) := by decide +kernel
theorem dX7_silent_91 : decode cX7_silent 91 = .ok (.ireturn, 1) := by decide +kernel
theorem dX7_middle_0 : decode cX7_middle 0 = .ok (.iload_n 1, 1) := by decide +kernel
theorem dX7_middle_1 : decode cX7_middle 1 = .ok (.iconst 1, 1) := by decide +kernel
theorem dX7_middle_2 : decode cX7_middle 2 = .ok (.if_icmp .lt 18, 3) := by decide +kernel
theorem dX7_middle_5 : decode cX7_middle 5 = .ok (.iload_n 1, 1) := by decide +kernel
theorem dX7_middle_6 : decode cX7_middle 6 = .ok (.bipush 99, 2) := by decide +kernel
theorem dX7_middle_8 : decode cX7_middle 8 = .ok (.if_icmp .gt 12, 3) := by decide +kernel
theorem dX7_middle_11 : decode cX7_middle 11 = .ok (.iload_n 2, 1) := by decide +kernel
theorem dX7_middle_12 : decode cX7_middle 12 = .ok (.ifCond .lt 8, 3) := by decide +kernel
theorem dX7_middle_15 : decode cX7_middle 15 = .ok (.iload_n 2, 1) := by decide +kernel
theorem dX7_middle_16 : decode cX7_middle 16 = .ok (.iconst 1, 1) := by decide +kernel
theorem dX7_middle_17 : decode cX7_middle 17 = .ok (.if_icmp .le 6, 3) := by decide +kernel
theorem dX7_middle_20 : decode cX7_middle 20 = .ok (.bipush (-2), 2) := by decide +kernel
theorem dX7_middle_22 : decode cX7_middle 22 = .ok (.ireturn, 1) := by decide +kernel
theorem dX7_middle_23 : decode cX7_middle 23 = .ok (.aload_n 0, 1) := by decide +kernel
theorem dX7_middle_24 : decode cX7_middle 24 = .ok (.getfield 42, 3) := by decide +kernel
theorem dX7_middle_27 : decode cX7_middle 27 = .ok (.aload_n 0, 1) := by decide +kernel
theorem dX7_middle_28 : decode cX7_middle 28 = .ok (.getfield 11, 3) := by decide +kernel
theorem dX7_middle_31 : decode cX7_middle 31 = .ok (.aload_n 0, 1) := by decide +kernel
theorem dX7_middle_32 : decode cX7_middle 32 = .ok (.getfield 77, 3) := by decide +kernel
theorem dX7_middle_35 : decode cX7_middle 35 = .ok (.iload_n 1, 1) := by decide +kernel
theorem dX7_middle_36 : decode cX7_middle 36 = .ok (.invokevirtual 160, 3) := by decide +kernel
theorem dX7_middle_39 : decode cX7_middle 39 = .ok (.iconst (-1), 1) := by decide +kernel
theorem dX7_middle_40 : decode cX7_middle 40 = .ok (.istore_n 3, 1) := by decide +kernel
theorem dX7_middle_41 : decode cX7_middle 41 = .ok (.iconst 0, 1) := by decide +kernel
theorem dX7_middle_42 : decode cX7_middle 42 = .ok (.istore 4, 2) := by decide +kernel
theorem dX7_middle_44 : decode cX7_middle 44 = .ok (.iconst 0, 1) := by decide +kernel
theorem dX7_middle_45 : decode cX7_middle 45 = .ok (.istore 5, 2) := by decide +kernel
theorem dX7_middle_47 : decode cX7_middle 47 = .ok (.iload 5, 2) := by decide +kernel
theorem dX7_middle_49 : decode cX7_middle 49 = .ok (.aload_n 0, 1) := by decide +kernel
theorem dX7_middle_50 : decode cX7_middle 50 = .ok (.getfield 77, 3) := by decide +kernel
theorem dX7_middle_53 : decode cX7_middle 53 = .ok (.if_icmp .ge 34, 3) := by decide +kernel
theorem dX7_middle_56 : decode cX7_middle 56 = .ok (.aload_n 0, 1) := by decide +kernel
theorem dX7_middle_57 : decode cX7_middle 57 = .ok (.getfield 42, 3) := by decide +kernel
theorem dX7_middle_60 : decode cX7_middle 60 = .ok (.iload 5, 2) := by decide +kernel
theorem dX7_middle_62 : decode cX7_middle 62 = .ok (.invokevirtual 191, 3) := by decide +kernel
theorem dX7_middle_65 : decode cX7_middle 65 = .ok (.istore 6, 2) := by decide +kernel
theorem dX7_middle_67 : decode cX7_middle 67 = .ok (.iload 6, 2) := by decide +kernel
theorem dX7_middle_69 : decode cX7_middle 69 = .ok (.iload 4, 2) := by decide +kernel
theorem dX7_middle_71 : decode cX7_middle 71 = .ok (.if_icmp .le 10, 3) := by decide +kernel
theorem dX7_middle_74 : decode cX7_middle 74 = .ok (.iload 6, 2) := by decide +kernel
theorem dX7_middle_76 : decode cX7_middle 76 = .ok (.istore 4, 2) := by decide +kernel
theorem dX7_middle_78 : decode cX7_middle 78 = .ok (.iload 5, 2) := by decide +kernel
theorem dX7_middle_80 : decode cX7_middle 80 = .ok (.istore_n 3, 1) := by decide +kernel
theorem dX7_middle_81 : decode cX7_middle 81 = .ok (.iinc 5 1, 3) := by decide +kernel
theorem dX7_middle_84 : decode cX7_middle 84 = .ok (.goto (-37), 3) := by decide +kernel
theorem dX7_middle_87 : decode cX7_middle 87 = .ok (.iload_n 2, 1) := by decide +kernel
theorem dX7_middle_88 : decode cX7_middle 88 = .ok (.ifCond .ne 7, 3) := by decide +kernel
theorem dX7_middle_91 : decode cX7_middle 91 = .ok (.iload_n 3, 1) := by decide +kernel
theorem dX7_middle_92 : decode cX7_middle 92 = .ok (.goto 5, 3) := by decide +kernel
theorem dX7_middle_95 : decode cX7_middle 95 = .ok (.iload 4, 2) := by decide +kernel
theorem dX7_middle_97 : decode cX7_middle 97 = .ok (.ireturn, 1) := by decide +kernel
theorem dX7_leave_0 : decode cX7_leave 0 = .ok (.aload_n 0, 1) := by decide +kernel
theorem dX7_leave_1 : decode cX7_leave 1 = .ok (.iload_n 1, 1) := by decide +kernel
theorem dX7_leave_2 : decode cX7_leave 2 = .ok (.invokevirtual 66, 3) := by decide +kernel
theorem dX7_leave_5 : decode cX7_leave 5 = .ok (.astore_n 3, 1) := by decide +kernel
theorem dX7_leave_6 : decode cX7_leave 6 = .ok (.aload_n 3, 1) := by decide +kernel
theorem dX7_leave_7 : decode cX7_leave 7 = .ok (.ifnull 12, 3) := by decide +kernel
theorem dX7_leave_10 : decode cX7_leave 10 = .ok (.iload_n 2, 1) := by decide +kernel
theorem dX7_leave_11 : decode cX7_leave 11 = .ok (.ifCond .lt 8, 3) := by decide +kernel
theorem dX7_leave_14 : decode cX7_leave 14 = .ok (.iload_n 2, 1) := by decide +kernel
theorem dX7_leave_15 : decode cX7_leave 15 = .ok (.iconst 1, 1) := by decide +kernel
theorem dX7_leave_16 : decode cX7_leave 16 = .ok (.if_icmp .le 6, 3) := by decide +kernel
theorem dX7_leave_19 : decode cX7_leave 19 = .ok (.bipush (-2), 2) := by decide +kernel
theorem dX7_leave_21 : decode cX7_leave 21 = .ok (.ireturn, 1) := by decide +kernel
theorem dX7_leave_22 : decode cX7_leave 22 = .ok (.iconst (-1), 1) := by decide +kernel
theorem dX7_leave_23 : decode cX7_leave 23 = .ok (.istore 4, 2) := by decide +kernel
theorem dX7_leave_25 : decode cX7_leave 25 = .ok (.iconst (-1), 1) := by decide +kernel
theorem dX7_leave_26 : decode cX7_leave 26 = .ok (.istore 5, 2) := by decide +kernel
theorem dX7_leave_28 : decode cX7_leave 28 = .ok (.iconst 0, 1) := by decide +kernel
theorem dX7_leave_29 : decode cX7_leave 29 = .ok (.istore 6, 2) := by decide +kernel
theorem dX7_leave_31 : decode cX7_leave 31 = .ok (.iload 6, 2) := by decide +kernel
theorem dX7_leave_33 : decode cX7_leave 33 = .ok (.aload_n 0, 1) := by decide +kernel
theorem dX7_leave_34 : decode cX7_leave 34 = .ok (.getfield 77, 3) := by decide +kernel
theorem dX7_leave_37 : decode cX7_leave 37 = .ok (.if_icmp .ge 49, 3) := by decide +kernel
theorem dX7_leave_40 : decode cX7_leave 40 = .ok (.iload 6, 2) := by decide +kernel
theorem dX7_leave_42 : decode cX7_leave 42 = .ok (.iload_n 1, 1) := by decide +kernel
theorem dX7_leave_43 : decode cX7_leave 43 = .ok (.if_icmp .eq 37, 3) := by decide +kernel
theorem dX7_leave_46 : decode cX7_leave 46 = .ok (.aload_n 0, 1) := by decide +kernel
theorem dX7_leave_47 : decode cX7_leave 47 = .ok (.aload_n 3, 1) := by decide +kernel
theorem dX7_leave_48 : decode cX7_leave 48 = .ok (.aload_n 0, 1) := by decide +kernel
theorem dX7_leave_49 : decode cX7_leave 49 = .ok (.iload 6, 2) := by decide +kernel
theorem dX7_leave_51 : decode cX7_leave 51 = .ok (.invokevirtual 66, 3) := by decide +kernel
theorem dX7_leave_54 : decode cX7_leave 54 = .ok (.invokevirtual 194, 3) := by decide +kernel
theorem dX7_leave_57 : decode cX7_leave 57 = .ok (.istore 7, 2) := by decide +kernel
theorem dX7_leave_59 : decode cX7_leave 59 = .ok (.iload 4, 2) := by decide +kernel
theorem dX7_leave_61 : decode cX7_leave 61 = .ok (.iconst (-1), 1) := by decide +kernel
theorem dX7_leave_62 : decode cX7_leave 62 = .ok (.if_icmp .eq 10, 3) := by decide +kernel
theorem dX7_leave_65 : decode cX7_leave 65 = .ok (.iload 7, 2) := by decide +kernel
theorem dX7_leave_67 : decode cX7_leave 67 = .ok (.iload 5, 2) := by decide +kernel
theorem dX7_leave_69 : decode cX7_leave 69 = .ok (.if_icmp .ge 11, 3) := by decide +kernel
theorem dX7_leave_72 : decode cX7_leave 72 = .ok (.iload 7, 2) := by decide +kernel
theorem dX7_leave_74 : decode cX7_leave 74 = .ok (.istore 5, 2) := by decide +kernel
theorem dX7_leave_76 : decode cX7_leave 76 = .ok (.iload 6, 2) := by decide +kernel
theorem dX7_leave_78 : decode cX7_leave 78 = .ok (.istore 4, 2) := by decide +kernel
theorem dX7_leave_80 : decode cX7_leave 80 = .ok (.iinc 6 1, 3) := by decide +kernel
theorem dX7_leave_83 : decode cX7_leave 83 = .ok (.goto (-52), 3) := by decide +kernel
theorem dX7_leave_86 : decode cX7_leave 86 = .ok (.iload_n 2, 1) := by decide +kernel
theorem dX7_leave_87 : decode cX7_leave 87 = .ok (.ifCond .ne 8, 3) := by decide +kernel
theorem dX7_leave_90 : decode cX7_leave 90 = .ok (.iload 4, 2) := by decide +kernel
theorem dX7_leave_92 : decode cX7_leave 92 = .ok (.goto 5, 3) := by decide +kernel
theorem dX7_leave_95 : decode cX7_leave 95 = .ok (.iload 5, 2) := by decide +kernel
theorem dX7_leave_97 : decode cX7_leave 97 = .ok (.ireturn, 1) := by decide +kernel
theorem dX7_buy_0 : decode cX7_buy 0 = .ok (.aload_n 0, 1) := by decide +kernel
theorem dX7_buy_1 : decode cX7_buy 1 = .ok (.iload_n 1, 1) := by decide +kernel
theorem dX7_buy_2 : decode cX7_buy 2 = .ok (.invokevirtual 66, 3) := by decide +kernel
theorem dX7_buy_5 : decode cX7_buy 5 = .ok (.astore 4, 2) := by decide +kernel
theorem dX7_buy_7 : decode cX7_buy 7 = .ok (.aload_n 0, 1) := by decide +kernel
theorem dX7_buy_8 : decode cX7_buy 8 = .ok (.iload_n 2, 1) := by decide +kernel
theorem dX7_buy_9 : decode cX7_buy 9 = .ok (.invokevirtual 66, 3) := by decide +kernel
theorem dX7_buy_12 : decode cX7_buy 12 = .ok (.astore 5, 2) := by decide +kernel
theorem dX7_buy_14 : decode cX7_buy 14 = .ok (.aload 4, 2) := by decide +kernel
theorem dX7_buy_16 : decode cX7_buy 16 = .ok (.ifnull 24, 3) := by decide +kernel
theorem dX7_buy_19 : decode cX7_buy 19 = .ok (.aload 5, 2) := by decide +kernel
theorem dX7_buy_21 : decode cX7_buy 21 = .ok (.ifnull 19, 3) := by decide +kernel
theorem dX7_buy_24 : decode cX7_buy 24 = .ok (.aload 4, 2) := by decide +kernel
theorem dX7_buy_26 : decode cX7_buy 26 = .ok (.aload 5, 2) := by decide +kernel
theorem dX7_buy_28 : decode cX7_buy 28 = .ok (.if_acmp .eq 12, 3) := by decide +kernel
theorem dX7_buy_31 : decode cX7_buy 31 = .ok (.iload_n 3, 1) := by decide +kernel
theorem dX7_buy_32 : decode cX7_buy 32 = .ok (.ifCond .lt 8, 3) := by decide +kernel
theorem dX7_buy_35 : decode cX7_buy 35 = .ok (.iload_n 3, 1) := by decide +kernel
theorem dX7_buy_36 : decode cX7_buy 36 = .ok (.iconst 1, 1) := by decide +kernel
theorem dX7_buy_37 : decode cX7_buy 37 = .ok (.if_icmp .le 6, 3) := by decide +kernel
theorem dX7_buy_40 : decode cX7_buy 40 = .ok (.bipush (-2), 2) := by decide +kernel
theorem dX7_buy_42 : decode cX7_buy 42 = .ok (.ireturn, 1) := by decide +kernel
theorem dX7_buy_43 : decode cX7_buy 43 = .ok (.iconst (-1), 1) := by decide +kernel
theorem dX7_buy_44 : decode cX7_buy 44 = .ok (.istore 6, 2) := by decide +kernel
theorem dX7_buy_46 : decode cX7_buy 46 = .ok (.iconst (-1), 1) := by decide +kernel
theorem dX7_buy_47 : decode cX7_buy 47 = .ok (.istore 7, 2) := by decide +kernel
theorem dX7_buy_49 : decode cX7_buy 49 = .ok (.aload_n 0, 1) := by decide +kernel
theorem dX7_buy_50 : decode cX7_buy 50 = .ok (.getfield 54, 3) := by decide +kernel
theorem dX7_buy_53 : decode cX7_buy 53 = .ok (.aload 4, 2) := by decide +kernel
theorem dX7_buy_55 : decode cX7_buy 55 = .ok (.invokevirtual 198, 3) := by decide +kernel
theorem dX7_buy_58 : decode cX7_buy 58 = .ok (.iconst 1, 1) := by decide +kernel
theorem dX7_buy_59 : decode cX7_buy 59 = .ok (.istore 8, 2) := by decide +kernel
theorem dX7_buy_61 : decode cX7_buy 61 = .ok (.iload 8, 2) := by decide +kernel
theorem dX7_buy_63 : decode cX7_buy 63 = .ok (.bipush 30, 2) := by decide +kernel
theorem dX7_buy_65 : decode cX7_buy 65 = .ok (.if_icmp .gt 64, 3) := by decide +kernel
theorem dX7_buy_68 : decode cX7_buy 68 = .ok (.aload_n 0, 1) := by decide +kernel
theorem dX7_buy_69 : decode cX7_buy 69 = .ok (.getfield 54, 3) := by decide +kernel
theorem dX7_buy_72 : decode cX7_buy 72 = .ok (.aload 4, 2) := by decide +kernel
theorem dX7_buy_74 : decode cX7_buy 74 = .ok (.getfield 90, 3) := by decide +kernel
theorem dX7_buy_77 : decode cX7_buy 77 = .ok (.iload 8, 2) := by decide +kernel
theorem dX7_buy_79 : decode cX7_buy 79 = .ok (.invokestatic 101, 3) := by decide +kernel
theorem dX7_buy_82 : decode cX7_buy 82 = .ok (.ior, 1) := by decide +kernel
theorem dX7_buy_83 : decode cX7_buy 83 = .ok (.putfield 90, 3) := by decide +kernel
theorem dX7_buy_86 : decode cX7_buy 86 = .ok (.aload_n 0, 1) := by decide +kernel
theorem dX7_buy_87 : decode cX7_buy 87 = .ok (.getfield 33, 3) := by decide +kernel
theorem dX7_buy_90 : decode cX7_buy 90 = .ok (.aload_n 0, 1) := by decide +kernel
theorem dX7_buy_91 : decode cX7_buy 91 = .ok (.getfield 54, 3) := by decide +kernel
theorem dX7_buy_94 : decode cX7_buy 94 = .ok (.aload 5, 2) := by decide +kernel
theorem dX7_buy_96 : decode cX7_buy 96 = .ok (.iconst 0, 1) := by decide +kernel
theorem dX7_buy_97 : decode cX7_buy 97 = .ok (.invokevirtual 174, 3) := by decide +kernel
theorem dX7_buy_100 : decode cX7_buy 100 = .ok (.istore 9, 2) := by decide +kernel
theorem dX7_buy_102 : decode cX7_buy 102 = .ok (.iload 6, 2) := by decide +kernel
theorem dX7_buy_104 : decode cX7_buy 104 = .ok (.iconst (-1), 1) := by decide +kernel
theorem dX7_buy_105 : decode cX7_buy 105 = .ok (.if_icmp .eq 10, 3) := by decide +kernel
theorem dX7_buy_108 : decode cX7_buy 108 = .ok (.iload 9, 2) := by decide +kernel
theorem dX7_buy_110 : decode cX7_buy 110 = .ok (.iload 7, 2) := by decide +kernel
theorem dX7_buy_112 : decode cX7_buy 112 = .ok (.if_icmp .ge 11, 3) := by decide +kernel
theorem dX7_buy_115 : decode cX7_buy 115 = .ok (.iload 9, 2) := by decide +kernel
theorem dX7_buy_117 : decode cX7_buy 117 = .ok (.istore 7, 2) := by decide +kernel
theorem dX7_buy_119 : decode cX7_buy 119 = .ok (.iload 8, 2) := by decide +kernel
theorem dX7_buy_121 : decode cX7_buy 121 = .ok (.istore 6, 2) := by decide +kernel
theorem dX7_buy_123 : decode cX7_buy 123 = .ok (.iinc 8 1, 3) := by decide +kernel
theorem dX7_buy_126 : decode cX7_buy 126 = .ok (.goto (-65), 3) := by decide +kernel
theorem dX7_buy_129 : decode cX7_buy 129 = .ok (.iload_n 3, 1) := by decide +kernel
theorem dX7_buy_130 : decode cX7_buy 130 = .ok (.ifCond .ne 8, 3) := by decide +kernel
theorem dX7_buy_133 : decode cX7_buy 133 = .ok (.iload 6, 2) := by decide +kernel
theorem dX7_buy_135 : decode cX7_buy 135 = .ok (.goto 5, 3) := by decide +kernel
theorem dX7_buy_138 : decode cX7_buy 138 = .ok (.iload 7, 2) := by decide +kernel
theorem dX7_buy_140 : decode cX7_buy 140 = .ok (.ireturn, 1) := by decide +kernel
theorem dX7_pawn_0 : decode cX7_pawn 0 = .ok (.aload_n 0, 1) := by decide +kernel
theorem dX7_pawn_1 : decode cX7_pawn 1 = .ok (.iload_n 1, 1) := by decide +kernel
theorem dX7_pawn_2 : decode cX7_pawn 2 = .ok (.invokevirtual 66, 3) := by decide +kernel
theorem dX7_pawn_5 : decode cX7_pawn 5 = .ok (.astore 4, 2) := by decide +kernel
theorem dX7_pawn_7 : decode cX7_pawn 7 = .ok (.aload_n 0, 1) := by decide +kernel
theorem dX7_pawn_8 : decode cX7_pawn 8 = .ok (.iload_n 2, 1) := by decide +kernel
theorem dX7_pawn_9 : decode cX7_pawn 9 = .ok (.invokevirtual 66, 3) := by decide +kernel
theorem dX7_pawn_12 : decode cX7_pawn 12 = .ok (.astore 5, 2) := by decide +kernel
theorem dX7_pawn_14 : decode cX7_pawn 14 = .ok (.aload 4, 2) := by decide +kernel
theorem dX7_pawn_16 : decode cX7_pawn 16 = .ok (.ifnull 24, 3) := by decide +kernel
theorem dX7_pawn_19 : decode cX7_pawn 19 = .ok (.aload 5, 2) := by decide +kernel
theorem dX7_pawn_21 : decode cX7_pawn 21 = .ok (.ifnull 19, 3) := by decide +kernel
theorem dX7_pawn_24 : decode cX7_pawn 24 = .ok (.aload 4, 2) := by decide +kernel
theorem dX7_pawn_26 : decode cX7_pawn 26 = .ok (.aload 5, 2) := by decide +kernel
theorem dX7_pawn_28 : decode cX7_pawn 28 = .ok (.if_acmp .eq 12, 3) := by decide +kernel
theorem dX7_pawn_31 : decode cX7_pawn 31 = .ok (.iload_n 3, 1) := by decide +kernel
theorem dX7_pawn_32 : decode cX7_pawn 32 = .ok (.ifCond .lt 8, 3) := by decide +kernel
theorem dX7_pawn_35 : decode cX7_pawn 35 = .ok (.iload_n 3, 1) := by decide +kernel
theorem dX7_pawn_36 : decode cX7_pawn 36 = .ok (.iconst 1, 1) := by decide +kernel
theorem dX7_pawn_37 : decode cX7_pawn 37 = .ok (.if_icmp .le 6, 3) := by decide +kernel
theorem dX7_pawn_40 : decode cX7_pawn 40 = .ok (.bipush (-2), 2) := by decide +kernel
theorem dX7_pawn_42 : decode cX7_pawn 42 = .ok (.ireturn, 1) := by decide +kernel
theorem dX7_pawn_43 : decode cX7_pawn 43 = .ok (.iconst (-1), 1) := by decide +kernel
theorem dX7_pawn_44 : decode cX7_pawn 44 = .ok (.istore 6, 2) := by decide +kernel
theorem dX7_pawn_46 : decode cX7_pawn 46 = .ok (.iconst (-1), 1) := by decide +kernel
theorem dX7_pawn_47 : decode cX7_pawn 47 = .ok (.istore 7, 2) := by decide +kernel
theorem dX7_pawn_49 : decode cX7_pawn 49 = .ok (.aload_n 0, 1) := by decide +kernel
theorem dX7_pawn_50 : decode cX7_pawn 50 = .ok (.getfield 54, 3) := by decide +kernel
theorem dX7_pawn_53 : decode cX7_pawn 53 = .ok (.aload 4, 2) := by decide +kernel
theorem dX7_pawn_55 : decode cX7_pawn 55 = .ok (.invokevirtual 198, 3) := by decide +kernel
theorem dX7_pawn_58 : decode cX7_pawn 58 = .ok (.iconst 1, 1) := by decide +kernel
theorem dX7_pawn_59 : decode cX7_pawn 59 = .ok (.istore 8, 2) := by decide +kernel
theorem dX7_pawn_61 : decode cX7_pawn 61 = .ok (.iload 8, 2) := by decide +kernel
theorem dX7_pawn_63 : decode cX7_pawn 63 = .ok (.bipush 30, 2) := by decide +kernel
theorem dX7_pawn_65 : decode cX7_pawn 65 = .ok (.if_icmp .gt 81, 3) := by decide +kernel
theorem dX7_pawn_68 : decode cX7_pawn 68 = .ok (.aload 4, 2) := by decide +kernel
theorem dX7_pawn_70 : decode cX7_pawn 70 = .ok (.getfield 90, 3) := by decide +kernel
theorem dX7_pawn_73 : decode cX7_pawn 73 = .ok (.iload 8, 2) := by decide +kernel
theorem dX7_pawn_75 : decode cX7_pawn 75 = .ok (.invokestatic 97, 3) := by decide +kernel
theorem dX7_pawn_78 : decode cX7_pawn 78 = .ok (.ifCond .eq 62, 3) := by decide +kernel
theorem dX7_pawn_81 : decode cX7_pawn 81 = .ok (.aload_n 0, 1) := by decide +kernel
theorem dX7_pawn_82 : decode cX7_pawn 82 = .ok (.getfield 54, 3) := by decide +kernel
theorem dX7_pawn_85 : decode cX7_pawn 85 = .ok (.aload 4, 2) := by decide +kernel
theorem dX7_pawn_87 : decode cX7_pawn 87 = .ok (.getfield 90, 3) := by decide +kernel
theorem dX7_pawn_90 : decode cX7_pawn 90 = .ok (.iload 8, 2) := by decide +kernel
theorem dX7_pawn_92 : decode cX7_pawn 92 = .ok (.invokestatic 101, 3) := by decide +kernel
theorem dX7_pawn_95 : decode cX7_pawn 95 = .ok (.iconst (-1), 1) := by decide +kernel
theorem dX7_pawn_96 : decode cX7_pawn 96 = .ok (.ixor, 1) := by decide +kernel
theorem dX7_pawn_97 : decode cX7_pawn 97 = .ok (.iand, 1) := by decide +kernel
theorem dX7_pawn_98 : decode cX7_pawn 98 = .ok (.putfield 90, 3) := by decide +kernel
theorem dX7_pawn_101 : decode cX7_pawn 101 = .ok (.bipush 99, 2) := by decide +kernel
theorem dX7_pawn_103 : decode cX7_pawn 103 = .ok (.aload_n 0, 1) := by decide +kernel
theorem dX7_pawn_104 : decode cX7_pawn 104 = .ok (.getfield 33, 3) := by decide +kernel
theorem dX7_pawn_107 : decode cX7_pawn 107 = .ok (.aload_n 0, 1) := by decide +kernel
theorem dX7_pawn_108 : decode cX7_pawn 108 = .ok (.getfield 54, 3) := by decide +kernel
theorem dX7_pawn_111 : decode cX7_pawn 111 = .ok (.aload 5, 2) := by decide +kernel
theorem dX7_pawn_113 : decode cX7_pawn 113 = .ok (.invokevirtual 202, 3) := by decide +kernel
theorem dX7_pawn_116 : decode cX7_pawn 116 = .ok (.isub, 1) := by decide +kernel
theorem dX7_pawn_117 : decode cX7_pawn 117 = .ok (.istore 9, 2) := by decide +kernel
theorem dX7_pawn_119 : decode cX7_pawn 119 = .ok (.iload 6, 2) := by decide +kernel
theorem dX7_pawn_121 : decode cX7_pawn 121 = .ok (.iconst (-1), 1) := by decide +kernel
theorem dX7_pawn_122 : decode cX7_pawn 122 = .ok (.if_icmp .eq 10, 3) := by decide +kernel
theorem dX7_pawn_125 : decode cX7_pawn 125 = .ok (.iload 9, 2) := by decide +kernel
theorem dX7_pawn_127 : decode cX7_pawn 127 = .ok (.iload 7, 2) := by decide +kernel
theorem dX7_pawn_129 : decode cX7_pawn 129 = .ok (.if_icmp .ge 11, 3) := by decide +kernel
theorem dX7_pawn_132 : decode cX7_pawn 132 = .ok (.iload 9, 2) := by decide +kernel
theorem dX7_pawn_134 : decode cX7_pawn 134 = .ok (.istore 7, 2) := by decide +kernel
theorem dX7_pawn_136 : decode cX7_pawn 136 = .ok (.iload 8, 2) := by decide +kernel
theorem dX7_pawn_138 : decode cX7_pawn 138 = .ok (.istore 6, 2) := by decide +kernel
theorem dX7_pawn_140 : decode cX7_pawn 140 = .ok (.iinc 8 1, 3) := by decide +kernel
theorem dX7_pawn_143 : decode cX7_pawn 143 = .ok (.goto (-82), 3) := by decide +kernel
theorem dX7_pawn_146 : decode cX7_pawn 146 = .ok (.iload_n 3, 1) := by decide +kernel
theorem dX7_pawn_147 : decode cX7_pawn 147 = .ok (.ifCond .ne 8, 3) := by decide +kernel
theorem dX7_pawn_150 : decode cX7_pawn 150 = .ok (.iload 6, 2) := by decide +kernel
theorem dX7_pawn_152 : decode cX7_pawn 152 = .ok (.goto 5, 3) := by decide +kernel
theorem dX7_pawn_155 : decode cX7_pawn 155 = .ok (.iload 7, 2) := by decide +kernel
theorem dX7_pawn_157 : decode cX7_pawn 157 = .ok (.ireturn, 1) := by decide +kernel
theorem dX7_worthOfLeaving_0 : decode cX7_worthOfLeaving 0 = .ok (.aload_n 2, 1) := by decide +kernel
theorem dX7_worthOfLeaving_1 : decode cX7_worthOfLeaving 1 = .ok (.ifnonnull 5, 3) := by decide +kernel
theorem dX7_worthOfLeaving_4 : decode cX7_worthOfLeaving 4 = .ok (.iconst 0, 1) := by decide +kernel
theorem dX7_worthOfLeaving_5 : decode cX7_worthOfLeaving 5 = .ok (.ireturn, 1) := by decide +kernel
theorem dX7_worthOfLeaving_6 : decode cX7_worthOfLeaving 6 = .ok (.aload_n 0, 1) := by decide +kernel
theorem dX7_worthOfLeaving_7 : decode cX7_worthOfLeaving 7 = .ok (.getfield 54, 3) := by decide +kernel
theorem dX7_worthOfLeaving_10 : decode cX7_worthOfLeaving 10 = .ok (.aload_n 2, 1) := by decide +kernel
theorem dX7_worthOfLeaving_11 : decode cX7_worthOfLeaving 11 = .ok (.invokevirtual 198, 3) := by decide +kernel
theorem dX7_worthOfLeaving_14 : decode cX7_worthOfLeaving 14 = .ok (.aload_n 0, 1) := by decide +kernel
theorem dX7_worthOfLeaving_15 : decode cX7_worthOfLeaving 15 = .ok (.getfield 54, 3) := by decide +kernel
theorem dX7_worthOfLeaving_18 : decode cX7_worthOfLeaving 18 = .ok (.aload_n 2, 1) := by decide +kernel
theorem dX7_worthOfLeaving_19 : decode cX7_worthOfLeaving 19 = .ok (.getfield 90, 3) := by decide +kernel
theorem dX7_worthOfLeaving_22 : decode cX7_worthOfLeaving 22 = .ok (.aload_n 1, 1) := by decide +kernel
theorem dX7_worthOfLeaving_23 : decode cX7_worthOfLeaving 23 = .ok (.getfield 90, 3) := by decide +kernel
theorem dX7_worthOfLeaving_26 : decode cX7_worthOfLeaving 26 = .ok (.ior, 1) := by decide +kernel
theorem dX7_worthOfLeaving_27 : decode cX7_worthOfLeaving 27 = .ok (.putfield 90, 3) := by decide +kernel
theorem dX7_worthOfLeaving_30 : decode cX7_worthOfLeaving 30 = .ok (.iconst 0, 1) := by decide +kernel
theorem dX7_worthOfLeaving_31 : decode cX7_worthOfLeaving 31 = .ok (.istore_n 3, 1) := by decide +kernel
theorem dX7_worthOfLeaving_32 : decode cX7_worthOfLeaving 32 = .ok (.iconst 0, 1) := by decide +kernel
theorem dX7_worthOfLeaving_33 : decode cX7_worthOfLeaving 33 = .ok (.istore 4, 2) := by decide +kernel
theorem dX7_worthOfLeaving_35 : decode cX7_worthOfLeaving 35 = .ok (.iload 4, 2) := by decide +kernel
theorem dX7_worthOfLeaving_37 : decode cX7_worthOfLeaving 37 = .ok (.aload_n 0, 1) := by decide +kernel
theorem dX7_worthOfLeaving_38 : decode cX7_worthOfLeaving 38 = .ok (.getfield 77, 3) := by decide +kernel
theorem dX7_worthOfLeaving_41 : decode cX7_worthOfLeaving 41 = .ok (.if_icmp .ge 51, 3) := by decide +kernel
theorem dX7_worthOfLeaving_44 : decode cX7_worthOfLeaving 44 = .ok (.aload_n 0, 1) := by decide +kernel
theorem dX7_worthOfLeaving_45 : decode cX7_worthOfLeaving 45 = .ok (.iload 4, 2) := by decide +kernel
theorem dX7_worthOfLeaving_47 : decode cX7_worthOfLeaving 47 = .ok (.invokevirtual 66, 3) := by decide +kernel
theorem dX7_worthOfLeaving_50 : decode cX7_worthOfLeaving 50 = .ok (.astore 5, 2) := by decide +kernel
theorem dX7_worthOfLeaving_52 : decode cX7_worthOfLeaving 52 = .ok (.aload 5, 2) := by decide +kernel
theorem dX7_worthOfLeaving_54 : decode cX7_worthOfLeaving 54 = .ok (.ifnull 32, 3) := by decide +kernel
theorem dX7_worthOfLeaving_57 : decode cX7_worthOfLeaving 57 = .ok (.aload 5, 2) := by decide +kernel
theorem dX7_worthOfLeaving_59 : decode cX7_worthOfLeaving 59 = .ok (.aload_n 2, 1) := by decide +kernel
theorem dX7_worthOfLeaving_60 : decode cX7_worthOfLeaving 60 = .ok (.if_acmp .eq 26, 3) := by decide +kernel
theorem dX7_worthOfLeaving_63 : decode cX7_worthOfLeaving 63 = .ok (.aload 5, 2) := by decide +kernel
theorem dX7_worthOfLeaving_65 : decode cX7_worthOfLeaving 65 = .ok (.aload_n 1, 1) := by decide +kernel
theorem dX7_worthOfLeaving_66 : decode cX7_worthOfLeaving 66 = .ok (.if_acmp .eq 20, 3) := by decide +kernel
theorem dX7_worthOfLeaving_69 : decode cX7_worthOfLeaving 69 = .ok (.iload_n 3, 1) := by decide +kernel
theorem dX7_worthOfLeaving_70 : decode cX7_worthOfLeaving 70 = .ok (.aload_n 0, 1) := by decide +kernel
theorem dX7_worthOfLeaving_71 : decode cX7_worthOfLeaving 71 = .ok (.getfield 33, 3) := by decide +kernel
theorem dX7_worthOfLeaving_74 : decode cX7_worthOfLeaving 74 = .ok (.aload_n 0, 1) := by decide +kernel
theorem dX7_worthOfLeaving_75 : decode cX7_worthOfLeaving 75 = .ok (.getfield 54, 3) := by decide +kernel
theorem dX7_worthOfLeaving_78 : decode cX7_worthOfLeaving 78 = .ok (.aload 5, 2) := by decide +kernel
theorem dX7_worthOfLeaving_80 : decode cX7_worthOfLeaving 80 = .ok (.iconst 2, 1) := by decide +kernel
theorem dX7_worthOfLeaving_81 : decode cX7_worthOfLeaving 81 = .ok (.invokevirtual 174, 3) := by decide +kernel
theorem dX7_worthOfLeaving_84 : decode cX7_worthOfLeaving 84 = .ok (.iadd, 1) := by decide +kernel
theorem dX7_worthOfLeaving_85 : decode cX7_worthOfLeaving 85 = .ok (.istore_n 3, 1) := by decide +kernel
theorem dX7_worthOfLeaving_86 : decode cX7_worthOfLeaving 86 = .ok (.iinc 4 1, 3) := by decide +kernel
theorem dX7_worthOfLeaving_89 : decode cX7_worthOfLeaving 89 = .ok (.goto (-54), 3) := by decide +kernel
theorem dX7_worthOfLeaving_92 : decode cX7_worthOfLeaving 92 = .ok (.iload_n 3, 1) := by decide +kernel
theorem dX7_worthOfLeaving_93 : decode cX7_worthOfLeaving 93 = .ok (.ireturn, 1) := by decide +kernel
theorem dX7_rows_0 : decode cX7_rows 0 = .ok (.aload_n 0, 1) := by decide +kernel
theorem dX7_rows_1 : decode cX7_rows 1 = .ok (.iload_n 1, 1) := by decide +kernel
theorem dX7_rows_2 : decode cX7_rows 2 = .ok (.invokevirtual 205, 3) := by decide +kernel
theorem dX7_rows_5 : decode cX7_rows 5 = .ok (.astore 5, 2) := by decide +kernel
theorem dX7_rows_7 : decode cX7_rows 7 = .ok (.aload_n 0, 1) := by decide +kernel
theorem dX7_rows_8 : decode cX7_rows 8 = .ok (.iload_n 2, 1) := by decide +kernel
theorem dX7_rows_9 : decode cX7_rows 9 = .ok (.invokevirtual 66, 3) := by decide +kernel
theorem dX7_rows_12 : decode cX7_rows 12 = .ok (.astore 6, 2) := by decide +kernel
theorem dX7_rows_14 : decode cX7_rows 14 = .ok (.aload_n 0, 1) := by decide +kernel
theorem dX7_rows_15 : decode cX7_rows 15 = .ok (.iload_n 3, 1) := by decide +kernel
theorem dX7_rows_16 : decode cX7_rows 16 = .ok (.invokevirtual 66, 3) := by decide +kernel
theorem dX7_rows_19 : decode cX7_rows 19 = .ok (.astore 7, 2) := by decide +kernel
theorem dX7_rows_21 : decode cX7_rows 21 = .ok (.aload 5, 2) := by decide +kernel
theorem dX7_rows_23 : decode cX7_rows 23 = .ok (.ifnull 31, 3) := by decide +kernel
theorem dX7_rows_26 : decode cX7_rows 26 = .ok (.aload 6, 2) := by decide +kernel
theorem dX7_rows_28 : decode cX7_rows 28 = .ok (.ifnull 26, 3) := by decide +kernel
theorem dX7_rows_31 : decode cX7_rows 31 = .ok (.aload 7, 2) := by decide +kernel
theorem dX7_rows_33 : decode cX7_rows 33 = .ok (.ifnull 21, 3) := by decide +kernel
theorem dX7_rows_36 : decode cX7_rows 36 = .ok (.aload 6, 2) := by decide +kernel
theorem dX7_rows_38 : decode cX7_rows 38 = .ok (.aload 7, 2) := by decide +kernel
theorem dX7_rows_40 : decode cX7_rows 40 = .ok (.if_acmp .eq 14, 3) := by decide +kernel
theorem dX7_rows_43 : decode cX7_rows 43 = .ok (.iload 4, 2) := by decide +kernel
theorem dX7_rows_45 : decode cX7_rows 45 = .ok (.ifCond .lt 9, 3) := by decide +kernel
theorem dX7_rows_48 : decode cX7_rows 48 = .ok (.iload 4, 2) := by decide +kernel
theorem dX7_rows_50 : decode cX7_rows 50 = .ok (.iconst 5, 1) := by decide +kernel
theorem dX7_rows_51 : decode cX7_rows 51 = .ok (.if_icmp .le 6, 3) := by decide +kernel
theorem dX7_rows_54 : decode cX7_rows 54 = .ok (.bipush (-2), 2) := by decide +kernel
theorem dX7_rows_56 : decode cX7_rows 56 = .ok (.ireturn, 1) := by decide +kernel
theorem dX7_rows_57 : decode cX7_rows 57 = .ok (.aload 5, 2) := by decide +kernel
theorem dX7_rows_59 : decode cX7_rows 59 = .ok (.getfield 209, 3) := by decide +kernel
theorem dX7_rows_62 : decode cX7_rows 62 = .ok (.iconst (-1), 1) := by decide +kernel
theorem dX7_rows_63 : decode cX7_rows 63 = .ok (.if_icmp .ne 6, 3) := by decide +kernel
theorem dX7_rows_66 : decode cX7_rows 66 = .ok (.bipush (-11), 2) := by decide +kernel
theorem dX7_rows_68 : decode cX7_rows 68 = .ok (.ireturn, 1) := by decide +kernel
theorem dX7_rows_69 : decode cX7_rows 69 = .ok (.aload 5, 2) := by decide +kernel
theorem dX7_rows_71 : decode cX7_rows 71 = .ok (.invokevirtual 212, 3) := by decide +kernel
theorem dX7_rows_74 : decode cX7_rows 74 = .ok (.ifCond .ne 6, 3) := by decide +kernel
theorem dX7_rows_77 : decode cX7_rows 77 = .ok (.bipush (-2), 2) := by decide +kernel
theorem dX7_rows_79 : decode cX7_rows 79 = .ok (.ireturn, 1) := by decide +kernel
theorem dX7_rows_80 : decode cX7_rows 80 = .ok (.iload 4, 2) := by decide +kernel
theorem dX7_rows_82 : decode cX7_rows 82 = .ok (.tableswitch 92 0 4 #[34, 48, 59, 70, 81], 34) := by decide +kernel
theorem dX7_rows_116 : decode cX7_rows 116 = .ok (.aload_n 0, 1) := by decide +kernel
theorem dX7_rows_117 : decode cX7_rows 117 = .ok (.getfield 33, 3) := by decide +kernel
theorem dX7_rows_120 : decode cX7_rows 120 = .ok (.aload 5, 2) := by decide +kernel
theorem dX7_rows_122 : decode cX7_rows 122 = .ok (.aload 6, 2) := by decide +kernel
theorem dX7_rows_124 : decode cX7_rows 124 = .ok (.aload 7, 2) := by decide +kernel
theorem dX7_rows_126 : decode cX7_rows 126 = .ok (.invokevirtual 216, 3) := by decide +kernel
theorem dX7_rows_129 : decode cX7_rows 129 = .ok (.ireturn, 1) := by decide +kernel
theorem dX7_rows_130 : decode cX7_rows 130 = .ok (.aload_n 0, 1) := by decide +kernel
theorem dX7_rows_131 : decode cX7_rows 131 = .ok (.aload 5, 2) := by decide +kernel
theorem dX7_rows_133 : decode cX7_rows 133 = .ok (.aload 6, 2) := by decide +kernel
theorem dX7_rows_135 : decode cX7_rows 135 = .ok (.aload 7, 2) := by decide +kernel
theorem dX7_rows_137 : decode cX7_rows 137 = .ok (.invokevirtual 220, 3) := by decide +kernel
theorem dX7_rows_140 : decode cX7_rows 140 = .ok (.ireturn, 1) := by decide +kernel
theorem dX7_rows_141 : decode cX7_rows 141 = .ok (.aload_n 0, 1) := by decide +kernel
theorem dX7_rows_142 : decode cX7_rows 142 = .ok (.aload 5, 2) := by decide +kernel
theorem dX7_rows_144 : decode cX7_rows 144 = .ok (.aload 6, 2) := by decide +kernel
theorem dX7_rows_146 : decode cX7_rows 146 = .ok (.aload 7, 2) := by decide +kernel
theorem dX7_rows_148 : decode cX7_rows 148 = .ok (.invokevirtual 223, 3) := by decide +kernel
theorem dX7_rows_151 : decode cX7_rows 151 = .ok (.ireturn, 1) := by decide +kernel
theorem dX7_rows_152 : decode cX7_rows 152 = .ok (.aload_n 0, 1) := by decide +kernel
theorem dX7_rows_153 : decode cX7_rows 153 = .ok (.aload 5, 2) := by decide +kernel
theorem dX7_rows_155 : decode cX7_rows 155 = .ok (.aload 6, 2) := by decide +kernel
theorem dX7_rows_157 : decode cX7_rows 157 = .ok (.aload 7, 2) := by decide +kernel
theorem dX7_rows_159 : decode cX7_rows 159 = .ok (.invokevirtual 226, 3) := by decide +kernel
theorem dX7_rows_162 : decode cX7_rows 162 = .ok (.ireturn, 1) := by decide +kernel
theorem dX7_rows_163 : decode cX7_rows 163 = .ok (.aload_n 0, 1) := by decide +kernel
theorem dX7_rows_164 : decode cX7_rows 164 = .ok (.aload 5, 2) := by decide +kernel
theorem dX7_rows_166 : decode cX7_rows 166 = .ok (.aload 6, 2) := by decide +kernel
theorem dX7_rows_168 : decode cX7_rows 168 = .ok (.aload 7, 2) := by decide +kernel
theorem dX7_rows_170 : decode cX7_rows 170 = .ok (.invokevirtual 229, 3) := by decide +kernel
theorem dX7_rows_173 : decode cX7_rows 173 = .ok (.ireturn, 1) := by decide +kernel
theorem dX7_rows_174 : decode cX7_rows 174 = .ok (.aload_n 0, 1) := by decide +kernel
theorem dX7_rows_175 : decode cX7_rows 175 = .ok (.aload 5, 2) := by decide +kernel
theorem dX7_rows_177 : decode cX7_rows 177 = .ok (.aload 6, 2) := by decide +kernel
theorem dX7_rows_179 : decode cX7_rows 179 = .ok (.aload 7, 2) := by decide +kernel
theorem dX7_rows_181 : decode cX7_rows 181 = .ok (.invokevirtual 232, 3) := by decide +kernel
theorem dX7_rows_184 : decode cX7_rows 184 = .ok (.ireturn, 1) := by decide +kernel
theorem dX7_film_0 : decode cX7_film 0 = .ok (.aload_n 0, 1) := by decide +kernel
theorem dX7_film_1 : decode cX7_film 1 = .ok (.iload_n 1, 1) := by decide +kernel
theorem dX7_film_2 : decode cX7_film 2 = .ok (.invokevirtual 205, 3) := by decide +kernel
theorem dX7_film_5 : decode cX7_film 5 = .ok (.astore 5, 2) := by decide +kernel
theorem dX7_film_7 : decode cX7_film 7 = .ok (.aload_n 0, 1) := by decide +kernel
theorem dX7_film_8 : decode cX7_film 8 = .ok (.iload_n 2, 1) := by decide +kernel
theorem dX7_film_9 : decode cX7_film 9 = .ok (.bipush 10, 2) := by decide +kernel
theorem dX7_film_11 : decode cX7_film 11 = .ok (.idiv, 1) := by decide +kernel
theorem dX7_film_12 : decode cX7_film 12 = .ok (.invokevirtual 66, 3) := by decide +kernel
theorem dX7_film_15 : decode cX7_film 15 = .ok (.astore 6, 2) := by decide +kernel
theorem dX7_film_17 : decode cX7_film 17 = .ok (.aload_n 0, 1) := by decide +kernel
theorem dX7_film_18 : decode cX7_film 18 = .ok (.iload_n 2, 1) := by decide +kernel
theorem dX7_film_19 : decode cX7_film 19 = .ok (.bipush 10, 2) := by decide +kernel
theorem dX7_film_21 : decode cX7_film 21 = .ok (.irem, 1) := by decide +kernel
theorem dX7_film_22 : decode cX7_film 22 = .ok (.invokevirtual 66, 3) := by decide +kernel
theorem dX7_film_25 : decode cX7_film 25 = .ok (.astore 7, 2) := by decide +kernel
theorem dX7_film_27 : decode cX7_film 27 = .ok (.aload 5, 2) := by decide +kernel
theorem dX7_film_29 : decode cX7_film 29 = .ok (.ifnull 20, 3) := by decide +kernel
theorem dX7_film_32 : decode cX7_film 32 = .ok (.aload 6, 2) := by decide +kernel
theorem dX7_film_34 : decode cX7_film 34 = .ok (.ifnull 15, 3) := by decide +kernel
theorem dX7_film_37 : decode cX7_film 37 = .ok (.aload 7, 2) := by decide +kernel
theorem dX7_film_39 : decode cX7_film 39 = .ok (.ifnull 10, 3) := by decide +kernel
theorem dX7_film_42 : decode cX7_film 42 = .ok (.aload 6, 2) := by decide +kernel
theorem dX7_film_44 : decode cX7_film 44 = .ok (.aload 7, 2) := by decide +kernel
theorem dX7_film_46 : decode cX7_film 46 = .ok (.if_acmp .ne 6, 3) := by decide +kernel
theorem dX7_film_49 : decode cX7_film 49 = .ok (.bipush (-2), 2) := by decide +kernel
theorem dX7_film_51 : decode cX7_film 51 = .ok (.ireturn, 1) := by decide +kernel
theorem dX7_film_52 : decode cX7_film 52 = .ok (.iload_n 3, 1) := by decide +kernel
theorem dX7_film_53 : decode cX7_film 53 = .ok (.invokestatic 136, 3) := by decide +kernel
theorem dX7_film_56 : decode cX7_film 56 = .ok (.ifCond .eq 15, 3) := by decide +kernel
theorem dX7_film_59 : decode cX7_film 59 = .ok (.iload 4, 2) := by decide +kernel
theorem dX7_film_61 : decode cX7_film 61 = .ok (.ifCond .lt 10, 3) := by decide +kernel
theorem dX7_film_64 : decode cX7_film 64 = .ok (.iload 4, 2) := by decide +kernel
theorem dX7_film_66 : decode cX7_film 66 = .ok (.bipush 20, 2) := by decide +kernel
theorem dX7_film_68 : decode cX7_film 68 = .ok (.if_icmp .le 6, 3) := by decide +kernel
theorem dX7_film_71 : decode cX7_film 71 = .ok (.bipush (-2), 2) := by decide +kernel
theorem dX7_film_73 : decode cX7_film 73 = .ok (.ireturn, 1) := by decide +kernel
theorem dX7_film_74 : decode cX7_film 74 = .ok (.iload 4, 2) := by decide +kernel
theorem dX7_film_76 : decode cX7_film 76 = .ok (.bipush 100, 2) := by decide +kernel
theorem dX7_film_78 : decode cX7_film 78 = .ok (.iload_n 3, 1) := by decide +kernel
theorem dX7_film_79 : decode cX7_film 79 = .ok (.isub, 1) := by decide +kernel
theorem dX7_film_80 : decode cX7_film 80 = .ok (.invokestatic 235, 3) := by decide +kernel
theorem dX7_film_83 : decode cX7_film 83 = .ok (.istore 8, 2) := by decide +kernel
theorem dX7_film_85 : decode cX7_film 85 = .ok (.aload_n 0, 1) := by decide +kernel
theorem dX7_film_86 : decode cX7_film 86 = .ok (.getfield 33, 3) := by decide +kernel
theorem dX7_film_89 : decode cX7_film 89 = .ok (.aload 6, 2) := by decide +kernel
theorem dX7_film_91 : decode cX7_film 91 = .ok (.aload 7, 2) := by decide +kernel
theorem dX7_film_93 : decode cX7_film 93 = .ok (.bipush 99, 2) := by decide +kernel
theorem dX7_film_95 : decode cX7_film 95 = .ok (.iconst 0, 1) := by decide +kernel
theorem dX7_film_96 : decode cX7_film 96 = .ok (.invokevirtual 153, 3) := by decide +kernel
theorem dX7_film_99 : decode cX7_film 99 = .ok (.aload 5, 2) := by decide +kernel
theorem dX7_film_101 : decode cX7_film 101 = .ok (.iconst 1, 1) := by decide +kernel
theorem dX7_film_102 : decode cX7_film 102 = .ok (.iconst 2, 1) := by decide +kernel
theorem dX7_film_103 : decode cX7_film 103 = .ok (.iload 8, 2) := by decide +kernel
theorem dX7_film_105 : decode cX7_film 105 = .ok (.imul, 1) := by decide +kernel
theorem dX7_film_106 : decode cX7_film 106 = .ok (.invokevirtual 241, 3) := by decide +kernel
theorem dX7_film_109 : decode cX7_film 109 = .ok (.iconst 0, 1) := by decide +kernel
theorem dX7_film_110 : decode cX7_film 110 = .ok (.istore 9, 2) := by decide +kernel
theorem dX7_film_112 : decode cX7_film 112 = .ok (.iload 9, 2) := by decide +kernel
theorem dX7_film_114 : decode cX7_film 114 = .ok (.iload 8, 2) := by decide +kernel
theorem dX7_film_116 : decode cX7_film 116 = .ok (.if_icmp .ge 44, 3) := by decide +kernel
theorem dX7_film_119 : decode cX7_film 119 = .ok (.aload 5, 2) := by decide +kernel
theorem dX7_film_121 : decode cX7_film 121 = .ok (.iconst 2, 1) := by decide +kernel
theorem dX7_film_122 : decode cX7_film 122 = .ok (.iload 9, 2) := by decide +kernel
theorem dX7_film_124 : decode cX7_film 124 = .ok (.imul, 1) := by decide +kernel
theorem dX7_film_125 : decode cX7_film 125 = .ok (.iload_n 3, 1) := by decide +kernel
theorem dX7_film_126 : decode cX7_film 126 = .ok (.iload 9, 2) := by decide +kernel
theorem dX7_film_128 : decode cX7_film 128 = .ok (.iadd, 1) := by decide +kernel
theorem dX7_film_129 : decode cX7_film 129 = .ok (.invokevirtual 244, 3) := by decide +kernel
theorem dX7_film_132 : decode cX7_film 132 = .ok (.aload 5, 2) := by decide +kernel
theorem dX7_film_134 : decode cX7_film 134 = .ok (.iconst 2, 1) := by decide +kernel
theorem dX7_film_135 : decode cX7_film 135 = .ok (.iload 9, 2) := by decide +kernel
theorem dX7_film_137 : decode cX7_film 137 = .ok (.imul, 1) := by decide +kernel
theorem dX7_film_138 : decode cX7_film 138 = .ok (.iconst 1, 1) := by decide +kernel
theorem dX7_film_139 : decode cX7_film 139 = .ok (.iadd, 1) := by decide +kernel
theorem dX7_film_140 : decode cX7_film 140 = .ok (.aload_n 0, 1) := by decide +kernel
theorem dX7_film_141 : decode cX7_film 141 = .ok (.getfield 33, 3) := by decide +kernel
theorem dX7_film_144 : decode cX7_film 144 = .ok (.iload_n 3, 1) := by decide +kernel
theorem dX7_film_145 : decode cX7_film 145 = .ok (.iload 9, 2) := by decide +kernel
theorem dX7_film_147 : decode cX7_film 147 = .ok (.iadd, 1) := by decide +kernel
theorem dX7_film_148 : decode cX7_film 148 = .ok (.invokevirtual 157, 3) := by decide +kernel
theorem dX7_film_151 : decode cX7_film 151 = .ok (.invokevirtual 244, 3) := by decide +kernel
theorem dX7_film_154 : decode cX7_film 154 = .ok (.iinc 9 1, 3) := by decide +kernel
theorem dX7_film_157 : decode cX7_film 157 = .ok (.goto (-45), 3) := by decide +kernel
theorem dX7_film_160 : decode cX7_film 160 = .ok (.iload 8, 2) := by decide +kernel
theorem dX7_film_162 : decode cX7_film 162 = .ok (.ireturn, 1) := by decide +kernel
theorem dX7_drawn_0 : decode cX7_drawn 0 = .ok (.aload_n 0, 1) := by decide +kernel
theorem dX7_drawn_1 : decode cX7_drawn 1 = .ok (.iconst 0, 1) := by decide +kernel
theorem dX7_drawn_2 : decode cX7_drawn 2 = .ok (.invokevirtual 66, 3) := by decide +kernel
theorem dX7_drawn_5 : decode cX7_drawn 5 = .ok (.astore_n 2, 1) := by decide +kernel
theorem dX7_drawn_6 : decode cX7_drawn 6 = .ok (.aload_n 0, 1) := by decide +kernel
theorem dX7_drawn_7 : decode cX7_drawn 7 = .ok (.iconst 1, 1) := by decide +kernel
theorem dX7_drawn_8 : decode cX7_drawn 8 = .ok (.invokevirtual 66, 3) := by decide +kernel
theorem dX7_drawn_11 : decode cX7_drawn 11 = .ok (.astore_n 3, 1) := by decide +kernel
theorem dX7_drawn_12 : decode cX7_drawn 12 = .ok (.aload_n 2, 1) := by decide +kernel
theorem dX7_drawn_13 : decode cX7_drawn 13 = .ok (.ifnull 7, 3) := by decide +kernel
theorem dX7_drawn_16 : decode cX7_drawn 16 = .ok (.aload_n 3, 1) := by decide +kernel
theorem dX7_drawn_17 : decode cX7_drawn 17 = .ok (.ifnonnull 6, 3) := by decide +kernel
theorem dX7_drawn_20 : decode cX7_drawn 20 = .ok (.bipush (-3), 2) := by decide +kernel
theorem dX7_drawn_22 : decode cX7_drawn 22 = .ok (.ireturn, 1) := by decide +kernel
theorem dX7_drawn_23 : decode cX7_drawn 23 = .ok (.aload_n 0, 1) := by decide +kernel
theorem dX7_drawn_24 : decode cX7_drawn 24 = .ok (.iload_n 1, 1) := by decide +kernel
theorem dX7_drawn_25 : decode cX7_drawn 25 = .ok (.aload_n 2, 1) := by decide +kernel
theorem dX7_drawn_26 : decode cX7_drawn 26 = .ok (.aload_n 3, 1) := by decide +kernel
theorem dX7_drawn_27 : decode cX7_drawn 27 = .ok (.invokevirtual 246, 3) := by decide +kernel
theorem dX7_drawn_30 : decode cX7_drawn 30 = .ok (.ireturn, 1) := by decide +kernel
theorem dX7_chance_0 : decode cX7_chance 0 = .ok (.aload_n 0, 1) := by decide +kernel
theorem dX7_chance_1 : decode cX7_chance 1 = .ok (.iconst 0, 1) := by decide +kernel
theorem dX7_chance_2 : decode cX7_chance 2 = .ok (.invokevirtual 66, 3) := by decide +kernel
theorem dX7_chance_5 : decode cX7_chance 5 = .ok (.astore 4, 2) := by decide +kernel
theorem dX7_chance_7 : decode cX7_chance 7 = .ok (.aload_n 0, 1) := by decide +kernel
theorem dX7_chance_8 : decode cX7_chance 8 = .ok (.iconst 1, 1) := by decide +kernel
theorem dX7_chance_9 : decode cX7_chance 9 = .ok (.invokevirtual 66, 3) := by decide +kernel
theorem dX7_chance_12 : decode cX7_chance 12 = .ok (.astore 5, 2) := by decide +kernel
theorem dX7_chance_14 : decode cX7_chance 14 = .ok (.iload_n 2, 1) := by decide +kernel
theorem dX7_chance_15 : decode cX7_chance 15 = .ok (.iconst 1, 1) := by decide +kernel
theorem dX7_chance_16 : decode cX7_chance 16 = .ok (.if_icmp .lt 28, 3) := by decide +kernel
theorem dX7_chance_19 : decode cX7_chance 19 = .ok (.iload_n 2, 1) := by decide +kernel
theorem dX7_chance_20 : decode cX7_chance 20 = .ok (.bipush 20, 2) := by decide +kernel
theorem dX7_chance_22 : decode cX7_chance 22 = .ok (.if_icmp .gt 22, 3) := by decide +kernel
theorem dX7_chance_25 : decode cX7_chance 25 = .ok (.iload_n 3, 1) := by decide +kernel
theorem dX7_chance_26 : decode cX7_chance 26 = .ok (.ifCond .lt 18, 3) := by decide +kernel
theorem dX7_chance_29 : decode cX7_chance 29 = .ok (.iload_n 3, 1) := by decide +kernel
theorem dX7_chance_30 : decode cX7_chance 30 = .ok (.iconst 1, 1) := by decide +kernel
theorem dX7_chance_31 : decode cX7_chance 31 = .ok (.if_icmp .gt 13, 3) := by decide +kernel
theorem dX7_chance_34 : decode cX7_chance 34 = .ok (.aload 4, 2) := by decide +kernel
theorem dX7_chance_36 : decode cX7_chance 36 = .ok (.ifnull 8, 3) := by decide +kernel
theorem dX7_chance_39 : decode cX7_chance 39 = .ok (.aload 5, 2) := by decide +kernel
theorem dX7_chance_41 : decode cX7_chance 41 = .ok (.ifnonnull 7, 3) := by decide +kernel
theorem dX7_chance_44 : decode cX7_chance 44 = .ok (.ldc2_w 250, 3) := by decide +kernel
theorem dX7_chance_47 : decode cX7_chance 47 = .ok (.lreturn, 1) := by decide +kernel
theorem dX7_chance_48 : decode cX7_chance 48 = .ok (.aload_n 0, 1) := by decide +kernel
theorem dX7_chance_49 : decode cX7_chance 49 = .ok (.getfield 33, 3) := by decide +kernel
theorem dX7_chance_52 : decode cX7_chance 52 = .ok (.aload 4, 2) := by decide +kernel
theorem dX7_chance_54 : decode cX7_chance 54 = .ok (.aload 5, 2) := by decide +kernel
theorem dX7_chance_56 : decode cX7_chance 56 = .ok (.invokevirtual 202, 3) := by decide +kernel
theorem dX7_chance_59 : decode cX7_chance 59 = .ok (.istore 6, 2) := by decide +kernel
theorem dX7_chance_61 : decode cX7_chance 61 = .ok (.iconst 0, 1) := by decide +kernel
theorem dX7_chance_62 : decode cX7_chance 62 = .ok (.istore 7, 2) := by decide +kernel
theorem dX7_chance_64 : decode cX7_chance 64 = .ok (.iconst 0, 1) := by decide +kernel
theorem dX7_chance_65 : decode cX7_chance 65 = .ok (.istore 8, 2) := by decide +kernel
theorem dX7_chance_67 : decode cX7_chance 67 = .ok (.iload 8, 2) := by decide +kernel
theorem dX7_chance_69 : decode cX7_chance 69 = .ok (.iload_n 2, 1) := by decide +kernel
theorem dX7_chance_70 : decode cX7_chance 70 = .ok (.if_icmp .ge 29, 3) := by decide +kernel
theorem dX7_chance_73 : decode cX7_chance 73 = .ok (.aload_n 0, 1) := by decide +kernel
theorem dX7_chance_74 : decode cX7_chance 74 = .ok (.iload_n 1, 1) := by decide +kernel
theorem dX7_chance_75 : decode cX7_chance 75 = .ok (.iload 8, 2) := by decide +kernel
theorem dX7_chance_77 : decode cX7_chance 77 = .ok (.iadd, 1) := by decide +kernel
theorem dX7_chance_78 : decode cX7_chance 78 = .ok (.aload 4, 2) := by decide +kernel
theorem dX7_chance_80 : decode cX7_chance 80 = .ok (.aload 5, 2) := by decide +kernel
theorem dX7_chance_82 : decode cX7_chance 82 = .ok (.invokevirtual 246, 3) := by decide +kernel
theorem dX7_chance_85 : decode cX7_chance 85 = .ok (.iload 6, 2) := by decide +kernel
theorem dX7_chance_87 : decode cX7_chance 87 = .ok (.if_icmp .le 6, 3) := by decide +kernel
theorem dX7_chance_90 : decode cX7_chance 90 = .ok (.iinc 7 1, 3) := by decide +kernel
theorem dX7_chance_93 : decode cX7_chance 93 = .ok (.iinc 8 1, 3) := by decide +kernel
theorem dX7_chance_96 : decode cX7_chance 96 = .ok (.goto (-29), 3) := by decide +kernel
theorem dX7_chance_99 : decode cX7_chance 99 = .ok (.iload_n 2, 1) := by decide +kernel
theorem dX7_chance_100 : decode cX7_chance 100 = .ok (.iload 7, 2) := by decide +kernel
theorem dX7_chance_102 : decode cX7_chance 102 = .ok (.invokestatic 252, 3) := by decide +kernel
theorem dX7_chance_105 : decode cX7_chance 105 = .ok (.istore 8, 2) := by decide +kernel
theorem dX7_chance_107 : decode cX7_chance 107 = .ok (.iload 8, 2) := by decide +kernel
theorem dX7_chance_109 : decode cX7_chance 109 = .ok (.iconst 1, 1) := by decide +kernel
theorem dX7_chance_110 : decode cX7_chance 110 = .ok (.if_icmp .ge 9, 3) := by decide +kernel
theorem dX7_chance_113 : decode cX7_chance 113 = .ok (.ldc2_w 250, 3) := by decide +kernel
theorem dX7_chance_116 : decode cX7_chance 116 = .ok (.goto 17, 3) := by decide +kernel
theorem dX7_chance_119 : decode cX7_chance 119 = .ok (.iload_n 3, 1) := by decide +kernel
theorem dX7_chance_120 : decode cX7_chance 120 = .ok (.ifCond .ne 8, 3) := by decide +kernel
theorem dX7_chance_123 : decode cX7_chance 123 = .ok (.iload 7, 2) := by decide +kernel
theorem dX7_chance_125 : decode cX7_chance 125 = .ok (.goto 4, 3) := by decide +kernel
theorem dX7_chance_128 : decode cX7_chance 128 = .ok (.iload_n 2, 1) := by decide +kernel
theorem dX7_chance_129 : decode cX7_chance 129 = .ok (.iload 8, 2) := by decide +kernel
theorem dX7_chance_131 : decode cX7_chance 131 = .ok (.idiv, 1) := by decide +kernel
theorem dX7_chance_132 : decode cX7_chance 132 = .ok (.i2l, 1) := by decide +kernel
theorem dX7_chance_133 : decode cX7_chance 133 = .ok (.lreturn, 1) := by decide +kernel
theorem dX7_image_0 : decode cX7_image 0 = .ok (.aload_n 0, 1) := by decide +kernel
theorem dX7_image_1 : decode cX7_image 1 = .ok (.getfield 49, 3) := by decide +kernel
theorem dX7_image_4 : decode cX7_image 4 = .ok (.aload_n 0, 1) := by decide +kernel
theorem dX7_image_5 : decode cX7_image 5 = .ok (.getfield 24, 3) := by decide +kernel
theorem dX7_image_8 : decode cX7_image 8 = .ok (.getfield 109, 3) := by decide +kernel
theorem dX7_image_11 : decode cX7_image 11 = .ok (.putfield 255, 3) := by decide +kernel
theorem dX7_image_14 : decode cX7_image 14 = .ok (.aload_n 0, 1) := by decide +kernel
theorem dX7_image_15 : decode cX7_image 15 = .ok (.getfield 49, 3) := by decide +kernel
theorem dX7_image_18 : decode cX7_image 18 = .ok (.aload_n 0, 1) := by decide +kernel
theorem dX7_image_19 : decode cX7_image 19 = .ok (.getfield 24, 3) := by decide +kernel
theorem dX7_image_22 : decode cX7_image 22 = .ok (.getfield 133, 3) := by decide +kernel
theorem dX7_image_25 : decode cX7_image 25 = .ok (.putfield 256, 3) := by decide +kernel
theorem dX7_image_28 : decode cX7_image 28 = .ok (.aload_n 0, 1) := by decide +kernel
theorem dX7_image_29 : decode cX7_image 29 = .ok (.getfield 49, 3) := by decide +kernel
theorem dX7_image_32 : decode cX7_image 32 = .ok (.aload_n 0, 1) := by decide +kernel
theorem dX7_image_33 : decode cX7_image 33 = .ok (.getfield 77, 3) := by decide +kernel
theorem dX7_image_36 : decode cX7_image 36 = .ok (.putfield 257, 3) := by decide +kernel
theorem dX7_image_39 : decode cX7_image 39 = .ok (.iconst 0, 1) := by decide +kernel
theorem dX7_image_40 : decode cX7_image 40 = .ok (.istore_n 1, 1) := by decide +kernel
theorem dX7_image_41 : decode cX7_image 41 = .ok (.iload_n 1, 1) := by decide +kernel
theorem dX7_image_42 : decode cX7_image 42 = .ok (.aload_n 0, 1) := by decide +kernel
theorem dX7_image_43 : decode cX7_image 43 = .ok (.getfield 77, 3) := by decide +kernel
theorem dX7_image_46 : decode cX7_image 46 = .ok (.if_icmp .ge 51, 3) := by decide +kernel
theorem dX7_image_49 : decode cX7_image 49 = .ok (.iload_n 1, 1) := by decide +kernel
theorem dX7_image_50 : decode cX7_image 50 = .ok (.bipush 6, 2) := by decide +kernel
theorem dX7_image_52 : decode cX7_image 52 = .ok (.if_icmp .ge 45, 3) := by decide +kernel
theorem dX7_image_55 : decode cX7_image 55 = .ok (.aload_n 0, 1) := by decide +kernel
theorem dX7_image_56 : decode cX7_image 56 = .ok (.getfield 49, 3) := by decide +kernel
theorem dX7_image_59 : decode cX7_image 59 = .ok (.getfield 258, 3) := by decide +kernel
theorem dX7_image_62 : decode cX7_image 62 = .ok (.iload_n 1, 1) := by decide +kernel
theorem dX7_image_63 : decode cX7_image 63 = .ok (.aload_n 0, 1) := by decide +kernel
theorem dX7_image_64 : decode cX7_image 64 = .ok (.getfield 11, 3) := by decide +kernel
theorem dX7_image_67 : decode cX7_image 67 = .ok (.iload_n 1, 1) := by decide +kernel
theorem dX7_image_68 : decode cX7_image 68 = .ok (.aaload, 1) := by decide +kernel
theorem dX7_image_69 : decode cX7_image 69 = .ok (.getfield 87, 3) := by decide +kernel
theorem dX7_image_72 : decode cX7_image 72 = .ok (.iastore, 1) := by decide +kernel
theorem dX7_image_73 : decode cX7_image 73 = .ok (.aload_n 0, 1) := by decide +kernel
theorem dX7_image_74 : decode cX7_image 74 = .ok (.getfield 49, 3) := by decide +kernel
theorem dX7_image_77 : decode cX7_image 77 = .ok (.getfield 262, 3) := by decide +kernel
theorem dX7_image_80 : decode cX7_image 80 = .ok (.iload_n 1, 1) := by decide +kernel
theorem dX7_image_81 : decode cX7_image 81 = .ok (.aload_n 0, 1) := by decide +kernel
theorem dX7_image_82 : decode cX7_image 82 = .ok (.getfield 11, 3) := by decide +kernel
theorem dX7_image_85 : decode cX7_image 85 = .ok (.iload_n 1, 1) := by decide +kernel
theorem dX7_image_86 : decode cX7_image 86 = .ok (.aaload, 1) := by decide +kernel
theorem dX7_image_87 : decode cX7_image 87 = .ok (.getfield 90, 3) := by decide +kernel
theorem dX7_image_90 : decode cX7_image 90 = .ok (.iastore, 1) := by decide +kernel
theorem dX7_image_91 : decode cX7_image 91 = .ok (.iinc 1 1, 3) := by decide +kernel
theorem dX7_image_94 : decode cX7_image 94 = .ok (.goto (-53), 3) := by decide +kernel
theorem dX7_image_97 : decode cX7_image 97 = .ok (.aload_n 0, 1) := by decide +kernel
theorem dX7_image_98 : decode cX7_image 98 = .ok (.getfield 77, 3) := by decide +kernel
theorem dX7_image_101 : decode cX7_image 101 = .ok (.ireturn, 1) := by decide +kernel
theorem dX7_back_0 : decode cX7_back 0 = .ok (.aload_n 0, 1) := by decide +kernel
theorem dX7_back_1 : decode cX7_back 1 = .ok (.getfield 49, 3) := by decide +kernel
theorem dX7_back_4 : decode cX7_back 4 = .ok (.getfield 257, 3) := by decide +kernel
theorem dX7_back_7 : decode cX7_back 7 = .ok (.iconst (-1), 1) := by decide +kernel
theorem dX7_back_8 : decode cX7_back 8 = .ok (.if_icmp .ne 6, 3) := by decide +kernel
theorem dX7_back_11 : decode cX7_back 11 = .ok (.bipush (-3), 2) := by decide +kernel
theorem dX7_back_13 : decode cX7_back 13 = .ok (.ireturn, 1) := by decide +kernel
theorem dX7_back_14 : decode cX7_back 14 = .ok (.aload_n 0, 1) := by decide +kernel
theorem dX7_back_15 : decode cX7_back 15 = .ok (.getfield 24, 3) := by decide +kernel
theorem dX7_back_18 : decode cX7_back 18 = .ok (.aload_n 0, 1) := by decide +kernel
theorem dX7_back_19 : decode cX7_back 19 = .ok (.getfield 49, 3) := by decide +kernel
theorem dX7_back_22 : decode cX7_back 22 = .ok (.getfield 255, 3) := by decide +kernel
theorem dX7_back_25 : decode cX7_back 25 = .ok (.putfield 109, 3) := by decide +kernel
theorem dX7_back_28 : decode cX7_back 28 = .ok (.aload_n 0, 1) := by decide +kernel
theorem dX7_back_29 : decode cX7_back 29 = .ok (.getfield 24, 3) := by decide +kernel
theorem dX7_back_32 : decode cX7_back 32 = .ok (.aload_n 0, 1) := by decide +kernel
theorem dX7_back_33 : decode cX7_back 33 = .ok (.getfield 49, 3) := by decide +kernel
theorem dX7_back_36 : decode cX7_back 36 = .ok (.getfield 256, 3) := by decide +kernel
theorem dX7_back_39 : decode cX7_back 39 = .ok (.putfield 133, 3) := by decide +kernel
theorem dX7_back_42 : decode cX7_back 42 = .ok (.aload_n 0, 1) := by decide +kernel
theorem dX7_back_43 : decode cX7_back 43 = .ok (.aload_n 0, 1) := by decide +kernel
theorem dX7_back_44 : decode cX7_back 44 = .ok (.getfield 49, 3) := by decide +kernel
theorem dX7_back_47 : decode cX7_back 47 = .ok (.getfield 257, 3) := by decide +kernel
theorem dX7_back_50 : decode cX7_back 50 = .ok (.putfield 77, 3) := by decide +kernel
theorem dX7_back_53 : decode cX7_back 53 = .ok (.iconst 0, 1) := by decide +kernel
theorem dX7_back_54 : decode cX7_back 54 = .ok (.istore_n 1, 1) := by decide +kernel
theorem dX7_back_55 : decode cX7_back 55 = .ok (.iload_n 1, 1) := by decide +kernel
theorem dX7_back_56 : decode cX7_back 56 = .ok (.aload_n 0, 1) := by decide +kernel
theorem dX7_back_57 : decode cX7_back 57 = .ok (.getfield 77, 3) := by decide +kernel
theorem dX7_back_60 : decode cX7_back 60 = .ok (.if_icmp .ge 51, 3) := by decide +kernel
theorem dX7_back_63 : decode cX7_back 63 = .ok (.iload_n 1, 1) := by decide +kernel
theorem dX7_back_64 : decode cX7_back 64 = .ok (.bipush 6, 2) := by decide +kernel
theorem dX7_back_66 : decode cX7_back 66 = .ok (.if_icmp .ge 45, 3) := by decide +kernel
theorem dX7_back_69 : decode cX7_back 69 = .ok (.aload_n 0, 1) := by decide +kernel
theorem dX7_back_70 : decode cX7_back 70 = .ok (.getfield 11, 3) := by decide +kernel
theorem dX7_back_73 : decode cX7_back 73 = .ok (.iload_n 1, 1) := by decide +kernel
theorem dX7_back_74 : decode cX7_back 74 = .ok (.aaload, 1) := by decide +kernel
theorem dX7_back_75 : decode cX7_back 75 = .ok (.aload_n 0, 1) := by decide +kernel
theorem dX7_back_76 : decode cX7_back 76 = .ok (.getfield 49, 3) := by decide +kernel
theorem dX7_back_79 : decode cX7_back 79 = .ok (.getfield 258, 3) := by decide +kernel
theorem dX7_back_82 : decode cX7_back 82 = .ok (.iload_n 1, 1) := by decide +kernel
theorem dX7_back_83 : decode cX7_back 83 = .ok (.iaload, 1) := by decide +kernel
theorem dX7_back_84 : decode cX7_back 84 = .ok (.putfield 87, 3) := by decide +kernel
theorem dX7_back_87 : decode cX7_back 87 = .ok (.aload_n 0, 1) := by decide +kernel
theorem dX7_back_88 : decode cX7_back 88 = .ok (.getfield 11, 3) := by decide +kernel
theorem dX7_back_91 : decode cX7_back 91 = .ok (.iload_n 1, 1) := by decide +kernel
theorem dX7_back_92 : decode cX7_back 92 = .ok (.aaload, 1) := by decide +kernel
theorem dX7_back_93 : decode cX7_back 93 = .ok (.aload_n 0, 1) := by decide +kernel
theorem dX7_back_94 : decode cX7_back 94 = .ok (.getfield 49, 3) := by decide +kernel
theorem dX7_back_97 : decode cX7_back 97 = .ok (.getfield 262, 3) := by decide +kernel
theorem dX7_back_100 : decode cX7_back 100 = .ok (.iload_n 1, 1) := by decide +kernel
theorem dX7_back_101 : decode cX7_back 101 = .ok (.iaload, 1) := by decide +kernel
theorem dX7_back_102 : decode cX7_back 102 = .ok (.putfield 90, 3) := by decide +kernel
theorem dX7_back_105 : decode cX7_back 105 = .ok (.iinc 1 1, 3) := by decide +kernel
theorem dX7_back_108 : decode cX7_back 108 = .ok (.goto (-53), 3) := by decide +kernel
theorem dX7_back_111 : decode cX7_back 111 = .ok (.aload_n 0, 1) := by decide +kernel
theorem dX7_back_112 : decode cX7_back 112 = .ok (.getfield 77, 3) := by decide +kernel
theorem dX7_back_115 : decode cX7_back 115 = .ok (.ireturn, 1) := by decide +kernel
theorem dX7_count_0 : decode cX7_count 0 = .ok (.iload_n 1, 1) := by decide +kernel
theorem dX7_count_1 : decode cX7_count 1 = .ok (.tableswitch 72 0 4 #[35, 40, 48, 59, 67], 35) := by decide +kernel
theorem dX7_count_36 : decode cX7_count 36 = .ok (.aload_n 0, 1) := by decide +kernel
theorem dX7_count_37 : decode cX7_count 37 = .ok (.getfield 77, 3) := by decide +kernel
theorem dX7_count_40 : decode cX7_count 40 = .ok (.ireturn, 1) := by decide +kernel
theorem dX7_count_41 : decode cX7_count 41 = .ok (.aload_n 0, 1) := by decide +kernel
theorem dX7_count_42 : decode cX7_count 42 = .ok (.getfield 24, 3) := by decide +kernel
theorem dX7_count_45 : decode cX7_count 45 = .ok (.getfield 127, 3) := by decide +kernel
theorem dX7_count_48 : decode cX7_count 48 = .ok (.ireturn, 1) := by decide +kernel
theorem dX7_count_49 : decode cX7_count 49 = .ok (.aload_n 0, 1) := by decide +kernel
theorem dX7_count_50 : decode cX7_count 50 = .ok (.getfield 24, 3) := by decide +kernel
theorem dX7_count_53 : decode cX7_count 53 = .ok (.getfield 117, 3) := by decide +kernel
theorem dX7_count_56 : decode cX7_count 56 = .ok (.getfield 126, 3) := by decide +kernel
theorem dX7_count_59 : decode cX7_count 59 = .ok (.ireturn, 1) := by decide +kernel
theorem dX7_count_60 : decode cX7_count 60 = .ok (.aload_n 0, 1) := by decide +kernel
theorem dX7_count_61 : decode cX7_count 61 = .ok (.getfield 24, 3) := by decide +kernel
theorem dX7_count_64 : decode cX7_count 64 = .ok (.getfield 133, 3) := by decide +kernel
theorem dX7_count_67 : decode cX7_count 67 = .ok (.ireturn, 1) := by decide +kernel
theorem dX7_count_68 : decode cX7_count 68 = .ok (.aload_n 0, 1) := by decide +kernel
theorem dX7_count_69 : decode cX7_count 69 = .ok (.invokevirtual 265, 3) := by decide +kernel
theorem dX7_count_72 : decode cX7_count 72 = .ok (.ireturn, 1) := by decide +kernel
theorem dX7_count_73 : decode cX7_count 73 = .ok (.bipush (-2), 2) := by decide +kernel
theorem dX7_count_75 : decode cX7_count 75 = .ok (.ireturn, 1) := by decide +kernel
theorem dX7_kindsAsTold_0 : decode cX7_kindsAsTold 0 = .ok (.iconst 0, 1) := by decide +kernel
theorem dX7_kindsAsTold_1 : decode cX7_kindsAsTold 1 = .ok (.istore 4, 2) := by decide +kernel
theorem dX7_kindsAsTold_3 : decode cX7_kindsAsTold 3 = .ok (.aload_n 0, 1) := by decide +kernel
theorem dX7_kindsAsTold_4 : decode cX7_kindsAsTold 4 = .ok (.getfield 54, 3) := by decide +kernel
theorem dX7_kindsAsTold_7 : decode cX7_kindsAsTold 7 = .ok (.aload_n 2, 1) := by decide +kernel
theorem dX7_kindsAsTold_8 : decode cX7_kindsAsTold 8 = .ok (.invokevirtual 198, 3) := by decide +kernel
theorem dX7_kindsAsTold_11 : decode cX7_kindsAsTold 11 = .ok (.iconst 0, 1) := by decide +kernel
theorem dX7_kindsAsTold_12 : decode cX7_kindsAsTold 12 = .ok (.istore 5, 2) := by decide +kernel
theorem dX7_kindsAsTold_14 : decode cX7_kindsAsTold 14 = .ok (.iload 5, 2) := by decide +kernel
theorem dX7_kindsAsTold_16 : decode cX7_kindsAsTold 16 = .ok (.bipush 6, 2) := by decide +kernel
theorem dX7_kindsAsTold_18 : decode cX7_kindsAsTold 18 = .ok (.if_icmp .ge 44, 3) := by decide +kernel
theorem dX7_kindsAsTold_21 : decode cX7_kindsAsTold 21 = .ok (.aload_n 0, 1) := by decide +kernel
theorem dX7_kindsAsTold_22 : decode cX7_kindsAsTold 22 = .ok (.getfield 54, 3) := by decide +kernel
theorem dX7_kindsAsTold_25 : decode cX7_kindsAsTold 25 = .ok (.iload 5, 2) := by decide +kernel
theorem dX7_kindsAsTold_27 : decode cX7_kindsAsTold 27 = .ok (.putfield 84, 3) := by decide +kernel
theorem dX7_kindsAsTold_30 : decode cX7_kindsAsTold 30 = .ok (.aload_n 0, 1) := by decide +kernel
theorem dX7_kindsAsTold_31 : decode cX7_kindsAsTold 31 = .ok (.getfield 33, 3) := by decide +kernel
theorem dX7_kindsAsTold_34 : decode cX7_kindsAsTold 34 = .ok (.aload_n 1, 1) := by decide +kernel
theorem dX7_kindsAsTold_35 : decode cX7_kindsAsTold 35 = .ok (.aload_n 0, 1) := by decide +kernel
theorem dX7_kindsAsTold_36 : decode cX7_kindsAsTold 36 = .ok (.getfield 54, 3) := by decide +kernel
theorem dX7_kindsAsTold_39 : decode cX7_kindsAsTold 39 = .ok (.aload_n 3, 1) := by decide +kernel
theorem dX7_kindsAsTold_40 : decode cX7_kindsAsTold 40 = .ok (.invokevirtual 216, 3) := by decide +kernel
theorem dX7_kindsAsTold_43 : decode cX7_kindsAsTold 43 = .ok (.iconst (-1), 1) := by decide +kernel
theorem dX7_kindsAsTold_44 : decode cX7_kindsAsTold 44 = .ok (.if_icmp .ne 12, 3) := by decide +kernel
theorem dX7_kindsAsTold_47 : decode cX7_kindsAsTold 47 = .ok (.iload 4, 2) := by decide +kernel
theorem dX7_kindsAsTold_49 : decode cX7_kindsAsTold 49 = .ok (.iconst 1, 1) := by decide +kernel
theorem dX7_kindsAsTold_50 : decode cX7_kindsAsTold 50 = .ok (.iload 5, 2) := by decide +kernel
theorem dX7_kindsAsTold_52 : decode cX7_kindsAsTold 52 = .ok (.ishl, 1) := by decide +kernel
theorem dX7_kindsAsTold_53 : decode cX7_kindsAsTold 53 = .ok (.ior, 1) := by decide +kernel
theorem dX7_kindsAsTold_54 : decode cX7_kindsAsTold 54 = .ok (.istore 4, 2) := by decide +kernel
theorem dX7_kindsAsTold_56 : decode cX7_kindsAsTold 56 = .ok (.iinc 5 1, 3) := by decide +kernel
theorem dX7_kindsAsTold_59 : decode cX7_kindsAsTold 59 = .ok (.goto (-45), 3) := by decide +kernel
theorem dX7_kindsAsTold_62 : decode cX7_kindsAsTold 62 = .ok (.iload 4, 2) := by decide +kernel
theorem dX7_kindsAsTold_64 : decode cX7_kindsAsTold 64 = .ok (.ireturn, 1) := by decide +kernel
theorem dX7_moresAsTold_0 : decode cX7_moresAsTold 0 = .ok (.iconst 0, 1) := by decide +kernel
theorem dX7_moresAsTold_1 : decode cX7_moresAsTold 1 = .ok (.istore 4, 2) := by decide +kernel
theorem dX7_moresAsTold_3 : decode cX7_moresAsTold 3 = .ok (.aload_n 0, 1) := by decide +kernel
theorem dX7_moresAsTold_4 : decode cX7_moresAsTold 4 = .ok (.getfield 54, 3) := by decide +kernel
theorem dX7_moresAsTold_7 : decode cX7_moresAsTold 7 = .ok (.aload_n 2, 1) := by decide +kernel
theorem dX7_moresAsTold_8 : decode cX7_moresAsTold 8 = .ok (.invokevirtual 198, 3) := by decide +kernel
theorem dX7_moresAsTold_11 : decode cX7_moresAsTold 11 = .ok (.iconst 0, 1) := by decide +kernel
theorem dX7_moresAsTold_12 : decode cX7_moresAsTold 12 = .ok (.istore 5, 2) := by decide +kernel
theorem dX7_moresAsTold_14 : decode cX7_moresAsTold 14 = .ok (.iload 5, 2) := by decide +kernel
theorem dX7_moresAsTold_16 : decode cX7_moresAsTold 16 = .ok (.bipush 10, 2) := by decide +kernel
theorem dX7_moresAsTold_18 : decode cX7_moresAsTold 18 = .ok (.if_icmp .ge 44, 3) := by decide +kernel
theorem dX7_moresAsTold_21 : decode cX7_moresAsTold 21 = .ok (.aload_n 0, 1) := by decide +kernel
theorem dX7_moresAsTold_22 : decode cX7_moresAsTold 22 = .ok (.getfield 54, 3) := by decide +kernel
theorem dX7_moresAsTold_25 : decode cX7_moresAsTold 25 = .ok (.iload 5, 2) := by decide +kernel
theorem dX7_moresAsTold_27 : decode cX7_moresAsTold 27 = .ok (.putfield 87, 3) := by decide +kernel
theorem dX7_moresAsTold_30 : decode cX7_moresAsTold 30 = .ok (.aload_n 0, 1) := by decide +kernel
theorem dX7_moresAsTold_31 : decode cX7_moresAsTold 31 = .ok (.getfield 33, 3) := by decide +kernel
theorem dX7_moresAsTold_34 : decode cX7_moresAsTold 34 = .ok (.aload_n 1, 1) := by decide +kernel
theorem dX7_moresAsTold_35 : decode cX7_moresAsTold 35 = .ok (.aload_n 0, 1) := by decide +kernel
theorem dX7_moresAsTold_36 : decode cX7_moresAsTold 36 = .ok (.getfield 54, 3) := by decide +kernel
theorem dX7_moresAsTold_39 : decode cX7_moresAsTold 39 = .ok (.aload_n 3, 1) := by decide +kernel
theorem dX7_moresAsTold_40 : decode cX7_moresAsTold 40 = .ok (.invokevirtual 216, 3) := by decide +kernel
theorem dX7_moresAsTold_43 : decode cX7_moresAsTold 43 = .ok (.iconst (-1), 1) := by decide +kernel
theorem dX7_moresAsTold_44 : decode cX7_moresAsTold 44 = .ok (.if_icmp .ne 12, 3) := by decide +kernel
theorem dX7_moresAsTold_47 : decode cX7_moresAsTold 47 = .ok (.iload 4, 2) := by decide +kernel
theorem dX7_moresAsTold_49 : decode cX7_moresAsTold 49 = .ok (.iconst 1, 1) := by decide +kernel
theorem dX7_moresAsTold_50 : decode cX7_moresAsTold 50 = .ok (.iload 5, 2) := by decide +kernel
theorem dX7_moresAsTold_52 : decode cX7_moresAsTold 52 = .ok (.ishl, 1) := by decide +kernel
theorem dX7_moresAsTold_53 : decode cX7_moresAsTold 53 = .ok (.ior, 1) := by decide +kernel
theorem dX7_moresAsTold_54 : decode cX7_moresAsTold 54 = .ok (.istore 4, 2) := by decide +kernel
theorem dX7_moresAsTold_56 : decode cX7_moresAsTold 56 = .ok (.iinc 5 1, 3) := by decide +kernel
theorem dX7_moresAsTold_59 : decode cX7_moresAsTold 59 = .ok (.goto (-45), 3) := by decide +kernel
theorem dX7_moresAsTold_62 : decode cX7_moresAsTold 62 = .ok (.iload 4, 2) := by decide +kernel
theorem dX7_moresAsTold_64 : decode cX7_moresAsTold 64 = .ok (.ireturn, 1) := by decide +kernel
theorem dX7_textsAsTold_0 : decode cX7_textsAsTold 0 = .ok (.iconst 0, 1) := by decide +kernel
theorem dX7_textsAsTold_1 : decode cX7_textsAsTold 1 = .ok (.istore 4, 2) := by decide +kernel
theorem dX7_textsAsTold_3 : decode cX7_textsAsTold 3 = .ok (.aload_n 0, 1) := by decide +kernel
theorem dX7_textsAsTold_4 : decode cX7_textsAsTold 4 = .ok (.getfield 24, 3) := by decide +kernel
theorem dX7_textsAsTold_7 : decode cX7_textsAsTold 7 = .ok (.getfield 133, 3) := by decide +kernel
theorem dX7_textsAsTold_10 : decode cX7_textsAsTold 10 = .ok (.istore 5, 2) := by decide +kernel
theorem dX7_textsAsTold_12 : decode cX7_textsAsTold 12 = .ok (.iconst 0, 1) := by decide +kernel
theorem dX7_textsAsTold_13 : decode cX7_textsAsTold 13 = .ok (.istore 6, 2) := by decide +kernel
theorem dX7_textsAsTold_15 : decode cX7_textsAsTold 15 = .ok (.iload 6, 2) := by decide +kernel
theorem dX7_textsAsTold_17 : decode cX7_textsAsTold 17 = .ok (.aload_n 0, 1) := by decide +kernel
theorem dX7_textsAsTold_18 : decode cX7_textsAsTold 18 = .ok (.getfield 24, 3) := by decide +kernel
theorem dX7_textsAsTold_21 : decode cX7_textsAsTold 21 = .ok (.getfield 127, 3) := by decide +kernel
theorem dX7_textsAsTold_24 : decode cX7_textsAsTold 24 = .ok (.if_icmp .ge 41, 3) := by decide +kernel
theorem dX7_textsAsTold_27 : decode cX7_textsAsTold 27 = .ok (.aload_n 0, 1) := by decide +kernel
theorem dX7_textsAsTold_28 : decode cX7_textsAsTold 28 = .ok (.getfield 24, 3) := by decide +kernel
theorem dX7_textsAsTold_31 : decode cX7_textsAsTold 31 = .ok (.iload 6, 2) := by decide +kernel
theorem dX7_textsAsTold_33 : decode cX7_textsAsTold 33 = .ok (.putfield 133, 3) := by decide +kernel
theorem dX7_textsAsTold_36 : decode cX7_textsAsTold 36 = .ok (.aload_n 0, 1) := by decide +kernel
theorem dX7_textsAsTold_37 : decode cX7_textsAsTold 37 = .ok (.getfield 33, 3) := by decide +kernel
theorem dX7_textsAsTold_40 : decode cX7_textsAsTold 40 = .ok (.aload_n 1, 1) := by decide +kernel
theorem dX7_textsAsTold_41 : decode cX7_textsAsTold 41 = .ok (.aload_n 2, 1) := by decide +kernel
theorem dX7_textsAsTold_42 : decode cX7_textsAsTold 42 = .ok (.aload_n 3, 1) := by decide +kernel
theorem dX7_textsAsTold_43 : decode cX7_textsAsTold 43 = .ok (.invokevirtual 216, 3) := by decide +kernel
theorem dX7_textsAsTold_46 : decode cX7_textsAsTold 46 = .ok (.iconst (-1), 1) := by decide +kernel
theorem dX7_textsAsTold_47 : decode cX7_textsAsTold 47 = .ok (.if_icmp .ne 12, 3) := by decide +kernel
theorem dX7_textsAsTold_50 : decode cX7_textsAsTold 50 = .ok (.iload 4, 2) := by decide +kernel
theorem dX7_textsAsTold_52 : decode cX7_textsAsTold 52 = .ok (.iconst 1, 1) := by decide +kernel
theorem dX7_textsAsTold_53 : decode cX7_textsAsTold 53 = .ok (.iload 6, 2) := by decide +kernel
theorem dX7_textsAsTold_55 : decode cX7_textsAsTold 55 = .ok (.ishl, 1) := by decide +kernel
theorem dX7_textsAsTold_56 : decode cX7_textsAsTold 56 = .ok (.ior, 1) := by decide +kernel
theorem dX7_textsAsTold_57 : decode cX7_textsAsTold 57 = .ok (.istore 4, 2) := by decide +kernel
theorem dX7_textsAsTold_59 : decode cX7_textsAsTold 59 = .ok (.iinc 6 1, 3) := by decide +kernel
theorem dX7_textsAsTold_62 : decode cX7_textsAsTold 62 = .ok (.goto (-47), 3) := by decide +kernel
theorem dX7_textsAsTold_65 : decode cX7_textsAsTold 65 = .ok (.aload_n 0, 1) := by decide +kernel
theorem dX7_textsAsTold_66 : decode cX7_textsAsTold 66 = .ok (.getfield 24, 3) := by decide +kernel
theorem dX7_textsAsTold_69 : decode cX7_textsAsTold 69 = .ok (.iload 5, 2) := by decide +kernel
theorem dX7_textsAsTold_71 : decode cX7_textsAsTold 71 = .ok (.putfield 133, 3) := by decide +kernel
theorem dX7_textsAsTold_74 : decode cX7_textsAsTold 74 = .ok (.iload 4, 2) := by decide +kernel
theorem dX7_textsAsTold_76 : decode cX7_textsAsTold 76 = .ok (.ireturn, 1) := by decide +kernel
theorem dX7_numbersThatMust_0 : decode cX7_numbersThatMust 0 = .ok (.iconst 0, 1) := by decide +kernel
theorem dX7_numbersThatMust_1 : decode cX7_numbersThatMust 1 = .ok (.istore 4, 2) := by decide +kernel
theorem dX7_numbersThatMust_3 : decode cX7_numbersThatMust 3 = .ok (.aload_n 0, 1) := by decide +kernel
theorem dX7_numbersThatMust_4 : decode cX7_numbersThatMust 4 = .ok (.getfield 54, 3) := by decide +kernel
theorem dX7_numbersThatMust_7 : decode cX7_numbersThatMust 7 = .ok (.aload_n 2, 1) := by decide +kernel
theorem dX7_numbersThatMust_8 : decode cX7_numbersThatMust 8 = .ok (.invokevirtual 198, 3) := by decide +kernel
theorem dX7_numbersThatMust_11 : decode cX7_numbersThatMust 11 = .ok (.iconst 1, 1) := by decide +kernel
theorem dX7_numbersThatMust_12 : decode cX7_numbersThatMust 12 = .ok (.istore 5, 2) := by decide +kernel
theorem dX7_numbersThatMust_14 : decode cX7_numbersThatMust 14 = .ok (.iload 5, 2) := by decide +kernel
theorem dX7_numbersThatMust_16 : decode cX7_numbersThatMust 16 = .ok (.bipush 30, 2) := by decide +kernel
theorem dX7_numbersThatMust_18 : decode cX7_numbersThatMust 18 = .ok (.if_icmp .gt 67, 3) := by decide +kernel
theorem dX7_numbersThatMust_21 : decode cX7_numbersThatMust 21 = .ok (.aload_n 2, 1) := by decide +kernel
theorem dX7_numbersThatMust_22 : decode cX7_numbersThatMust 22 = .ok (.getfield 90, 3) := by decide +kernel
theorem dX7_numbersThatMust_25 : decode cX7_numbersThatMust 25 = .ok (.iload 5, 2) := by decide +kernel
theorem dX7_numbersThatMust_27 : decode cX7_numbersThatMust 27 = .ok (.invokestatic 97, 3) := by decide +kernel
theorem dX7_numbersThatMust_30 : decode cX7_numbersThatMust 30 = .ok (.ifCond .eq 49, 3) := by decide +kernel
theorem dX7_numbersThatMust_33 : decode cX7_numbersThatMust 33 = .ok (.aload_n 0, 1) := by decide +kernel
theorem dX7_numbersThatMust_34 : decode cX7_numbersThatMust 34 = .ok (.getfield 54, 3) := by decide +kernel
theorem dX7_numbersThatMust_37 : decode cX7_numbersThatMust 37 = .ok (.aload_n 2, 1) := by decide +kernel
theorem dX7_numbersThatMust_38 : decode cX7_numbersThatMust 38 = .ok (.getfield 90, 3) := by decide +kernel
theorem dX7_numbersThatMust_41 : decode cX7_numbersThatMust 41 = .ok (.iload 5, 2) := by decide +kernel
theorem dX7_numbersThatMust_43 : decode cX7_numbersThatMust 43 = .ok (.invokestatic 101, 3) := by decide +kernel
theorem dX7_numbersThatMust_46 : decode cX7_numbersThatMust 46 = .ok (.iconst (-1), 1) := by decide +kernel
theorem dX7_numbersThatMust_47 : decode cX7_numbersThatMust 47 = .ok (.ixor, 1) := by decide +kernel
theorem dX7_numbersThatMust_48 : decode cX7_numbersThatMust 48 = .ok (.iand, 1) := by decide +kernel
theorem dX7_numbersThatMust_49 : decode cX7_numbersThatMust 49 = .ok (.putfield 90, 3) := by decide +kernel
theorem dX7_numbersThatMust_52 : decode cX7_numbersThatMust 52 = .ok (.aload_n 0, 1) := by decide +kernel
theorem dX7_numbersThatMust_53 : decode cX7_numbersThatMust 53 = .ok (.getfield 33, 3) := by decide +kernel
theorem dX7_numbersThatMust_56 : decode cX7_numbersThatMust 56 = .ok (.aload_n 1, 1) := by decide +kernel
theorem dX7_numbersThatMust_57 : decode cX7_numbersThatMust 57 = .ok (.aload_n 0, 1) := by decide +kernel
theorem dX7_numbersThatMust_58 : decode cX7_numbersThatMust 58 = .ok (.getfield 54, 3) := by decide +kernel
theorem dX7_numbersThatMust_61 : decode cX7_numbersThatMust 61 = .ok (.aload_n 3, 1) := by decide +kernel
theorem dX7_numbersThatMust_62 : decode cX7_numbersThatMust 62 = .ok (.invokevirtual 216, 3) := by decide +kernel
theorem dX7_numbersThatMust_65 : decode cX7_numbersThatMust 65 = .ok (.iconst (-1), 1) := by decide +kernel
theorem dX7_numbersThatMust_66 : decode cX7_numbersThatMust 66 = .ok (.if_icmp .eq 13, 3) := by decide +kernel
theorem dX7_numbersThatMust_69 : decode cX7_numbersThatMust 69 = .ok (.iload 4, 2) := by decide +kernel
theorem dX7_numbersThatMust_71 : decode cX7_numbersThatMust 71 = .ok (.iload 5, 2) := by decide +kernel
theorem dX7_numbersThatMust_73 : decode cX7_numbersThatMust 73 = .ok (.invokestatic 101, 3) := by decide +kernel
theorem dX7_numbersThatMust_76 : decode cX7_numbersThatMust 76 = .ok (.ior, 1) := by decide +kernel
theorem dX7_numbersThatMust_77 : decode cX7_numbersThatMust 77 = .ok (.istore 4, 2) := by decide +kernel
theorem dX7_numbersThatMust_79 : decode cX7_numbersThatMust 79 = .ok (.iinc 5 1, 3) := by decide +kernel
theorem dX7_numbersThatMust_82 : decode cX7_numbersThatMust 82 = .ok (.goto (-68), 3) := by decide +kernel
theorem dX7_numbersThatMust_85 : decode cX7_numbersThatMust 85 = .ok (.iload 4, 2) := by decide +kernel
theorem dX7_numbersThatMust_87 : decode cX7_numbersThatMust 87 = .ok (.ireturn, 1) := by decide +kernel
theorem dX7_numbersThatMay_0 : decode cX7_numbersThatMay 0 = .ok (.iconst 0, 1) := by decide +kernel
theorem dX7_numbersThatMay_1 : decode cX7_numbersThatMay 1 = .ok (.istore 4, 2) := by decide +kernel
theorem dX7_numbersThatMay_3 : decode cX7_numbersThatMay 3 = .ok (.aload_n 0, 1) := by decide +kernel
theorem dX7_numbersThatMay_4 : decode cX7_numbersThatMay 4 = .ok (.getfield 54, 3) := by decide +kernel
theorem dX7_numbersThatMay_7 : decode cX7_numbersThatMay 7 = .ok (.aload_n 2, 1) := by decide +kernel
theorem dX7_numbersThatMay_8 : decode cX7_numbersThatMay 8 = .ok (.invokevirtual 198, 3) := by decide +kernel
theorem dX7_numbersThatMay_11 : decode cX7_numbersThatMay 11 = .ok (.iconst 1, 1) := by decide +kernel
theorem dX7_numbersThatMay_12 : decode cX7_numbersThatMay 12 = .ok (.istore 5, 2) := by decide +kernel
theorem dX7_numbersThatMay_14 : decode cX7_numbersThatMay 14 = .ok (.iload 5, 2) := by decide +kernel
theorem dX7_numbersThatMay_16 : decode cX7_numbersThatMay 16 = .ok (.bipush 30, 2) := by decide +kernel
theorem dX7_numbersThatMay_18 : decode cX7_numbersThatMay 18 = .ok (.if_icmp .gt 65, 3) := by decide +kernel
theorem dX7_numbersThatMay_21 : decode cX7_numbersThatMay 21 = .ok (.aload_n 2, 1) := by decide +kernel
theorem dX7_numbersThatMay_22 : decode cX7_numbersThatMay 22 = .ok (.getfield 90, 3) := by decide +kernel
theorem dX7_numbersThatMay_25 : decode cX7_numbersThatMay 25 = .ok (.iload 5, 2) := by decide +kernel
theorem dX7_numbersThatMay_27 : decode cX7_numbersThatMay 27 = .ok (.invokestatic 97, 3) := by decide +kernel
theorem dX7_numbersThatMay_30 : decode cX7_numbersThatMay 30 = .ok (.ifCond .ne 47, 3) := by decide +kernel
theorem dX7_numbersThatMay_33 : decode cX7_numbersThatMay 33 = .ok (.aload_n 0, 1) := by decide +kernel
theorem dX7_numbersThatMay_34 : decode cX7_numbersThatMay 34 = .ok (.getfield 54, 3) := by decide +kernel
theorem dX7_numbersThatMay_37 : decode cX7_numbersThatMay 37 = .ok (.aload_n 2, 1) := by decide +kernel
theorem dX7_numbersThatMay_38 : decode cX7_numbersThatMay 38 = .ok (.getfield 90, 3) := by decide +kernel
theorem dX7_numbersThatMay_41 : decode cX7_numbersThatMay 41 = .ok (.iload 5, 2) := by decide +kernel
theorem dX7_numbersThatMay_43 : decode cX7_numbersThatMay 43 = .ok (.invokestatic 101, 3) := by decide +kernel
theorem dX7_numbersThatMay_46 : decode cX7_numbersThatMay 46 = .ok (.ior, 1) := by decide +kernel
theorem dX7_numbersThatMay_47 : decode cX7_numbersThatMay 47 = .ok (.putfield 90, 3) := by decide +kernel
theorem dX7_numbersThatMay_50 : decode cX7_numbersThatMay 50 = .ok (.aload_n 0, 1) := by decide +kernel
theorem dX7_numbersThatMay_51 : decode cX7_numbersThatMay 51 = .ok (.getfield 33, 3) := by decide +kernel
theorem dX7_numbersThatMay_54 : decode cX7_numbersThatMay 54 = .ok (.aload_n 1, 1) := by decide +kernel
theorem dX7_numbersThatMay_55 : decode cX7_numbersThatMay 55 = .ok (.aload_n 0, 1) := by decide +kernel
theorem dX7_numbersThatMay_56 : decode cX7_numbersThatMay 56 = .ok (.getfield 54, 3) := by decide +kernel
theorem dX7_numbersThatMay_59 : decode cX7_numbersThatMay 59 = .ok (.aload_n 3, 1) := by decide +kernel
theorem dX7_numbersThatMay_60 : decode cX7_numbersThatMay 60 = .ok (.invokevirtual 216, 3) := by decide +kernel
theorem dX7_numbersThatMay_63 : decode cX7_numbersThatMay 63 = .ok (.iconst (-1), 1) := by decide +kernel
theorem dX7_numbersThatMay_64 : decode cX7_numbersThatMay 64 = .ok (.if_icmp .ne 13, 3) := by decide +kernel
theorem dX7_numbersThatMay_67 : decode cX7_numbersThatMay 67 = .ok (.iload 4, 2) := by decide +kernel
theorem dX7_numbersThatMay_69 : decode cX7_numbersThatMay 69 = .ok (.iload 5, 2) := by decide +kernel
theorem dX7_numbersThatMay_71 : decode cX7_numbersThatMay 71 = .ok (.invokestatic 101, 3) := by decide +kernel
theorem dX7_numbersThatMay_74 : decode cX7_numbersThatMay 74 = .ok (.ior, 1) := by decide +kernel
theorem dX7_numbersThatMay_75 : decode cX7_numbersThatMay 75 = .ok (.istore 4, 2) := by decide +kernel
theorem dX7_numbersThatMay_77 : decode cX7_numbersThatMay 77 = .ok (.iinc 5 1, 3) := by decide +kernel
theorem dX7_numbersThatMay_80 : decode cX7_numbersThatMay 80 = .ok (.goto (-66), 3) := by decide +kernel
theorem dX7_numbersThatMay_83 : decode cX7_numbersThatMay 83 = .ok (.iload 4, 2) := by decide +kernel
theorem dX7_numbersThatMay_85 : decode cX7_numbersThatMay 85 = .ok (.ireturn, 1) := by decide +kernel
theorem dX7_payableIfDrawn_0 : decode cX7_payableIfDrawn 0 = .ok (.aload_n 0, 1) := by decide +kernel
theorem dX7_payableIfDrawn_1 : decode cX7_payableIfDrawn 1 = .ok (.getfield 54, 3) := by decide +kernel
theorem dX7_payableIfDrawn_4 : decode cX7_payableIfDrawn 4 = .ok (.aload_n 2, 1) := by decide +kernel
theorem dX7_payableIfDrawn_5 : decode cX7_payableIfDrawn 5 = .ok (.invokevirtual 198, 3) := by decide +kernel
theorem dX7_payableIfDrawn_8 : decode cX7_payableIfDrawn 8 = .ok (.aload_n 0, 1) := by decide +kernel
theorem dX7_payableIfDrawn_9 : decode cX7_payableIfDrawn 9 = .ok (.getfield 58, 3) := by decide +kernel
theorem dX7_payableIfDrawn_12 : decode cX7_payableIfDrawn 12 = .ok (.aload_n 3, 1) := by decide +kernel
theorem dX7_payableIfDrawn_13 : decode cX7_payableIfDrawn 13 = .ok (.invokevirtual 198, 3) := by decide +kernel
theorem dX7_payableIfDrawn_16 : decode cX7_payableIfDrawn 16 = .ok (.aload_n 0, 1) := by decide +kernel
theorem dX7_payableIfDrawn_17 : decode cX7_payableIfDrawn 17 = .ok (.getfield 54, 3) := by decide +kernel
theorem dX7_payableIfDrawn_20 : decode cX7_payableIfDrawn 20 = .ok (.iload_n 1, 1) := by decide +kernel
theorem dX7_payableIfDrawn_21 : decode cX7_payableIfDrawn 21 = .ok (.invokevirtual 268, 3) := by decide +kernel
theorem dX7_payableIfDrawn_24 : decode cX7_payableIfDrawn 24 = .ok (.istore 4, 2) := by decide +kernel
theorem dX7_payableIfDrawn_26 : decode cX7_payableIfDrawn 26 = .ok (.aload_n 0, 1) := by decide +kernel
theorem dX7_payableIfDrawn_27 : decode cX7_payableIfDrawn 27 = .ok (.getfield 58, 3) := by decide +kernel
theorem dX7_payableIfDrawn_30 : decode cX7_payableIfDrawn 30 = .ok (.iload 4, 2) := by decide +kernel
theorem dX7_payableIfDrawn_32 : decode cX7_payableIfDrawn 32 = .ok (.invokevirtual 268, 3) := by decide +kernel
theorem dX7_payableIfDrawn_35 : decode cX7_payableIfDrawn 35 = .ok (.pop, 1) := by decide +kernel
theorem dX7_payableIfDrawn_36 : decode cX7_payableIfDrawn 36 = .ok (.aload_n 0, 1) := by decide +kernel
theorem dX7_payableIfDrawn_37 : decode cX7_payableIfDrawn 37 = .ok (.getfield 33, 3) := by decide +kernel
theorem dX7_payableIfDrawn_40 : decode cX7_payableIfDrawn 40 = .ok (.aload_n 0, 1) := by decide +kernel
theorem dX7_payableIfDrawn_41 : decode cX7_payableIfDrawn 41 = .ok (.getfield 54, 3) := by decide +kernel
theorem dX7_payableIfDrawn_44 : decode cX7_payableIfDrawn 44 = .ok (.aload_n 0, 1) := by decide +kernel
theorem dX7_payableIfDrawn_45 : decode cX7_payableIfDrawn 45 = .ok (.getfield 58, 3) := by decide +kernel
theorem dX7_payableIfDrawn_48 : decode cX7_payableIfDrawn 48 = .ok (.invokevirtual 202, 3) := by decide +kernel
theorem dX7_payableIfDrawn_51 : decode cX7_payableIfDrawn 51 = .ok (.ireturn, 1) := by decide +kernel
theorem dX7_commonMeasure_0 : decode cX7_commonMeasure 0 = .ok (.iload_n 0, 1) := by decide +kernel
theorem dX7_commonMeasure_1 : decode cX7_commonMeasure 1 = .ok (.istore_n 2, 1) := by decide +kernel
theorem dX7_commonMeasure_2 : decode cX7_commonMeasure 2 = .ok (.iload_n 1, 1) := by decide +kernel
theorem dX7_commonMeasure_3 : decode cX7_commonMeasure 3 = .ok (.istore_n 3, 1) := by decide +kernel
theorem dX7_commonMeasure_4 : decode cX7_commonMeasure 4 = .ok (.iconst 0, 1) := by decide +kernel
theorem dX7_commonMeasure_5 : decode cX7_commonMeasure 5 = .ok (.istore 4, 2) := by decide +kernel
theorem dX7_commonMeasure_7 : decode cX7_commonMeasure 7 = .ok (.iload 4, 2) := by decide +kernel
theorem dX7_commonMeasure_9 : decode cX7_commonMeasure 9 = .ok (.bipush 20, 2) := by decide +kernel
theorem dX7_commonMeasure_11 : decode cX7_commonMeasure 11 = .ok (.if_icmp .ge 23, 3) := by decide +kernel
theorem dX7_commonMeasure_14 : decode cX7_commonMeasure 14 = .ok (.iload_n 3, 1) := by decide +kernel
theorem dX7_commonMeasure_15 : decode cX7_commonMeasure 15 = .ok (.ifCond .eq 19, 3) := by decide +kernel
theorem dX7_commonMeasure_18 : decode cX7_commonMeasure 18 = .ok (.iload_n 2, 1) := by decide +kernel
theorem dX7_commonMeasure_19 : decode cX7_commonMeasure 19 = .ok (.iload_n 3, 1) := by decide +kernel
theorem dX7_commonMeasure_20 : decode cX7_commonMeasure 20 = .ok (.irem, 1) := by decide +kernel
theorem dX7_commonMeasure_21 : decode cX7_commonMeasure 21 = .ok (.istore 5, 2) := by decide +kernel
theorem dX7_commonMeasure_23 : decode cX7_commonMeasure 23 = .ok (.iload_n 3, 1) := by decide +kernel
theorem dX7_commonMeasure_24 : decode cX7_commonMeasure 24 = .ok (.istore_n 2, 1) := by decide +kernel
theorem dX7_commonMeasure_25 : decode cX7_commonMeasure 25 = .ok (.iload 5, 2) := by decide +kernel
theorem dX7_commonMeasure_27 : decode cX7_commonMeasure 27 = .ok (.istore_n 3, 1) := by decide +kernel
theorem dX7_commonMeasure_28 : decode cX7_commonMeasure 28 = .ok (.iinc 4 1, 3) := by decide +kernel
theorem dX7_commonMeasure_31 : decode cX7_commonMeasure 31 = .ok (.goto (-24), 3) := by decide +kernel
theorem dX7_commonMeasure_34 : decode cX7_commonMeasure 34 = .ok (.iload_n 2, 1) := by decide +kernel
theorem dX7_commonMeasure_35 : decode cX7_commonMeasure 35 = .ok (.ireturn, 1) := by decide +kernel
theorem dX7_allOwn_0 : decode cX7_allOwn 0 = .ok (.iconst 0, 1) := by decide +kernel
theorem dX7_allOwn_1 : decode cX7_allOwn 1 = .ok (.istore_n 1, 1) := by decide +kernel
theorem dX7_allOwn_2 : decode cX7_allOwn 2 = .ok (.iconst 0, 1) := by decide +kernel
theorem dX7_allOwn_3 : decode cX7_allOwn 3 = .ok (.istore_n 2, 1) := by decide +kernel
theorem dX7_allOwn_4 : decode cX7_allOwn 4 = .ok (.iload_n 2, 1) := by decide +kernel
theorem dX7_allOwn_5 : decode cX7_allOwn 5 = .ok (.aload_n 0, 1) := by decide +kernel
theorem dX7_allOwn_6 : decode cX7_allOwn 6 = .ok (.getfield 77, 3) := by decide +kernel
theorem dX7_allOwn_9 : decode cX7_allOwn 9 = .ok (.if_icmp .ge 30, 3) := by decide +kernel
theorem dX7_allOwn_12 : decode cX7_allOwn 12 = .ok (.iload_n 2, 1) := by decide +kernel
theorem dX7_allOwn_13 : decode cX7_allOwn 13 = .ok (.bipush 6, 2) := by decide +kernel
theorem dX7_allOwn_15 : decode cX7_allOwn 15 = .ok (.if_icmp .ge 24, 3) := by decide +kernel
theorem dX7_allOwn_18 : decode cX7_allOwn 18 = .ok (.iload_n 1, 1) := by decide +kernel
theorem dX7_allOwn_19 : decode cX7_allOwn 19 = .ok (.aload_n 0, 1) := by decide +kernel
theorem dX7_allOwn_20 : decode cX7_allOwn 20 = .ok (.getfield 11, 3) := by decide +kernel
theorem dX7_allOwn_23 : decode cX7_allOwn 23 = .ok (.iload_n 2, 1) := by decide +kernel
theorem dX7_allOwn_24 : decode cX7_allOwn 24 = .ok (.aaload, 1) := by decide +kernel
theorem dX7_allOwn_25 : decode cX7_allOwn 25 = .ok (.getfield 90, 3) := by decide +kernel
theorem dX7_allOwn_28 : decode cX7_allOwn 28 = .ok (.invokestatic 104, 3) := by decide +kernel
theorem dX7_allOwn_31 : decode cX7_allOwn 31 = .ok (.iadd, 1) := by decide +kernel
theorem dX7_allOwn_32 : decode cX7_allOwn 32 = .ok (.istore_n 1, 1) := by decide +kernel
theorem dX7_allOwn_33 : decode cX7_allOwn 33 = .ok (.iinc 2 1, 3) := by decide +kernel
theorem dX7_allOwn_36 : decode cX7_allOwn 36 = .ok (.goto (-32), 3) := by decide +kernel
theorem dX7_allOwn_39 : decode cX7_allOwn 39 = .ok (.iload_n 1, 1) := by decide +kernel
theorem dX7_allOwn_40 : decode cX7_allOwn 40 = .ok (.ireturn, 1) := by decide +kernel
theorem dX7_sheet_0 : decode cX7_sheet 0 = .ok (.aload_n 0, 1) := by decide +kernel
theorem dX7_sheet_1 : decode cX7_sheet 1 = .ok (.iload_n 1, 1) := by decide +kernel
theorem dX7_sheet_2 : decode cX7_sheet 2 = .ok (.invokevirtual 205, 3) := by decide +kernel
theorem dX7_sheet_5 : decode cX7_sheet 5 = .ok (.astore 4, 2) := by decide +kernel
theorem dX7_sheet_7 : decode cX7_sheet 7 = .ok (.aload 4, 2) := by decide +kernel
theorem dX7_sheet_9 : decode cX7_sheet 9 = .ok (.ifnull 13, 3) := by decide +kernel
theorem dX7_sheet_12 : decode cX7_sheet 12 = .ok (.iload_n 2, 1) := by decide +kernel
theorem dX7_sheet_13 : decode cX7_sheet 13 = .ok (.iconst (-1), 1) := by decide +kernel
theorem dX7_sheet_14 : decode cX7_sheet 14 = .ok (.if_icmp .lt 8, 3) := by decide +kernel
theorem dX7_sheet_17 : decode cX7_sheet 17 = .ok (.iload_n 2, 1) := by decide +kernel
theorem dX7_sheet_18 : decode cX7_sheet 18 = .ok (.iconst 2, 1) := by decide +kernel
theorem dX7_sheet_19 : decode cX7_sheet 19 = .ok (.if_icmp .le 6, 3) := by decide +kernel
theorem dX7_sheet_22 : decode cX7_sheet 22 = .ok (.bipush (-2), 2) := by decide +kernel
theorem dX7_sheet_24 : decode cX7_sheet 24 = .ok (.ireturn, 1) := by decide +kernel
theorem dX7_sheet_25 : decode cX7_sheet 25 = .ok (.iload_n 2, 1) := by decide +kernel
theorem dX7_sheet_26 : decode cX7_sheet 26 = .ok (.iconst (-1), 1) := by decide +kernel
theorem dX7_sheet_27 : decode cX7_sheet 27 = .ok (.if_icmp .ne 12, 3) := by decide +kernel
theorem dX7_sheet_30 : decode cX7_sheet 30 = .ok (.aload 4, 2) := by decide +kernel
theorem dX7_sheet_32 : decode cX7_sheet 32 = .ok (.iconst (-1), 1) := by decide +kernel
theorem dX7_sheet_33 : decode cX7_sheet 33 = .ok (.iconst 0, 1) := by decide +kernel
theorem dX7_sheet_34 : decode cX7_sheet 34 = .ok (.invokevirtual 241, 3) := by decide +kernel
theorem dX7_sheet_37 : decode cX7_sheet 37 = .ok (.iconst 1, 1) := by decide +kernel
theorem dX7_sheet_38 : decode cX7_sheet 38 = .ok (.ireturn, 1) := by decide +kernel
theorem dX7_sheet_39 : decode cX7_sheet 39 = .ok (.iload_n 3, 1) := by decide +kernel
theorem dX7_sheet_40 : decode cX7_sheet 40 = .ok (.bipush 40, 2) := by decide +kernel
theorem dX7_sheet_42 : decode cX7_sheet 42 = .ok (.if_icmp .le 6, 3) := by decide +kernel
theorem dX7_sheet_45 : decode cX7_sheet 45 = .ok (.bipush (-2), 2) := by decide +kernel
theorem dX7_sheet_47 : decode cX7_sheet 47 = .ok (.ireturn, 1) := by decide +kernel
theorem dX7_sheet_48 : decode cX7_sheet 48 = .ok (.iload_n 3, 1) := by decide +kernel
theorem dX7_sheet_49 : decode cX7_sheet 49 = .ok (.ifCond .ge 6, 3) := by decide +kernel
theorem dX7_sheet_52 : decode cX7_sheet 52 = .ok (.bipush (-14), 2) := by decide +kernel
theorem dX7_sheet_54 : decode cX7_sheet 54 = .ok (.ireturn, 1) := by decide +kernel
theorem dX7_sheet_55 : decode cX7_sheet 55 = .ok (.aload 4, 2) := by decide +kernel
theorem dX7_sheet_57 : decode cX7_sheet 57 = .ok (.iload_n 2, 1) := by decide +kernel
theorem dX7_sheet_58 : decode cX7_sheet 58 = .ok (.iload_n 3, 1) := by decide +kernel
theorem dX7_sheet_59 : decode cX7_sheet 59 = .ok (.invokevirtual 241, 3) := by decide +kernel
theorem dX7_sheet_62 : decode cX7_sheet 62 = .ok (.iconst 1, 1) := by decide +kernel
theorem dX7_sheet_63 : decode cX7_sheet 63 = .ok (.ireturn, 1) := by decide +kernel
theorem dX7_cell_0 : decode cX7_cell 0 = .ok (.aload_n 0, 1) := by decide +kernel
theorem dX7_cell_1 : decode cX7_cell 1 = .ok (.iload_n 1, 1) := by decide +kernel
theorem dX7_cell_2 : decode cX7_cell 2 = .ok (.invokevirtual 205, 3) := by decide +kernel
theorem dX7_cell_5 : decode cX7_cell 5 = .ok (.astore 4, 2) := by decide +kernel
theorem dX7_cell_7 : decode cX7_cell 7 = .ok (.aload 4, 2) := by decide +kernel
theorem dX7_cell_9 : decode cX7_cell 9 = .ok (.ifnonnull 6, 3) := by decide +kernel
theorem dX7_cell_12 : decode cX7_cell 12 = .ok (.bipush (-2), 2) := by decide +kernel
theorem dX7_cell_14 : decode cX7_cell 14 = .ok (.ireturn, 1) := by decide +kernel
theorem dX7_cell_15 : decode cX7_cell 15 = .ok (.aload 4, 2) := by decide +kernel
theorem dX7_cell_17 : decode cX7_cell 17 = .ok (.getfield 209, 3) := by decide +kernel
theorem dX7_cell_20 : decode cX7_cell 20 = .ok (.iconst (-1), 1) := by decide +kernel
theorem dX7_cell_21 : decode cX7_cell 21 = .ok (.if_icmp .ne 6, 3) := by decide +kernel
theorem dX7_cell_24 : decode cX7_cell 24 = .ok (.bipush (-11), 2) := by decide +kernel
theorem dX7_cell_26 : decode cX7_cell 26 = .ok (.ireturn, 1) := by decide +kernel
theorem dX7_cell_27 : decode cX7_cell 27 = .ok (.aload 4, 2) := by decide +kernel
theorem dX7_cell_29 : decode cX7_cell 29 = .ok (.iload_n 2, 1) := by decide +kernel
theorem dX7_cell_30 : decode cX7_cell 30 = .ok (.invokevirtual 271, 3) := by decide +kernel
theorem dX7_cell_33 : decode cX7_cell 33 = .ok (.ifCond .ne 6, 3) := by decide +kernel
theorem dX7_cell_36 : decode cX7_cell 36 = .ok (.bipush (-12), 2) := by decide +kernel
theorem dX7_cell_38 : decode cX7_cell 38 = .ok (.ireturn, 1) := by decide +kernel
theorem dX7_cell_39 : decode cX7_cell 39 = .ok (.aload 4, 2) := by decide +kernel
theorem dX7_cell_41 : decode cX7_cell 41 = .ok (.iload_n 2, 1) := by decide +kernel
theorem dX7_cell_42 : decode cX7_cell 42 = .ok (.iload_n 3, 1) := by decide +kernel
theorem dX7_cell_43 : decode cX7_cell 43 = .ok (.invokevirtual 244, 3) := by decide +kernel
theorem dX7_cell_46 : decode cX7_cell 46 = .ok (.iconst 1, 1) := by decide +kernel
theorem dX7_cell_47 : decode cX7_cell 47 = .ok (.ireturn, 1) := by decide +kernel
theorem dX7_copy_0 : decode cX7_copy 0 = .ok (.aload_n 0, 1) := by decide +kernel
theorem dX7_copy_1 : decode cX7_copy 1 = .ok (.iload_n 1, 1) := by decide +kernel
theorem dX7_copy_2 : decode cX7_copy 2 = .ok (.invokevirtual 205, 3) := by decide +kernel
theorem dX7_copy_5 : decode cX7_copy 5 = .ok (.astore 6, 2) := by decide +kernel
theorem dX7_copy_7 : decode cX7_copy 7 = .ok (.aload_n 0, 1) := by decide +kernel
theorem dX7_copy_8 : decode cX7_copy 8 = .ok (.iload_n 3, 1) := by decide +kernel
theorem dX7_copy_9 : decode cX7_copy 9 = .ok (.invokevirtual 205, 3) := by decide +kernel
theorem dX7_copy_12 : decode cX7_copy 12 = .ok (.astore 7, 2) := by decide +kernel
theorem dX7_copy_14 : decode cX7_copy 14 = .ok (.aload 6, 2) := by decide +kernel
theorem dX7_copy_16 : decode cX7_copy 16 = .ok (.ifnull 8, 3) := by decide +kernel
theorem dX7_copy_19 : decode cX7_copy 19 = .ok (.aload 7, 2) := by decide +kernel
theorem dX7_copy_21 : decode cX7_copy 21 = .ok (.ifnonnull 6, 3) := by decide +kernel
theorem dX7_copy_24 : decode cX7_copy 24 = .ok (.bipush (-2), 2) := by decide +kernel
theorem dX7_copy_26 : decode cX7_copy 26 = .ok (.ireturn, 1) := by decide +kernel
theorem dX7_copy_27 : decode cX7_copy 27 = .ok (.aload 6, 2) := by decide +kernel
theorem dX7_copy_29 : decode cX7_copy 29 = .ok (.getfield 209, 3) := by decide +kernel
theorem dX7_copy_32 : decode cX7_copy 32 = .ok (.iconst (-1), 1) := by decide +kernel
theorem dX7_copy_33 : decode cX7_copy 33 = .ok (.if_icmp .eq 12, 3) := by decide +kernel
theorem dX7_copy_36 : decode cX7_copy 36 = .ok (.aload 7, 2) := by decide +kernel
theorem dX7_copy_38 : decode cX7_copy 38 = .ok (.getfield 209, 3) := by decide +kernel
theorem dX7_copy_41 : decode cX7_copy 41 = .ok (.iconst (-1), 1) := by decide +kernel
theorem dX7_copy_42 : decode cX7_copy 42 = .ok (.if_icmp .ne 6, 3) := by decide +kernel
theorem dX7_copy_45 : decode cX7_copy 45 = .ok (.bipush (-11), 2) := by decide +kernel
theorem dX7_copy_47 : decode cX7_copy 47 = .ok (.ireturn, 1) := by decide +kernel
theorem dX7_copy_48 : decode cX7_copy 48 = .ok (.aload 6, 2) := by decide +kernel
theorem dX7_copy_50 : decode cX7_copy 50 = .ok (.getfield 209, 3) := by decide +kernel
theorem dX7_copy_53 : decode cX7_copy 53 = .ok (.aload 7, 2) := by decide +kernel
theorem dX7_copy_55 : decode cX7_copy 55 = .ok (.getfield 209, 3) := by decide +kernel
theorem dX7_copy_58 : decode cX7_copy 58 = .ok (.if_icmp .eq 6, 3) := by decide +kernel
theorem dX7_copy_61 : decode cX7_copy 61 = .ok (.bipush (-13), 2) := by decide +kernel
theorem dX7_copy_63 : decode cX7_copy 63 = .ok (.ireturn, 1) := by decide +kernel
theorem dX7_copy_64 : decode cX7_copy 64 = .ok (.aload 6, 2) := by decide +kernel
theorem dX7_copy_66 : decode cX7_copy 66 = .ok (.iload_n 2, 1) := by decide +kernel
theorem dX7_copy_67 : decode cX7_copy 67 = .ok (.iload 5, 2) := by decide +kernel
theorem dX7_copy_69 : decode cX7_copy 69 = .ok (.invokevirtual 274, 3) := by decide +kernel
theorem dX7_copy_72 : decode cX7_copy 72 = .ok (.ifCond .eq 15, 3) := by decide +kernel
theorem dX7_copy_75 : decode cX7_copy 75 = .ok (.aload 7, 2) := by decide +kernel
theorem dX7_copy_77 : decode cX7_copy 77 = .ok (.iload 4, 2) := by decide +kernel
theorem dX7_copy_79 : decode cX7_copy 79 = .ok (.iload 5, 2) := by decide +kernel
theorem dX7_copy_81 : decode cX7_copy 81 = .ok (.invokevirtual 274, 3) := by decide +kernel
theorem dX7_copy_84 : decode cX7_copy 84 = .ok (.ifCond .ne 6, 3) := by decide +kernel
theorem dX7_copy_87 : decode cX7_copy 87 = .ok (.bipush (-12), 2) := by decide +kernel
theorem dX7_copy_89 : decode cX7_copy 89 = .ok (.ireturn, 1) := by decide +kernel
theorem dX7_copy_90 : decode cX7_copy 90 = .ok (.aload 6, 2) := by decide +kernel
theorem dX7_copy_92 : decode cX7_copy 92 = .ok (.getfield 277, 3) := by decide +kernel
theorem dX7_copy_95 : decode cX7_copy 95 = .ok (.iload_n 2, 1) := by decide +kernel
theorem dX7_copy_96 : decode cX7_copy 96 = .ok (.aload 7, 2) := by decide +kernel
theorem dX7_copy_98 : decode cX7_copy 98 = .ok (.getfield 277, 3) := by decide +kernel
theorem dX7_copy_101 : decode cX7_copy 101 = .ok (.iload 4, 2) := by decide +kernel
theorem dX7_copy_103 : decode cX7_copy 103 = .ok (.iload 5, 2) := by decide +kernel
theorem dX7_copy_105 : decode cX7_copy 105 = .ok (.invokestatic 280, 3) := by decide +kernel
theorem dX7_copy_108 : decode cX7_copy 108 = .ok (.iload 5, 2) := by decide +kernel
theorem dX7_copy_110 : decode cX7_copy 110 = .ok (.ireturn, 1) := by decide +kernel
theorem dX7_heirs_0 : decode cX7_heirs 0 = .ok (.aload_n 0, 1) := by decide +kernel
theorem dX7_heirs_1 : decode cX7_heirs 1 = .ok (.iload_n 1, 1) := by decide +kernel
theorem dX7_heirs_2 : decode cX7_heirs 2 = .ok (.invokevirtual 205, 3) := by decide +kernel
theorem dX7_heirs_5 : decode cX7_heirs 5 = .ok (.astore 5, 2) := by decide +kernel
theorem dX7_heirs_7 : decode cX7_heirs 7 = .ok (.aload 5, 2) := by decide +kernel
theorem dX7_heirs_9 : decode cX7_heirs 9 = .ok (.ifnull 24, 3) := by decide +kernel
theorem dX7_heirs_12 : decode cX7_heirs 12 = .ok (.iload_n 2, 1) := by decide +kernel
theorem dX7_heirs_13 : decode cX7_heirs 13 = .ok (.ifCond .lt 20, 3) := by decide +kernel
theorem dX7_heirs_16 : decode cX7_heirs 16 = .ok (.iload_n 2, 1) := by decide +kernel
theorem dX7_heirs_17 : decode cX7_heirs 17 = .ok (.iconst 2, 1) := by decide +kernel
theorem dX7_heirs_18 : decode cX7_heirs 18 = .ok (.if_icmp .gt 15, 3) := by decide +kernel
theorem dX7_heirs_21 : decode cX7_heirs 21 = .ok (.iload 4, 2) := by decide +kernel
theorem dX7_heirs_23 : decode cX7_heirs 23 = .ok (.ifCond .lt 10, 3) := by decide +kernel
theorem dX7_heirs_26 : decode cX7_heirs 26 = .ok (.iload 4, 2) := by decide +kernel
theorem dX7_heirs_28 : decode cX7_heirs 28 = .ok (.bipush 6, 2) := by decide +kernel
theorem dX7_heirs_30 : decode cX7_heirs 30 = .ok (.if_icmp .le 6, 3) := by decide +kernel
theorem dX7_heirs_33 : decode cX7_heirs 33 = .ok (.bipush (-2), 2) := by decide +kernel
theorem dX7_heirs_35 : decode cX7_heirs 35 = .ok (.ireturn, 1) := by decide +kernel
theorem dX7_heirs_36 : decode cX7_heirs 36 = .ok (.aload 5, 2) := by decide +kernel
theorem dX7_heirs_38 : decode cX7_heirs 38 = .ok (.getfield 209, 3) := by decide +kernel
theorem dX7_heirs_41 : decode cX7_heirs 41 = .ok (.iconst (-1), 1) := by decide +kernel
theorem dX7_heirs_42 : decode cX7_heirs 42 = .ok (.if_icmp .eq 15, 3) := by decide +kernel
theorem dX7_heirs_45 : decode cX7_heirs 45 = .ok (.aload 5, 2) := by decide +kernel
theorem dX7_heirs_47 : decode cX7_heirs 47 = .ok (.getfield 209, 3) := by decide +kernel
theorem dX7_heirs_50 : decode cX7_heirs 50 = .ok (.iload_n 2, 1) := by decide +kernel
theorem dX7_heirs_51 : decode cX7_heirs 51 = .ok (.if_icmp .eq 6, 3) := by decide +kernel
theorem dX7_heirs_54 : decode cX7_heirs 54 = .ok (.bipush (-13), 2) := by decide +kernel
theorem dX7_heirs_56 : decode cX7_heirs 56 = .ok (.ireturn, 1) := by decide +kernel
theorem dX7_heirs_57 : decode cX7_heirs 57 = .ok (.aload 5, 2) := by decide +kernel
theorem dX7_heirs_59 : decode cX7_heirs 59 = .ok (.getfield 209, 3) := by decide +kernel
theorem dX7_heirs_62 : decode cX7_heirs 62 = .ok (.iconst (-1), 1) := by decide +kernel
theorem dX7_heirs_63 : decode cX7_heirs 63 = .ok (.if_icmp .ne 6, 3) := by decide +kernel
theorem dX7_heirs_66 : decode cX7_heirs 66 = .ok (.bipush (-11), 2) := by decide +kernel
theorem dX7_heirs_68 : decode cX7_heirs 68 = .ok (.ireturn, 1) := by decide +kernel
theorem dX7_heirs_69 : decode cX7_heirs 69 = .ok (.iconst 0, 1) := by decide +kernel
theorem dX7_heirs_70 : decode cX7_heirs 70 = .ok (.istore 6, 2) := by decide +kernel
theorem dX7_heirs_72 : decode cX7_heirs 72 = .ok (.iload_n 3, 1) := by decide +kernel
theorem dX7_heirs_73 : decode cX7_heirs 73 = .ok (.istore 7, 2) := by decide +kernel
theorem dX7_heirs_75 : decode cX7_heirs 75 = .ok (.iconst 0, 1) := by decide +kernel
theorem dX7_heirs_76 : decode cX7_heirs 76 = .ok (.istore 8, 2) := by decide +kernel
theorem dX7_heirs_78 : decode cX7_heirs 78 = .ok (.iload 8, 2) := by decide +kernel
theorem dX7_heirs_80 : decode cX7_heirs 80 = .ok (.iload 4, 2) := by decide +kernel
theorem dX7_heirs_82 : decode cX7_heirs 82 = .ok (.if_icmp .ge 52, 3) := by decide +kernel
theorem dX7_heirs_85 : decode cX7_heirs 85 = .ok (.aload 5, 2) := by decide +kernel
theorem dX7_heirs_87 : decode cX7_heirs 87 = .ok (.iload 7, 2) := by decide +kernel
theorem dX7_heirs_89 : decode cX7_heirs 89 = .ok (.iconst 2, 1) := by decide +kernel
theorem dX7_heirs_90 : decode cX7_heirs 90 = .ok (.invokevirtual 274, 3) := by decide +kernel
theorem dX7_heirs_93 : decode cX7_heirs 93 = .ok (.ifCond .ne 6, 3) := by decide +kernel
theorem dX7_heirs_96 : decode cX7_heirs 96 = .ok (.bipush (-12), 2) := by decide +kernel
theorem dX7_heirs_98 : decode cX7_heirs 98 = .ok (.ireturn, 1) := by decide +kernel
theorem dX7_heirs_99 : decode cX7_heirs 99 = .ok (.aload_n 0, 1) := by decide +kernel
theorem dX7_heirs_100 : decode cX7_heirs 100 = .ok (.aload 5, 2) := by decide +kernel
theorem dX7_heirs_102 : decode cX7_heirs 102 = .ok (.iload 7, 2) := by decide +kernel
theorem dX7_heirs_104 : decode cX7_heirs 104 = .ok (.invokevirtual 286, 3) := by decide +kernel
theorem dX7_heirs_107 : decode cX7_heirs 107 = .ok (.aload 5, 2) := by decide +kernel
theorem dX7_heirs_109 : decode cX7_heirs 109 = .ok (.iload 7, 2) := by decide +kernel
theorem dX7_heirs_111 : decode cX7_heirs 111 = .ok (.iconst 1, 1) := by decide +kernel
theorem dX7_heirs_112 : decode cX7_heirs 112 = .ok (.iadd, 1) := by decide +kernel
theorem dX7_heirs_113 : decode cX7_heirs 113 = .ok (.invokevirtual 286, 3) := by decide +kernel
theorem dX7_heirs_116 : decode cX7_heirs 116 = .ok (.invokevirtual 289, 3) := by decide +kernel
theorem dX7_heirs_119 : decode cX7_heirs 119 = .ok (.ifCond .lt 6, 3) := by decide +kernel
theorem dX7_heirs_122 : decode cX7_heirs 122 = .ok (.iinc 6 1, 3) := by decide +kernel
theorem dX7_heirs_125 : decode cX7_heirs 125 = .ok (.iinc 7 2, 3) := by decide +kernel
theorem dX7_heirs_128 : decode cX7_heirs 128 = .ok (.iinc 8 1, 3) := by decide +kernel
theorem dX7_heirs_131 : decode cX7_heirs 131 = .ok (.goto (-53), 3) := by decide +kernel
theorem dX7_heirs_134 : decode cX7_heirs 134 = .ok (.iload 6, 2) := by decide +kernel
theorem dX7_heirs_136 : decode cX7_heirs 136 = .ok (.ireturn, 1) := by decide +kernel
theorem dX7_taken_0 : decode cX7_taken 0 = .ok (.iload_n 2, 1) := by decide +kernel
theorem dX7_taken_1 : decode cX7_taken 1 = .ok (.ifCond .lt 9, 3) := by decide +kernel
theorem dX7_taken_4 : decode cX7_taken 4 = .ok (.iload_n 2, 1) := by decide +kernel
theorem dX7_taken_5 : decode cX7_taken 5 = .ok (.bipush 6, 2) := by decide +kernel
theorem dX7_taken_7 : decode cX7_taken 7 = .ok (.if_icmp .lt 6, 3) := by decide +kernel
theorem dX7_taken_10 : decode cX7_taken 10 = .ok (.bipush (-2), 2) := by decide +kernel
theorem dX7_taken_12 : decode cX7_taken 12 = .ok (.ireturn, 1) := by decide +kernel
theorem dX7_taken_13 : decode cX7_taken 13 = .ok (.aload_n 0, 1) := by decide +kernel
theorem dX7_taken_14 : decode cX7_taken 14 = .ok (.iload_n 1, 1) := by decide +kernel
theorem dX7_taken_15 : decode cX7_taken 15 = .ok (.invokevirtual 66, 3) := by decide +kernel
theorem dX7_taken_18 : decode cX7_taken 18 = .ok (.astore_n 3, 1) := by decide +kernel
theorem dX7_taken_19 : decode cX7_taken 19 = .ok (.aload_n 3, 1) := by decide +kernel
theorem dX7_taken_20 : decode cX7_taken 20 = .ok (.ifnonnull 6, 3) := by decide +kernel
theorem dX7_taken_23 : decode cX7_taken 23 = .ok (.bipush (-11), 2) := by decide +kernel
theorem dX7_taken_25 : decode cX7_taken 25 = .ok (.ireturn, 1) := by decide +kernel
theorem dX7_taken_26 : decode cX7_taken 26 = .ok (.aload_n 3, 1) := by decide +kernel
theorem dX7_taken_27 : decode cX7_taken 27 = .ok (.getfield 84, 3) := by decide +kernel
theorem dX7_taken_30 : decode cX7_taken 30 = .ok (.iload_n 2, 1) := by decide +kernel
theorem dX7_taken_31 : decode cX7_taken 31 = .ok (.invokestatic 292, 3) := by decide +kernel
theorem dX7_taken_34 : decode cX7_taken 34 = .ok (.ifCond .eq 10, 3) := by decide +kernel
theorem dX7_taken_37 : decode cX7_taken 37 = .ok (.aload_n 3, 1) := by decide +kernel
theorem dX7_taken_38 : decode cX7_taken 38 = .ok (.getfield 87, 3) := by decide +kernel
theorem dX7_taken_41 : decode cX7_taken 41 = .ok (.goto 5, 3) := by decide +kernel
theorem dX7_taken_44 : decode cX7_taken 44 = .ok (.bipush (-13), 2) := by decide +kernel
theorem dX7_taken_46 : decode cX7_taken 46 = .ok (.ireturn, 1) := by decide +kernel
theorem dX7_sheetAt_0 : decode cX7_sheetAt 0 = .ok (.iload_n 1, 1) := by decide +kernel
theorem dX7_sheetAt_1 : decode cX7_sheetAt 1 = .ok (.ifCond .lt 12, 3) := by decide +kernel
theorem dX7_sheetAt_4 : decode cX7_sheetAt 4 = .ok (.iload_n 1, 1) := by decide +kernel
theorem dX7_sheetAt_5 : decode cX7_sheetAt 5 = .ok (.aload_n 0, 1) := by decide +kernel
theorem dX7_sheetAt_6 : decode cX7_sheetAt 6 = .ok (.getfield 17, 3) := by decide +kernel
theorem dX7_sheetAt_9 : decode cX7_sheetAt 9 = .ok (.arraylength, 1) := by decide +kernel
theorem dX7_sheetAt_10 : decode cX7_sheetAt 10 = .ok (.if_icmp .lt 7, 3) := by decide +kernel
theorem dX7_sheetAt_13 : decode cX7_sheetAt 13 = .ok (.aconst_null, 1) := by decide +kernel
theorem dX7_sheetAt_14 : decode cX7_sheetAt 14 = .ok (.goto 9, 3) := by decide +kernel
theorem dX7_sheetAt_17 : decode cX7_sheetAt 17 = .ok (.aload_n 0, 1) := by decide +kernel
theorem dX7_sheetAt_18 : decode cX7_sheetAt 18 = .ok (.getfield 17, 3) := by decide +kernel
theorem dX7_sheetAt_21 : decode cX7_sheetAt 21 = .ok (.iload_n 1, 1) := by decide +kernel
theorem dX7_sheetAt_22 : decode cX7_sheetAt 22 = .ok (.aaload, 1) := by decide +kernel
theorem dX7_sheetAt_23 : decode cX7_sheetAt 23 = .ok (.areturn, 1) := by decide +kernel
theorem dX7_isUnder_0 : decode cX7_isUnder 0 = .ok (.iload_n 0, 1) := by decide +kernel
theorem dX7_isUnder_1 : decode cX7_isUnder 1 = .ok (.istore_n 2, 1) := by decide +kernel
theorem dX7_isUnder_2 : decode cX7_isUnder 2 = .ok (.iconst 0, 1) := by decide +kernel
theorem dX7_isUnder_3 : decode cX7_isUnder 3 = .ok (.istore_n 3, 1) := by decide +kernel
theorem dX7_isUnder_4 : decode cX7_isUnder 4 = .ok (.iload_n 3, 1) := by decide +kernel
theorem dX7_isUnder_5 : decode cX7_isUnder 5 = .ok (.bipush 6, 2) := by decide +kernel
theorem dX7_isUnder_7 : decode cX7_isUnder 7 = .ok (.if_icmp .ge 31, 3) := by decide +kernel
theorem dX7_isUnder_10 : decode cX7_isUnder 10 = .ok (.iload_n 2, 1) := by decide +kernel
theorem dX7_isUnder_11 : decode cX7_isUnder 11 = .ok (.ifCond .lt 27, 3) := by decide +kernel
theorem dX7_isUnder_14 : decode cX7_isUnder 14 = .ok (.iload_n 2, 1) := by decide +kernel
theorem dX7_isUnder_15 : decode cX7_isUnder 15 = .ok (.bipush 6, 2) := by decide +kernel
theorem dX7_isUnder_17 : decode cX7_isUnder 17 = .ok (.if_icmp .ge 21, 3) := by decide +kernel
theorem dX7_isUnder_20 : decode cX7_isUnder 20 = .ok (.iload_n 2, 1) := by decide +kernel
theorem dX7_isUnder_21 : decode cX7_isUnder 21 = .ok (.iload_n 1, 1) := by decide +kernel
theorem dX7_isUnder_22 : decode cX7_isUnder 22 = .ok (.if_icmp .ne 5, 3) := by decide +kernel
theorem dX7_isUnder_25 : decode cX7_isUnder 25 = .ok (.iconst 1, 1) := by decide +kernel
theorem dX7_isUnder_26 : decode cX7_isUnder 26 = .ok (.ireturn, 1) := by decide +kernel
theorem dX7_isUnder_27 : decode cX7_isUnder 27 = .ok (.iload_n 2, 1) := by decide +kernel
theorem dX7_isUnder_28 : decode cX7_isUnder 28 = .ok (.invokestatic 295, 3) := by decide +kernel
theorem dX7_isUnder_31 : decode cX7_isUnder 31 = .ok (.istore_n 2, 1) := by decide +kernel
theorem dX7_isUnder_32 : decode cX7_isUnder 32 = .ok (.iinc 3 1, 3) := by decide +kernel
theorem dX7_isUnder_35 : decode cX7_isUnder 35 = .ok (.goto (-31), 3) := by decide +kernel
theorem dX7_isUnder_38 : decode cX7_isUnder 38 = .ok (.iconst 0, 1) := by decide +kernel
theorem dX7_isUnder_39 : decode cX7_isUnder 39 = .ok (.ireturn, 1) := by decide +kernel
theorem dX7_kindAbove_0 : decode cX7_kindAbove 0 = .ok (.iload_n 0, 1) := by decide +kernel
theorem dX7_kindAbove_1 : decode cX7_kindAbove 1 = .ok (.tableswitch 41 1 5 #[35, 35, 37, 39, 35], 35) := by decide +kernel
theorem dX7_kindAbove_36 : decode cX7_kindAbove 36 = .ok (.iconst 0, 1) := by decide +kernel
theorem dX7_kindAbove_37 : decode cX7_kindAbove 37 = .ok (.ireturn, 1) := by decide +kernel
theorem dX7_kindAbove_38 : decode cX7_kindAbove 38 = .ok (.iconst 1, 1) := by decide +kernel
theorem dX7_kindAbove_39 : decode cX7_kindAbove 39 = .ok (.ireturn, 1) := by decide +kernel
theorem dX7_kindAbove_40 : decode cX7_kindAbove 40 = .ok (.iconst 2, 1) := by decide +kernel
theorem dX7_kindAbove_41 : decode cX7_kindAbove 41 = .ok (.ireturn, 1) := by decide +kernel
theorem dX7_kindAbove_42 : decode cX7_kindAbove 42 = .ok (.iconst (-1), 1) := by decide +kernel
theorem dX7_kindAbove_43 : decode cX7_kindAbove 43 = .ok (.ireturn, 1) := by decide +kernel
theorem dX7_isNumber_0 : decode cX7_isNumber 0 = .ok (.iload_n 0, 1) := by decide +kernel
theorem dX7_isNumber_1 : decode cX7_isNumber 1 = .ok (.iconst 1, 1) := by decide +kernel
theorem dX7_isNumber_2 : decode cX7_isNumber 2 = .ok (.if_icmp .lt 13, 3) := by decide +kernel
theorem dX7_isNumber_5 : decode cX7_isNumber 5 = .ok (.iload_n 0, 1) := by decide +kernel
theorem dX7_isNumber_6 : decode cX7_isNumber 6 = .ok (.bipush 30, 2) := by decide +kernel
theorem dX7_isNumber_8 : decode cX7_isNumber 8 = .ok (.if_icmp .gt 7, 3) := by decide +kernel
theorem dX7_isNumber_11 : decode cX7_isNumber 11 = .ok (.iconst 1, 1) := by decide +kernel
theorem dX7_isNumber_12 : decode cX7_isNumber 12 = .ok (.goto 4, 3) := by decide +kernel
theorem dX7_isNumber_15 : decode cX7_isNumber 15 = .ok (.iconst 0, 1) := by decide +kernel
theorem dX7_isNumber_16 : decode cX7_isNumber 16 = .ok (.ireturn, 1) := by decide +kernel
theorem dX7_isSum_0 : decode cX7_isSum 0 = .ok (.iload_n 0, 1) := by decide +kernel
theorem dX7_isSum_1 : decode cX7_isSum 1 = .ok (.ifCond .lt 13, 3) := by decide +kernel
theorem dX7_isSum_4 : decode cX7_isSum 4 = .ok (.iload_n 0, 1) := by decide +kernel
theorem dX7_isSum_5 : decode cX7_isSum 5 = .ok (.bipush 99, 2) := by decide +kernel
theorem dX7_isSum_7 : decode cX7_isSum 7 = .ok (.if_icmp .gt 7, 3) := by decide +kernel
theorem dX7_isSum_10 : decode cX7_isSum 10 = .ok (.iconst 1, 1) := by decide +kernel
theorem dX7_isSum_11 : decode cX7_isSum 11 = .ok (.goto 4, 3) := by decide +kernel
theorem dX7_isSum_14 : decode cX7_isSum 14 = .ok (.iconst 0, 1) := by decide +kernel
theorem dX7_isSum_15 : decode cX7_isSum 15 = .ok (.ireturn, 1) := by decide +kernel
theorem dX7_bit_0 : decode cX7_bit 0 = .ok (.iconst 1, 1) := by decide +kernel
theorem dX7_bit_1 : decode cX7_bit 1 = .ok (.iload_n 0, 1) := by decide +kernel
theorem dX7_bit_2 : decode cX7_bit 2 = .ok (.iconst 1, 1) := by decide +kernel
theorem dX7_bit_3 : decode cX7_bit 3 = .ok (.isub, 1) := by decide +kernel
theorem dX7_bit_4 : decode cX7_bit 4 = .ok (.ishl, 1) := by decide +kernel
theorem dX7_bit_5 : decode cX7_bit 5 = .ok (.ireturn, 1) := by decide +kernel
theorem dX7_has_0 : decode cX7_has 0 = .ok (.iload_n 0, 1) := by decide +kernel
theorem dX7_has_1 : decode cX7_has 1 = .ok (.iload_n 1, 1) := by decide +kernel
theorem dX7_has_2 : decode cX7_has 2 = .ok (.invokestatic 101, 3) := by decide +kernel
theorem dX7_has_5 : decode cX7_has 5 = .ok (.iand, 1) := by decide +kernel
theorem dX7_has_6 : decode cX7_has 6 = .ok (.ifCond .eq 7, 3) := by decide +kernel
theorem dX7_has_9 : decode cX7_has 9 = .ok (.iconst 1, 1) := by decide +kernel
theorem dX7_has_10 : decode cX7_has 10 = .ok (.goto 4, 3) := by decide +kernel
theorem dX7_has_13 : decode cX7_has 13 = .ok (.iconst 0, 1) := by decide +kernel
theorem dX7_has_14 : decode cX7_has 14 = .ok (.ireturn, 1) := by decide +kernel
theorem dX7_truth_0 : decode cX7_truth 0 = .ok (.iload_n 0, 1) := by decide +kernel
theorem dX7_truth_1 : decode cX7_truth 1 = .ok (.ifCond .eq 7, 3) := by decide +kernel
theorem dX7_truth_4 : decode cX7_truth 4 = .ok (.iconst 1, 1) := by decide +kernel
theorem dX7_truth_5 : decode cX7_truth 5 = .ok (.goto 4, 3) := by decide +kernel
theorem dX7_truth_8 : decode cX7_truth 8 = .ok (.iconst 0, 1) := by decide +kernel
theorem dX7_truth_9 : decode cX7_truth 9 = .ok (.ireturn, 1) := by decide +kernel
theorem dX8_init_0 : decode cX8_init 0 = .ok (.aload_n 0, 1) := by decide +kernel
theorem dX8_init_1 : decode cX8_init 1 = .ok (.invokespecial 1, 3) := by decide +kernel
theorem dX8_init_4 : decode cX8_init 4 = .ok (.aload_n 0, 1) := by decide +kernel
theorem dX8_init_5 : decode cX8_init 5 = .ok (.bipush 6, 2) := by decide +kernel
theorem dX8_init_7 : decode cX8_init 7 = .ok (.newarray .int, 2) := by decide +kernel
theorem dX8_init_9 : decode cX8_init 9 = .ok (.putfield 7, 3) := by decide +kernel
theorem dX8_init_12 : decode cX8_init 12 = .ok (.aload_n 0, 1) := by decide +kernel
theorem dX8_init_13 : decode cX8_init 13 = .ok (.bipush 6, 2) := by decide +kernel
theorem dX8_init_15 : decode cX8_init 15 = .ok (.newarray .int, 2) := by decide +kernel
theorem dX8_init_17 : decode cX8_init 17 = .ok (.putfield 13, 3) := by decide +kernel
theorem dX8_init_20 : decode cX8_init 20 = .ok (.aload_n 0, 1) := by decide +kernel
theorem dX8_init_21 : decode cX8_init 21 = .ok (.bipush 6, 2) := by decide +kernel
theorem dX8_init_23 : decode cX8_init 23 = .ok (.newarray .int, 2) := by decide +kernel
theorem dX8_init_25 : decode cX8_init 25 = .ok (.putfield 16, 3) := by decide +kernel
theorem dX8_init_28 : decode cX8_init 28 = .ok (.aload_n 0, 1) := by decide +kernel
theorem dX8_init_29 : decode cX8_init 29 = .ok (.sipush 160, 3) := by decide +kernel
theorem dX8_init_32 : decode cX8_init 32 = .ok (.newarray .int, 2) := by decide +kernel
theorem dX8_init_34 : decode cX8_init 34 = .ok (.putfield 19, 3) := by decide +kernel
theorem dX8_init_37 : decode cX8_init 37 = .ok (.aload_n 0, 1) := by decide +kernel
theorem dX8_init_38 : decode cX8_init 38 = .ok (.bipush 18, 2) := by decide +kernel
theorem dX8_init_40 : decode cX8_init 40 = .ok (.newarray .int, 2) := by decide +kernel
theorem dX8_init_42 : decode cX8_init 42 = .ok (.putfield 22, 3) := by decide +kernel
theorem dX8_init_45 : decode cX8_init 45 = .ok (.aload_n 0, 1) := by decide +kernel
theorem dX8_init_46 : decode cX8_init 46 = .ok (.bipush 18, 2) := by decide +kernel
theorem dX8_init_48 : decode cX8_init 48 = .ok (.newarray .int, 2) := by decide +kernel
theorem dX8_init_50 : decode cX8_init 50 = .ok (.putfield 25, 3) := by decide +kernel
theorem dX8_init_53 : decode cX8_init 53 = .ok (.aload_n 0, 1) := by decide +kernel
theorem dX8_init_54 : decode cX8_init 54 = .ok (.sipush 3000, 3) := by decide +kernel
theorem dX8_init_57 : decode cX8_init 57 = .ok (.newarray .int, 2) := by decide +kernel
theorem dX8_init_59 : decode cX8_init 59 = .ok (.putfield 28, 3) := by decide +kernel
theorem dX8_init_62 : decode cX8_init 62 = .ok (.aload_n 0, 1) := by decide +kernel
theorem dX8_init_63 : decode cX8_init 63 = .ok (.sipush 200, 3) := by decide +kernel
theorem dX8_init_66 : decode cX8_init 66 = .ok (.newarray .int, 2) := by decide +kernel
theorem dX8_init_68 : decode cX8_init 68 = .ok (.putfield 31, 3) := by decide +kernel
theorem dX8_init_71 : decode cX8_init 71 = .ok (.aload_n 0, 1) := by decide +kernel
theorem dX8_init_72 : decode cX8_init 72 = .ok (.sipush 200, 3) := by decide +kernel
theorem dX8_init_75 : decode cX8_init 75 = .ok (.newarray .int, 2) := by decide +kernel
theorem dX8_init_77 : decode cX8_init 77 = .ok (.putfield 34, 3) := by decide +kernel
theorem dX8_init_80 : decode cX8_init 80 = .ok (.aload_n 0, 1) := by decide +kernel
theorem dX8_init_81 : decode cX8_init 81 = .ok (.bipush 31, 2) := by decide +kernel
theorem dX8_init_83 : decode cX8_init 83 = .ok (.newarray .int, 2) := by decide +kernel
theorem dX8_init_85 : decode cX8_init 85 = .ok (.putfield 37, 3) := by decide +kernel
theorem dX8_init_88 : decode cX8_init 88 = .ok (.aload_n 0, 1) := by decide +kernel
theorem dX8_init_89 : decode cX8_init 89 = .ok (.bipush 100, 2) := by decide +kernel
theorem dX8_init_91 : decode cX8_init 91 = .ok (.newarray .int, 2) := by decide +kernel
theorem dX8_init_93 : decode cX8_init 93 = .ok (.putfield 40, 3) := by decide +kernel
theorem dX8_init_96 : decode cX8_init 96 = .ok (.aload_n 0, 1) := by decide +kernel
theorem dX8_init_97 : decode cX8_init 97 = .ok (.bipush 100, 2) := by decide +kernel
theorem dX8_init_99 : decode cX8_init 99 = .ok (.newarray .int, 2) := by decide +kernel
theorem dX8_init_101 : decode cX8_init 101 = .ok (.putfield 43, 3) := by decide +kernel
theorem dX8_init_104 : decode cX8_init 104 = .ok (.aload_n 0, 1) := by decide +kernel
theorem dX8_init_105 : decode cX8_init 105 = .ok (.bipush 100, 2) := by decide +kernel
theorem dX8_init_107 : decode cX8_init 107 = .ok (.newarray .boolean, 2) := by decide +kernel
theorem dX8_init_109 : decode cX8_init 109 = .ok (.putfield 46, 3) := by decide +kernel
theorem dX8_init_112 : decode cX8_init 112 = .ok (.aload_n 0, 1) := by decide +kernel
theorem dX8_init_113 : decode cX8_init 113 = .ok (.bipush 36, 2) := by decide +kernel
theorem dX8_init_115 : decode cX8_init 115 = .ok (.newarray .int, 2) := by decide +kernel
theorem dX8_init_117 : decode cX8_init 117 = .ok (.putfield 50, 3) := by decide +kernel
theorem dX8_init_120 : decode cX8_init 120 = .ok (.aload_n 0, 1) := by decide +kernel
theorem dX8_init_121 : decode cX8_init 121 = .ok (.bipush 6, 2) := by decide +kernel
theorem dX8_init_123 : decode cX8_init 123 = .ok (.newarray .int, 2) := by decide +kernel
theorem dX8_init_125 : decode cX8_init 125 = .ok (.putfield 53, 3) := by decide +kernel
theorem dX8_init_128 : decode cX8_init 128 = .ok (.aload_n 0, 1) := by decide +kernel
theorem dX8_init_129 : decode cX8_init 129 = .ok (.bipush 6, 2) := by decide +kernel
theorem dX8_init_131 : decode cX8_init 131 = .ok (.newarray .int, 2) := by decide +kernel
theorem dX8_init_133 : decode cX8_init 133 = .ok (.putfield 56, 3) := by decide +kernel
theorem dX8_init_136 : decode cX8_init 136 = .ok (.aload_n 0, 1) := by decide +kernel
theorem dX8_init_137 : decode cX8_init 137 = .ok (.bipush 14, 2) := by decide +kernel
theorem dX8_init_139 : decode cX8_init 139 = .ok (.newarray .int, 2) := by decide +kernel
theorem dX8_init_141 : decode cX8_init 141 = .ok (.putfield 59, 3) := by decide +kernel
theorem dX8_init_144 : decode cX8_init 144 = .ok (.aload_n 0, 1) := by decide +kernel
theorem dX8_init_145 : decode cX8_init 145 = .ok (.iconst 4, 1) := by decide +kernel
theorem dX8_init_146 : decode cX8_init 146 = .ok (.newarray .int, 2) := by decide +kernel
theorem dX8_init_148 : decode cX8_init 148 = .ok (.putfield 62, 3) := by decide +kernel
theorem dX8_init_151 : decode cX8_init 151 = .ok (.aload_n 0, 1) := by decide +kernel
theorem dX8_init_152 : decode cX8_init 152 = .ok (.iconst 4, 1) := by decide +kernel
theorem dX8_init_153 : decode cX8_init 153 = .ok (.newarray .int, 2) := by decide +kernel
theorem dX8_init_155 : decode cX8_init 155 = .ok (.putfield 65, 3) := by decide +kernel
theorem dX8_init_158 : decode cX8_init 158 = .ok (.aload_n 0, 1) := by decide +kernel
theorem dX8_init_159 : decode cX8_init 159 = .ok (.sipush 160, 3) := by decide +kernel
theorem dX8_init_162 : decode cX8_init 162 = .ok (.newarray .int, 2) := by decide +kernel
theorem dX8_init_164 : decode cX8_init 164 = .ok (.putfield 68, 3) := by decide +kernel
theorem dX8_init_167 : decode cX8_init 167 = .ok (.aload_n 0, 1) := by decide +kernel
theorem dX8_init_168 : decode cX8_init 168 = .ok (.bipush 6, 2) := by decide +kernel
theorem dX8_init_170 : decode cX8_init 170 = .ok (.newarray .int, 2) := by decide +kernel
theorem dX8_init_172 : decode cX8_init 172 = .ok (.putfield 71, 3) := by decide +kernel
theorem dX8_init_175 : decode cX8_init 175 = .ok (.iconst 0, 1) := by decide +kernel
theorem dX8_init_176 : decode cX8_init 176 = .ok (.istore_n 1, 1) := by decide +kernel
theorem dX8_init_177 : decode cX8_init 177 = .ok (.iload_n 1, 1) := by decide +kernel
theorem dX8_init_178 : decode cX8_init 178 = .ok (.iconst 4, 1) := by decide +kernel
theorem dX8_init_179 : decode cX8_init 179 = .ok (.if_icmp .ge 16, 3) := by decide +kernel
theorem dX8_init_182 : decode cX8_init 182 = .ok (.aload_n 0, 1) := by decide +kernel
theorem dX8_init_183 : decode cX8_init 183 = .ok (.getfield 62, 3) := by decide +kernel
theorem dX8_init_186 : decode cX8_init 186 = .ok (.iload_n 1, 1) := by decide +kernel
theorem dX8_init_187 : decode cX8_init 187 = .ok (.iconst (-1), 1) := by decide +kernel
theorem dX8_init_188 : decode cX8_init 188 = .ok (.iastore, 1) := by decide +kernel
theorem dX8_init_189 : decode cX8_init 189 = .ok (.iinc 1 1, 3) := by decide +kernel
theorem dX8_init_192 : decode cX8_init 192 = .ok (.goto (-15), 3) := by decide +kernel
theorem dX8_init_195 : decode cX8_init 195 = .ok (.iconst 0, 1) := by decide +kernel
theorem dX8_init_196 : decode cX8_init 196 = .ok (.istore_n 1, 1) := by decide +kernel
theorem dX8_init_197 : decode cX8_init 197 = .ok (.iload_n 1, 1) := by decide +kernel
theorem dX8_init_198 : decode cX8_init 198 = .ok (.iconst 3, 1) := by decide +kernel
theorem dX8_init_199 : decode cX8_init 199 = .ok (.if_icmp .ge 38, 3) := by decide +kernel
theorem dX8_init_202 : decode cX8_init 202 = .ok (.aload_n 0, 1) := by decide +kernel
theorem dX8_init_203 : decode cX8_init 203 = .ok (.getfield 22, 3) := by decide +kernel
theorem dX8_init_206 : decode cX8_init 206 = .ok (.iload_n 1, 1) := by decide +kernel
theorem dX8_init_207 : decode cX8_init 207 = .ok (.iload_n 1, 1) := by decide +kernel
theorem dX8_init_208 : decode cX8_init 208 = .ok (.iastore, 1) := by decide +kernel
theorem dX8_init_209 : decode cX8_init 209 = .ok (.aload_n 0, 1) := by decide +kernel
theorem dX8_init_210 : decode cX8_init 210 = .ok (.getfield 25, 3) := by decide +kernel
theorem dX8_init_213 : decode cX8_init 213 = .ok (.iload_n 1, 1) := by decide +kernel
theorem dX8_init_214 : decode cX8_init 214 = .ok (.iconst 1, 1) := by decide +kernel
theorem dX8_init_215 : decode cX8_init 215 = .ok (.iastore, 1) := by decide +kernel
theorem dX8_init_216 : decode cX8_init 216 = .ok (.aload_n 0, 1) := by decide +kernel
theorem dX8_init_217 : decode cX8_init 217 = .ok (.iload_n 1, 1) := by decide +kernel
theorem dX8_init_218 : decode cX8_init 218 = .ok (.iconst 2, 1) := by decide +kernel
theorem dX8_init_219 : decode cX8_init 219 = .ok (.if_icmp .ge 8, 3) := by decide +kernel
theorem dX8_init_222 : decode cX8_init 222 = .ok (.bipush 16, 2) := by decide +kernel
theorem dX8_init_224 : decode cX8_init 224 = .ok (.goto 4, 3) := by decide +kernel
theorem dX8_init_227 : decode cX8_init 227 = .ok (.iconst 0, 1) := by decide +kernel
theorem dX8_init_228 : decode cX8_init 228 = .ok (.invokevirtual 74, 3) := by decide +kernel
theorem dX8_init_231 : decode cX8_init 231 = .ok (.iinc 1 1, 3) := by decide +kernel
theorem dX8_init_234 : decode cX8_init 234 = .ok (.goto (-37), 3) := by decide +kernel
theorem dX8_init_237 : decode cX8_init 237 = .ok (.aload_n 0, 1) := by decide +kernel
theorem dX8_init_238 : decode cX8_init 238 = .ok (.iconst 1, 1) := by decide +kernel
theorem dX8_init_239 : decode cX8_init 239 = .ok (.putfield 78, 3) := by decide +kernel
theorem dX8_init_242 : decode cX8_init 242 = .ok (.return_, 1) := by decide +kernel
theorem dX8_within_0 : decode cX8_within 0 = .ok (.iload_n 0, 1) := by decide +kernel
theorem dX8_within_1 : decode cX8_within 1 = .ok (.iload_n 1, 1) := by decide +kernel
theorem dX8_within_2 : decode cX8_within 2 = .ok (.if_icmp .lt 12, 3) := by decide +kernel
theorem dX8_within_5 : decode cX8_within 5 = .ok (.iload_n 0, 1) := by decide +kernel
theorem dX8_within_6 : decode cX8_within 6 = .ok (.iload_n 2, 1) := by decide +kernel
theorem dX8_within_7 : decode cX8_within 7 = .ok (.if_icmp .gt 7, 3) := by decide +kernel
theorem dX8_within_10 : decode cX8_within 10 = .ok (.iconst 1, 1) := by decide +kernel
theorem dX8_within_11 : decode cX8_within 11 = .ok (.goto 4, 3) := by decide +kernel
theorem dX8_within_14 : decode cX8_within 14 = .ok (.iconst 0, 1) := by decide +kernel
theorem dX8_within_15 : decode cX8_within 15 = .ok (.ireturn, 1) := by decide +kernel
theorem dX8_bitsOf_0 : decode cX8_bitsOf 0 = .ok (.iconst 0, 1) := by decide +kernel
theorem dX8_bitsOf_1 : decode cX8_bitsOf 1 = .ok (.istore_n 1, 1) := by decide +kernel
theorem dX8_bitsOf_2 : decode cX8_bitsOf 2 = .ok (.iconst 0, 1) := by decide +kernel
theorem dX8_bitsOf_3 : decode cX8_bitsOf 3 = .ok (.istore_n 2, 1) := by decide +kernel
theorem dX8_bitsOf_4 : decode cX8_bitsOf 4 = .ok (.iload_n 2, 1) := by decide +kernel
theorem dX8_bitsOf_5 : decode cX8_bitsOf 5 = .ok (.bipush 30, 2) := by decide +kernel
theorem dX8_bitsOf_7 : decode cX8_bitsOf 7 = .ok (.if_icmp .ge 17, 3) := by decide +kernel
theorem dX8_bitsOf_10 : decode cX8_bitsOf 10 = .ok (.iload_n 1, 1) := by decide +kernel
theorem dX8_bitsOf_11 : decode cX8_bitsOf 11 = .ok (.iload_n 0, 1) := by decide +kernel
theorem dX8_bitsOf_12 : decode cX8_bitsOf 12 = .ok (.iload_n 2, 1) := by decide +kernel
theorem dX8_bitsOf_13 : decode cX8_bitsOf 13 = .ok (.ishr, 1) := by decide +kernel
theorem dX8_bitsOf_14 : decode cX8_bitsOf 14 = .ok (.iconst 1, 1) := by decide +kernel
theorem dX8_bitsOf_15 : decode cX8_bitsOf 15 = .ok (.iand, 1) := by decide +kernel
theorem dX8_bitsOf_16 : decode cX8_bitsOf 16 = .ok (.iadd, 1) := by decide +kernel
theorem dX8_bitsOf_17 : decode cX8_bitsOf 17 = .ok (.istore_n 1, 1) := by decide +kernel
theorem dX8_bitsOf_18 : decode cX8_bitsOf 18 = .ok (.iinc 2 1, 3) := by decide +kernel
theorem dX8_bitsOf_21 : decode cX8_bitsOf 21 = .ok (.goto (-17), 3) := by decide +kernel
theorem dX8_bitsOf_24 : decode cX8_bitsOf 24 = .ok (.iload_n 1, 1) := by decide +kernel
theorem dX8_bitsOf_25 : decode cX8_bitsOf 25 = .ok (.ireturn, 1) := by decide +kernel
theorem dX8_has_0 : decode cX8_has 0 = .ok (.iload_n 0, 1) := by decide +kernel
theorem dX8_has_1 : decode cX8_has 1 = .ok (.iload_n 1, 1) := by decide +kernel
theorem dX8_has_2 : decode cX8_has 2 = .ok (.ishr, 1) := by decide +kernel
theorem dX8_has_3 : decode cX8_has 3 = .ok (.iconst 1, 1) := by decide +kernel
theorem dX8_has_4 : decode cX8_has 4 = .ok (.iand, 1) := by decide +kernel
theorem dX8_has_5 : decode cX8_has 5 = .ok (.iconst 1, 1) := by decide +kernel
theorem dX8_has_6 : decode cX8_has 6 = .ok (.if_icmp .ne 7, 3) := by decide +kernel
theorem dX8_has_9 : decode cX8_has 9 = .ok (.iconst 1, 1) := by decide +kernel
theorem dX8_has_10 : decode cX8_has 10 = .ok (.goto 4, 3) := by decide +kernel
theorem dX8_has_13 : decode cX8_has 13 = .ok (.iconst 0, 1) := by decide +kernel
theorem dX8_has_14 : decode cX8_has 14 = .ok (.ireturn, 1) := by decide +kernel
theorem dX8_isHeir_0 : decode cX8_isHeir 0 = .ok (.iload_n 1, 1) := by decide +kernel
theorem dX8_isHeir_1 : decode cX8_isHeir 1 = .ok (.iconst 0, 1) := by decide +kernel
theorem dX8_isHeir_2 : decode cX8_isHeir 2 = .ok (.aload_n 0, 1) := by decide +kernel
theorem dX8_isHeir_3 : decode cX8_isHeir 3 = .ok (.getfield 82, 3) := by decide +kernel
theorem dX8_isHeir_6 : decode cX8_isHeir 6 = .ok (.iconst 1, 1) := by decide +kernel
theorem dX8_isHeir_7 : decode cX8_isHeir 7 = .ok (.isub, 1) := by decide +kernel
theorem dX8_isHeir_8 : decode cX8_isHeir 8 = .ok (.invokestatic 85, 3) := by decide +kernel
theorem dX8_isHeir_11 : decode cX8_isHeir 11 = .ok (.ireturn, 1) := by decide +kernel
theorem dX8_areTwo_0 : decode cX8_areTwo 0 = .ok (.aload_n 0, 1) := by decide +kernel
theorem dX8_areTwo_1 : decode cX8_areTwo 1 = .ok (.iload_n 1, 1) := by decide +kernel
theorem dX8_areTwo_2 : decode cX8_areTwo 2 = .ok (.invokevirtual 89, 3) := by decide +kernel
theorem dX8_areTwo_5 : decode cX8_areTwo 5 = .ok (.ifCond .eq 20, 3) := by decide +kernel
theorem dX8_areTwo_8 : decode cX8_areTwo 8 = .ok (.aload_n 0, 1) := by decide +kernel
theorem dX8_areTwo_9 : decode cX8_areTwo 9 = .ok (.iload_n 2, 1) := by decide +kernel
theorem dX8_areTwo_10 : decode cX8_areTwo 10 = .ok (.invokevirtual 89, 3) := by decide +kernel
theorem dX8_areTwo_13 : decode cX8_areTwo 13 = .ok (.ifCond .eq 12, 3) := by decide +kernel
theorem dX8_areTwo_16 : decode cX8_areTwo 16 = .ok (.iload_n 1, 1) := by decide +kernel
theorem dX8_areTwo_17 : decode cX8_areTwo 17 = .ok (.iload_n 2, 1) := by decide +kernel
theorem dX8_areTwo_18 : decode cX8_areTwo 18 = .ok (.if_icmp .eq 7, 3) := by decide +kernel
theorem dX8_areTwo_21 : decode cX8_areTwo 21 = .ok (.iconst 1, 1) := by decide +kernel
theorem dX8_areTwo_22 : decode cX8_areTwo 22 = .ok (.goto 4, 3) := by decide +kernel
theorem dX8_areTwo_25 : decode cX8_areTwo 25 = .ok (.iconst 0, 1) := by decide +kernel
theorem dX8_areTwo_26 : decode cX8_areTwo 26 = .ok (.ireturn, 1) := by decide +kernel
theorem dX8_isNumber_0 : decode cX8_isNumber 0 = .ok (.iload_n 0, 1) := by decide +kernel
theorem dX8_isNumber_1 : decode cX8_isNumber 1 = .ok (.iconst 1, 1) := by decide +kernel
theorem dX8_isNumber_2 : decode cX8_isNumber 2 = .ok (.bipush 30, 2) := by decide +kernel
theorem dX8_isNumber_4 : decode cX8_isNumber 4 = .ok (.invokestatic 85, 3) := by decide +kernel
theorem dX8_isNumber_7 : decode cX8_isNumber 7 = .ok (.ireturn, 1) := by decide +kernel
theorem dX8_isSum_0 : decode cX8_isSum 0 = .ok (.iload_n 0, 1) := by decide +kernel
theorem dX8_isSum_1 : decode cX8_isSum 1 = .ok (.iconst 0, 1) := by decide +kernel
theorem dX8_isSum_2 : decode cX8_isSum 2 = .ok (.bipush 99, 2) := by decide +kernel
theorem dX8_isSum_4 : decode cX8_isSum 4 = .ok (.invokestatic 85, 3) := by decide +kernel
theorem dX8_isSum_7 : decode cX8_isSum 7 = .ok (.ireturn, 1) := by decide +kernel
theorem dX8_isSheet_0 : decode cX8_isSheet 0 = .ok (.iload_n 0, 1) := by decide +kernel
theorem dX8_isSheet_1 : decode cX8_isSheet 1 = .ok (.iconst 0, 1) := by decide +kernel
theorem dX8_isSheet_2 : decode cX8_isSheet 2 = .ok (.iconst 3, 1) := by decide +kernel
theorem dX8_isSheet_3 : decode cX8_isSheet 3 = .ok (.invokestatic 85, 3) := by decide +kernel
theorem dX8_isSheet_6 : decode cX8_isSheet 6 = .ok (.ireturn, 1) := by decide +kernel
theorem dX8_may_0 : decode cX8_may 0 = .ok (.iload_n 2, 1) := by decide +kernel
theorem dX8_may_1 : decode cX8_may 1 = .ok (.iconst 0, 1) := by decide +kernel
theorem dX8_may_2 : decode cX8_may 2 = .ok (.iload_n 1, 1) := by decide +kernel
theorem dX8_may_3 : decode cX8_may 3 = .ok (.ifCond .ne 8, 3) := by decide +kernel
theorem dX8_may_6 : decode cX8_may 6 = .ok (.bipush 99, 2) := by decide +kernel
theorem dX8_may_8 : decode cX8_may 8 = .ok (.goto 15, 3) := by decide +kernel
theorem dX8_may_11 : decode cX8_may 11 = .ok (.iload_n 1, 1) := by decide +kernel
theorem dX8_may_12 : decode cX8_may 12 = .ok (.iconst 1, 1) := by decide +kernel
theorem dX8_may_13 : decode cX8_may 13 = .ok (.if_icmp .ne 8, 3) := by decide +kernel
theorem dX8_may_16 : decode cX8_may 16 = .ok (.bipush 9, 2) := by decide +kernel
theorem dX8_may_18 : decode cX8_may 18 = .ok (.goto 5, 3) := by decide +kernel
theorem dX8_may_21 : decode cX8_may 21 = .ok (.ldc 93, 2) := by decide +kernel
theorem dX8_may_23 : decode cX8_may 23 = .ok (.invokestatic 85, 3) := by decide +kernel
theorem dX8_may_26 : decode cX8_may 26 = .ok (.ireturn, 1) := by decide +kernel
theorem dX8_get_0 : decode cX8_get 0 = .ok (.iload_n 2, 1) := by decide +kernel
theorem dX8_get_1 : decode cX8_get 1 = .ok (.tableswitch 71 0 4 #[35, 40, 47, 54, 61], 35) := by decide +kernel
theorem dX8_get_36 : decode cX8_get 36 = .ok (.aload_n 0, 1) := by decide +kernel
theorem dX8_get_37 : decode cX8_get 37 = .ok (.getfield 94, 3) := by decide +kernel
theorem dX8_get_40 : decode cX8_get 40 = .ok (.ireturn, 1) := by decide +kernel
theorem dX8_get_41 : decode cX8_get 41 = .ok (.aload_n 0, 1) := by decide +kernel
theorem dX8_get_42 : decode cX8_get 42 = .ok (.getfield 13, 3) := by decide +kernel
theorem dX8_get_45 : decode cX8_get 45 = .ok (.iload_n 1, 1) := by decide +kernel
theorem dX8_get_46 : decode cX8_get 46 = .ok (.iaload, 1) := by decide +kernel
theorem dX8_get_47 : decode cX8_get 47 = .ok (.ireturn, 1) := by decide +kernel
theorem dX8_get_48 : decode cX8_get 48 = .ok (.aload_n 0, 1) := by decide +kernel
theorem dX8_get_49 : decode cX8_get 49 = .ok (.getfield 16, 3) := by decide +kernel
theorem dX8_get_52 : decode cX8_get 52 = .ok (.iload_n 1, 1) := by decide +kernel
theorem dX8_get_53 : decode cX8_get 53 = .ok (.iaload, 1) := by decide +kernel
theorem dX8_get_54 : decode cX8_get 54 = .ok (.ireturn, 1) := by decide +kernel
theorem dX8_get_55 : decode cX8_get 55 = .ok (.aload_n 0, 1) := by decide +kernel
theorem dX8_get_56 : decode cX8_get 56 = .ok (.getfield 7, 3) := by decide +kernel
theorem dX8_get_59 : decode cX8_get 59 = .ok (.iload_n 1, 1) := by decide +kernel
theorem dX8_get_60 : decode cX8_get 60 = .ok (.iaload, 1) := by decide +kernel
theorem dX8_get_61 : decode cX8_get 61 = .ok (.ireturn, 1) := by decide +kernel
theorem dX8_get_62 : decode cX8_get 62 = .ok (.aload_n 0, 1) := by decide +kernel
theorem dX8_get_63 : decode cX8_get 63 = .ok (.getfield 16, 3) := by decide +kernel
theorem dX8_get_66 : decode cX8_get 66 = .ok (.iload_n 1, 1) := by decide +kernel
theorem dX8_get_67 : decode cX8_get 67 = .ok (.iaload, 1) := by decide +kernel
theorem dX8_get_68 : decode cX8_get 68 = .ok (.invokestatic 97, 3) := by decide +kernel
theorem dX8_get_71 : decode cX8_get 71 = .ok (.ireturn, 1) := by decide +kernel
theorem dX8_get_72 : decode cX8_get 72 = .ok (.aload_n 0, 1) := by decide +kernel
theorem dX8_get_73 : decode cX8_get 73 = .ok (.iload_n 1, 1) := by decide +kernel
theorem dX8_get_74 : decode cX8_get 74 = .ok (.invokevirtual 101, 3) := by decide +kernel
theorem dX8_get_77 : decode cX8_get 77 = .ok (.ireturn, 1) := by decide +kernel
theorem dX8_set_0 : decode cX8_set 0 = .ok (.iload_n 1, 1) := by decide +kernel
theorem dX8_set_1 : decode cX8_set 1 = .ok (.iconst 0, 1) := by decide +kernel
theorem dX8_set_2 : decode cX8_set 2 = .ok (.iconst 2, 1) := by decide +kernel
theorem dX8_set_3 : decode cX8_set 3 = .ok (.invokestatic 85, 3) := by decide +kernel
theorem dX8_set_6 : decode cX8_set 6 = .ok (.ifCond .eq 24, 3) := by decide +kernel
theorem dX8_set_9 : decode cX8_set 9 = .ok (.iload_n 1, 1) := by decide +kernel
theorem dX8_set_10 : decode cX8_set 10 = .ok (.ifCond .le 11, 3) := by decide +kernel
theorem dX8_set_13 : decode cX8_set 13 = .ok (.aload_n 0, 1) := by decide +kernel
theorem dX8_set_14 : decode cX8_set 14 = .ok (.iload_n 2, 1) := by decide +kernel
theorem dX8_set_15 : decode cX8_set 15 = .ok (.invokevirtual 89, 3) := by decide +kernel
theorem dX8_set_18 : decode cX8_set 18 = .ok (.ifCond .eq 12, 3) := by decide +kernel
theorem dX8_set_21 : decode cX8_set 21 = .ok (.aload_n 0, 1) := by decide +kernel
theorem dX8_set_22 : decode cX8_set 22 = .ok (.iload_n 1, 1) := by decide +kernel
theorem dX8_set_23 : decode cX8_set 23 = .ok (.iload_n 3, 1) := by decide +kernel
theorem dX8_set_24 : decode cX8_set 24 = .ok (.invokevirtual 104, 3) := by decide +kernel
theorem dX8_set_27 : decode cX8_set 27 = .ok (.ifCond .ne 6, 3) := by decide +kernel
theorem dX8_set_30 : decode cX8_set 30 = .ok (.bipush (-2), 2) := by decide +kernel
theorem dX8_set_32 : decode cX8_set 32 = .ok (.ireturn, 1) := by decide +kernel
theorem dX8_set_33 : decode cX8_set 33 = .ok (.aload_n 0, 1) := by decide +kernel
theorem dX8_set_34 : decode cX8_set 34 = .ok (.iload_n 2, 1) := by decide +kernel
theorem dX8_set_35 : decode cX8_set 35 = .ok (.iload_n 1, 1) := by decide +kernel
theorem dX8_set_36 : decode cX8_set 36 = .ok (.invokevirtual 108, 3) := by decide +kernel
theorem dX8_set_39 : decode cX8_set 39 = .ok (.istore 4, 2) := by decide +kernel
theorem dX8_set_41 : decode cX8_set 41 = .ok (.iload_n 1, 1) := by decide +kernel
theorem dX8_set_42 : decode cX8_set 42 = .ok (.ifCond .ne 11, 3) := by decide +kernel
theorem dX8_set_45 : decode cX8_set 45 = .ok (.aload_n 0, 1) := by decide +kernel
theorem dX8_set_46 : decode cX8_set 46 = .ok (.iload_n 3, 1) := by decide +kernel
theorem dX8_set_47 : decode cX8_set 47 = .ok (.putfield 94, 3) := by decide +kernel
theorem dX8_set_50 : decode cX8_set 50 = .ok (.goto 25, 3) := by decide +kernel
theorem dX8_set_53 : decode cX8_set 53 = .ok (.iload_n 1, 1) := by decide +kernel
theorem dX8_set_54 : decode cX8_set 54 = .ok (.iconst 1, 1) := by decide +kernel
theorem dX8_set_55 : decode cX8_set 55 = .ok (.if_icmp .ne 13, 3) := by decide +kernel
theorem dX8_set_58 : decode cX8_set 58 = .ok (.aload_n 0, 1) := by decide +kernel
theorem dX8_set_59 : decode cX8_set 59 = .ok (.getfield 13, 3) := by decide +kernel
theorem dX8_set_62 : decode cX8_set 62 = .ok (.iload_n 2, 1) := by decide +kernel
theorem dX8_set_63 : decode cX8_set 63 = .ok (.iload_n 3, 1) := by decide +kernel
theorem dX8_set_64 : decode cX8_set 64 = .ok (.iastore, 1) := by decide +kernel
theorem dX8_set_65 : decode cX8_set 65 = .ok (.goto 10, 3) := by decide +kernel
theorem dX8_set_68 : decode cX8_set 68 = .ok (.aload_n 0, 1) := by decide +kernel
theorem dX8_set_69 : decode cX8_set 69 = .ok (.getfield 16, 3) := by decide +kernel
theorem dX8_set_72 : decode cX8_set 72 = .ok (.iload_n 2, 1) := by decide +kernel
theorem dX8_set_73 : decode cX8_set 73 = .ok (.iload_n 3, 1) := by decide +kernel
theorem dX8_set_74 : decode cX8_set 74 = .ok (.iastore, 1) := by decide +kernel
theorem dX8_set_75 : decode cX8_set 75 = .ok (.iload 4, 2) := by decide +kernel
theorem dX8_set_77 : decode cX8_set 77 = .ok (.ireturn, 1) := by decide +kernel
theorem dX8_heir_0 : decode cX8_heir 0 = .ok (.iload_n 1, 1) := by decide +kernel
theorem dX8_heir_1 : decode cX8_heir 1 = .ok (.iconst 0, 1) := by decide +kernel
theorem dX8_heir_2 : decode cX8_heir 2 = .ok (.iconst 5, 1) := by decide +kernel
theorem dX8_heir_3 : decode cX8_heir 3 = .ok (.invokestatic 85, 3) := by decide +kernel
theorem dX8_heir_6 : decode cX8_heir 6 = .ok (.ifCond .eq 13, 3) := by decide +kernel
theorem dX8_heir_9 : decode cX8_heir 9 = .ok (.iload_n 2, 1) := by decide +kernel
theorem dX8_heir_10 : decode cX8_heir 10 = .ok (.iconst 0, 1) := by decide +kernel
theorem dX8_heir_11 : decode cX8_heir 11 = .ok (.bipush 9, 2) := by decide +kernel
theorem dX8_heir_13 : decode cX8_heir 13 = .ok (.invokestatic 85, 3) := by decide +kernel
theorem dX8_heir_16 : decode cX8_heir 16 = .ok (.ifCond .ne 6, 3) := by decide +kernel
theorem dX8_heir_19 : decode cX8_heir 19 = .ok (.bipush (-2), 2) := by decide +kernel
theorem dX8_heir_21 : decode cX8_heir 21 = .ok (.ireturn, 1) := by decide +kernel
theorem dX8_heir_22 : decode cX8_heir 22 = .ok (.aload_n 0, 1) := by decide +kernel
theorem dX8_heir_23 : decode cX8_heir 23 = .ok (.getfield 82, 3) := by decide +kernel
theorem dX8_heir_26 : decode cX8_heir 26 = .ok (.bipush 6, 2) := by decide +kernel
theorem dX8_heir_28 : decode cX8_heir 28 = .ok (.if_icmp .ne 6, 3) := by decide +kernel
theorem dX8_heir_31 : decode cX8_heir 31 = .ok (.bipush (-4), 2) := by decide +kernel
theorem dX8_heir_33 : decode cX8_heir 33 = .ok (.ireturn, 1) := by decide +kernel
theorem dX8_heir_34 : decode cX8_heir 34 = .ok (.aload_n 0, 1) := by decide +kernel
theorem dX8_heir_35 : decode cX8_heir 35 = .ok (.getfield 7, 3) := by decide +kernel
theorem dX8_heir_38 : decode cX8_heir 38 = .ok (.aload_n 0, 1) := by decide +kernel
theorem dX8_heir_39 : decode cX8_heir 39 = .ok (.getfield 82, 3) := by decide +kernel
theorem dX8_heir_42 : decode cX8_heir 42 = .ok (.iload_n 1, 1) := by decide +kernel
theorem dX8_heir_43 : decode cX8_heir 43 = .ok (.iastore, 1) := by decide +kernel
theorem dX8_heir_44 : decode cX8_heir 44 = .ok (.aload_n 0, 1) := by decide +kernel
theorem dX8_heir_45 : decode cX8_heir 45 = .ok (.getfield 13, 3) := by decide +kernel
theorem dX8_heir_48 : decode cX8_heir 48 = .ok (.aload_n 0, 1) := by decide +kernel
theorem dX8_heir_49 : decode cX8_heir 49 = .ok (.getfield 82, 3) := by decide +kernel
theorem dX8_heir_52 : decode cX8_heir 52 = .ok (.iload_n 2, 1) := by decide +kernel
theorem dX8_heir_53 : decode cX8_heir 53 = .ok (.iastore, 1) := by decide +kernel
theorem dX8_heir_54 : decode cX8_heir 54 = .ok (.aload_n 0, 1) := by decide +kernel
theorem dX8_heir_55 : decode cX8_heir 55 = .ok (.getfield 16, 3) := by decide +kernel
theorem dX8_heir_58 : decode cX8_heir 58 = .ok (.aload_n 0, 1) := by decide +kernel
theorem dX8_heir_59 : decode cX8_heir 59 = .ok (.getfield 82, 3) := by decide +kernel
theorem dX8_heir_62 : decode cX8_heir 62 = .ok (.iconst 0, 1) := by decide +kernel
theorem dX8_heir_63 : decode cX8_heir 63 = .ok (.iastore, 1) := by decide +kernel
theorem dX8_heir_64 : decode cX8_heir 64 = .ok (.aload_n 0, 1) := by decide +kernel
theorem dX8_heir_65 : decode cX8_heir 65 = .ok (.dup, 1) := by decide +kernel
theorem dX8_heir_66 : decode cX8_heir 66 = .ok (.getfield 82, 3) := by decide +kernel
theorem dX8_heir_69 : decode cX8_heir 69 = .ok (.dup_x1, 1) := by decide +kernel
theorem dX8_heir_70 : decode cX8_heir 70 = .ok (.iconst 1, 1) := by decide +kernel
theorem dX8_heir_71 : decode cX8_heir 71 = .ok (.iadd, 1) := by decide +kernel
theorem dX8_heir_72 : decode cX8_heir 72 = .ok (.putfield 82, 3) := by decide +kernel
theorem dX8_heir_75 : decode cX8_heir 75 = .ok (.ireturn, 1) := by decide +kernel
theorem dX8_give_0 : decode cX8_give 0 = .ok (.aload_n 0, 1) := by decide +kernel
theorem dX8_give_1 : decode cX8_give 1 = .ok (.iload_n 1, 1) := by decide +kernel
theorem dX8_give_2 : decode cX8_give 2 = .ok (.iload_n 2, 1) := by decide +kernel
theorem dX8_give_3 : decode cX8_give 3 = .ok (.invokevirtual 112, 3) := by decide +kernel
theorem dX8_give_6 : decode cX8_give 6 = .ok (.ifCond .eq 10, 3) := by decide +kernel
theorem dX8_give_9 : decode cX8_give 9 = .ok (.iload_n 3, 1) := by decide +kernel
theorem dX8_give_10 : decode cX8_give 10 = .ok (.invokestatic 115, 3) := by decide +kernel
theorem dX8_give_13 : decode cX8_give 13 = .ok (.ifCond .ne 6, 3) := by decide +kernel
theorem dX8_give_16 : decode cX8_give 16 = .ok (.bipush (-2), 2) := by decide +kernel
theorem dX8_give_18 : decode cX8_give 18 = .ok (.ireturn, 1) := by decide +kernel
theorem dX8_give_19 : decode cX8_give 19 = .ok (.aload_n 0, 1) := by decide +kernel
theorem dX8_give_20 : decode cX8_give 20 = .ok (.getfield 16, 3) := by decide +kernel
theorem dX8_give_23 : decode cX8_give 23 = .ok (.iload_n 1, 1) := by decide +kernel
theorem dX8_give_24 : decode cX8_give 24 = .ok (.iaload, 1) := by decide +kernel
theorem dX8_give_25 : decode cX8_give 25 = .ok (.iload_n 3, 1) := by decide +kernel
theorem dX8_give_26 : decode cX8_give 26 = .ok (.iconst 1, 1) := by decide +kernel
theorem dX8_give_27 : decode cX8_give 27 = .ok (.isub, 1) := by decide +kernel
theorem dX8_give_28 : decode cX8_give 28 = .ok (.invokestatic 118, 3) := by decide +kernel
theorem dX8_give_31 : decode cX8_give 31 = .ok (.ifCond .eq 18, 3) := by decide +kernel
theorem dX8_give_34 : decode cX8_give 34 = .ok (.aload_n 0, 1) := by decide +kernel
theorem dX8_give_35 : decode cX8_give 35 = .ok (.getfield 16, 3) := by decide +kernel
theorem dX8_give_38 : decode cX8_give 38 = .ok (.iload_n 2, 1) := by decide +kernel
theorem dX8_give_39 : decode cX8_give 39 = .ok (.iaload, 1) := by decide +kernel
theorem dX8_give_40 : decode cX8_give 40 = .ok (.iload_n 3, 1) := by decide +kernel
theorem dX8_give_41 : decode cX8_give 41 = .ok (.iconst 1, 1) := by decide +kernel
theorem dX8_give_42 : decode cX8_give 42 = .ok (.isub, 1) := by decide +kernel
theorem dX8_give_43 : decode cX8_give 43 = .ok (.invokestatic 118, 3) := by decide +kernel
theorem dX8_give_46 : decode cX8_give 46 = .ok (.ifCond .eq 6, 3) := by decide +kernel
theorem dX8_give_49 : decode cX8_give 49 = .ok (.bipush (-3), 2) := by decide +kernel
theorem dX8_give_51 : decode cX8_give 51 = .ok (.ireturn, 1) := by decide +kernel
theorem dX8_give_52 : decode cX8_give 52 = .ok (.aload_n 0, 1) := by decide +kernel
theorem dX8_give_53 : decode cX8_give 53 = .ok (.getfield 16, 3) := by decide +kernel
theorem dX8_give_56 : decode cX8_give 56 = .ok (.iload_n 1, 1) := by decide +kernel
theorem dX8_give_57 : decode cX8_give 57 = .ok (.dup2, 1) := by decide +kernel
theorem dX8_give_58 : decode cX8_give 58 = .ok (.iaload, 1) := by decide +kernel
theorem dX8_give_59 : decode cX8_give 59 = .ok (.iconst 1, 1) := by decide +kernel
theorem dX8_give_60 : decode cX8_give 60 = .ok (.iload_n 3, 1) := by decide +kernel
theorem dX8_give_61 : decode cX8_give 61 = .ok (.iconst 1, 1) := by decide +kernel
theorem dX8_give_62 : decode cX8_give 62 = .ok (.isub, 1) := by decide +kernel
theorem dX8_give_63 : decode cX8_give 63 = .ok (.ishl, 1) := by decide +kernel
theorem dX8_give_64 : decode cX8_give 64 = .ok (.isub, 1) := by decide +kernel
theorem dX8_give_65 : decode cX8_give 65 = .ok (.iastore, 1) := by decide +kernel
