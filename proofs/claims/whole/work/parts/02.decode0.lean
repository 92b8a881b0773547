theorem dX0_init_0 : decode cX0_init 0 = .ok (.aload_n 0, 1) := by decide +kernel
theorem dX0_init_1 : decode cX0_init 1 = .ok (.invokespecial 3, 3) := by decide +kernel
theorem dX0_init_4 : decode cX0_init 4 = .ok (.return_, 1) := by decide +kernel
theorem dX0_become_0 : decode cX0_become 0 = .ok (.aload_n 0, 1) := by decide +kernel
theorem dX0_become_1 : decode cX0_become 1 = .ok (.aload_n 1, 1) := by decide +kernel
theorem dX0_become_2 : decode cX0_become 2 = .ok (.getfield 9, 3) := by decide +kernel
theorem dX0_become_5 : decode cX0_become 5 = .ok (.putfield 9, 3) := by decide +kernel
theorem dX0_become_8 : decode cX0_become 8 = .ok (.aload_n 0, 1) := by decide +kernel
theorem dX0_become_9 : decode cX0_become 9 = .ok (.aload_n 1, 1) := by decide +kernel
theorem dX0_become_10 : decode cX0_become 10 = .ok (.getfield 15, 3) := by decide +kernel
theorem dX0_become_13 : decode cX0_become 13 = .ok (.putfield 15, 3) := by decide +kernel
theorem dX0_become_16 : decode cX0_become 16 = .ok (.aload_n 0, 1) := by decide +kernel
theorem dX0_become_17 : decode cX0_become 17 = .ok (.aload_n 1, 1) := by decide +kernel
theorem dX0_become_18 : decode cX0_become 18 = .ok (.getfield 18, 3) := by decide +kernel
theorem dX0_become_21 : decode cX0_become 21 = .ok (.putfield 18, 3) := by decide +kernel
theorem dX0_become_24 : decode cX0_become 24 = .ok (.aload_n 0, 1) := by decide +kernel
theorem dX0_become_25 : decode cX0_become 25 = .ok (.aload_n 1, 1) := by decide +kernel
theorem dX0_become_26 : decode cX0_become 26 = .ok (.getfield 21, 3) := by decide +kernel
theorem dX0_become_29 : decode cX0_become 29 = .ok (.putfield 21, 3) := by decide +kernel
theorem dX0_become_32 : decode cX0_become 32 = .ok (.return_, 1) := by decide +kernel
theorem dX0_sayable_0 : decode cX0_sayable 0 = .ok (.aload_n 0, 1) := by decide +kernel
theorem dX0_sayable_1 : decode cX0_sayable 1 = .ok (.getfield 15, 3) := by decide +kernel
theorem dX0_sayable_4 : decode cX0_sayable 4 = .ok (.tableswitch 119 1 5 #[36, 46, 56, 71, 103], 36) := by decide +kernel
theorem dX0_sayable_40 : decode cX0_sayable 40 = .ok (.aload_n 0, 1) := by decide +kernel
theorem dX0_sayable_41 : decode cX0_sayable 41 = .ok (.getfield 21, 3) := by decide +kernel
theorem dX0_sayable_44 : decode cX0_sayable 44 = .ok (.aload_n 0, 1) := by decide +kernel
theorem dX0_sayable_45 : decode cX0_sayable 45 = .ok (.invokevirtual 24, 3) := by decide +kernel
theorem dX0_sayable_48 : decode cX0_sayable 48 = .ok (.ior, 1) := by decide +kernel
theorem dX0_sayable_49 : decode cX0_sayable 49 = .ok (.ireturn, 1) := by decide +kernel
theorem dX0_sayable_50 : decode cX0_sayable 50 = .ok (.aload_n 0, 1) := by decide +kernel
theorem dX0_sayable_51 : decode cX0_sayable 51 = .ok (.getfield 21, 3) := by decide +kernel
theorem dX0_sayable_54 : decode cX0_sayable 54 = .ok (.aload_n 0, 1) := by decide +kernel
theorem dX0_sayable_55 : decode cX0_sayable 55 = .ok (.invokevirtual 28, 3) := by decide +kernel
theorem dX0_sayable_58 : decode cX0_sayable 58 = .ok (.ior, 1) := by decide +kernel
theorem dX0_sayable_59 : decode cX0_sayable 59 = .ok (.ireturn, 1) := by decide +kernel
theorem dX0_sayable_60 : decode cX0_sayable 60 = .ok (.aload_n 0, 1) := by decide +kernel
theorem dX0_sayable_61 : decode cX0_sayable 61 = .ok (.getfield 21, 3) := by decide +kernel
theorem dX0_sayable_64 : decode cX0_sayable 64 = .ok (.aload_n 0, 1) := by decide +kernel
theorem dX0_sayable_65 : decode cX0_sayable 65 = .ok (.invokevirtual 24, 3) := by decide +kernel
theorem dX0_sayable_68 : decode cX0_sayable 68 = .ok (.ior, 1) := by decide +kernel
theorem dX0_sayable_69 : decode cX0_sayable 69 = .ok (.aload_n 0, 1) := by decide +kernel
theorem dX0_sayable_70 : decode cX0_sayable 70 = .ok (.invokevirtual 31, 3) := by decide +kernel
theorem dX0_sayable_73 : decode cX0_sayable 73 = .ok (.ior, 1) := by decide +kernel
theorem dX0_sayable_74 : decode cX0_sayable 74 = .ok (.ireturn, 1) := by decide +kernel
theorem dX0_sayable_75 : decode cX0_sayable 75 = .ok (.aload_n 0, 1) := by decide +kernel
theorem dX0_sayable_76 : decode cX0_sayable 76 = .ok (.getfield 21, 3) := by decide +kernel
theorem dX0_sayable_79 : decode cX0_sayable 79 = .ok (.aload_n 0, 1) := by decide +kernel
theorem dX0_sayable_80 : decode cX0_sayable 80 = .ok (.invokevirtual 28, 3) := by decide +kernel
theorem dX0_sayable_83 : decode cX0_sayable 83 = .ok (.ior, 1) := by decide +kernel
theorem dX0_sayable_84 : decode cX0_sayable 84 = .ok (.aload_n 0, 1) := by decide +kernel
theorem dX0_sayable_85 : decode cX0_sayable 85 = .ok (.getfield 18, 3) := by decide +kernel
theorem dX0_sayable_88 : decode cX0_sayable 88 = .ok (.invokestatic 34, 3) := by decide +kernel
theorem dX0_sayable_91 : decode cX0_sayable 91 = .ok (.ifCond .eq 13, 3) := by decide +kernel
theorem dX0_sayable_94 : decode cX0_sayable 94 = .ok (.aload_n 0, 1) := by decide +kernel
theorem dX0_sayable_95 : decode cX0_sayable 95 = .ok (.getfield 18, 3) := by decide +kernel
theorem dX0_sayable_98 : decode cX0_sayable 98 = .ok (.invokestatic 38, 3) := by decide +kernel
theorem dX0_sayable_101 : decode cX0_sayable 101 = .ok (.goto 4, 3) := by decide +kernel
theorem dX0_sayable_104 : decode cX0_sayable 104 = .ok (.iconst 0, 1) := by decide +kernel
theorem dX0_sayable_105 : decode cX0_sayable 105 = .ok (.ior, 1) := by decide +kernel
theorem dX0_sayable_106 : decode cX0_sayable 106 = .ok (.ireturn, 1) := by decide +kernel
theorem dX0_sayable_107 : decode cX0_sayable 107 = .ok (.aload_n 0, 1) := by decide +kernel
theorem dX0_sayable_108 : decode cX0_sayable 108 = .ok (.getfield 21, 3) := by decide +kernel
theorem dX0_sayable_111 : decode cX0_sayable 111 = .ok (.bipush 20, 2) := by decide +kernel
theorem dX0_sayable_113 : decode cX0_sayable 113 = .ok (.aload_n 0, 1) := by decide +kernel
theorem dX0_sayable_114 : decode cX0_sayable 114 = .ok (.getfield 18, 3) := by decide +kernel
theorem dX0_sayable_117 : decode cX0_sayable 117 = .ok (.iadd, 1) := by decide +kernel
theorem dX0_sayable_118 : decode cX0_sayable 118 = .ok (.invokestatic 42, 3) := by decide +kernel
theorem dX0_sayable_121 : decode cX0_sayable 121 = .ok (.ior, 1) := by decide +kernel
theorem dX0_sayable_122 : decode cX0_sayable 122 = .ok (.ireturn, 1) := by decide +kernel
theorem dX0_sayable_123 : decode cX0_sayable 123 = .ok (.aload_n 0, 1) := by decide +kernel
theorem dX0_sayable_124 : decode cX0_sayable 124 = .ok (.getfield 21, 3) := by decide +kernel
theorem dX0_sayable_127 : decode cX0_sayable 127 = .ok (.ireturn, 1) := by decide +kernel
theorem dX0_costsFor_0 : decode cX0_costsFor 0 = .ok (.aload_n 0, 1) := by decide +kernel
theorem dX0_costsFor_1 : decode cX0_costsFor 1 = .ok (.getfield 15, 3) := by decide +kernel
theorem dX0_costsFor_4 : decode cX0_costsFor 4 = .ok (.tableswitch 57 1 5 #[36, 40, 47, 40, 53], 36) := by decide +kernel
theorem dX0_costsFor_40 : decode cX0_costsFor 40 = .ok (.iload_n 1, 1) := by decide +kernel
theorem dX0_costsFor_41 : decode cX0_costsFor 41 = .ok (.iconst 1, 1) := by decide +kernel
theorem dX0_costsFor_42 : decode cX0_costsFor 42 = .ok (.iadd, 1) := by decide +kernel
theorem dX0_costsFor_43 : decode cX0_costsFor 43 = .ok (.ireturn, 1) := by decide +kernel
theorem dX0_costsFor_44 : decode cX0_costsFor 44 = .ok (.iload_n 1, 1) := by decide +kernel
theorem dX0_costsFor_45 : decode cX0_costsFor 45 = .ok (.aload_n 0, 1) := by decide +kernel
theorem dX0_costsFor_46 : decode cX0_costsFor 46 = .ok (.getfield 18, 3) := by decide +kernel
theorem dX0_costsFor_49 : decode cX0_costsFor 49 = .ok (.iadd, 1) := by decide +kernel
theorem dX0_costsFor_50 : decode cX0_costsFor 50 = .ok (.ireturn, 1) := by decide +kernel
theorem dX0_costsFor_51 : decode cX0_costsFor 51 = .ok (.iload_n 1, 1) := by decide +kernel
theorem dX0_costsFor_52 : decode cX0_costsFor 52 = .ok (.iconst 1, 1) := by decide +kernel
theorem dX0_costsFor_53 : decode cX0_costsFor 53 = .ok (.iadd, 1) := by decide +kernel
theorem dX0_costsFor_54 : decode cX0_costsFor 54 = .ok (.iconst 2, 1) := by decide +kernel
theorem dX0_costsFor_55 : decode cX0_costsFor 55 = .ok (.idiv, 1) := by decide +kernel
theorem dX0_costsFor_56 : decode cX0_costsFor 56 = .ok (.ireturn, 1) := by decide +kernel
theorem dX0_costsFor_57 : decode cX0_costsFor 57 = .ok (.iconst 2, 1) := by decide +kernel
theorem dX0_costsFor_58 : decode cX0_costsFor 58 = .ok (.iload_n 1, 1) := by decide +kernel
theorem dX0_costsFor_59 : decode cX0_costsFor 59 = .ok (.imul, 1) := by decide +kernel
theorem dX0_costsFor_60 : decode cX0_costsFor 60 = .ok (.ireturn, 1) := by decide +kernel
theorem dX0_costsFor_61 : decode cX0_costsFor 61 = .ok (.iload_n 1, 1) := by decide +kernel
theorem dX0_costsFor_62 : decode cX0_costsFor 62 = .ok (.ireturn, 1) := by decide +kernel
theorem dX0_sums_0 : decode cX0_sums 0 = .ok (.iconst 0, 1) := by decide +kernel
theorem dX0_sums_1 : decode cX0_sums 1 = .ok (.istore_n 1, 1) := by decide +kernel
theorem dX0_sums_2 : decode cX0_sums 2 = .ok (.iconst 1, 1) := by decide +kernel
theorem dX0_sums_3 : decode cX0_sums 3 = .ok (.istore_n 2, 1) := by decide +kernel
theorem dX0_sums_4 : decode cX0_sums 4 = .ok (.iload_n 2, 1) := by decide +kernel
theorem dX0_sums_5 : decode cX0_sums 5 = .ok (.bipush 30, 2) := by decide +kernel
theorem dX0_sums_7 : decode cX0_sums 7 = .ok (.if_icmp .gt 33, 3) := by decide +kernel
theorem dX0_sums_10 : decode cX0_sums 10 = .ok (.iload_n 1, 1) := by decide +kernel
theorem dX0_sums_11 : decode cX0_sums 11 = .ok (.aload_n 0, 1) := by decide +kernel
theorem dX0_sums_12 : decode cX0_sums 12 = .ok (.getfield 21, 3) := by decide +kernel
theorem dX0_sums_15 : decode cX0_sums 15 = .ok (.iload_n 2, 1) := by decide +kernel
theorem dX0_sums_16 : decode cX0_sums 16 = .ok (.invokestatic 45, 3) := by decide +kernel
theorem dX0_sums_19 : decode cX0_sums 19 = .ok (.ifCond .eq 12, 3) := by decide +kernel
theorem dX0_sums_22 : decode cX0_sums 22 = .ok (.aload_n 0, 1) := by decide +kernel
theorem dX0_sums_23 : decode cX0_sums 23 = .ok (.getfield 21, 3) := by decide +kernel
theorem dX0_sums_26 : decode cX0_sums 26 = .ok (.iload_n 2, 1) := by decide +kernel
theorem dX0_sums_27 : decode cX0_sums 27 = .ok (.ishl, 1) := by decide +kernel
theorem dX0_sums_28 : decode cX0_sums 28 = .ok (.goto 4, 3) := by decide +kernel
theorem dX0_sums_31 : decode cX0_sums 31 = .ok (.iconst 0, 1) := by decide +kernel
theorem dX0_sums_32 : decode cX0_sums 32 = .ok (.ior, 1) := by decide +kernel
theorem dX0_sums_33 : decode cX0_sums 33 = .ok (.istore_n 1, 1) := by decide +kernel
theorem dX0_sums_34 : decode cX0_sums 34 = .ok (.iinc 2 1, 3) := by decide +kernel
theorem dX0_sums_37 : decode cX0_sums 37 = .ok (.goto (-33), 3) := by decide +kernel
theorem dX0_sums_40 : decode cX0_sums 40 = .ok (.iload_n 1, 1) := by decide +kernel
theorem dX0_sums_41 : decode cX0_sums 41 = .ok (.ldc 49, 2) := by decide +kernel
theorem dX0_sums_43 : decode cX0_sums 43 = .ok (.iand, 1) := by decide +kernel
theorem dX0_sums_44 : decode cX0_sums 44 = .ok (.ireturn, 1) := by decide +kernel
theorem dX0_rests_0 : decode cX0_rests 0 = .ok (.iconst 0, 1) := by decide +kernel
theorem dX0_rests_1 : decode cX0_rests 1 = .ok (.istore_n 1, 1) := by decide +kernel
theorem dX0_rests_2 : decode cX0_rests 2 = .ok (.iconst 1, 1) := by decide +kernel
theorem dX0_rests_3 : decode cX0_rests 3 = .ok (.istore_n 2, 1) := by decide +kernel
theorem dX0_rests_4 : decode cX0_rests 4 = .ok (.iload_n 2, 1) := by decide +kernel
theorem dX0_rests_5 : decode cX0_rests 5 = .ok (.bipush 30, 2) := by decide +kernel
theorem dX0_rests_7 : decode cX0_rests 7 = .ok (.if_icmp .gt 33, 3) := by decide +kernel
theorem dX0_rests_10 : decode cX0_rests 10 = .ok (.iload_n 1, 1) := by decide +kernel
theorem dX0_rests_11 : decode cX0_rests 11 = .ok (.aload_n 0, 1) := by decide +kernel
theorem dX0_rests_12 : decode cX0_rests 12 = .ok (.getfield 21, 3) := by decide +kernel
theorem dX0_rests_15 : decode cX0_rests 15 = .ok (.iload_n 2, 1) := by decide +kernel
theorem dX0_rests_16 : decode cX0_rests 16 = .ok (.invokestatic 45, 3) := by decide +kernel
theorem dX0_rests_19 : decode cX0_rests 19 = .ok (.ifCond .eq 12, 3) := by decide +kernel
theorem dX0_rests_22 : decode cX0_rests 22 = .ok (.aload_n 0, 1) := by decide +kernel
theorem dX0_rests_23 : decode cX0_rests 23 = .ok (.getfield 21, 3) := by decide +kernel
theorem dX0_rests_26 : decode cX0_rests 26 = .ok (.iload_n 2, 1) := by decide +kernel
theorem dX0_rests_27 : decode cX0_rests 27 = .ok (.ishr, 1) := by decide +kernel
theorem dX0_rests_28 : decode cX0_rests 28 = .ok (.goto 4, 3) := by decide +kernel
theorem dX0_rests_31 : decode cX0_rests 31 = .ok (.iconst 0, 1) := by decide +kernel
theorem dX0_rests_32 : decode cX0_rests 32 = .ok (.ior, 1) := by decide +kernel
theorem dX0_rests_33 : decode cX0_rests 33 = .ok (.istore_n 1, 1) := by decide +kernel
theorem dX0_rests_34 : decode cX0_rests 34 = .ok (.iinc 2 1, 3) := by decide +kernel
theorem dX0_rests_37 : decode cX0_rests 37 = .ok (.goto (-33), 3) := by decide +kernel
theorem dX0_rests_40 : decode cX0_rests 40 = .ok (.iload_n 1, 1) := by decide +kernel
theorem dX0_rests_41 : decode cX0_rests 41 = .ok (.ireturn, 1) := by decide +kernel
theorem dX0_halves_0 : decode cX0_halves 0 = .ok (.iconst 0, 1) := by decide +kernel
theorem dX0_halves_1 : decode cX0_halves 1 = .ok (.istore_n 1, 1) := by decide +kernel
theorem dX0_halves_2 : decode cX0_halves 2 = .ok (.iconst 1, 1) := by decide +kernel
theorem dX0_halves_3 : decode cX0_halves 3 = .ok (.istore_n 2, 1) := by decide +kernel
theorem dX0_halves_4 : decode cX0_halves 4 = .ok (.iconst 2, 1) := by decide +kernel
theorem dX0_halves_5 : decode cX0_halves 5 = .ok (.iload_n 2, 1) := by decide +kernel
theorem dX0_halves_6 : decode cX0_halves 6 = .ok (.imul, 1) := by decide +kernel
theorem dX0_halves_7 : decode cX0_halves 7 = .ok (.bipush 30, 2) := by decide +kernel
theorem dX0_halves_9 : decode cX0_halves 9 = .ok (.if_icmp .gt 33, 3) := by decide +kernel
theorem dX0_halves_12 : decode cX0_halves 12 = .ok (.iload_n 1, 1) := by decide +kernel
theorem dX0_halves_13 : decode cX0_halves 13 = .ok (.aload_n 0, 1) := by decide +kernel
theorem dX0_halves_14 : decode cX0_halves 14 = .ok (.getfield 21, 3) := by decide +kernel
theorem dX0_halves_17 : decode cX0_halves 17 = .ok (.iconst 2, 1) := by decide +kernel
theorem dX0_halves_18 : decode cX0_halves 18 = .ok (.iload_n 2, 1) := by decide +kernel
theorem dX0_halves_19 : decode cX0_halves 19 = .ok (.imul, 1) := by decide +kernel
theorem dX0_halves_20 : decode cX0_halves 20 = .ok (.invokestatic 45, 3) := by decide +kernel
theorem dX0_halves_23 : decode cX0_halves 23 = .ok (.ifCond .eq 10, 3) := by decide +kernel
theorem dX0_halves_26 : decode cX0_halves 26 = .ok (.iload_n 2, 1) := by decide +kernel
theorem dX0_halves_27 : decode cX0_halves 27 = .ok (.invokestatic 38, 3) := by decide +kernel
theorem dX0_halves_30 : decode cX0_halves 30 = .ok (.goto 4, 3) := by decide +kernel
theorem dX0_halves_33 : decode cX0_halves 33 = .ok (.iconst 0, 1) := by decide +kernel
theorem dX0_halves_34 : decode cX0_halves 34 = .ok (.ior, 1) := by decide +kernel
theorem dX0_halves_35 : decode cX0_halves 35 = .ok (.istore_n 1, 1) := by decide +kernel
theorem dX0_halves_36 : decode cX0_halves 36 = .ok (.iinc 2 1, 3) := by decide +kernel
theorem dX0_halves_39 : decode cX0_halves 39 = .ok (.goto (-35), 3) := by decide +kernel
theorem dX0_halves_42 : decode cX0_halves 42 = .ok (.iload_n 1, 1) := by decide +kernel
theorem dX0_halves_43 : decode cX0_halves 43 = .ok (.ireturn, 1) := by decide +kernel
theorem dX0_above_0 : decode cX0_above 0 = .ok (.iconst 0, 1) := by decide +kernel
theorem dX0_above_1 : decode cX0_above 1 = .ok (.istore_n 1, 1) := by decide +kernel
theorem dX0_above_2 : decode cX0_above 2 = .ok (.iload_n 0, 1) := by decide +kernel
theorem dX0_above_3 : decode cX0_above 3 = .ok (.iconst 1, 1) := by decide +kernel
theorem dX0_above_4 : decode cX0_above 4 = .ok (.iadd, 1) := by decide +kernel
theorem dX0_above_5 : decode cX0_above 5 = .ok (.istore_n 2, 1) := by decide +kernel
theorem dX0_above_6 : decode cX0_above 6 = .ok (.iload_n 2, 1) := by decide +kernel
theorem dX0_above_7 : decode cX0_above 7 = .ok (.bipush 30, 2) := by decide +kernel
theorem dX0_above_9 : decode cX0_above 9 = .ok (.if_icmp .gt 16, 3) := by decide +kernel
theorem dX0_above_12 : decode cX0_above 12 = .ok (.iload_n 1, 1) := by decide +kernel
theorem dX0_above_13 : decode cX0_above 13 = .ok (.iload_n 2, 1) := by decide +kernel
theorem dX0_above_14 : decode cX0_above 14 = .ok (.invokestatic 38, 3) := by decide +kernel
theorem dX0_above_17 : decode cX0_above 17 = .ok (.ior, 1) := by decide +kernel
theorem dX0_above_18 : decode cX0_above 18 = .ok (.istore_n 1, 1) := by decide +kernel
theorem dX0_above_19 : decode cX0_above 19 = .ok (.iinc 2 1, 3) := by decide +kernel
theorem dX0_above_22 : decode cX0_above 22 = .ok (.goto (-16), 3) := by decide +kernel
theorem dX0_above_25 : decode cX0_above 25 = .ok (.iload_n 1, 1) := by decide +kernel
theorem dX0_above_26 : decode cX0_above 26 = .ok (.ireturn, 1) := by decide +kernel
theorem dX0_drawOwn_0 : decode cX0_drawOwn 0 = .ok (.iload_n 1, 1) := by decide +kernel
theorem dX0_drawOwn_1 : decode cX0_drawOwn 1 = .ok (.ldc 50, 2) := by decide +kernel
theorem dX0_drawOwn_3 : decode cX0_drawOwn 3 = .ok (.imul, 1) := by decide +kernel
theorem dX0_drawOwn_4 : decode cX0_drawOwn 4 = .ok (.sipush 12345, 3) := by decide +kernel
theorem dX0_drawOwn_7 : decode cX0_drawOwn 7 = .ok (.iadd, 1) := by decide +kernel
theorem dX0_drawOwn_8 : decode cX0_drawOwn 8 = .ok (.istore_n 2, 1) := by decide +kernel
theorem dX0_drawOwn_9 : decode cX0_drawOwn 9 = .ok (.iload_n 2, 1) := by decide +kernel
theorem dX0_drawOwn_10 : decode cX0_drawOwn 10 = .ok (.ldc 50, 2) := by decide +kernel
theorem dX0_drawOwn_12 : decode cX0_drawOwn 12 = .ok (.imul, 1) := by decide +kernel
theorem dX0_drawOwn_13 : decode cX0_drawOwn 13 = .ok (.sipush 12345, 3) := by decide +kernel
theorem dX0_drawOwn_16 : decode cX0_drawOwn 16 = .ok (.iadd, 1) := by decide +kernel
theorem dX0_drawOwn_17 : decode cX0_drawOwn 17 = .ok (.istore_n 3, 1) := by decide +kernel
theorem dX0_drawOwn_18 : decode cX0_drawOwn 18 = .ok (.aload_n 0, 1) := by decide +kernel
theorem dX0_drawOwn_19 : decode cX0_drawOwn 19 = .ok (.iload_n 3, 1) := by decide +kernel
theorem dX0_drawOwn_20 : decode cX0_drawOwn 20 = .ok (.bipush 9, 2) := by decide +kernel
theorem dX0_drawOwn_22 : decode cX0_drawOwn 22 = .ok (.iushr, 1) := by decide +kernel
theorem dX0_drawOwn_23 : decode cX0_drawOwn 23 = .ok (.sipush 1024, 3) := by decide +kernel
theorem dX0_drawOwn_26 : decode cX0_drawOwn 26 = .ok (.irem, 1) := by decide +kernel
theorem dX0_drawOwn_27 : decode cX0_drawOwn 27 = .ok (.sipush 1024, 3) := by decide +kernel
theorem dX0_drawOwn_30 : decode cX0_drawOwn 30 = .ok (.imul, 1) := by decide +kernel
theorem dX0_drawOwn_31 : decode cX0_drawOwn 31 = .ok (.iload_n 2, 1) := by decide +kernel
theorem dX0_drawOwn_32 : decode cX0_drawOwn 32 = .ok (.bipush 9, 2) := by decide +kernel
theorem dX0_drawOwn_34 : decode cX0_drawOwn 34 = .ok (.iushr, 1) := by decide +kernel
theorem dX0_drawOwn_35 : decode cX0_drawOwn 35 = .ok (.sipush 1024, 3) := by decide +kernel
theorem dX0_drawOwn_38 : decode cX0_drawOwn 38 = .ok (.irem, 1) := by decide +kernel
theorem dX0_drawOwn_39 : decode cX0_drawOwn 39 = .ok (.iadd, 1) := by decide +kernel
theorem dX0_drawOwn_40 : decode cX0_drawOwn 40 = .ok (.putfield 21, 3) := by decide +kernel
theorem dX0_drawOwn_43 : decode cX0_drawOwn 43 = .ok (.iload_n 3, 1) := by decide +kernel
theorem dX0_drawOwn_44 : decode cX0_drawOwn 44 = .ok (.ireturn, 1) := by decide +kernel
theorem dX1_init_0 : decode cX1_init 0 = .ok (.aload_n 0, 1) := by decide +kernel
theorem dX1_init_1 : decode cX1_init 1 = .ok (.invokespecial 3, 3) := by decide +kernel
theorem dX1_init_4 : decode cX1_init 4 = .ok (.aload_n 0, 1) := by decide +kernel
theorem dX1_init_5 : decode cX1_init 5 = .ok (.iconst (-1), 1) := by decide +kernel
theorem dX1_init_6 : decode cX1_init 6 = .ok (.putfield 9, 3) := by decide +kernel
theorem dX1_init_9 : decode cX1_init 9 = .ok (.aload_n 0, 1) := by decide +kernel
theorem dX1_init_10 : decode cX1_init 10 = .ok (.bipush 6, 2) := by decide +kernel
theorem dX1_init_12 : decode cX1_init 12 = .ok (.newarray .int, 2) := by decide +kernel
theorem dX1_init_14 : decode cX1_init 14 = .ok (.putfield 15, 3) := by decide +kernel
theorem dX1_init_17 : decode cX1_init 17 = .ok (.aload_n 0, 1) := by decide +kernel
theorem dX1_init_18 : decode cX1_init 18 = .ok (.bipush 6, 2) := by decide +kernel
theorem dX1_init_20 : decode cX1_init 20 = .ok (.newarray .int, 2) := by decide +kernel
theorem dX1_init_22 : decode cX1_init 22 = .ok (.putfield 19, 3) := by decide +kernel
theorem dX1_init_25 : decode cX1_init 25 = .ok (.return_, 1) := by decide +kernel
theorem dX2_init_0 : decode cX2_init 0 = .ok (.aload_n 0, 1) := by decide +kernel
theorem dX2_init_1 : decode cX2_init 1 = .ok (.invokespecial 3, 3) := by decide +kernel
theorem dX2_init_4 : decode cX2_init 4 = .ok (.aload_n 0, 1) := by decide +kernel
theorem dX2_init_5 : decode cX2_init 5 = .ok (.new 9, 3) := by decide +kernel
theorem dX2_init_8 : decode cX2_init 8 = .ok (.dup, 1) := by decide +kernel
theorem dX2_init_9 : decode cX2_init 9 = .ok (.invokespecial 11, 3) := by decide +kernel
theorem dX2_init_12 : decode cX2_init 12 = .ok (.putfield 12, 3) := by decide +kernel
theorem dX2_init_15 : decode cX2_init 15 = .ok (.aload_n 0, 1) := by decide +kernel
theorem dX2_init_16 : decode cX2_init 16 = .ok (.bipush 6, 2) := by decide +kernel
theorem dX2_init_18 : decode cX2_init 18 = .ok (.sipush 160, 3) := by decide +kernel
theorem dX2_init_21 : decode cX2_init 21 = .ok (.multianewarray 18 2, 4) := by decide +kernel
theorem dX2_init_25 : decode cX2_init 25 = .ok (.putfield 20, 3) := by decide +kernel
theorem dX2_init_28 : decode cX2_init 28 = .ok (.aload_n 0, 1) := by decide +kernel
theorem dX2_init_29 : decode cX2_init 29 = .ok (.bipush 6, 2) := by decide +kernel
theorem dX2_init_31 : decode cX2_init 31 = .ok (.iconst 3, 1) := by decide +kernel
theorem dX2_init_32 : decode cX2_init 32 = .ok (.multianewarray 18 2, 4) := by decide +kernel
theorem dX2_init_36 : decode cX2_init 36 = .ok (.putfield 23, 3) := by decide +kernel
theorem dX2_init_39 : decode cX2_init 39 = .ok (.aload_n 0, 1) := by decide +kernel
theorem dX2_init_40 : decode cX2_init 40 = .ok (.bipush 6, 2) := by decide +kernel
theorem dX2_init_42 : decode cX2_init 42 = .ok (.newarray .int, 2) := by decide +kernel
theorem dX2_init_44 : decode cX2_init 44 = .ok (.putfield 26, 3) := by decide +kernel
theorem dX2_init_47 : decode cX2_init 47 = .ok (.aload_n 0, 1) := by decide +kernel
theorem dX2_init_48 : decode cX2_init 48 = .ok (.bipush 64, 2) := by decide +kernel
theorem dX2_init_50 : decode cX2_init 50 = .ok (.newarray .int, 2) := by decide +kernel
theorem dX2_init_52 : decode cX2_init 52 = .ok (.putfield 30, 3) := by decide +kernel
theorem dX2_init_55 : decode cX2_init 55 = .ok (.iconst 0, 1) := by decide +kernel
theorem dX2_init_56 : decode cX2_init 56 = .ok (.istore_n 1, 1) := by decide +kernel
theorem dX2_init_57 : decode cX2_init 57 = .ok (.iload_n 1, 1) := by decide +kernel
theorem dX2_init_58 : decode cX2_init 58 = .ok (.ldc 33, 2) := by decide +kernel
theorem dX2_init_60 : decode cX2_init 60 = .ok (.invokevirtual 35, 3) := by decide +kernel
theorem dX2_init_63 : decode cX2_init 63 = .ok (.if_icmp .ge 23, 3) := by decide +kernel
theorem dX2_init_66 : decode cX2_init 66 = .ok (.aload_n 0, 1) := by decide +kernel
theorem dX2_init_67 : decode cX2_init 67 = .ok (.getfield 12, 3) := by decide +kernel
theorem dX2_init_70 : decode cX2_init 70 = .ok (.ldc 33, 2) := by decide +kernel
theorem dX2_init_72 : decode cX2_init 72 = .ok (.iload_n 1, 1) := by decide +kernel
theorem dX2_init_73 : decode cX2_init 73 = .ok (.invokevirtual 41, 3) := by decide +kernel
theorem dX2_init_76 : decode cX2_init 76 = .ok (.invokevirtual 45, 3) := by decide +kernel
theorem dX2_init_79 : decode cX2_init 79 = .ok (.pop, 1) := by decide +kernel
theorem dX2_init_80 : decode cX2_init 80 = .ok (.iinc 1 1, 3) := by decide +kernel
theorem dX2_init_83 : decode cX2_init 83 = .ok (.goto (-26), 3) := by decide +kernel
theorem dX2_init_86 : decode cX2_init 86 = .ok (.aload_n 0, 1) := by decide +kernel
theorem dX2_init_87 : decode cX2_init 87 = .ok (.invokevirtual 49, 3) := by decide +kernel
theorem dX2_init_90 : decode cX2_init 90 = .ok (.pop, 1) := by decide +kernel
theorem dX2_init_91 : decode cX2_init 91 = .ok (.return_, 1) := by decide +kernel
theorem dX2_readText_0 : decode cX2_readText 0 = .ok (.aload_n 0, 1) := by decide +kernel
theorem dX2_readText_1 : decode cX2_readText 1 = .ok (.getfield 52, 3) := by decide +kernel
theorem dX2_readText_4 : decode cX2_readText 4 = .ok (.ifCond .lt 12, 3) := by decide +kernel
theorem dX2_readText_7 : decode cX2_readText 7 = .ok (.aload_n 0, 1) := by decide +kernel
theorem dX2_readText_8 : decode cX2_readText 8 = .ok (.getfield 52, 3) := by decide +kernel
theorem dX2_readText_11 : decode cX2_readText 11 = .ok (.bipush 6, 2) := by decide +kernel
theorem dX2_readText_13 : decode cX2_readText 13 = .ok (.if_icmp .lt 5, 3) := by decide +kernel
theorem dX2_readText_16 : decode cX2_readText 16 = .ok (.iconst 0, 1) := by decide +kernel
theorem dX2_readText_17 : decode cX2_readText 17 = .ok (.ireturn, 1) := by decide +kernel
theorem dX2_readText_18 : decode cX2_readText 18 = .ok (.aload_n 0, 1) := by decide +kernel
theorem dX2_readText_19 : decode cX2_readText 19 = .ok (.getfield 12, 3) := by decide +kernel
theorem dX2_readText_22 : decode cX2_readText 22 = .ok (.aload_n 0, 1) := by decide +kernel
theorem dX2_readText_23 : decode cX2_readText 23 = .ok (.getfield 20, 3) := by decide +kernel
theorem dX2_readText_26 : decode cX2_readText 26 = .ok (.aload_n 0, 1) := by decide +kernel
theorem dX2_readText_27 : decode cX2_readText 27 = .ok (.getfield 52, 3) := by decide +kernel
theorem dX2_readText_30 : decode cX2_readText 30 = .ok (.aaload, 1) := by decide +kernel
theorem dX2_readText_31 : decode cX2_readText 31 = .ok (.aload_n 0, 1) := by decide +kernel
theorem dX2_readText_32 : decode cX2_readText 32 = .ok (.getfield 23, 3) := by decide +kernel
theorem dX2_readText_35 : decode cX2_readText 35 = .ok (.aload_n 0, 1) := by decide +kernel
theorem dX2_readText_36 : decode cX2_readText 36 = .ok (.getfield 52, 3) := by decide +kernel
theorem dX2_readText_39 : decode cX2_readText 39 = .ok (.aaload, 1) := by decide +kernel
theorem dX2_readText_40 : decode cX2_readText 40 = .ok (.invokevirtual 56, 3) := by decide +kernel
theorem dX2_readText_43 : decode cX2_readText 43 = .ok (.istore_n 1, 1) := by decide +kernel
theorem dX2_readText_44 : decode cX2_readText 44 = .ok (.iload_n 1, 1) := by decide +kernel
theorem dX2_readText_45 : decode cX2_readText 45 = .ok (.iconst (-1), 1) := by decide +kernel
theorem dX2_readText_46 : decode cX2_readText 46 = .ok (.if_icmp .ne 13, 3) := by decide +kernel
theorem dX2_readText_49 : decode cX2_readText 49 = .ok (.aload_n 0, 1) := by decide +kernel
theorem dX2_readText_50 : decode cX2_readText 50 = .ok (.dup, 1) := by decide +kernel
theorem dX2_readText_51 : decode cX2_readText 51 = .ok (.getfield 52, 3) := by decide +kernel
theorem dX2_readText_54 : decode cX2_readText 54 = .ok (.iconst 1, 1) := by decide +kernel
theorem dX2_readText_55 : decode cX2_readText 55 = .ok (.iadd, 1) := by decide +kernel
theorem dX2_readText_56 : decode cX2_readText 56 = .ok (.putfield 52, 3) := by decide +kernel
theorem dX2_readText_59 : decode cX2_readText 59 = .ok (.iload_n 1, 1) := by decide +kernel
theorem dX2_readText_60 : decode cX2_readText 60 = .ok (.ireturn, 1) := by decide +kernel
theorem dX2_costs_0 : decode cX2_costs 0 = .ok (.aload_n 0, 1) := by decide +kernel
theorem dX2_costs_1 : decode cX2_costs 1 = .ok (.aload_n 1, 1) := by decide +kernel
theorem dX2_costs_2 : decode cX2_costs 2 = .ok (.iload_n 2, 1) := by decide +kernel
theorem dX2_costs_3 : decode cX2_costs 3 = .ok (.aload_n 1, 1) := by decide +kernel
theorem dX2_costs_4 : decode cX2_costs 4 = .ok (.getfield 60, 3) := by decide +kernel
theorem dX2_costs_7 : decode cX2_costs 7 = .ok (.iload_n 2, 1) := by decide +kernel
theorem dX2_costs_8 : decode cX2_costs 8 = .ok (.invokestatic 65, 3) := by decide +kernel
theorem dX2_costs_11 : decode cX2_costs 11 = .ok (.invokestatic 69, 3) := by decide +kernel
theorem dX2_costs_14 : decode cX2_costs 14 = .ok (.invokevirtual 73, 3) := by decide +kernel
theorem dX2_costs_17 : decode cX2_costs 17 = .ok (.iconst 1, 1) := by decide +kernel
theorem dX2_costs_18 : decode cX2_costs 18 = .ok (.aload_n 1, 1) := by decide +kernel
theorem dX2_costs_19 : decode cX2_costs 19 = .ok (.aload_n 0, 1) := by decide +kernel
theorem dX2_costs_20 : decode cX2_costs 20 = .ok (.iconst 0, 1) := by decide +kernel
theorem dX2_costs_21 : decode cX2_costs 21 = .ok (.invokevirtual 77, 3) := by decide +kernel
theorem dX2_costs_24 : decode cX2_costs 24 = .ok (.invokestatic 81, 3) := by decide +kernel
theorem dX2_costs_27 : decode cX2_costs 27 = .ok (.invokevirtual 84, 3) := by decide +kernel
theorem dX2_costs_30 : decode cX2_costs 30 = .ok (.invokestatic 87, 3) := by decide +kernel
theorem dX2_costs_33 : decode cX2_costs 33 = .ok (.ireturn, 1) := by decide +kernel
theorem dX2_isMeant_0 : decode cX2_isMeant 0 = .ok (.aload_n 0, 1) := by decide +kernel
theorem dX2_isMeant_1 : decode cX2_isMeant 1 = .ok (.aload_n 1, 1) := by decide +kernel
theorem dX2_isMeant_2 : decode cX2_isMeant 2 = .ok (.iload_n 2, 1) := by decide +kernel
theorem dX2_isMeant_3 : decode cX2_isMeant 3 = .ok (.iconst 0, 1) := by decide +kernel
theorem dX2_isMeant_4 : decode cX2_isMeant 4 = .ok (.invokevirtual 73, 3) := by decide +kernel
theorem dX2_isMeant_7 : decode cX2_isMeant 7 = .ok (.aload_n 0, 1) := by decide +kernel
theorem dX2_isMeant_8 : decode cX2_isMeant 8 = .ok (.iconst 1, 1) := by decide +kernel
theorem dX2_isMeant_9 : decode cX2_isMeant 9 = .ok (.invokevirtual 77, 3) := by decide +kernel
theorem dX2_isMeant_12 : decode cX2_isMeant 12 = .ok (.ifCond .eq 7, 3) := by decide +kernel
theorem dX2_isMeant_15 : decode cX2_isMeant 15 = .ok (.iconst 1, 1) := by decide +kernel
theorem dX2_isMeant_16 : decode cX2_isMeant 16 = .ok (.goto 4, 3) := by decide +kernel
theorem dX2_isMeant_19 : decode cX2_isMeant 19 = .ok (.iconst 0, 1) := by decide +kernel
theorem dX2_isMeant_20 : decode cX2_isMeant 20 = .ok (.ireturn, 1) := by decide +kernel
theorem dX2_worthOf_0 : decode cX2_worthOf 0 = .ok (.aload_n 0, 1) := by decide +kernel
theorem dX2_worthOf_1 : decode cX2_worthOf 1 = .ok (.aload_n 1, 1) := by decide +kernel
theorem dX2_worthOf_2 : decode cX2_worthOf 2 = .ok (.iload_n 2, 1) := by decide +kernel
theorem dX2_worthOf_3 : decode cX2_worthOf 3 = .ok (.iconst 0, 1) := by decide +kernel
theorem dX2_worthOf_4 : decode cX2_worthOf 4 = .ok (.invokevirtual 73, 3) := by decide +kernel
theorem dX2_worthOf_7 : decode cX2_worthOf 7 = .ok (.aload_n 0, 1) := by decide +kernel
theorem dX2_worthOf_8 : decode cX2_worthOf 8 = .ok (.iconst 2, 1) := by decide +kernel
theorem dX2_worthOf_9 : decode cX2_worthOf 9 = .ok (.invokevirtual 77, 3) := by decide +kernel
theorem dX2_worthOf_12 : decode cX2_worthOf 12 = .ok (.invokestatic 81, 3) := by decide +kernel
theorem dX2_worthOf_15 : decode cX2_worthOf 15 = .ok (.ireturn, 1) := by decide +kernel
theorem dX2_name_0 : decode cX2_name 0 = .ok (.aload_n 0, 1) := by decide +kernel
theorem dX2_name_1 : decode cX2_name 1 = .ok (.getfield 26, 3) := by decide +kernel
theorem dX2_name_4 : decode cX2_name 4 = .ok (.iconst 0, 1) := by decide +kernel
theorem dX2_name_5 : decode cX2_name 5 = .ok (.iload_n 2, 1) := by decide +kernel
theorem dX2_name_6 : decode cX2_name 6 = .ok (.iastore, 1) := by decide +kernel
theorem dX2_name_7 : decode cX2_name 7 = .ok (.aload_n 0, 1) := by decide +kernel
theorem dX2_name_8 : decode cX2_name 8 = .ok (.getfield 26, 3) := by decide +kernel
theorem dX2_name_11 : decode cX2_name 11 = .ok (.iconst 1, 1) := by decide +kernel
theorem dX2_name_12 : decode cX2_name 12 = .ok (.iload_n 3, 1) := by decide +kernel
theorem dX2_name_13 : decode cX2_name 13 = .ok (.iastore, 1) := by decide +kernel
theorem dX2_name_14 : decode cX2_name 14 = .ok (.aload_n 0, 1) := by decide +kernel
theorem dX2_name_15 : decode cX2_name 15 = .ok (.getfield 26, 3) := by decide +kernel
theorem dX2_name_18 : decode cX2_name 18 = .ok (.iconst 2, 1) := by decide +kernel
theorem dX2_name_19 : decode cX2_name 19 = .ok (.aload_n 1, 1) := by decide +kernel
theorem dX2_name_20 : decode cX2_name 20 = .ok (.getfield 93, 3) := by decide +kernel
theorem dX2_name_23 : decode cX2_name 23 = .ok (.iastore, 1) := by decide +kernel
theorem dX2_name_24 : decode cX2_name 24 = .ok (.aload_n 0, 1) := by decide +kernel
theorem dX2_name_25 : decode cX2_name 25 = .ok (.getfield 26, 3) := by decide +kernel
theorem dX2_name_28 : decode cX2_name 28 = .ok (.iconst 3, 1) := by decide +kernel
theorem dX2_name_29 : decode cX2_name 29 = .ok (.aload_n 1, 1) := by decide +kernel
theorem dX2_name_30 : decode cX2_name 30 = .ok (.getfield 60, 3) := by decide +kernel
theorem dX2_name_33 : decode cX2_name 33 = .ok (.invokestatic 96, 3) := by decide +kernel
theorem dX2_name_36 : decode cX2_name 36 = .ok (.iastore, 1) := by decide +kernel
theorem dX2_name_37 : decode cX2_name 37 = .ok (.aload_n 0, 1) := by decide +kernel
theorem dX2_name_38 : decode cX2_name 38 = .ok (.getfield 26, 3) := by decide +kernel
theorem dX2_name_41 : decode cX2_name 41 = .ok (.iconst 4, 1) := by decide +kernel
theorem dX2_name_42 : decode cX2_name 42 = .ok (.aload_n 1, 1) := by decide +kernel
theorem dX2_name_43 : decode cX2_name 43 = .ok (.getfield 101, 3) := by decide +kernel
theorem dX2_name_46 : decode cX2_name 46 = .ok (.iastore, 1) := by decide +kernel
theorem dX2_name_47 : decode cX2_name 47 = .ok (.aload_n 0, 1) := by decide +kernel
theorem dX2_name_48 : decode cX2_name 48 = .ok (.getfield 26, 3) := by decide +kernel
theorem dX2_name_51 : decode cX2_name 51 = .ok (.iconst 5, 1) := by decide +kernel
theorem dX2_name_52 : decode cX2_name 52 = .ok (.aload_n 0, 1) := by decide +kernel
theorem dX2_name_53 : decode cX2_name 53 = .ok (.getfield 104, 3) := by decide +kernel
theorem dX2_name_56 : decode cX2_name 56 = .ok (.iastore, 1) := by decide +kernel
theorem dX2_name_57 : decode cX2_name 57 = .ok (.return_, 1) := by decide +kernel
theorem dX2_bounded_0 : decode cX2_bounded 0 = .ok (.iconst 0, 1) := by decide +kernel
theorem dX2_bounded_1 : decode cX2_bounded 1 = .ok (.bipush 99, 2) := by decide +kernel
theorem dX2_bounded_3 : decode cX2_bounded 3 = .ok (.iload_n 0, 1) := by decide +kernel
theorem dX2_bounded_4 : decode cX2_bounded 4 = .ok (.invokestatic 107, 3) := by decide +kernel
theorem dX2_bounded_7 : decode cX2_bounded 7 = .ok (.invokestatic 87, 3) := by decide +kernel
theorem dX2_bounded_10 : decode cX2_bounded 10 = .ok (.ireturn, 1) := by decide +kernel
theorem dX2_value_0 : decode cX2_value 0 = .ok (.aload_n 0, 1) := by decide +kernel
theorem dX2_value_1 : decode cX2_value 1 = .ok (.getfield 110, 3) := by decide +kernel
theorem dX2_value_4 : decode cX2_value 4 = .ok (.ifCond .lt 12, 3) := by decide +kernel
theorem dX2_value_7 : decode cX2_value 7 = .ok (.aload_n 0, 1) := by decide +kernel
theorem dX2_value_8 : decode cX2_value 8 = .ok (.getfield 110, 3) := by decide +kernel
theorem dX2_value_11 : decode cX2_value 11 = .ok (.bipush 6, 2) := by decide +kernel
theorem dX2_value_13 : decode cX2_value 13 = .ok (.if_icmp .lt 5, 3) := by decide +kernel
theorem dX2_value_16 : decode cX2_value 16 = .ok (.iconst 0, 1) := by decide +kernel
theorem dX2_value_17 : decode cX2_value 17 = .ok (.ireturn, 1) := by decide +kernel
theorem dX2_value_18 : decode cX2_value 18 = .ok (.aload_n 0, 1) := by decide +kernel
theorem dX2_value_19 : decode cX2_value 19 = .ok (.getfield 20, 3) := by decide +kernel
theorem dX2_value_22 : decode cX2_value 22 = .ok (.aload_n 0, 1) := by decide +kernel
theorem dX2_value_23 : decode cX2_value 23 = .ok (.getfield 110, 3) := by decide +kernel
theorem dX2_value_26 : decode cX2_value 26 = .ok (.aaload, 1) := by decide +kernel
theorem dX2_value_27 : decode cX2_value 27 = .ok (.astore_n 2, 1) := by decide +kernel
theorem dX2_value_28 : decode cX2_value 28 = .ok (.iconst 0, 1) := by decide +kernel
theorem dX2_value_29 : decode cX2_value 29 = .ok (.istore_n 3, 1) := by decide +kernel
theorem dX2_value_30 : decode cX2_value 30 = .ok (.aload_n 0, 1) := by decide +kernel
theorem dX2_value_31 : decode cX2_value 31 = .ok (.getfield 23, 3) := by decide +kernel
theorem dX2_value_34 : decode cX2_value 34 = .ok (.aload_n 0, 1) := by decide +kernel
theorem dX2_value_35 : decode cX2_value 35 = .ok (.getfield 110, 3) := by decide +kernel
theorem dX2_value_38 : decode cX2_value 38 = .ok (.aaload, 1) := by decide +kernel
theorem dX2_value_39 : decode cX2_value 39 = .ok (.iload_n 1, 1) := by decide +kernel
theorem dX2_value_40 : decode cX2_value 40 = .ok (.iaload, 1) := by decide +kernel
theorem dX2_value_41 : decode cX2_value 41 = .ok (.istore 4, 2) := by decide +kernel
theorem dX2_value_43 : decode cX2_value 43 = .ok (.iload 4, 2) := by decide +kernel
theorem dX2_value_45 : decode cX2_value 45 = .ok (.aload_n 2, 1) := by decide +kernel
theorem dX2_value_46 : decode cX2_value 46 = .ok (.arraylength, 1) := by decide +kernel
theorem dX2_value_47 : decode cX2_value 47 = .ok (.if_icmp .ge 156, 3) := by decide +kernel
theorem dX2_value_50 : decode cX2_value 50 = .ok (.aload_n 2, 1) := by decide +kernel
theorem dX2_value_51 : decode cX2_value 51 = .ok (.iload 4, 2) := by decide +kernel
theorem dX2_value_53 : decode cX2_value 53 = .ok (.iaload, 1) := by decide +kernel
theorem dX2_value_54 : decode cX2_value 54 = .ok (.bipush (-30), 2) := by decide +kernel
theorem dX2_value_56 : decode cX2_value 56 = .ok (.if_icmp .eq 147, 3) := by decide +kernel
theorem dX2_value_59 : decode cX2_value 59 = .ok (.aload_n 2, 1) := by decide +kernel
theorem dX2_value_60 : decode cX2_value 60 = .ok (.iload 4, 2) := by decide +kernel
theorem dX2_value_62 : decode cX2_value 62 = .ok (.iaload, 1) := by decide +kernel
theorem dX2_value_63 : decode cX2_value 63 = .ok (.istore 5, 2) := by decide +kernel
theorem dX2_value_65 : decode cX2_value 65 = .ok (.iload 5, 2) := by decide +kernel
theorem dX2_value_67 : decode cX2_value 67 = .ok (.bipush (-10), 2) := by decide +kernel
theorem dX2_value_69 : decode cX2_value 69 = .ok (.if_icmp .le 27, 3) := by decide +kernel
theorem dX2_value_72 : decode cX2_value 72 = .ok (.iload_n 3, 1) := by decide +kernel
theorem dX2_value_73 : decode cX2_value 73 = .ok (.bipush 64, 2) := by decide +kernel
theorem dX2_value_75 : decode cX2_value 75 = .ok (.if_icmp .ge 122, 3) := by decide +kernel
theorem dX2_value_78 : decode cX2_value 78 = .ok (.aload_n 0, 1) := by decide +kernel
theorem dX2_value_79 : decode cX2_value 79 = .ok (.getfield 30, 3) := by decide +kernel
theorem dX2_value_82 : decode cX2_value 82 = .ok (.iload_n 3, 1) := by decide +kernel
theorem dX2_value_83 : decode cX2_value 83 = .ok (.aload_n 0, 1) := by decide +kernel
theorem dX2_value_84 : decode cX2_value 84 = .ok (.iload 5, 2) := by decide +kernel
theorem dX2_value_86 : decode cX2_value 86 = .ok (.invokevirtual 113, 3) := by decide +kernel
theorem dX2_value_89 : decode cX2_value 89 = .ok (.iastore, 1) := by decide +kernel
theorem dX2_value_90 : decode cX2_value 90 = .ok (.iinc 3 1, 3) := by decide +kernel
theorem dX2_value_93 : decode cX2_value 93 = .ok (.goto 104, 3) := by decide +kernel
theorem dX2_value_96 : decode cX2_value 96 = .ok (.iload 5, 2) := by decide +kernel
theorem dX2_value_98 : decode cX2_value 98 = .ok (.bipush (-12), 2) := by decide +kernel
theorem dX2_value_100 : decode cX2_value 100 = .ok (.if_icmp .eq 10, 3) := by decide +kernel
theorem dX2_value_103 : decode cX2_value 103 = .ok (.iload 5, 2) := by decide +kernel
theorem dX2_value_105 : decode cX2_value 105 = .ok (.bipush (-11), 2) := by decide +kernel
theorem dX2_value_107 : decode cX2_value 107 = .ok (.if_icmp .ne 55, 3) := by decide +kernel
theorem dX2_value_110 : decode cX2_value 110 = .ok (.iload_n 3, 1) := by decide +kernel
theorem dX2_value_111 : decode cX2_value 111 = .ok (.iconst 1, 1) := by decide +kernel
theorem dX2_value_112 : decode cX2_value 112 = .ok (.if_icmp .lt 85, 3) := by decide +kernel
theorem dX2_value_115 : decode cX2_value 115 = .ok (.aload_n 0, 1) := by decide +kernel
theorem dX2_value_116 : decode cX2_value 116 = .ok (.getfield 30, 3) := by decide +kernel
theorem dX2_value_119 : decode cX2_value 119 = .ok (.iload_n 3, 1) := by decide +kernel
theorem dX2_value_120 : decode cX2_value 120 = .ok (.iconst 1, 1) := by decide +kernel
theorem dX2_value_121 : decode cX2_value 121 = .ok (.isub, 1) := by decide +kernel
theorem dX2_value_122 : decode cX2_value 122 = .ok (.iaload, 1) := by decide +kernel
theorem dX2_value_123 : decode cX2_value 123 = .ok (.istore 6, 2) := by decide +kernel
theorem dX2_value_125 : decode cX2_value 125 = .ok (.aload_n 0, 1) := by decide +kernel
theorem dX2_value_126 : decode cX2_value 126 = .ok (.getfield 30, 3) := by decide +kernel
theorem dX2_value_129 : decode cX2_value 129 = .ok (.iload_n 3, 1) := by decide +kernel
theorem dX2_value_130 : decode cX2_value 130 = .ok (.iconst 1, 1) := by decide +kernel
theorem dX2_value_131 : decode cX2_value 131 = .ok (.isub, 1) := by decide +kernel
theorem dX2_value_132 : decode cX2_value 132 = .ok (.iload 5, 2) := by decide +kernel
theorem dX2_value_134 : decode cX2_value 134 = .ok (.bipush (-11), 2) := by decide +kernel
theorem dX2_value_136 : decode cX2_value 136 = .ok (.if_icmp .ne 19, 3) := by decide +kernel
theorem dX2_value_139 : decode cX2_value 139 = .ok (.iload 6, 2) := by decide +kernel
theorem dX2_value_141 : decode cX2_value 141 = .ok (.ifCond .ne 7, 3) := by decide +kernel
theorem dX2_value_144 : decode cX2_value 144 = .ok (.iconst 1, 1) := by decide +kernel
theorem dX2_value_145 : decode cX2_value 145 = .ok (.goto 4, 3) := by decide +kernel
theorem dX2_value_148 : decode cX2_value 148 = .ok (.iconst 0, 1) := by decide +kernel
theorem dX2_value_149 : decode cX2_value 149 = .ok (.invokestatic 69, 3) := by decide +kernel
theorem dX2_value_152 : decode cX2_value 152 = .ok (.goto 6, 3) := by decide +kernel
theorem dX2_value_155 : decode cX2_value 155 = .ok (.iload 6, 2) := by decide +kernel
theorem dX2_value_157 : decode cX2_value 157 = .ok (.ineg, 1) := by decide +kernel
theorem dX2_value_158 : decode cX2_value 158 = .ok (.iastore, 1) := by decide +kernel
theorem dX2_value_159 : decode cX2_value 159 = .ok (.goto 38, 3) := by decide +kernel
theorem dX2_value_162 : decode cX2_value 162 = .ok (.iload_n 3, 1) := by decide +kernel
theorem dX2_value_163 : decode cX2_value 163 = .ok (.iconst 2, 1) := by decide +kernel
theorem dX2_value_164 : decode cX2_value 164 = .ok (.if_icmp .lt 33, 3) := by decide +kernel
theorem dX2_value_167 : decode cX2_value 167 = .ok (.iinc 3 (-1), 3) := by decide +kernel
theorem dX2_value_170 : decode cX2_value 170 = .ok (.aload_n 0, 1) := by decide +kernel
theorem dX2_value_171 : decode cX2_value 171 = .ok (.getfield 30, 3) := by decide +kernel
theorem dX2_value_174 : decode cX2_value 174 = .ok (.iload_n 3, 1) := by decide +kernel
theorem dX2_value_175 : decode cX2_value 175 = .ok (.iconst 1, 1) := by decide +kernel
theorem dX2_value_176 : decode cX2_value 176 = .ok (.isub, 1) := by decide +kernel
theorem dX2_value_177 : decode cX2_value 177 = .ok (.iload 5, 2) := by decide +kernel
theorem dX2_value_179 : decode cX2_value 179 = .ok (.aload_n 0, 1) := by decide +kernel
theorem dX2_value_180 : decode cX2_value 180 = .ok (.getfield 30, 3) := by decide +kernel
theorem dX2_value_183 : decode cX2_value 183 = .ok (.iload_n 3, 1) := by decide +kernel
theorem dX2_value_184 : decode cX2_value 184 = .ok (.iconst 1, 1) := by decide +kernel
theorem dX2_value_185 : decode cX2_value 185 = .ok (.isub, 1) := by decide +kernel
theorem dX2_value_186 : decode cX2_value 186 = .ok (.iaload, 1) := by decide +kernel
theorem dX2_value_187 : decode cX2_value 187 = .ok (.aload_n 0, 1) := by decide +kernel
theorem dX2_value_188 : decode cX2_value 188 = .ok (.getfield 30, 3) := by decide +kernel
theorem dX2_value_191 : decode cX2_value 191 = .ok (.iload_n 3, 1) := by decide +kernel
theorem dX2_value_192 : decode cX2_value 192 = .ok (.iaload, 1) := by decide +kernel
theorem dX2_value_193 : decode cX2_value 193 = .ok (.invokestatic 116, 3) := by decide +kernel
theorem dX2_value_196 : decode cX2_value 196 = .ok (.iastore, 1) := by decide +kernel
theorem dX2_value_197 : decode cX2_value 197 = .ok (.iinc 4 1, 3) := by decide +kernel
theorem dX2_value_200 : decode cX2_value 200 = .ok (.goto (-157), 3) := by decide +kernel
theorem dX2_value_203 : decode cX2_value 203 = .ok (.iload_n 3, 1) := by decide +kernel
theorem dX2_value_204 : decode cX2_value 204 = .ok (.iconst 1, 1) := by decide +kernel
theorem dX2_value_205 : decode cX2_value 205 = .ok (.if_icmp .ge 7, 3) := by decide +kernel
theorem dX2_value_208 : decode cX2_value 208 = .ok (.iconst 0, 1) := by decide +kernel
theorem dX2_value_209 : decode cX2_value 209 = .ok (.goto 11, 3) := by decide +kernel
theorem dX2_value_212 : decode cX2_value 212 = .ok (.aload_n 0, 1) := by decide +kernel
theorem dX2_value_213 : decode cX2_value 213 = .ok (.getfield 30, 3) := by decide +kernel
theorem dX2_value_216 : decode cX2_value 216 = .ok (.iload_n 3, 1) := by decide +kernel
theorem dX2_value_217 : decode cX2_value 217 = .ok (.iconst 1, 1) := by decide +kernel
theorem dX2_value_218 : decode cX2_value 218 = .ok (.isub, 1) := by decide +kernel
theorem dX2_value_219 : decode cX2_value 219 = .ok (.iaload, 1) := by decide +kernel
theorem dX2_value_220 : decode cX2_value 220 = .ok (.ireturn, 1) := by decide +kernel
theorem dX2_operand_0 : decode cX2_operand 0 = .ok (.iload_n 1, 1) := by decide +kernel
theorem dX2_operand_1 : decode cX2_operand 1 = .ok (.ifCond .lt 5, 3) := by decide +kernel
theorem dX2_operand_4 : decode cX2_operand 4 = .ok (.iload_n 1, 1) := by decide +kernel
theorem dX2_operand_5 : decode cX2_operand 5 = .ok (.ireturn, 1) := by decide +kernel
theorem dX2_operand_6 : decode cX2_operand 6 = .ok (.iconst (-1), 1) := by decide +kernel
theorem dX2_operand_7 : decode cX2_operand 7 = .ok (.iload_n 1, 1) := by decide +kernel
theorem dX2_operand_8 : decode cX2_operand 8 = .ok (.isub, 1) := by decide +kernel
theorem dX2_operand_9 : decode cX2_operand 9 = .ok (.istore_n 2, 1) := by decide +kernel
theorem dX2_operand_10 : decode cX2_operand 10 = .ok (.iload_n 2, 1) := by decide +kernel
theorem dX2_operand_11 : decode cX2_operand 11 = .ok (.bipush 6, 2) := by decide +kernel
theorem dX2_operand_13 : decode cX2_operand 13 = .ok (.if_icmp .ge 12, 3) := by decide +kernel
theorem dX2_operand_16 : decode cX2_operand 16 = .ok (.aload_n 0, 1) := by decide +kernel
theorem dX2_operand_17 : decode cX2_operand 17 = .ok (.getfield 26, 3) := by decide +kernel
theorem dX2_operand_20 : decode cX2_operand 20 = .ok (.iload_n 2, 1) := by decide +kernel
theorem dX2_operand_21 : decode cX2_operand 21 = .ok (.iaload, 1) := by decide +kernel
theorem dX2_operand_22 : decode cX2_operand 22 = .ok (.goto 4, 3) := by decide +kernel
theorem dX2_operand_25 : decode cX2_operand 25 = .ok (.iconst 0, 1) := by decide +kernel
theorem dX2_operand_26 : decode cX2_operand 26 = .ok (.ireturn, 1) := by decide +kernel
theorem dX2_joined_0 : decode cX2_joined 0 = .ok (.iload_n 0, 1) := by decide +kernel
theorem dX2_joined_1 : decode cX2_joined 1 = .ok (.tableswitch 96 (-25) (-20) #[79, 65, 51, 47, 43, 39], 39) := by decide +kernel
theorem dX2_joined_40 : decode cX2_joined 40 = .ok (.iload_n 1, 1) := by decide +kernel
theorem dX2_joined_41 : decode cX2_joined 41 = .ok (.iload_n 2, 1) := by decide +kernel
theorem dX2_joined_42 : decode cX2_joined 42 = .ok (.imul, 1) := by decide +kernel
theorem dX2_joined_43 : decode cX2_joined 43 = .ok (.ireturn, 1) := by decide +kernel
theorem dX2_joined_44 : decode cX2_joined 44 = .ok (.iload_n 1, 1) := by decide +kernel
theorem dX2_joined_45 : decode cX2_joined 45 = .ok (.iload_n 2, 1) := by decide +kernel
theorem dX2_joined_46 : decode cX2_joined 46 = .ok (.iadd, 1) := by decide +kernel
theorem dX2_joined_47 : decode cX2_joined 47 = .ok (.ireturn, 1) := by decide +kernel
theorem dX2_joined_48 : decode cX2_joined 48 = .ok (.iload_n 1, 1) := by decide +kernel
theorem dX2_joined_49 : decode cX2_joined 49 = .ok (.iload_n 2, 1) := by decide +kernel
theorem dX2_joined_50 : decode cX2_joined 50 = .ok (.isub, 1) := by decide +kernel
theorem dX2_joined_51 : decode cX2_joined 51 = .ok (.ireturn, 1) := by decide +kernel
theorem dX2_joined_52 : decode cX2_joined 52 = .ok (.iload_n 1, 1) := by decide +kernel
theorem dX2_joined_53 : decode cX2_joined 53 = .ok (.iload_n 2, 1) := by decide +kernel
theorem dX2_joined_54 : decode cX2_joined 54 = .ok (.if_icmp .ge 7, 3) := by decide +kernel
theorem dX2_joined_57 : decode cX2_joined 57 = .ok (.iconst 1, 1) := by decide +kernel
theorem dX2_joined_58 : decode cX2_joined 58 = .ok (.goto 4, 3) := by decide +kernel
theorem dX2_joined_61 : decode cX2_joined 61 = .ok (.iconst 0, 1) := by decide +kernel
theorem dX2_joined_62 : decode cX2_joined 62 = .ok (.invokestatic 69, 3) := by decide +kernel
theorem dX2_joined_65 : decode cX2_joined 65 = .ok (.ireturn, 1) := by decide +kernel
theorem dX2_joined_66 : decode cX2_joined 66 = .ok (.iload_n 1, 1) := by decide +kernel
theorem dX2_joined_67 : decode cX2_joined 67 = .ok (.iload_n 2, 1) := by decide +kernel
theorem dX2_joined_68 : decode cX2_joined 68 = .ok (.if_icmp .ne 7, 3) := by decide +kernel
theorem dX2_joined_71 : decode cX2_joined 71 = .ok (.iconst 1, 1) := by decide +kernel
theorem dX2_joined_72 : decode cX2_joined 72 = .ok (.goto 4, 3) := by decide +kernel
theorem dX2_joined_75 : decode cX2_joined 75 = .ok (.iconst 0, 1) := by decide +kernel
theorem dX2_joined_76 : decode cX2_joined 76 = .ok (.invokestatic 69, 3) := by decide +kernel
theorem dX2_joined_79 : decode cX2_joined 79 = .ok (.ireturn, 1) := by decide +kernel
theorem dX2_joined_80 : decode cX2_joined 80 = .ok (.iload_n 1, 1) := by decide +kernel
theorem dX2_joined_81 : decode cX2_joined 81 = .ok (.ifCond .eq 11, 3) := by decide +kernel
theorem dX2_joined_84 : decode cX2_joined 84 = .ok (.iload_n 2, 1) := by decide +kernel
theorem dX2_joined_85 : decode cX2_joined 85 = .ok (.ifCond .eq 7, 3) := by decide +kernel
theorem dX2_joined_88 : decode cX2_joined 88 = .ok (.iconst 1, 1) := by decide +kernel
theorem dX2_joined_89 : decode cX2_joined 89 = .ok (.goto 4, 3) := by decide +kernel
theorem dX2_joined_92 : decode cX2_joined 92 = .ok (.iconst 0, 1) := by decide +kernel
theorem dX2_joined_93 : decode cX2_joined 93 = .ok (.invokestatic 69, 3) := by decide +kernel
theorem dX2_joined_96 : decode cX2_joined 96 = .ok (.ireturn, 1) := by decide +kernel
theorem dX2_joined_97 : decode cX2_joined 97 = .ok (.iload_n 1, 1) := by decide +kernel
theorem dX2_joined_98 : decode cX2_joined 98 = .ok (.ifCond .ne 7, 3) := by decide +kernel
theorem dX2_joined_101 : decode cX2_joined 101 = .ok (.iload_n 2, 1) := by decide +kernel
theorem dX2_joined_102 : decode cX2_joined 102 = .ok (.ifCond .eq 7, 3) := by decide +kernel
theorem dX2_joined_105 : decode cX2_joined 105 = .ok (.iconst 1, 1) := by decide +kernel
theorem dX2_joined_106 : decode cX2_joined 106 = .ok (.goto 4, 3) := by decide +kernel
theorem dX2_joined_109 : decode cX2_joined 109 = .ok (.iconst 0, 1) := by decide +kernel
theorem dX2_joined_110 : decode cX2_joined 110 = .ok (.invokestatic 69, 3) := by decide +kernel
theorem dX2_joined_113 : decode cX2_joined 113 = .ok (.ireturn, 1) := by decide +kernel
theorem dX3_init_0 : decode cX3_init 0 = .ok (.aload_n 0, 1) := by decide +kernel
theorem dX3_init_1 : decode cX3_init 1 = .ok (.invokespecial 3, 3) := by decide +kernel
theorem dX3_init_4 : decode cX3_init 4 = .ok (.aload_n 0, 1) := by decide +kernel
theorem dX3_init_5 : decode cX3_init 5 = .ok (.bipush 30, 2) := by decide +kernel
theorem dX3_init_7 : decode cX3_init 7 = .ok (.newarray .int, 2) := by decide +kernel
theorem dX3_init_9 : decode cX3_init 9 = .ok (.putfield 9, 3) := by decide +kernel
theorem dX3_init_12 : decode cX3_init 12 = .ok (.aload_n 0, 1) := by decide +kernel
theorem dX3_init_13 : decode cX3_init 13 = .ok (.bipush 30, 2) := by decide +kernel
theorem dX3_init_15 : decode cX3_init 15 = .ok (.newarray .int, 2) := by decide +kernel
theorem dX3_init_17 : decode cX3_init 17 = .ok (.putfield 15, 3) := by decide +kernel
theorem dX3_init_20 : decode cX3_init 20 = .ok (.aload_n 0, 1) := by decide +kernel
theorem dX3_init_21 : decode cX3_init 21 = .ok (.bipush 100, 2) := by decide +kernel
theorem dX3_init_23 : decode cX3_init 23 = .ok (.newarray .int, 2) := by decide +kernel
theorem dX3_init_25 : decode cX3_init 25 = .ok (.putfield 18, 3) := by decide +kernel
theorem dX3_init_28 : decode cX3_init 28 = .ok (.aload_n 0, 1) := by decide +kernel
theorem dX3_init_29 : decode cX3_init 29 = .ok (.bipush 100, 2) := by decide +kernel
theorem dX3_init_31 : decode cX3_init 31 = .ok (.newarray .boolean, 2) := by decide +kernel
theorem dX3_init_33 : decode cX3_init 33 = .ok (.putfield 21, 3) := by decide +kernel
theorem dX3_init_36 : decode cX3_init 36 = .ok (.aload_n 0, 1) := by decide +kernel
theorem dX3_init_37 : decode cX3_init 37 = .ok (.bipush 100, 2) := by decide +kernel
theorem dX3_init_39 : decode cX3_init 39 = .ok (.newarray .boolean, 2) := by decide +kernel
theorem dX3_init_41 : decode cX3_init 41 = .ok (.putfield 25, 3) := by decide +kernel
theorem dX3_init_44 : decode cX3_init 44 = .ok (.aload_n 0, 1) := by decide +kernel
theorem dX3_init_45 : decode cX3_init 45 = .ok (.aload_n 1, 1) := by decide +kernel
theorem dX3_init_46 : decode cX3_init 46 = .ok (.putfield 28, 3) := by decide +kernel
theorem dX3_init_49 : decode cX3_init 49 = .ok (.return_, 1) := by decide +kernel
theorem dX3_fillLeast_0 : decode cX3_fillLeast 0 = .ok (.aload_n 0, 1) := by decide +kernel
theorem dX3_fillLeast_1 : decode cX3_fillLeast 1 = .ok (.aload_n 1, 1) := by decide +kernel
theorem dX3_fillLeast_2 : decode cX3_fillLeast 2 = .ok (.invokevirtual 32, 3) := by decide +kernel
theorem dX3_fillLeast_5 : decode cX3_fillLeast 5 = .ok (.aload_n 2, 1) := by decide +kernel
theorem dX3_fillLeast_6 : decode cX3_fillLeast 6 = .ok (.invokevirtual 32, 3) := by decide +kernel
theorem dX3_fillLeast_9 : decode cX3_fillLeast 9 = .ok (.iand, 1) := by decide +kernel
theorem dX3_fillLeast_10 : decode cX3_fillLeast 10 = .ok (.invokevirtual 38, 3) := by decide +kernel
theorem dX3_fillLeast_13 : decode cX3_fillLeast 13 = .ok (.istore 5, 2) := by decide +kernel
theorem dX3_fillLeast_15 : decode cX3_fillLeast 15 = .ok (.iconst 0, 1) := by decide +kernel
theorem dX3_fillLeast_16 : decode cX3_fillLeast 16 = .ok (.istore 6, 2) := by decide +kernel
theorem dX3_fillLeast_18 : decode cX3_fillLeast 18 = .ok (.iload 6, 2) := by decide +kernel
theorem dX3_fillLeast_20 : decode cX3_fillLeast 20 = .ok (.iload 5, 2) := by decide +kernel
theorem dX3_fillLeast_22 : decode cX3_fillLeast 22 = .ok (.if_icmp .ge 56, 3) := by decide +kernel
theorem dX3_fillLeast_25 : decode cX3_fillLeast 25 = .ok (.aload_n 0, 1) := by decide +kernel
theorem dX3_fillLeast_26 : decode cX3_fillLeast 26 = .ok (.getfield 15, 3) := by decide +kernel
theorem dX3_fillLeast_29 : decode cX3_fillLeast 29 = .ok (.iload 6, 2) := by decide +kernel
theorem dX3_fillLeast_31 : decode cX3_fillLeast 31 = .ok (.iload 4, 2) := by decide +kernel
theorem dX3_fillLeast_33 : decode cX3_fillLeast 33 = .ok (.ifCond .eq 7, 3) := by decide +kernel
theorem dX3_fillLeast_36 : decode cX3_fillLeast 36 = .ok (.iconst 1, 1) := by decide +kernel
theorem dX3_fillLeast_37 : decode cX3_fillLeast 37 = .ok (.goto 34, 3) := by decide +kernel
theorem dX3_fillLeast_40 : decode cX3_fillLeast 40 = .ok (.aload_n 0, 1) := by decide +kernel
theorem dX3_fillLeast_41 : decode cX3_fillLeast 41 = .ok (.getfield 28, 3) := by decide +kernel
theorem dX3_fillLeast_44 : decode cX3_fillLeast 44 = .ok (.aload_n 1, 1) := by decide +kernel
theorem dX3_fillLeast_45 : decode cX3_fillLeast 45 = .ok (.aload_n 0, 1) := by decide +kernel
theorem dX3_fillLeast_46 : decode cX3_fillLeast 46 = .ok (.getfield 9, 3) := by decide +kernel
theorem dX3_fillLeast_49 : decode cX3_fillLeast 49 = .ok (.iload 6, 2) := by decide +kernel
theorem dX3_fillLeast_51 : decode cX3_fillLeast 51 = .ok (.iaload, 1) := by decide +kernel
theorem dX3_fillLeast_52 : decode cX3_fillLeast 52 = .ok (.invokevirtual 42, 3) := by decide +kernel
theorem dX3_fillLeast_55 : decode cX3_fillLeast 55 = .ok (.aload_n 0, 1) := by decide +kernel
theorem dX3_fillLeast_56 : decode cX3_fillLeast 56 = .ok (.getfield 28, 3) := by decide +kernel
theorem dX3_fillLeast_59 : decode cX3_fillLeast 59 = .ok (.aload_n 2, 1) := by decide +kernel
theorem dX3_fillLeast_60 : decode cX3_fillLeast 60 = .ok (.aload_n 0, 1) := by decide +kernel
theorem dX3_fillLeast_61 : decode cX3_fillLeast 61 = .ok (.getfield 9, 3) := by decide +kernel
theorem dX3_fillLeast_64 : decode cX3_fillLeast 64 = .ok (.iload 6, 2) := by decide +kernel
theorem dX3_fillLeast_66 : decode cX3_fillLeast 66 = .ok (.iaload, 1) := by decide +kernel
theorem dX3_fillLeast_67 : decode cX3_fillLeast 67 = .ok (.invokevirtual 42, 3) := by decide +kernel
theorem dX3_fillLeast_70 : decode cX3_fillLeast 70 = .ok (.iadd, 1) := by decide +kernel
theorem dX3_fillLeast_71 : decode cX3_fillLeast 71 = .ok (.iastore, 1) := by decide +kernel
theorem dX3_fillLeast_72 : decode cX3_fillLeast 72 = .ok (.iinc 6 1, 3) := by decide +kernel
theorem dX3_fillLeast_75 : decode cX3_fillLeast 75 = .ok (.goto (-57), 3) := by decide +kernel
theorem dX3_fillLeast_78 : decode cX3_fillLeast 78 = .ok (.aload_n 0, 1) := by decide +kernel
theorem dX3_fillLeast_79 : decode cX3_fillLeast 79 = .ok (.getfield 18, 3) := by decide +kernel
theorem dX3_fillLeast_82 : decode cX3_fillLeast 82 = .ok (.iconst 0, 1) := by decide +kernel
theorem dX3_fillLeast_83 : decode cX3_fillLeast 83 = .ok (.iconst 0, 1) := by decide +kernel
theorem dX3_fillLeast_84 : decode cX3_fillLeast 84 = .ok (.iastore, 1) := by decide +kernel
theorem dX3_fillLeast_85 : decode cX3_fillLeast 85 = .ok (.iconst 1, 1) := by decide +kernel
theorem dX3_fillLeast_86 : decode cX3_fillLeast 86 = .ok (.istore 6, 2) := by decide +kernel
theorem dX3_fillLeast_88 : decode cX3_fillLeast 88 = .ok (.iload 6, 2) := by decide +kernel
theorem dX3_fillLeast_90 : decode cX3_fillLeast 90 = .ok (.iload_n 3, 1) := by decide +kernel
theorem dX3_fillLeast_91 : decode cX3_fillLeast 91 = .ok (.if_icmp .gt 31, 3) := by decide +kernel
theorem dX3_fillLeast_94 : decode cX3_fillLeast 94 = .ok (.iload 6, 2) := by decide +kernel
theorem dX3_fillLeast_96 : decode cX3_fillLeast 96 = .ok (.bipush 99, 2) := by decide +kernel
theorem dX3_fillLeast_98 : decode cX3_fillLeast 98 = .ok (.if_icmp .gt 24, 3) := by decide +kernel
theorem dX3_fillLeast_101 : decode cX3_fillLeast 101 = .ok (.aload_n 0, 1) := by decide +kernel
theorem dX3_fillLeast_102 : decode cX3_fillLeast 102 = .ok (.getfield 18, 3) := by decide +kernel
theorem dX3_fillLeast_105 : decode cX3_fillLeast 105 = .ok (.iload 6, 2) := by decide +kernel
theorem dX3_fillLeast_107 : decode cX3_fillLeast 107 = .ok (.aload_n 0, 1) := by decide +kernel
theorem dX3_fillLeast_108 : decode cX3_fillLeast 108 = .ok (.iload 6, 2) := by decide +kernel
theorem dX3_fillLeast_110 : decode cX3_fillLeast 110 = .ok (.iload 5, 2) := by decide +kernel
theorem dX3_fillLeast_112 : decode cX3_fillLeast 112 = .ok (.invokevirtual 48, 3) := by decide +kernel
theorem dX3_fillLeast_115 : decode cX3_fillLeast 115 = .ok (.iastore, 1) := by decide +kernel
theorem dX3_fillLeast_116 : decode cX3_fillLeast 116 = .ok (.iinc 6 1, 3) := by decide +kernel
theorem dX3_fillLeast_119 : decode cX3_fillLeast 119 = .ok (.goto (-31), 3) := by decide +kernel
theorem dX3_fillLeast_122 : decode cX3_fillLeast 122 = .ok (.return_, 1) := by decide +kernel
theorem dX3_leastOf_0 : decode cX3_leastOf 0 = .ok (.iload_n 1, 1) := by decide +kernel
theorem dX3_leastOf_1 : decode cX3_leastOf 1 = .ok (.invokestatic 52, 3) := by decide +kernel
theorem dX3_leastOf_4 : decode cX3_leastOf 4 = .ok (.ifCond .eq 12, 3) := by decide +kernel
theorem dX3_leastOf_7 : decode cX3_leastOf 7 = .ok (.aload_n 0, 1) := by decide +kernel
theorem dX3_leastOf_8 : decode cX3_leastOf 8 = .ok (.getfield 18, 3) := by decide +kernel
theorem dX3_leastOf_11 : decode cX3_leastOf 11 = .ok (.iload_n 1, 1) := by decide +kernel
theorem dX3_leastOf_12 : decode cX3_leastOf 12 = .ok (.iaload, 1) := by decide +kernel
theorem dX3_leastOf_13 : decode cX3_leastOf 13 = .ok (.goto 4, 3) := by decide +kernel
theorem dX3_leastOf_16 : decode cX3_leastOf 16 = .ok (.iconst (-1), 1) := by decide +kernel
theorem dX3_leastOf_17 : decode cX3_leastOf 17 = .ok (.ireturn, 1) := by decide +kernel
theorem dX3_fillParts_0 : decode cX3_fillParts 0 = .ok (.iconst 0, 1) := by decide +kernel
theorem dX3_fillParts_1 : decode cX3_fillParts 1 = .ok (.istore_n 2, 1) := by decide +kernel
theorem dX3_fillParts_2 : decode cX3_fillParts 2 = .ok (.iconst 1, 1) := by decide +kernel
theorem dX3_fillParts_3 : decode cX3_fillParts 3 = .ok (.istore_n 3, 1) := by decide +kernel
theorem dX3_fillParts_4 : decode cX3_fillParts 4 = .ok (.iload_n 3, 1) := by decide +kernel
theorem dX3_fillParts_5 : decode cX3_fillParts 5 = .ok (.bipush 30, 2) := by decide +kernel
theorem dX3_fillParts_7 : decode cX3_fillParts 7 = .ok (.if_icmp .gt 27, 3) := by decide +kernel
theorem dX3_fillParts_10 : decode cX3_fillParts 10 = .ok (.iload_n 1, 1) := by decide +kernel
theorem dX3_fillParts_11 : decode cX3_fillParts 11 = .ok (.iload_n 3, 1) := by decide +kernel
theorem dX3_fillParts_12 : decode cX3_fillParts 12 = .ok (.invokestatic 56, 3) := by decide +kernel
theorem dX3_fillParts_15 : decode cX3_fillParts 15 = .ok (.ifCond .eq 13, 3) := by decide +kernel
theorem dX3_fillParts_18 : decode cX3_fillParts 18 = .ok (.aload_n 0, 1) := by decide +kernel
theorem dX3_fillParts_19 : decode cX3_fillParts 19 = .ok (.getfield 9, 3) := by decide +kernel
theorem dX3_fillParts_22 : decode cX3_fillParts 22 = .ok (.iload_n 2, 1) := by decide +kernel
theorem dX3_fillParts_23 : decode cX3_fillParts 23 = .ok (.iload_n 3, 1) := by decide +kernel
theorem dX3_fillParts_24 : decode cX3_fillParts 24 = .ok (.iastore, 1) := by decide +kernel
theorem dX3_fillParts_25 : decode cX3_fillParts 25 = .ok (.iinc 2 1, 3) := by decide +kernel
theorem dX3_fillParts_28 : decode cX3_fillParts 28 = .ok (.iinc 3 1, 3) := by decide +kernel
theorem dX3_fillParts_31 : decode cX3_fillParts 31 = .ok (.goto (-27), 3) := by decide +kernel
theorem dX3_fillParts_34 : decode cX3_fillParts 34 = .ok (.iload_n 2, 1) := by decide +kernel
theorem dX3_fillParts_35 : decode cX3_fillParts 35 = .ok (.ireturn, 1) := by decide +kernel
theorem dX3_leastAt_0 : decode cX3_leastAt 0 = .ok (.iconst (-1), 1) := by decide +kernel
theorem dX3_leastAt_1 : decode cX3_leastAt 1 = .ok (.istore_n 3, 1) := by decide +kernel
theorem dX3_leastAt_2 : decode cX3_leastAt 2 = .ok (.iconst 0, 1) := by decide +kernel
theorem dX3_leastAt_3 : decode cX3_leastAt 3 = .ok (.istore 4, 2) := by decide +kernel
theorem dX3_leastAt_5 : decode cX3_leastAt 5 = .ok (.iload 4, 2) := by decide +kernel
theorem dX3_leastAt_7 : decode cX3_leastAt 7 = .ok (.iload_n 2, 1) := by decide +kernel
theorem dX3_leastAt_8 : decode cX3_leastAt 8 = .ok (.if_icmp .ge 72, 3) := by decide +kernel
theorem dX3_leastAt_11 : decode cX3_leastAt 11 = .ok (.aload_n 0, 1) := by decide +kernel
theorem dX3_leastAt_12 : decode cX3_leastAt 12 = .ok (.getfield 9, 3) := by decide +kernel
theorem dX3_leastAt_15 : decode cX3_leastAt 15 = .ok (.iload 4, 2) := by decide +kernel
theorem dX3_leastAt_17 : decode cX3_leastAt 17 = .ok (.iaload, 1) := by decide +kernel
theorem dX3_leastAt_18 : decode cX3_leastAt 18 = .ok (.iload_n 1, 1) := by decide +kernel
theorem dX3_leastAt_19 : decode cX3_leastAt 19 = .ok (.if_icmp .gt 61, 3) := by decide +kernel
theorem dX3_leastAt_22 : decode cX3_leastAt 22 = .ok (.aload_n 0, 1) := by decide +kernel
theorem dX3_leastAt_23 : decode cX3_leastAt 23 = .ok (.getfield 18, 3) := by decide +kernel
theorem dX3_leastAt_26 : decode cX3_leastAt 26 = .ok (.iload_n 1, 1) := by decide +kernel
theorem dX3_leastAt_27 : decode cX3_leastAt 27 = .ok (.aload_n 0, 1) := by decide +kernel
theorem dX3_leastAt_28 : decode cX3_leastAt 28 = .ok (.getfield 9, 3) := by decide +kernel
theorem dX3_leastAt_31 : decode cX3_leastAt 31 = .ok (.iload 4, 2) := by decide +kernel
theorem dX3_leastAt_33 : decode cX3_leastAt 33 = .ok (.iaload, 1) := by decide +kernel
theorem dX3_leastAt_34 : decode cX3_leastAt 34 = .ok (.isub, 1) := by decide +kernel
theorem dX3_leastAt_35 : decode cX3_leastAt 35 = .ok (.iaload, 1) := by decide +kernel
theorem dX3_leastAt_36 : decode cX3_leastAt 36 = .ok (.istore 5, 2) := by decide +kernel
theorem dX3_leastAt_38 : decode cX3_leastAt 38 = .ok (.iload 5, 2) := by decide +kernel
theorem dX3_leastAt_40 : decode cX3_leastAt 40 = .ok (.iconst (-1), 1) := by decide +kernel
theorem dX3_leastAt_41 : decode cX3_leastAt 41 = .ok (.if_icmp .eq 33, 3) := by decide +kernel
theorem dX3_leastAt_44 : decode cX3_leastAt 44 = .ok (.iload_n 3, 1) := by decide +kernel
theorem dX3_leastAt_45 : decode cX3_leastAt 45 = .ok (.iconst (-1), 1) := by decide +kernel
theorem dX3_leastAt_46 : decode cX3_leastAt 46 = .ok (.if_icmp .eq 17, 3) := by decide +kernel
theorem dX3_leastAt_49 : decode cX3_leastAt 49 = .ok (.iload 5, 2) := by decide +kernel
theorem dX3_leastAt_51 : decode cX3_leastAt 51 = .ok (.aload_n 0, 1) := by decide +kernel
theorem dX3_leastAt_52 : decode cX3_leastAt 52 = .ok (.getfield 15, 3) := by decide +kernel
theorem dX3_leastAt_55 : decode cX3_leastAt 55 = .ok (.iload 4, 2) := by decide +kernel
theorem dX3_leastAt_57 : decode cX3_leastAt 57 = .ok (.iaload, 1) := by decide +kernel
theorem dX3_leastAt_58 : decode cX3_leastAt 58 = .ok (.iadd, 1) := by decide +kernel
theorem dX3_leastAt_59 : decode cX3_leastAt 59 = .ok (.iload_n 3, 1) := by decide +kernel
theorem dX3_leastAt_60 : decode cX3_leastAt 60 = .ok (.if_icmp .ge 14, 3) := by decide +kernel
theorem dX3_leastAt_63 : decode cX3_leastAt 63 = .ok (.iload 5, 2) := by decide +kernel
theorem dX3_leastAt_65 : decode cX3_leastAt 65 = .ok (.aload_n 0, 1) := by decide +kernel
theorem dX3_leastAt_66 : decode cX3_leastAt 66 = .ok (.getfield 15, 3) := by decide +kernel
theorem dX3_leastAt_69 : decode cX3_leastAt 69 = .ok (.iload 4, 2) := by decide +kernel
theorem dX3_leastAt_71 : decode cX3_leastAt 71 = .ok (.iaload, 1) := by decide +kernel
theorem dX3_leastAt_72 : decode cX3_leastAt 72 = .ok (.iadd, 1) := by decide +kernel
theorem dX3_leastAt_73 : decode cX3_leastAt 73 = .ok (.istore_n 3, 1) := by decide +kernel
theorem dX3_leastAt_74 : decode cX3_leastAt 74 = .ok (.iinc 4 1, 3) := by decide +kernel
theorem dX3_leastAt_77 : decode cX3_leastAt 77 = .ok (.goto (-72), 3) := by decide +kernel
theorem dX3_leastAt_80 : decode cX3_leastAt 80 = .ok (.iload_n 3, 1) := by decide +kernel
theorem dX3_leastAt_81 : decode cX3_leastAt 81 = .ok (.ireturn, 1) := by decide +kernel
theorem dX3_fillCan_0 : decode cX3_fillCan 0 = .ok (.aload_n 1, 1) := by decide +kernel
theorem dX3_fillCan_1 : decode cX3_fillCan 1 = .ok (.invokevirtual 32, 3) := by decide +kernel
theorem dX3_fillCan_4 : decode cX3_fillCan 4 = .ok (.aload_n 2, 1) := by decide +kernel
theorem dX3_fillCan_5 : decode cX3_fillCan 5 = .ok (.invokevirtual 32, 3) := by decide +kernel
theorem dX3_fillCan_8 : decode cX3_fillCan 8 = .ok (.iand, 1) := by decide +kernel
theorem dX3_fillCan_9 : decode cX3_fillCan 9 = .ok (.istore_n 3, 1) := by decide +kernel
theorem dX3_fillCan_10 : decode cX3_fillCan 10 = .ok (.aload_n 0, 1) := by decide +kernel
theorem dX3_fillCan_11 : decode cX3_fillCan 11 = .ok (.getfield 21, 3) := by decide +kernel
theorem dX3_fillCan_14 : decode cX3_fillCan 14 = .ok (.iconst 0, 1) := by decide +kernel
theorem dX3_fillCan_15 : decode cX3_fillCan 15 = .ok (.iconst 1, 1) := by decide +kernel
theorem dX3_fillCan_16 : decode cX3_fillCan 16 = .ok (.bastore, 1) := by decide +kernel
theorem dX3_fillCan_17 : decode cX3_fillCan 17 = .ok (.iconst 1, 1) := by decide +kernel
theorem dX3_fillCan_18 : decode cX3_fillCan 18 = .ok (.istore 4, 2) := by decide +kernel
theorem dX3_fillCan_20 : decode cX3_fillCan 20 = .ok (.iload 4, 2) := by decide +kernel
theorem dX3_fillCan_22 : decode cX3_fillCan 22 = .ok (.bipush 99, 2) := by decide +kernel
theorem dX3_fillCan_24 : decode cX3_fillCan 24 = .ok (.if_icmp .gt 17, 3) := by decide +kernel
theorem dX3_fillCan_27 : decode cX3_fillCan 27 = .ok (.aload_n 0, 1) := by decide +kernel
theorem dX3_fillCan_28 : decode cX3_fillCan 28 = .ok (.getfield 21, 3) := by decide +kernel
theorem dX3_fillCan_31 : decode cX3_fillCan 31 = .ok (.iload 4, 2) := by decide +kernel
theorem dX3_fillCan_33 : decode cX3_fillCan 33 = .ok (.iconst 0, 1) := by decide +kernel
theorem dX3_fillCan_34 : decode cX3_fillCan 34 = .ok (.bastore, 1) := by decide +kernel
theorem dX3_fillCan_35 : decode cX3_fillCan 35 = .ok (.iinc 4 1, 3) := by decide +kernel
theorem dX3_fillCan_38 : decode cX3_fillCan 38 = .ok (.goto (-18), 3) := by decide +kernel
theorem dX3_fillCan_41 : decode cX3_fillCan 41 = .ok (.iconst 1, 1) := by decide +kernel
theorem dX3_fillCan_42 : decode cX3_fillCan 42 = .ok (.istore 4, 2) := by decide +kernel
theorem dX3_fillCan_44 : decode cX3_fillCan 44 = .ok (.iload 4, 2) := by decide +kernel
theorem dX3_fillCan_46 : decode cX3_fillCan 46 = .ok (.bipush 30, 2) := by decide +kernel
theorem dX3_fillCan_48 : decode cX3_fillCan 48 = .ok (.if_icmp .gt 80, 3) := by decide +kernel
theorem dX3_fillCan_51 : decode cX3_fillCan 51 = .ok (.iload_n 3, 1) := by decide +kernel
theorem dX3_fillCan_52 : decode cX3_fillCan 52 = .ok (.iload 4, 2) := by decide +kernel
theorem dX3_fillCan_54 : decode cX3_fillCan 54 = .ok (.invokestatic 56, 3) := by decide +kernel
theorem dX3_fillCan_57 : decode cX3_fillCan 57 = .ok (.ifCond .eq 65, 3) := by decide +kernel
theorem dX3_fillCan_60 : decode cX3_fillCan 60 = .ok (.aload_n 0, 1) := by decide +kernel
theorem dX3_fillCan_61 : decode cX3_fillCan 61 = .ok (.getfield 21, 3) := by decide +kernel
theorem dX3_fillCan_64 : decode cX3_fillCan 64 = .ok (.iload 4, 2) := by decide +kernel
theorem dX3_fillCan_66 : decode cX3_fillCan 66 = .ok (.baload, 1) := by decide +kernel
theorem dX3_fillCan_67 : decode cX3_fillCan 67 = .ok (.ifCond .ne 55, 3) := by decide +kernel
theorem dX3_fillCan_70 : decode cX3_fillCan 70 = .ok (.iload 4, 2) := by decide +kernel
theorem dX3_fillCan_72 : decode cX3_fillCan 72 = .ok (.istore 5, 2) := by decide +kernel
theorem dX3_fillCan_74 : decode cX3_fillCan 74 = .ok (.iload 5, 2) := by decide +kernel
theorem dX3_fillCan_76 : decode cX3_fillCan 76 = .ok (.bipush 99, 2) := by decide +kernel
theorem dX3_fillCan_78 : decode cX3_fillCan 78 = .ok (.if_icmp .gt 44, 3) := by decide +kernel
theorem dX3_fillCan_81 : decode cX3_fillCan 81 = .ok (.aload_n 0, 1) := by decide +kernel
theorem dX3_fillCan_82 : decode cX3_fillCan 82 = .ok (.getfield 21, 3) := by decide +kernel
theorem dX3_fillCan_85 : decode cX3_fillCan 85 = .ok (.iload 5, 2) := by decide +kernel
theorem dX3_fillCan_87 : decode cX3_fillCan 87 = .ok (.aload_n 0, 1) := by decide +kernel
theorem dX3_fillCan_88 : decode cX3_fillCan 88 = .ok (.getfield 21, 3) := by decide +kernel
theorem dX3_fillCan_91 : decode cX3_fillCan 91 = .ok (.iload 5, 2) := by decide +kernel
theorem dX3_fillCan_93 : decode cX3_fillCan 93 = .ok (.baload, 1) := by decide +kernel
theorem dX3_fillCan_94 : decode cX3_fillCan 94 = .ok (.ifCond .ne 16, 3) := by decide +kernel
theorem dX3_fillCan_97 : decode cX3_fillCan 97 = .ok (.aload_n 0, 1) := by decide +kernel
theorem dX3_fillCan_98 : decode cX3_fillCan 98 = .ok (.getfield 21, 3) := by decide +kernel
theorem dX3_fillCan_101 : decode cX3_fillCan 101 = .ok (.iload 5, 2) := by decide +kernel
theorem dX3_fillCan_103 : decode cX3_fillCan 103 = .ok (.iload 4, 2) := by decide +kernel
theorem dX3_fillCan_105 : decode cX3_fillCan 105 = .ok (.isub, 1) := by decide +kernel
theorem dX3_fillCan_106 : decode cX3_fillCan 106 = .ok (.baload, 1) := by decide +kernel
theorem dX3_fillCan_107 : decode cX3_fillCan 107 = .ok (.ifCond .eq 7, 3) := by decide +kernel
theorem dX3_fillCan_110 : decode cX3_fillCan 110 = .ok (.iconst 1, 1) := by decide +kernel
theorem dX3_fillCan_111 : decode cX3_fillCan 111 = .ok (.goto 4, 3) := by decide +kernel
theorem dX3_fillCan_114 : decode cX3_fillCan 114 = .ok (.iconst 0, 1) := by decide +kernel
theorem dX3_fillCan_115 : decode cX3_fillCan 115 = .ok (.bastore, 1) := by decide +kernel
theorem dX3_fillCan_116 : decode cX3_fillCan 116 = .ok (.iinc 5 1, 3) := by decide +kernel
theorem dX3_fillCan_119 : decode cX3_fillCan 119 = .ok (.goto (-45), 3) := by decide +kernel
theorem dX3_fillCan_122 : decode cX3_fillCan 122 = .ok (.iinc 4 1, 3) := by decide +kernel
theorem dX3_fillCan_125 : decode cX3_fillCan 125 = .ok (.goto (-81), 3) := by decide +kernel
theorem dX3_fillCan_128 : decode cX3_fillCan 128 = .ok (.return_, 1) := by decide +kernel
theorem dX3_payable_0 : decode cX3_payable 0 = .ok (.aload_n 0, 1) := by decide +kernel
theorem dX3_payable_1 : decode cX3_payable 1 = .ok (.aload_n 1, 1) := by decide +kernel
theorem dX3_payable_2 : decode cX3_payable 2 = .ok (.aload_n 2, 1) := by decide +kernel
theorem dX3_payable_3 : decode cX3_payable 3 = .ok (.invokevirtual 60, 3) := by decide +kernel
theorem dX3_payable_6 : decode cX3_payable 6 = .ok (.iconst 0, 1) := by decide +kernel
theorem dX3_payable_7 : decode cX3_payable 7 = .ok (.istore_n 3, 1) := by decide +kernel
theorem dX3_payable_8 : decode cX3_payable 8 = .ok (.iconst 1, 1) := by decide +kernel
theorem dX3_payable_9 : decode cX3_payable 9 = .ok (.istore 4, 2) := by decide +kernel
theorem dX3_payable_11 : decode cX3_payable 11 = .ok (.iload 4, 2) := by decide +kernel
theorem dX3_payable_13 : decode cX3_payable 13 = .ok (.bipush 99, 2) := by decide +kernel
theorem dX3_payable_15 : decode cX3_payable 15 = .ok (.if_icmp .gt 22, 3) := by decide +kernel
theorem dX3_payable_18 : decode cX3_payable 18 = .ok (.iload_n 3, 1) := by decide +kernel
theorem dX3_payable_19 : decode cX3_payable 19 = .ok (.aload_n 0, 1) := by decide +kernel
theorem dX3_payable_20 : decode cX3_payable 20 = .ok (.getfield 21, 3) := by decide +kernel
theorem dX3_payable_23 : decode cX3_payable 23 = .ok (.iload 4, 2) := by decide +kernel
theorem dX3_payable_25 : decode cX3_payable 25 = .ok (.baload, 1) := by decide +kernel
theorem dX3_payable_26 : decode cX3_payable 26 = .ok (.invokestatic 64, 3) := by decide +kernel
theorem dX3_payable_29 : decode cX3_payable 29 = .ok (.iadd, 1) := by decide +kernel
theorem dX3_payable_30 : decode cX3_payable 30 = .ok (.istore_n 3, 1) := by decide +kernel
theorem dX3_payable_31 : decode cX3_payable 31 = .ok (.iinc 4 1, 3) := by decide +kernel
theorem dX3_payable_34 : decode cX3_payable 34 = .ok (.goto (-23), 3) := by decide +kernel
theorem dX3_payable_37 : decode cX3_payable 37 = .ok (.iload_n 3, 1) := by decide +kernel
theorem dX3_payable_38 : decode cX3_payable 38 = .ok (.ireturn, 1) := by decide +kernel
theorem dX3_hindered_0 : decode cX3_hindered 0 = .ok (.aload_n 0, 1) := by decide +kernel
theorem dX3_hindered_1 : decode cX3_hindered 1 = .ok (.aload_n 1, 1) := by decide +kernel
theorem dX3_hindered_2 : decode cX3_hindered 2 = .ok (.aload_n 2, 1) := by decide +kernel
theorem dX3_hindered_3 : decode cX3_hindered 3 = .ok (.invokevirtual 60, 3) := by decide +kernel
theorem dX3_hindered_6 : decode cX3_hindered 6 = .ok (.iconst 0, 1) := by decide +kernel
theorem dX3_hindered_7 : decode cX3_hindered 7 = .ok (.istore 4, 2) := by decide +kernel
theorem dX3_hindered_9 : decode cX3_hindered 9 = .ok (.iconst (-1), 1) := by decide +kernel
theorem dX3_hindered_10 : decode cX3_hindered 10 = .ok (.istore 5, 2) := by decide +kernel
theorem dX3_hindered_12 : decode cX3_hindered 12 = .ok (.iconst 0, 1) := by decide +kernel
theorem dX3_hindered_13 : decode cX3_hindered 13 = .ok (.istore 6, 2) := by decide +kernel
theorem dX3_hindered_15 : decode cX3_hindered 15 = .ok (.iconst 1, 1) := by decide +kernel
theorem dX3_hindered_16 : decode cX3_hindered 16 = .ok (.istore 7, 2) := by decide +kernel
theorem dX3_hindered_18 : decode cX3_hindered 18 = .ok (.iload 7, 2) := by decide +kernel
theorem dX3_hindered_20 : decode cX3_hindered 20 = .ok (.bipush 99, 2) := by decide +kernel
theorem dX3_hindered_22 : decode cX3_hindered 22 = .ok (.if_icmp .gt 74, 3) := by decide +kernel
theorem dX3_hindered_25 : decode cX3_hindered 25 = .ok (.aload_n 0, 1) := by decide +kernel
theorem dX3_hindered_26 : decode cX3_hindered 26 = .ok (.getfield 21, 3) := by decide +kernel
theorem dX3_hindered_29 : decode cX3_hindered 29 = .ok (.iload 7, 2) := by decide +kernel
theorem dX3_hindered_31 : decode cX3_hindered 31 = .ok (.baload, 1) := by decide +kernel
theorem dX3_hindered_32 : decode cX3_hindered 32 = .ok (.ifCond .ne 58, 3) := by decide +kernel
theorem dX3_hindered_35 : decode cX3_hindered 35 = .ok (.aload_n 0, 1) := by decide +kernel
theorem dX3_hindered_36 : decode cX3_hindered 36 = .ok (.getfield 28, 3) := by decide +kernel
theorem dX3_hindered_39 : decode cX3_hindered 39 = .ok (.aload_n 1, 1) := by decide +kernel
theorem dX3_hindered_40 : decode cX3_hindered 40 = .ok (.iload 7, 2) := by decide +kernel
theorem dX3_hindered_42 : decode cX3_hindered 42 = .ok (.invokevirtual 68, 3) := by decide +kernel
theorem dX3_hindered_45 : decode cX3_hindered 45 = .ok (.ifCond .eq 45, 3) := by decide +kernel
theorem dX3_hindered_48 : decode cX3_hindered 48 = .ok (.iinc 4 1, 3) := by decide +kernel
theorem dX3_hindered_51 : decode cX3_hindered 51 = .ok (.iload 5, 2) := by decide +kernel
theorem dX3_hindered_53 : decode cX3_hindered 53 = .ok (.iconst (-1), 1) := by decide +kernel
theorem dX3_hindered_54 : decode cX3_hindered 54 = .ok (.if_icmp .ne 8, 3) := by decide +kernel
theorem dX3_hindered_57 : decode cX3_hindered 57 = .ok (.iload 7, 2) := by decide +kernel
theorem dX3_hindered_59 : decode cX3_hindered 59 = .ok (.goto 5, 3) := by decide +kernel
theorem dX3_hindered_62 : decode cX3_hindered 62 = .ok (.iload 5, 2) := by decide +kernel
theorem dX3_hindered_64 : decode cX3_hindered 64 = .ok (.istore 5, 2) := by decide +kernel
theorem dX3_hindered_66 : decode cX3_hindered 66 = .ok (.iload 6, 2) := by decide +kernel
theorem dX3_hindered_68 : decode cX3_hindered 68 = .ok (.iload_n 3, 1) := by decide +kernel
theorem dX3_hindered_69 : decode cX3_hindered 69 = .ok (.iconst 2, 1) := by decide +kernel
theorem dX3_hindered_70 : decode cX3_hindered 70 = .ok (.if_icmp .ne 16, 3) := by decide +kernel
theorem dX3_hindered_73 : decode cX3_hindered 73 = .ok (.aload_n 0, 1) := by decide +kernel
theorem dX3_hindered_74 : decode cX3_hindered 74 = .ok (.getfield 28, 3) := by decide +kernel
theorem dX3_hindered_77 : decode cX3_hindered 77 = .ok (.aload_n 1, 1) := by decide +kernel
theorem dX3_hindered_78 : decode cX3_hindered 78 = .ok (.iload 7, 2) := by decide +kernel
theorem dX3_hindered_80 : decode cX3_hindered 80 = .ok (.invokevirtual 72, 3) := by decide +kernel
theorem dX3_hindered_83 : decode cX3_hindered 83 = .ok (.goto 4, 3) := by decide +kernel
theorem dX3_hindered_86 : decode cX3_hindered 86 = .ok (.iconst 0, 1) := by decide +kernel
theorem dX3_hindered_87 : decode cX3_hindered 87 = .ok (.iadd, 1) := by decide +kernel
theorem dX3_hindered_88 : decode cX3_hindered 88 = .ok (.istore 6, 2) := by decide +kernel
theorem dX3_hindered_90 : decode cX3_hindered 90 = .ok (.iinc 7 1, 3) := by decide +kernel
theorem dX3_hindered_93 : decode cX3_hindered 93 = .ok (.goto (-75), 3) := by decide +kernel
theorem dX3_hindered_96 : decode cX3_hindered 96 = .ok (.iload_n 3, 1) := by decide +kernel
theorem dX3_hindered_97 : decode cX3_hindered 97 = .ok (.ifCond .ne 8, 3) := by decide +kernel
theorem dX3_hindered_100 : decode cX3_hindered 100 = .ok (.iload 4, 2) := by decide +kernel
theorem dX3_hindered_102 : decode cX3_hindered 102 = .ok (.goto 15, 3) := by decide +kernel
theorem dX3_hindered_105 : decode cX3_hindered 105 = .ok (.iload_n 3, 1) := by decide +kernel
theorem dX3_hindered_106 : decode cX3_hindered 106 = .ok (.iconst 1, 1) := by decide +kernel
theorem dX3_hindered_107 : decode cX3_hindered 107 = .ok (.if_icmp .ne 8, 3) := by decide +kernel
theorem dX3_hindered_110 : decode cX3_hindered 110 = .ok (.iload 5, 2) := by decide +kernel
theorem dX3_hindered_112 : decode cX3_hindered 112 = .ok (.goto 5, 3) := by decide +kernel
theorem dX3_hindered_115 : decode cX3_hindered 115 = .ok (.iload 6, 2) := by decide +kernel
theorem dX3_hindered_117 : decode cX3_hindered 117 = .ok (.ireturn, 1) := by decide +kernel
theorem dX3_hearNone_0 : decode cX3_hearNone 0 = .ok (.iconst 0, 1) := by decide +kernel
theorem dX3_hearNone_1 : decode cX3_hearNone 1 = .ok (.istore_n 1, 1) := by decide +kernel
theorem dX3_hearNone_2 : decode cX3_hearNone 2 = .ok (.iload_n 1, 1) := by decide +kernel
theorem dX3_hearNone_3 : decode cX3_hearNone 3 = .ok (.bipush 99, 2) := by decide +kernel
theorem dX3_hearNone_5 : decode cX3_hearNone 5 = .ok (.if_icmp .gt 16, 3) := by decide +kernel
theorem dX3_hearNone_8 : decode cX3_hearNone 8 = .ok (.aload_n 0, 1) := by decide +kernel
theorem dX3_hearNone_9 : decode cX3_hearNone 9 = .ok (.getfield 25, 3) := by decide +kernel
theorem dX3_hearNone_12 : decode cX3_hearNone 12 = .ok (.iload_n 1, 1) := by decide +kernel
theorem dX3_hearNone_13 : decode cX3_hearNone 13 = .ok (.iconst 0, 1) := by decide +kernel
theorem dX3_hearNone_14 : decode cX3_hearNone 14 = .ok (.bastore, 1) := by decide +kernel
theorem dX3_hearNone_15 : decode cX3_hearNone 15 = .ok (.iinc 1 1, 3) := by decide +kernel
theorem dX3_hearNone_18 : decode cX3_hearNone 18 = .ok (.goto (-16), 3) := by decide +kernel
theorem dX3_hearNone_21 : decode cX3_hearNone 21 = .ok (.return_, 1) := by decide +kernel
theorem dX3_hear_0 : decode cX3_hear 0 = .ok (.aload_n 1, 1) := by decide +kernel
theorem dX3_hear_1 : decode cX3_hear 1 = .ok (.ifnull 7, 3) := by decide +kernel
theorem dX3_hear_4 : decode cX3_hear 4 = .ok (.aload_n 2, 1) := by decide +kernel
theorem dX3_hear_5 : decode cX3_hear 5 = .ok (.ifnonnull 4, 3) := by decide +kernel
theorem dX3_hear_8 : decode cX3_hear 8 = .ok (.return_, 1) := by decide +kernel
theorem dX3_hear_9 : decode cX3_hear 9 = .ok (.aload_n 0, 1) := by decide +kernel
theorem dX3_hear_10 : decode cX3_hear 10 = .ok (.aload_n 1, 1) := by decide +kernel
theorem dX3_hear_11 : decode cX3_hear 11 = .ok (.aload_n 2, 1) := by decide +kernel
theorem dX3_hear_12 : decode cX3_hear 12 = .ok (.invokevirtual 60, 3) := by decide +kernel
theorem dX3_hear_15 : decode cX3_hear 15 = .ok (.iconst 0, 1) := by decide +kernel
theorem dX3_hear_16 : decode cX3_hear 16 = .ok (.istore_n 3, 1) := by decide +kernel
theorem dX3_hear_17 : decode cX3_hear 17 = .ok (.iload_n 3, 1) := by decide +kernel
theorem dX3_hear_18 : decode cX3_hear 18 = .ok (.bipush 99, 2) := by decide +kernel
theorem dX3_hear_20 : decode cX3_hear 20 = .ok (.if_icmp .gt 38, 3) := by decide +kernel
theorem dX3_hear_23 : decode cX3_hear 23 = .ok (.aload_n 0, 1) := by decide +kernel
theorem dX3_hear_24 : decode cX3_hear 24 = .ok (.getfield 25, 3) := by decide +kernel
theorem dX3_hear_27 : decode cX3_hear 27 = .ok (.iload_n 3, 1) := by decide +kernel
theorem dX3_hear_28 : decode cX3_hear 28 = .ok (.aload_n 0, 1) := by decide +kernel
theorem dX3_hear_29 : decode cX3_hear 29 = .ok (.getfield 25, 3) := by decide +kernel
theorem dX3_hear_32 : decode cX3_hear 32 = .ok (.iload_n 3, 1) := by decide +kernel
theorem dX3_hear_33 : decode cX3_hear 33 = .ok (.baload, 1) := by decide +kernel
theorem dX3_hear_34 : decode cX3_hear 34 = .ok (.ifCond .ne 12, 3) := by decide +kernel
theorem dX3_hear_37 : decode cX3_hear 37 = .ok (.aload_n 0, 1) := by decide +kernel
theorem dX3_hear_38 : decode cX3_hear 38 = .ok (.getfield 21, 3) := by decide +kernel
theorem dX3_hear_41 : decode cX3_hear 41 = .ok (.iload_n 3, 1) := by decide +kernel
theorem dX3_hear_42 : decode cX3_hear 42 = .ok (.baload, 1) := by decide +kernel
theorem dX3_hear_43 : decode cX3_hear 43 = .ok (.ifCond .eq 7, 3) := by decide +kernel
theorem dX3_hear_46 : decode cX3_hear 46 = .ok (.iconst 1, 1) := by decide +kernel
theorem dX3_hear_47 : decode cX3_hear 47 = .ok (.goto 4, 3) := by decide +kernel
theorem dX3_hear_50 : decode cX3_hear 50 = .ok (.iconst 0, 1) := by decide +kernel
theorem dX3_hear_51 : decode cX3_hear 51 = .ok (.bastore, 1) := by decide +kernel
theorem dX3_hear_52 : decode cX3_hear 52 = .ok (.iinc 3 1, 3) := by decide +kernel
theorem dX3_hear_55 : decode cX3_hear 55 = .ok (.goto (-38), 3) := by decide +kernel
theorem dX3_hear_58 : decode cX3_hear 58 = .ok (.return_, 1) := by decide +kernel
theorem dX3_unheard_0 : decode cX3_unheard 0 = .ok (.iconst 0, 1) := by decide +kernel
theorem dX3_unheard_1 : decode cX3_unheard 1 = .ok (.istore_n 1, 1) := by decide +kernel
theorem dX3_unheard_2 : decode cX3_unheard 2 = .ok (.iconst 1, 1) := by decide +kernel
theorem dX3_unheard_3 : decode cX3_unheard 3 = .ok (.istore_n 2, 1) := by decide +kernel
theorem dX3_unheard_4 : decode cX3_unheard 4 = .ok (.iload_n 2, 1) := by decide +kernel
theorem dX3_unheard_5 : decode cX3_unheard 5 = .ok (.bipush 99, 2) := by decide +kernel
theorem dX3_unheard_7 : decode cX3_unheard 7 = .ok (.if_icmp .gt 29, 3) := by decide +kernel
theorem dX3_unheard_10 : decode cX3_unheard 10 = .ok (.iload_n 1, 1) := by decide +kernel
theorem dX3_unheard_11 : decode cX3_unheard 11 = .ok (.aload_n 0, 1) := by decide +kernel
theorem dX3_unheard_12 : decode cX3_unheard 12 = .ok (.getfield 25, 3) := by decide +kernel
theorem dX3_unheard_15 : decode cX3_unheard 15 = .ok (.iload_n 2, 1) := by decide +kernel
theorem dX3_unheard_16 : decode cX3_unheard 16 = .ok (.baload, 1) := by decide +kernel
theorem dX3_unheard_17 : decode cX3_unheard 17 = .ok (.ifCond .ne 7, 3) := by decide +kernel
theorem dX3_unheard_20 : decode cX3_unheard 20 = .ok (.iconst 1, 1) := by decide +kernel
theorem dX3_unheard_21 : decode cX3_unheard 21 = .ok (.goto 4, 3) := by decide +kernel
theorem dX3_unheard_24 : decode cX3_unheard 24 = .ok (.iconst 0, 1) := by decide +kernel
theorem dX3_unheard_25 : decode cX3_unheard 25 = .ok (.invokestatic 64, 3) := by decide +kernel
theorem dX3_unheard_28 : decode cX3_unheard 28 = .ok (.iadd, 1) := by decide +kernel
theorem dX3_unheard_29 : decode cX3_unheard 29 = .ok (.istore_n 1, 1) := by decide +kernel
theorem dX3_unheard_30 : decode cX3_unheard 30 = .ok (.iinc 2 1, 3) := by decide +kernel
theorem dX3_unheard_33 : decode cX3_unheard 33 = .ok (.goto (-29), 3) := by decide +kernel
theorem dX3_unheard_36 : decode cX3_unheard 36 = .ok (.iload_n 1, 1) := by decide +kernel
theorem dX3_unheard_37 : decode cX3_unheard 37 = .ok (.ireturn, 1) := by decide +kernel
theorem dX3_firstUnheard_0 : decode cX3_firstUnheard 0 = .ok (.iconst 1, 1) := by decide +kernel
theorem dX3_firstUnheard_1 : decode cX3_firstUnheard 1 = .ok (.istore_n 1, 1) := by decide +kernel
theorem dX3_firstUnheard_2 : decode cX3_firstUnheard 2 = .ok (.iload_n 1, 1) := by decide +kernel
theorem dX3_firstUnheard_3 : decode cX3_firstUnheard 3 = .ok (.bipush 99, 2) := by decide +kernel
theorem dX3_firstUnheard_5 : decode cX3_firstUnheard 5 = .ok (.if_icmp .gt 20, 3) := by decide +kernel
theorem dX3_firstUnheard_8 : decode cX3_firstUnheard 8 = .ok (.aload_n 0, 1) := by decide +kernel
theorem dX3_firstUnheard_9 : decode cX3_firstUnheard 9 = .ok (.getfield 25, 3) := by decide +kernel
theorem dX3_firstUnheard_12 : decode cX3_firstUnheard 12 = .ok (.iload_n 1, 1) := by decide +kernel
theorem dX3_firstUnheard_13 : decode cX3_firstUnheard 13 = .ok (.baload, 1) := by decide +kernel
theorem dX3_firstUnheard_14 : decode cX3_firstUnheard 14 = .ok (.ifCond .ne 5, 3) := by decide +kernel
theorem dX3_firstUnheard_17 : decode cX3_firstUnheard 17 = .ok (.iload_n 1, 1) := by decide +kernel
theorem dX3_firstUnheard_18 : decode cX3_firstUnheard 18 = .ok (.ireturn, 1) := by decide +kernel
theorem dX3_firstUnheard_19 : decode cX3_firstUnheard 19 = .ok (.iinc 1 1, 3) := by decide +kernel
theorem dX3_firstUnheard_22 : decode cX3_firstUnheard 22 = .ok (.goto (-20), 3) := by decide +kernel
theorem dX3_firstUnheard_25 : decode cX3_firstUnheard 25 = .ok (.iconst (-1), 1) := by decide +kernel
theorem dX3_firstUnheard_26 : decode cX3_firstUnheard 26 = .ok (.ireturn, 1) := by decide +kernel
theorem dX3_firstOtherwise_0 : decode cX3_firstOtherwise 0 = .ok (.aload_n 0, 1) := by decide +kernel
theorem dX3_firstOtherwise_1 : decode cX3_firstOtherwise 1 = .ok (.aload_n 2, 1) := by decide +kernel
theorem dX3_firstOtherwise_2 : decode cX3_firstOtherwise 2 = .ok (.aload_n 3, 1) := by decide +kernel
theorem dX3_firstOtherwise_3 : decode cX3_firstOtherwise 3 = .ok (.bipush 99, 2) := by decide +kernel
theorem dX3_firstOtherwise_5 : decode cX3_firstOtherwise 5 = .ok (.iconst 0, 1) := by decide +kernel
theorem dX3_firstOtherwise_6 : decode cX3_firstOtherwise 6 = .ok (.invokevirtual 75, 3) := by decide +kernel
theorem dX3_firstOtherwise_9 : decode cX3_firstOtherwise 9 = .ok (.iconst 0, 1) := by decide +kernel
theorem dX3_firstOtherwise_10 : decode cX3_firstOtherwise 10 = .ok (.istore 4, 2) := by decide +kernel
theorem dX3_firstOtherwise_12 : decode cX3_firstOtherwise 12 = .ok (.iload 4, 2) := by decide +kernel
theorem dX3_firstOtherwise_14 : decode cX3_firstOtherwise 14 = .ok (.iconst 1, 1) := by decide +kernel
theorem dX3_firstOtherwise_15 : decode cX3_firstOtherwise 15 = .ok (.iadd, 1) := by decide +kernel
theorem dX3_firstOtherwise_16 : decode cX3_firstOtherwise 16 = .ok (.aload_n 1, 1) := by decide +kernel
theorem dX3_firstOtherwise_17 : decode cX3_firstOtherwise 17 = .ok (.getfield 79, 3) := by decide +kernel
theorem dX3_firstOtherwise_20 : decode cX3_firstOtherwise 20 = .ok (.if_icmp .ge 35, 3) := by decide +kernel
theorem dX3_firstOtherwise_23 : decode cX3_firstOtherwise 23 = .ok (.aload_n 0, 1) := by decide +kernel
theorem dX3_firstOtherwise_24 : decode cX3_firstOtherwise 24 = .ok (.aload_n 1, 1) := by decide +kernel
theorem dX3_firstOtherwise_25 : decode cX3_firstOtherwise 25 = .ok (.iload 4, 2) := by decide +kernel
theorem dX3_firstOtherwise_27 : decode cX3_firstOtherwise 27 = .ok (.invokevirtual 85, 3) := by decide +kernel
theorem dX3_firstOtherwise_30 : decode cX3_firstOtherwise 30 = .ok (.invokevirtual 88, 3) := by decide +kernel
theorem dX3_firstOtherwise_33 : decode cX3_firstOtherwise 33 = .ok (.aload_n 1, 1) := by decide +kernel
theorem dX3_firstOtherwise_34 : decode cX3_firstOtherwise 34 = .ok (.iload 4, 2) := by decide +kernel
theorem dX3_firstOtherwise_36 : decode cX3_firstOtherwise 36 = .ok (.iconst 1, 1) := by decide +kernel
theorem dX3_firstOtherwise_37 : decode cX3_firstOtherwise 37 = .ok (.iadd, 1) := by decide +kernel
theorem dX3_firstOtherwise_38 : decode cX3_firstOtherwise 38 = .ok (.invokevirtual 85, 3) := by decide +kernel
theorem dX3_firstOtherwise_41 : decode cX3_firstOtherwise 41 = .ok (.if_icmp .eq 8, 3) := by decide +kernel
theorem dX3_firstOtherwise_44 : decode cX3_firstOtherwise 44 = .ok (.iload 4, 2) := by decide +kernel
theorem dX3_firstOtherwise_46 : decode cX3_firstOtherwise 46 = .ok (.iconst 2, 1) := by decide +kernel
theorem dX3_firstOtherwise_47 : decode cX3_firstOtherwise 47 = .ok (.idiv, 1) := by decide +kernel
theorem dX3_firstOtherwise_48 : decode cX3_firstOtherwise 48 = .ok (.ireturn, 1) := by decide +kernel
theorem dX3_firstOtherwise_49 : decode cX3_firstOtherwise 49 = .ok (.iinc 4 2, 3) := by decide +kernel
theorem dX3_firstOtherwise_52 : decode cX3_firstOtherwise 52 = .ok (.goto (-40), 3) := by decide +kernel
theorem dX3_firstOtherwise_55 : decode cX3_firstOtherwise 55 = .ok (.iconst (-1), 1) := by decide +kernel
theorem dX3_firstOtherwise_56 : decode cX3_firstOtherwise 56 = .ok (.ireturn, 1) := by decide +kernel
theorem dX4_init_0 : decode cX4_init 0 = .ok (.aload_n 0, 1) := by decide +kernel
theorem dX4_init_1 : decode cX4_init 1 = .ok (.invokespecial 5, 3) := by decide +kernel
theorem dX4_init_4 : decode cX4_init 4 = .ok (.aload_n 0, 1) := by decide +kernel
theorem dX4_init_5 : decode cX4_init 5 = .ok (.sipush 160, 3) := by decide +kernel
theorem dX4_init_8 : decode cX4_init 8 = .ok (.newarray .int, 2) := by decide +kernel
theorem dX4_init_10 : decode cX4_init 10 = .ok (.putfield 11, 3) := by decide +kernel
theorem dX4_init_13 : decode cX4_init 13 = .ok (.return_, 1) := by decide +kernel
theorem dX4_put_0 : decode cX4_put 0 = .ok (.aload_n 0, 1) := by decide +kernel
theorem dX4_put_1 : decode cX4_put 1 = .ok (.getfield 15, 3) := by decide +kernel
theorem dX4_put_4 : decode cX4_put 4 = .ok (.aload_n 0, 1) := by decide +kernel
theorem dX4_put_5 : decode cX4_put 5 = .ok (.getfield 11, 3) := by decide +kernel
theorem dX4_put_8 : decode cX4_put 8 = .ok (.arraylength, 1) := by decide +kernel
theorem dX4_put_9 : decode cX4_put 9 = .ok (.if_icmp .lt 5, 3) := by decide +kernel
theorem dX4_put_12 : decode cX4_put 12 = .ok (.iconst 0, 1) := by decide +kernel
theorem dX4_put_13 : decode cX4_put 13 = .ok (.ireturn, 1) := by decide +kernel
theorem dX4_put_14 : decode cX4_put 14 = .ok (.aload_n 0, 1) := by decide +kernel
theorem dX4_put_15 : decode cX4_put 15 = .ok (.getfield 11, 3) := by decide +kernel
theorem dX4_put_18 : decode cX4_put 18 = .ok (.aload_n 0, 1) := by decide +kernel
theorem dX4_put_19 : decode cX4_put 19 = .ok (.getfield 15, 3) := by decide +kernel
theorem dX4_put_22 : decode cX4_put 22 = .ok (.iload_n 1, 1) := by decide +kernel
theorem dX4_put_23 : decode cX4_put 23 = .ok (.iastore, 1) := by decide +kernel
theorem dX4_put_24 : decode cX4_put 24 = .ok (.aload_n 0, 1) := by decide +kernel
theorem dX4_put_25 : decode cX4_put 25 = .ok (.dup, 1) := by decide +kernel
theorem dX4_put_26 : decode cX4_put 26 = .ok (.getfield 15, 3) := by decide +kernel
theorem dX4_put_29 : decode cX4_put 29 = .ok (.iconst 1, 1) := by decide +kernel
theorem dX4_put_30 : decode cX4_put 30 = .ok (.iadd, 1) := by decide +kernel
theorem dX4_put_31 : decode cX4_put 31 = .ok (.putfield 15, 3) := by decide +kernel
theorem dX4_put_34 : decode cX4_put 34 = .ok (.iconst 1, 1) := by decide +kernel
theorem dX4_put_35 : decode cX4_put 35 = .ok (.ireturn, 1) := by decide +kernel
theorem dX4_read_0 : decode cX4_read 0 = .ok (.aload_n 0, 1) := by decide +kernel
theorem dX4_read_1 : decode cX4_read 1 = .ok (.aload_n 1, 1) := by decide +kernel
theorem dX4_read_2 : decode cX4_read 2 = .ok (.putfield 19, 3) := by decide +kernel
theorem dX4_read_5 : decode cX4_read 5 = .ok (.aload_n 0, 1) := by decide +kernel
theorem dX4_read_6 : decode cX4_read 6 = .ok (.iconst 0, 1) := by decide +kernel
theorem dX4_read_7 : decode cX4_read 7 = .ok (.putfield 22, 3) := by decide +kernel
theorem dX4_read_10 : decode cX4_read 10 = .ok (.aload_n 0, 1) := by decide +kernel
theorem dX4_read_11 : decode cX4_read 11 = .ok (.iconst 0, 1) := by decide +kernel
theorem dX4_read_12 : decode cX4_read 12 = .ok (.putfield 25, 3) := by decide +kernel
theorem dX4_read_15 : decode cX4_read 15 = .ok (.aload_n 0, 1) := by decide +kernel
theorem dX4_read_16 : decode cX4_read 16 = .ok (.invokevirtual 28, 3) := by decide +kernel
theorem dX4_read_19 : decode cX4_read 19 = .ok (.iconst 0, 1) := by decide +kernel
theorem dX4_read_20 : decode cX4_read 20 = .ok (.istore_n 3, 1) := by decide +kernel
theorem dX4_read_21 : decode cX4_read 21 = .ok (.iload_n 3, 1) := by decide +kernel
theorem dX4_read_22 : decode cX4_read 22 = .ok (.aload_n 2, 1) := by decide +kernel
theorem dX4_read_23 : decode cX4_read 23 = .ok (.arraylength, 1) := by decide +kernel
theorem dX4_read_24 : decode cX4_read 24 = .ok (.if_icmp .ge 62, 3) := by decide +kernel
theorem dX4_read_27 : decode cX4_read 27 = .ok (.aload_n 0, 1) := by decide +kernel
theorem dX4_read_28 : decode cX4_read 28 = .ok (.getfield 31, 3) := by decide +kernel
theorem dX4_read_31 : decode cX4_read 31 = .ok (.sipush 1006, 3) := by decide +kernel
theorem dX4_read_34 : decode cX4_read 34 = .ok (.iload_n 3, 1) := by decide +kernel
theorem dX4_read_35 : decode cX4_read 35 = .ok (.iadd, 1) := by decide +kernel
theorem dX4_read_36 : decode cX4_read 36 = .ok (.if_icmp .ne 50, 3) := by decide +kernel
theorem dX4_read_39 : decode cX4_read 39 = .ok (.aload_n 2, 1) := by decide +kernel
theorem dX4_read_40 : decode cX4_read 40 = .ok (.iload_n 3, 1) := by decide +kernel
theorem dX4_read_41 : decode cX4_read 41 = .ok (.aload_n 0, 1) := by decide +kernel
theorem dX4_read_42 : decode cX4_read 42 = .ok (.getfield 22, 3) := by decide +kernel
theorem dX4_read_45 : decode cX4_read 45 = .ok (.iastore, 1) := by decide +kernel
theorem dX4_read_46 : decode cX4_read 46 = .ok (.aload_n 0, 1) := by decide +kernel
theorem dX4_read_47 : decode cX4_read 47 = .ok (.invokevirtual 28, 3) := by decide +kernel
theorem dX4_read_50 : decode cX4_read 50 = .ok (.aload_n 0, 1) := by decide +kernel
theorem dX4_read_51 : decode cX4_read 51 = .ok (.iconst 0, 1) := by decide +kernel
theorem dX4_read_52 : decode cX4_read 52 = .ok (.invokevirtual 34, 3) := by decide +kernel
theorem dX4_read_55 : decode cX4_read 55 = .ok (.ifCond .eq 31, 3) := by decide +kernel
theorem dX4_read_58 : decode cX4_read 58 = .ok (.aload_n 0, 1) := by decide +kernel
theorem dX4_read_59 : decode cX4_read 59 = .ok (.getfield 31, 3) := by decide +kernel
theorem dX4_read_62 : decode cX4_read 62 = .ok (.bipush 59, 2) := by decide +kernel
theorem dX4_read_64 : decode cX4_read 64 = .ok (.if_icmp .eq 6, 3) := by decide +kernel
theorem dX4_read_67 : decode cX4_read 67 = .ok (.goto 19, 3) := by decide +kernel
theorem dX4_read_70 : decode cX4_read 70 = .ok (.aload_n 0, 1) := by decide +kernel
theorem dX4_read_71 : decode cX4_read 71 = .ok (.bipush (-30), 2) := by decide +kernel
theorem dX4_read_73 : decode cX4_read 73 = .ok (.invokevirtual 38, 3) := by decide +kernel
theorem dX4_read_76 : decode cX4_read 76 = .ok (.aload_n 0, 1) := by decide +kernel
theorem dX4_read_77 : decode cX4_read 77 = .ok (.invokevirtual 28, 3) := by decide +kernel
theorem dX4_read_80 : decode cX4_read 80 = .ok (.iinc 3 1, 3) := by decide +kernel
theorem dX4_read_83 : decode cX4_read 83 = .ok (.goto (-62), 3) := by decide +kernel
theorem dX4_read_86 : decode cX4_read 86 = .ok (.aload_n 0, 1) := by decide +kernel
theorem dX4_read_87 : decode cX4_read 87 = .ok (.iconst 0, 1) := by decide +kernel
theorem dX4_read_88 : decode cX4_read 88 = .ok (.putfield 15, 3) := by decide +kernel
theorem dX4_read_91 : decode cX4_read 91 = .ok (.iload_n 3, 1) := by decide +kernel
theorem dX4_read_92 : decode cX4_read 92 = .ok (.aload_n 2, 1) := by decide +kernel
theorem dX4_read_93 : decode cX4_read 93 = .ok (.arraylength, 1) := by decide +kernel
theorem dX4_read_94 : decode cX4_read 94 = .ok (.if_icmp .ne 15, 3) := by decide +kernel
theorem dX4_read_97 : decode cX4_read 97 = .ok (.aload_n 0, 1) := by decide +kernel
theorem dX4_read_98 : decode cX4_read 98 = .ok (.getfield 31, 3) := by decide +kernel
theorem dX4_read_101 : decode cX4_read 101 = .ok (.iconst 1, 1) := by decide +kernel
theorem dX4_read_102 : decode cX4_read 102 = .ok (.if_icmp .ne 7, 3) := by decide +kernel
theorem dX4_read_105 : decode cX4_read 105 = .ok (.iconst (-1), 1) := by decide +kernel
theorem dX4_read_106 : decode cX4_read 106 = .ok (.goto 7, 3) := by decide +kernel
theorem dX4_read_109 : decode cX4_read 109 = .ok (.aload_n 0, 1) := by decide +kernel
theorem dX4_read_110 : decode cX4_read 110 = .ok (.getfield 42, 3) := by decide +kernel
theorem dX4_read_113 : decode cX4_read 113 = .ok (.ireturn, 1) := by decide +kernel
theorem dX4_either_0 : decode cX4_either 0 = .ok (.aload_n 0, 1) := by decide +kernel
theorem dX4_either_1 : decode cX4_either 1 = .ok (.iload_n 1, 1) := by decide +kernel
theorem dX4_either_2 : decode cX4_either 2 = .ok (.invokevirtual 45, 3) := by decide +kernel
theorem dX4_either_5 : decode cX4_either 5 = .ok (.ifCond .ne 5, 3) := by decide +kernel
theorem dX4_either_8 : decode cX4_either 8 = .ok (.iconst 0, 1) := by decide +kernel
theorem dX4_either_9 : decode cX4_either 9 = .ok (.ireturn, 1) := by decide +kernel
theorem dX4_either_10 : decode cX4_either 10 = .ok (.iconst 0, 1) := by decide +kernel
theorem dX4_either_11 : decode cX4_either 11 = .ok (.istore_n 2, 1) := by decide +kernel
theorem dX4_either_12 : decode cX4_either 12 = .ok (.iload_n 2, 1) := by decide +kernel
theorem dX4_either_13 : decode cX4_either 13 = .ok (.aload_n 0, 1) := by decide +kernel
theorem dX4_either_14 : decode cX4_either 14 = .ok (.getfield 15, 3) := by decide +kernel
theorem dX4_either_17 : decode cX4_either 17 = .ok (.if_icmp .ge 39, 3) := by decide +kernel
theorem dX4_either_20 : decode cX4_either 20 = .ok (.aload_n 0, 1) := by decide +kernel
theorem dX4_either_21 : decode cX4_either 21 = .ok (.getfield 31, 3) := by decide +kernel
theorem dX4_either_24 : decode cX4_either 24 = .ok (.sipush 1009, 3) := by decide +kernel
theorem dX4_either_27 : decode cX4_either 27 = .ok (.if_icmp .ne 29, 3) := by decide +kernel
theorem dX4_either_30 : decode cX4_either 30 = .ok (.aload_n 0, 1) := by decide +kernel
theorem dX4_either_31 : decode cX4_either 31 = .ok (.invokevirtual 28, 3) := by decide +kernel
theorem dX4_either_34 : decode cX4_either 34 = .ok (.aload_n 0, 1) := by decide +kernel
theorem dX4_either_35 : decode cX4_either 35 = .ok (.iload_n 1, 1) := by decide +kernel
theorem dX4_either_36 : decode cX4_either 36 = .ok (.invokevirtual 45, 3) := by decide +kernel
theorem dX4_either_39 : decode cX4_either 39 = .ok (.ifCond .ne 5, 3) := by decide +kernel
theorem dX4_either_42 : decode cX4_either 42 = .ok (.iconst 0, 1) := by decide +kernel
theorem dX4_either_43 : decode cX4_either 43 = .ok (.ireturn, 1) := by decide +kernel
theorem dX4_either_44 : decode cX4_either 44 = .ok (.aload_n 0, 1) := by decide +kernel
theorem dX4_either_45 : decode cX4_either 45 = .ok (.bipush (-26), 2) := by decide +kernel
theorem dX4_either_47 : decode cX4_either 47 = .ok (.invokevirtual 38, 3) := by decide +kernel
theorem dX4_either_50 : decode cX4_either 50 = .ok (.iinc 2 1, 3) := by decide +kernel
theorem dX4_either_53 : decode cX4_either 53 = .ok (.goto (-41), 3) := by decide +kernel
theorem dX4_either_56 : decode cX4_either 56 = .ok (.iconst 1, 1) := by decide +kernel
theorem dX4_either_57 : decode cX4_either 57 = .ok (.ireturn, 1) := by decide +kernel
theorem dX4_both_0 : decode cX4_both 0 = .ok (.aload_n 0, 1) := by decide +kernel
theorem dX4_both_1 : decode cX4_both 1 = .ok (.iload_n 1, 1) := by decide +kernel
theorem dX4_both_2 : decode cX4_both 2 = .ok (.invokevirtual 48, 3) := by decide +kernel
theorem dX4_both_5 : decode cX4_both 5 = .ok (.ifCond .ne 5, 3) := by decide +kernel
theorem dX4_both_8 : decode cX4_both 8 = .ok (.iconst 0, 1) := by decide +kernel
theorem dX4_both_9 : decode cX4_both 9 = .ok (.ireturn, 1) := by decide +kernel
theorem dX4_both_10 : decode cX4_both 10 = .ok (.iconst 0, 1) := by decide +kernel
theorem dX4_both_11 : decode cX4_both 11 = .ok (.istore_n 2, 1) := by decide +kernel
theorem dX4_both_12 : decode cX4_both 12 = .ok (.iload_n 2, 1) := by decide +kernel
theorem dX4_both_13 : decode cX4_both 13 = .ok (.aload_n 0, 1) := by decide +kernel
theorem dX4_both_14 : decode cX4_both 14 = .ok (.getfield 15, 3) := by decide +kernel
theorem dX4_both_17 : decode cX4_both 17 = .ok (.if_icmp .ge 39, 3) := by decide +kernel
theorem dX4_both_20 : decode cX4_both 20 = .ok (.aload_n 0, 1) := by decide +kernel
theorem dX4_both_21 : decode cX4_both 21 = .ok (.getfield 31, 3) := by decide +kernel
theorem dX4_both_24 : decode cX4_both 24 = .ok (.sipush 1010, 3) := by decide +kernel
theorem dX4_both_27 : decode cX4_both 27 = .ok (.if_icmp .ne 29, 3) := by decide +kernel
theorem dX4_both_30 : decode cX4_both 30 = .ok (.aload_n 0, 1) := by decide +kernel
theorem dX4_both_31 : decode cX4_both 31 = .ok (.invokevirtual 28, 3) := by decide +kernel
theorem dX4_both_34 : decode cX4_both 34 = .ok (.aload_n 0, 1) := by decide +kernel
theorem dX4_both_35 : decode cX4_both 35 = .ok (.iload_n 1, 1) := by decide +kernel
theorem dX4_both_36 : decode cX4_both 36 = .ok (.invokevirtual 48, 3) := by decide +kernel
theorem dX4_both_39 : decode cX4_both 39 = .ok (.ifCond .ne 5, 3) := by decide +kernel
theorem dX4_both_42 : decode cX4_both 42 = .ok (.iconst 0, 1) := by decide +kernel
theorem dX4_both_43 : decode cX4_both 43 = .ok (.ireturn, 1) := by decide +kernel
theorem dX4_both_44 : decode cX4_both 44 = .ok (.aload_n 0, 1) := by decide +kernel
theorem dX4_both_45 : decode cX4_both 45 = .ok (.bipush (-25), 2) := by decide +kernel
theorem dX4_both_47 : decode cX4_both 47 = .ok (.invokevirtual 38, 3) := by decide +kernel
theorem dX4_both_50 : decode cX4_both 50 = .ok (.iinc 2 1, 3) := by decide +kernel
theorem dX4_both_53 : decode cX4_both 53 = .ok (.goto (-41), 3) := by decide +kernel
theorem dX4_both_56 : decode cX4_both 56 = .ok (.iconst 1, 1) := by decide +kernel
theorem dX4_both_57 : decode cX4_both 57 = .ok (.ireturn, 1) := by decide +kernel
theorem dX4_not_0 : decode cX4_not 0 = .ok (.aload_n 0, 1) := by decide +kernel
theorem dX4_not_1 : decode cX4_not 1 = .ok (.getfield 31, 3) := by decide +kernel
theorem dX4_not_4 : decode cX4_not 4 = .ok (.sipush 1011, 3) := by decide +kernel
theorem dX4_not_7 : decode cX4_not 7 = .ok (.if_icmp .eq 9, 3) := by decide +kernel
theorem dX4_not_10 : decode cX4_not 10 = .ok (.aload_n 0, 1) := by decide +kernel
theorem dX4_not_11 : decode cX4_not 11 = .ok (.iload_n 1, 1) := by decide +kernel
theorem dX4_not_12 : decode cX4_not 12 = .ok (.invokevirtual 51, 3) := by decide +kernel
theorem dX4_not_15 : decode cX4_not 15 = .ok (.ireturn, 1) := by decide +kernel
theorem dX4_not_16 : decode cX4_not 16 = .ok (.iload_n 1, 1) := by decide +kernel
theorem dX4_not_17 : decode cX4_not 17 = .ok (.iconst 5, 1) := by decide +kernel
theorem dX4_not_18 : decode cX4_not 18 = .ok (.if_icmp .lt 5, 3) := by decide +kernel
theorem dX4_not_21 : decode cX4_not 21 = .ok (.iconst 0, 1) := by decide +kernel
theorem dX4_not_22 : decode cX4_not 22 = .ok (.ireturn, 1) := by decide +kernel
theorem dX4_not_23 : decode cX4_not 23 = .ok (.aload_n 0, 1) := by decide +kernel
theorem dX4_not_24 : decode cX4_not 24 = .ok (.invokevirtual 28, 3) := by decide +kernel
theorem dX4_not_27 : decode cX4_not 27 = .ok (.aload_n 0, 1) := by decide +kernel
theorem dX4_not_28 : decode cX4_not 28 = .ok (.iload_n 1, 1) := by decide +kernel
theorem dX4_not_29 : decode cX4_not 29 = .ok (.iconst 1, 1) := by decide +kernel
theorem dX4_not_30 : decode cX4_not 30 = .ok (.iadd, 1) := by decide +kernel
theorem dX4_not_31 : decode cX4_not 31 = .ok (.invokevirtual 48, 3) := by decide +kernel
theorem dX4_not_34 : decode cX4_not 34 = .ok (.ifCond .ne 5, 3) := by decide +kernel
theorem dX4_not_37 : decode cX4_not 37 = .ok (.iconst 0, 1) := by decide +kernel
theorem dX4_not_38 : decode cX4_not 38 = .ok (.ireturn, 1) := by decide +kernel
theorem dX4_not_39 : decode cX4_not 39 = .ok (.aload_n 0, 1) := by decide +kernel
theorem dX4_not_40 : decode cX4_not 40 = .ok (.bipush (-11), 2) := by decide +kernel
theorem dX4_not_42 : decode cX4_not 42 = .ok (.invokevirtual 38, 3) := by decide +kernel
theorem dX4_not_45 : decode cX4_not 45 = .ok (.iconst 1, 1) := by decide +kernel
theorem dX4_not_46 : decode cX4_not 46 = .ok (.ireturn, 1) := by decide +kernel
theorem dX4_compared_0 : decode cX4_compared 0 = .ok (.aload_n 0, 1) := by decide +kernel
theorem dX4_compared_1 : decode cX4_compared 1 = .ok (.iload_n 1, 1) := by decide +kernel
theorem dX4_compared_2 : decode cX4_compared 2 = .ok (.invokevirtual 54, 3) := by decide +kernel
theorem dX4_compared_5 : decode cX4_compared 5 = .ok (.ifCond .ne 5, 3) := by decide +kernel
theorem dX4_compared_8 : decode cX4_compared 8 = .ok (.iconst 0, 1) := by decide +kernel
theorem dX4_compared_9 : decode cX4_compared 9 = .ok (.ireturn, 1) := by decide +kernel
theorem dX4_compared_10 : decode cX4_compared 10 = .ok (.aload_n 0, 1) := by decide +kernel
theorem dX4_compared_11 : decode cX4_compared 11 = .ok (.getfield 31, 3) := by decide +kernel
theorem dX4_compared_14 : decode cX4_compared 14 = .ok (.bipush 60, 2) := by decide +kernel
theorem dX4_compared_16 : decode cX4_compared 16 = .ok (.if_icmp .eq 14, 3) := by decide +kernel
theorem dX4_compared_19 : decode cX4_compared 19 = .ok (.aload_n 0, 1) := by decide +kernel
theorem dX4_compared_20 : decode cX4_compared 20 = .ok (.getfield 31, 3) := by decide +kernel
theorem dX4_compared_23 : decode cX4_compared 23 = .ok (.bipush 61, 2) := by decide +kernel
theorem dX4_compared_25 : decode cX4_compared 25 = .ok (.if_icmp .eq 5, 3) := by decide +kernel
theorem dX4_compared_28 : decode cX4_compared 28 = .ok (.iconst 1, 1) := by decide +kernel
theorem dX4_compared_29 : decode cX4_compared 29 = .ok (.ireturn, 1) := by decide +kernel
theorem dX4_compared_30 : decode cX4_compared 30 = .ok (.aload_n 0, 1) := by decide +kernel
theorem dX4_compared_31 : decode cX4_compared 31 = .ok (.getfield 31, 3) := by decide +kernel
theorem dX4_compared_34 : decode cX4_compared 34 = .ok (.bipush 60, 2) := by decide +kernel
theorem dX4_compared_36 : decode cX4_compared 36 = .ok (.if_icmp .ne 8, 3) := by decide +kernel
theorem dX4_compared_39 : decode cX4_compared 39 = .ok (.bipush (-23), 2) := by decide +kernel
theorem dX4_compared_41 : decode cX4_compared 41 = .ok (.goto 5, 3) := by decide +kernel
theorem dX4_compared_44 : decode cX4_compared 44 = .ok (.bipush (-24), 2) := by decide +kernel
theorem dX4_compared_46 : decode cX4_compared 46 = .ok (.istore_n 2, 1) := by decide +kernel
theorem dX4_compared_47 : decode cX4_compared 47 = .ok (.aload_n 0, 1) := by decide +kernel
theorem dX4_compared_48 : decode cX4_compared 48 = .ok (.invokevirtual 28, 3) := by decide +kernel
theorem dX4_compared_51 : decode cX4_compared 51 = .ok (.aload_n 0, 1) := by decide +kernel
theorem dX4_compared_52 : decode cX4_compared 52 = .ok (.iload_n 1, 1) := by decide +kernel
theorem dX4_compared_53 : decode cX4_compared 53 = .ok (.invokevirtual 54, 3) := by decide +kernel
theorem dX4_compared_56 : decode cX4_compared 56 = .ok (.ifCond .ne 5, 3) := by decide +kernel
theorem dX4_compared_59 : decode cX4_compared 59 = .ok (.iconst 0, 1) := by decide +kernel
theorem dX4_compared_60 : decode cX4_compared 60 = .ok (.ireturn, 1) := by decide +kernel
theorem dX4_compared_61 : decode cX4_compared 61 = .ok (.aload_n 0, 1) := by decide +kernel
theorem dX4_compared_62 : decode cX4_compared 62 = .ok (.iload_n 2, 1) := by decide +kernel
theorem dX4_compared_63 : decode cX4_compared 63 = .ok (.invokevirtual 38, 3) := by decide +kernel
theorem dX4_compared_66 : decode cX4_compared 66 = .ok (.iconst 1, 1) := by decide +kernel
theorem dX4_compared_67 : decode cX4_compared 67 = .ok (.ireturn, 1) := by decide +kernel
theorem dX4_sum_0 : decode cX4_sum 0 = .ok (.aload_n 0, 1) := by decide +kernel
theorem dX4_sum_1 : decode cX4_sum 1 = .ok (.iload_n 1, 1) := by decide +kernel
theorem dX4_sum_2 : decode cX4_sum 2 = .ok (.invokevirtual 57, 3) := by decide +kernel
theorem dX4_sum_5 : decode cX4_sum 5 = .ok (.ifCond .ne 5, 3) := by decide +kernel
theorem dX4_sum_8 : decode cX4_sum 8 = .ok (.iconst 0, 1) := by decide +kernel
theorem dX4_sum_9 : decode cX4_sum 9 = .ok (.ireturn, 1) := by decide +kernel
theorem dX4_sum_10 : decode cX4_sum 10 = .ok (.iconst 0, 1) := by decide +kernel
theorem dX4_sum_11 : decode cX4_sum 11 = .ok (.istore_n 2, 1) := by decide +kernel
theorem dX4_sum_12 : decode cX4_sum 12 = .ok (.iload_n 2, 1) := by decide +kernel
theorem dX4_sum_13 : decode cX4_sum 13 = .ok (.aload_n 0, 1) := by decide +kernel
theorem dX4_sum_14 : decode cX4_sum 14 = .ok (.getfield 15, 3) := by decide +kernel
theorem dX4_sum_17 : decode cX4_sum 17 = .ok (.if_icmp .ge 63, 3) := by decide +kernel
theorem dX4_sum_20 : decode cX4_sum 20 = .ok (.aload_n 0, 1) := by decide +kernel
theorem dX4_sum_21 : decode cX4_sum 21 = .ok (.getfield 31, 3) := by decide +kernel
theorem dX4_sum_24 : decode cX4_sum 24 = .ok (.bipush 43, 2) := by decide +kernel
theorem dX4_sum_26 : decode cX4_sum 26 = .ok (.if_icmp .eq 12, 3) := by decide +kernel
theorem dX4_sum_29 : decode cX4_sum 29 = .ok (.aload_n 0, 1) := by decide +kernel
theorem dX4_sum_30 : decode cX4_sum 30 = .ok (.getfield 31, 3) := by decide +kernel
theorem dX4_sum_33 : decode cX4_sum 33 = .ok (.bipush 45, 2) := by decide +kernel
theorem dX4_sum_35 : decode cX4_sum 35 = .ok (.if_icmp .ne 45, 3) := by decide +kernel
theorem dX4_sum_38 : decode cX4_sum 38 = .ok (.aload_n 0, 1) := by decide +kernel
theorem dX4_sum_39 : decode cX4_sum 39 = .ok (.getfield 31, 3) := by decide +kernel
theorem dX4_sum_42 : decode cX4_sum 42 = .ok (.bipush 43, 2) := by decide +kernel
theorem dX4_sum_44 : decode cX4_sum 44 = .ok (.if_icmp .ne 8, 3) := by decide +kernel
theorem dX4_sum_47 : decode cX4_sum 47 = .ok (.bipush (-21), 2) := by decide +kernel
theorem dX4_sum_49 : decode cX4_sum 49 = .ok (.goto 5, 3) := by decide +kernel
theorem dX4_sum_52 : decode cX4_sum 52 = .ok (.bipush (-22), 2) := by decide +kernel
theorem dX4_sum_54 : decode cX4_sum 54 = .ok (.istore_n 3, 1) := by decide +kernel
theorem dX4_sum_55 : decode cX4_sum 55 = .ok (.aload_n 0, 1) := by decide +kernel
theorem dX4_sum_56 : decode cX4_sum 56 = .ok (.invokevirtual 28, 3) := by decide +kernel
theorem dX4_sum_59 : decode cX4_sum 59 = .ok (.aload_n 0, 1) := by decide +kernel
theorem dX4_sum_60 : decode cX4_sum 60 = .ok (.iload_n 1, 1) := by decide +kernel
theorem dX4_sum_61 : decode cX4_sum 61 = .ok (.invokevirtual 57, 3) := by decide +kernel
theorem dX4_sum_64 : decode cX4_sum 64 = .ok (.ifCond .ne 5, 3) := by decide +kernel
theorem dX4_sum_67 : decode cX4_sum 67 = .ok (.iconst 0, 1) := by decide +kernel
theorem dX4_sum_68 : decode cX4_sum 68 = .ok (.ireturn, 1) := by decide +kernel
theorem dX4_sum_69 : decode cX4_sum 69 = .ok (.aload_n 0, 1) := by decide +kernel
theorem dX4_sum_70 : decode cX4_sum 70 = .ok (.iload_n 3, 1) := by decide +kernel
theorem dX4_sum_71 : decode cX4_sum 71 = .ok (.invokevirtual 38, 3) := by decide +kernel
theorem dX4_sum_74 : decode cX4_sum 74 = .ok (.iinc 2 1, 3) := by decide +kernel
theorem dX4_sum_77 : decode cX4_sum 77 = .ok (.goto (-65), 3) := by decide +kernel
theorem dX4_sum_80 : decode cX4_sum 80 = .ok (.iconst 1, 1) := by decide +kernel
theorem dX4_sum_81 : decode cX4_sum 81 = .ok (.ireturn, 1) := by decide +kernel
theorem dX4_term_0 : decode cX4_term 0 = .ok (.aload_n 0, 1) := by decide +kernel
theorem dX4_term_1 : decode cX4_term 1 = .ok (.iload_n 1, 1) := by decide +kernel
theorem dX4_term_2 : decode cX4_term 2 = .ok (.invokevirtual 60, 3) := by decide +kernel
theorem dX4_term_5 : decode cX4_term 5 = .ok (.ifCond .ne 5, 3) := by decide +kernel
theorem dX4_term_8 : decode cX4_term 8 = .ok (.iconst 0, 1) := by decide +kernel
theorem dX4_term_9 : decode cX4_term 9 = .ok (.ireturn, 1) := by decide +kernel
theorem dX4_term_10 : decode cX4_term 10 = .ok (.iconst 0, 1) := by decide +kernel
theorem dX4_term_11 : decode cX4_term 11 = .ok (.istore_n 2, 1) := by decide +kernel
theorem dX4_term_12 : decode cX4_term 12 = .ok (.iload_n 2, 1) := by decide +kernel
theorem dX4_term_13 : decode cX4_term 13 = .ok (.aload_n 0, 1) := by decide +kernel
theorem dX4_term_14 : decode cX4_term 14 = .ok (.getfield 15, 3) := by decide +kernel
theorem dX4_term_17 : decode cX4_term 17 = .ok (.if_icmp .ge 38, 3) := by decide +kernel
theorem dX4_term_20 : decode cX4_term 20 = .ok (.aload_n 0, 1) := by decide +kernel
theorem dX4_term_21 : decode cX4_term 21 = .ok (.getfield 31, 3) := by decide +kernel
theorem dX4_term_24 : decode cX4_term 24 = .ok (.bipush 42, 2) := by decide +kernel
theorem dX4_term_26 : decode cX4_term 26 = .ok (.if_icmp .ne 29, 3) := by decide +kernel
theorem dX4_term_29 : decode cX4_term 29 = .ok (.aload_n 0, 1) := by decide +kernel
theorem dX4_term_30 : decode cX4_term 30 = .ok (.invokevirtual 28, 3) := by decide +kernel
theorem dX4_term_33 : decode cX4_term 33 = .ok (.aload_n 0, 1) := by decide +kernel
theorem dX4_term_34 : decode cX4_term 34 = .ok (.iload_n 1, 1) := by decide +kernel
theorem dX4_term_35 : decode cX4_term 35 = .ok (.invokevirtual 60, 3) := by decide +kernel
theorem dX4_term_38 : decode cX4_term 38 = .ok (.ifCond .ne 5, 3) := by decide +kernel
theorem dX4_term_41 : decode cX4_term 41 = .ok (.iconst 0, 1) := by decide +kernel
theorem dX4_term_42 : decode cX4_term 42 = .ok (.ireturn, 1) := by decide +kernel
theorem dX4_term_43 : decode cX4_term 43 = .ok (.aload_n 0, 1) := by decide +kernel
theorem dX4_term_44 : decode cX4_term 44 = .ok (.bipush (-20), 2) := by decide +kernel
theorem dX4_term_46 : decode cX4_term 46 = .ok (.invokevirtual 38, 3) := by decide +kernel
theorem dX4_term_49 : decode cX4_term 49 = .ok (.iinc 2 1, 3) := by decide +kernel
theorem dX4_term_52 : decode cX4_term 52 = .ok (.goto (-40), 3) := by decide +kernel
theorem dX4_term_55 : decode cX4_term 55 = .ok (.iconst 1, 1) := by decide +kernel
theorem dX4_term_56 : decode cX4_term 56 = .ok (.ireturn, 1) := by decide +kernel
theorem dX4_single_0 : decode cX4_single 0 = .ok (.aload_n 0, 1) := by decide +kernel
theorem dX4_single_1 : decode cX4_single 1 = .ok (.getfield 31, 3) := by decide +kernel
theorem dX4_single_4 : decode cX4_single 4 = .ok (.iconst 2, 1) := by decide +kernel
theorem dX4_single_5 : decode cX4_single 5 = .ok (.if_icmp .ne 17, 3) := by decide +kernel
theorem dX4_single_8 : decode cX4_single 8 = .ok (.aload_n 0, 1) := by decide +kernel
theorem dX4_single_9 : decode cX4_single 9 = .ok (.aload_n 0, 1) := by decide +kernel
theorem dX4_single_10 : decode cX4_single 10 = .ok (.getfield 63, 3) := by decide +kernel
theorem dX4_single_13 : decode cX4_single 13 = .ok (.invokevirtual 38, 3) := by decide +kernel
theorem dX4_single_16 : decode cX4_single 16 = .ok (.aload_n 0, 1) := by decide +kernel
theorem dX4_single_17 : decode cX4_single 17 = .ok (.invokevirtual 28, 3) := by decide +kernel
theorem dX4_single_20 : decode cX4_single 20 = .ok (.iconst 1, 1) := by decide +kernel
theorem dX4_single_21 : decode cX4_single 21 = .ok (.ireturn, 1) := by decide +kernel
theorem dX4_single_22 : decode cX4_single 22 = .ok (.aload_n 0, 1) := by decide +kernel
theorem dX4_single_23 : decode cX4_single 23 = .ok (.getfield 31, 3) := by decide +kernel
theorem dX4_single_26 : decode cX4_single 26 = .ok (.sipush 1000, 3) := by decide +kernel
theorem dX4_single_29 : decode cX4_single 29 = .ok (.if_icmp .lt 33, 3) := by decide +kernel
theorem dX4_single_32 : decode cX4_single 32 = .ok (.aload_n 0, 1) := by decide +kernel
theorem dX4_single_33 : decode cX4_single 33 = .ok (.getfield 31, 3) := by decide +kernel
theorem dX4_single_36 : decode cX4_single 36 = .ok (.sipush 1006, 3) := by decide +kernel
theorem dX4_single_39 : decode cX4_single 39 = .ok (.if_icmp .ge 23, 3) := by decide +kernel
theorem dX4_single_42 : decode cX4_single 42 = .ok (.aload_n 0, 1) := by decide +kernel
theorem dX4_single_43 : decode cX4_single 43 = .ok (.iconst (-1), 1) := by decide +kernel
theorem dX4_single_44 : decode cX4_single 44 = .ok (.aload_n 0, 1) := by decide +kernel
theorem dX4_single_45 : decode cX4_single 45 = .ok (.getfield 31, 3) := by decide +kernel
theorem dX4_single_48 : decode cX4_single 48 = .ok (.sipush 1000, 3) := by decide +kernel
theorem dX4_single_51 : decode cX4_single 51 = .ok (.isub, 1) := by decide +kernel
theorem dX4_single_52 : decode cX4_single 52 = .ok (.isub, 1) := by decide +kernel
theorem dX4_single_53 : decode cX4_single 53 = .ok (.invokevirtual 38, 3) := by decide +kernel
theorem dX4_single_56 : decode cX4_single 56 = .ok (.aload_n 0, 1) := by decide +kernel
theorem dX4_single_57 : decode cX4_single 57 = .ok (.invokevirtual 28, 3) := by decide +kernel
theorem dX4_single_60 : decode cX4_single 60 = .ok (.iconst 1, 1) := by decide +kernel
theorem dX4_single_61 : decode cX4_single 61 = .ok (.ireturn, 1) := by decide +kernel
theorem dX4_single_62 : decode cX4_single 62 = .ok (.aload_n 0, 1) := by decide +kernel
theorem dX4_single_63 : decode cX4_single 63 = .ok (.getfield 31, 3) := by decide +kernel
theorem dX4_single_66 : decode cX4_single 66 = .ok (.bipush 40, 2) := by decide +kernel
theorem dX4_single_68 : decode cX4_single 68 = .ok (.if_icmp .eq 12, 3) := by decide +kernel
theorem dX4_single_71 : decode cX4_single 71 = .ok (.aload_n 0, 1) := by decide +kernel
theorem dX4_single_72 : decode cX4_single 72 = .ok (.getfield 31, 3) := by decide +kernel
theorem dX4_single_75 : decode cX4_single 75 = .ok (.bipush 45, 2) := by decide +kernel
theorem dX4_single_77 : decode cX4_single 77 = .ok (.if_icmp .ne 8, 3) := by decide +kernel
theorem dX4_single_80 : decode cX4_single 80 = .ok (.iload_n 1, 1) := by decide +kernel
theorem dX4_single_81 : decode cX4_single 81 = .ok (.iconst 5, 1) := by decide +kernel
theorem dX4_single_82 : decode cX4_single 82 = .ok (.if_icmp .lt 5, 3) := by decide +kernel
theorem dX4_single_85 : decode cX4_single 85 = .ok (.iconst 0, 1) := by decide +kernel
theorem dX4_single_86 : decode cX4_single 86 = .ok (.ireturn, 1) := by decide +kernel
theorem dX4_single_87 : decode cX4_single 87 = .ok (.aload_n 0, 1) := by decide +kernel
theorem dX4_single_88 : decode cX4_single 88 = .ok (.getfield 31, 3) := by decide +kernel
theorem dX4_single_91 : decode cX4_single 91 = .ok (.bipush 40, 2) := by decide +kernel
theorem dX4_single_93 : decode cX4_single 93 = .ok (.if_icmp .ne 13, 3) := by decide +kernel
theorem dX4_single_96 : decode cX4_single 96 = .ok (.aload_n 0, 1) := by decide +kernel
theorem dX4_single_97 : decode cX4_single 97 = .ok (.iload_n 1, 1) := by decide +kernel
theorem dX4_single_98 : decode cX4_single 98 = .ok (.iconst 1, 1) := by decide +kernel
theorem dX4_single_99 : decode cX4_single 99 = .ok (.iadd, 1) := by decide +kernel
theorem dX4_single_100 : decode cX4_single 100 = .ok (.invokevirtual 66, 3) := by decide +kernel
theorem dX4_single_103 : decode cX4_single 103 = .ok (.goto 10, 3) := by decide +kernel
theorem dX4_single_106 : decode cX4_single 106 = .ok (.aload_n 0, 1) := by decide +kernel
theorem dX4_single_107 : decode cX4_single 107 = .ok (.iload_n 1, 1) := by decide +kernel
theorem dX4_single_108 : decode cX4_single 108 = .ok (.iconst 1, 1) := by decide +kernel
theorem dX4_single_109 : decode cX4_single 109 = .ok (.iadd, 1) := by decide +kernel
theorem dX4_single_110 : decode cX4_single 110 = .ok (.invokevirtual 69, 3) := by decide +kernel
theorem dX4_single_113 : decode cX4_single 113 = .ok (.ireturn, 1) := by decide +kernel
theorem dX4_bracket_0 : decode cX4_bracket 0 = .ok (.aload_n 0, 1) := by decide +kernel
theorem dX4_bracket_1 : decode cX4_bracket 1 = .ok (.invokevirtual 28, 3) := by decide +kernel
theorem dX4_bracket_4 : decode cX4_bracket 4 = .ok (.aload_n 0, 1) := by decide +kernel
theorem dX4_bracket_5 : decode cX4_bracket 5 = .ok (.iload_n 1, 1) := by decide +kernel
theorem dX4_bracket_6 : decode cX4_bracket 6 = .ok (.invokevirtual 34, 3) := by decide +kernel
theorem dX4_bracket_9 : decode cX4_bracket 9 = .ok (.ifCond .eq 12, 3) := by decide +kernel
theorem dX4_bracket_12 : decode cX4_bracket 12 = .ok (.aload_n 0, 1) := by decide +kernel
theorem dX4_bracket_13 : decode cX4_bracket 13 = .ok (.getfield 31, 3) := by decide +kernel
theorem dX4_bracket_16 : decode cX4_bracket 16 = .ok (.bipush 41, 2) := by decide +kernel
theorem dX4_bracket_18 : decode cX4_bracket 18 = .ok (.if_icmp .eq 5, 3) := by decide +kernel
theorem dX4_bracket_21 : decode cX4_bracket 21 = .ok (.iconst 0, 1) := by decide +kernel
theorem dX4_bracket_22 : decode cX4_bracket 22 = .ok (.ireturn, 1) := by decide +kernel
theorem dX4_bracket_23 : decode cX4_bracket 23 = .ok (.aload_n 0, 1) := by decide +kernel
theorem dX4_bracket_24 : decode cX4_bracket 24 = .ok (.invokevirtual 28, 3) := by decide +kernel
theorem dX4_bracket_27 : decode cX4_bracket 27 = .ok (.iconst 1, 1) := by decide +kernel
theorem dX4_bracket_28 : decode cX4_bracket 28 = .ok (.ireturn, 1) := by decide +kernel
theorem dX4_negated_0 : decode cX4_negated 0 = .ok (.aload_n 0, 1) := by decide +kernel
theorem dX4_negated_1 : decode cX4_negated 1 = .ok (.invokevirtual 28, 3) := by decide +kernel
theorem dX4_negated_4 : decode cX4_negated 4 = .ok (.aload_n 0, 1) := by decide +kernel
theorem dX4_negated_5 : decode cX4_negated 5 = .ok (.iload_n 1, 1) := by decide +kernel
theorem dX4_negated_6 : decode cX4_negated 6 = .ok (.invokevirtual 60, 3) := by decide +kernel
theorem dX4_negated_9 : decode cX4_negated 9 = .ok (.ifCond .ne 5, 3) := by decide +kernel
theorem dX4_negated_12 : decode cX4_negated 12 = .ok (.iconst 0, 1) := by decide +kernel
theorem dX4_negated_13 : decode cX4_negated 13 = .ok (.ireturn, 1) := by decide +kernel
theorem dX4_negated_14 : decode cX4_negated 14 = .ok (.aload_n 0, 1) := by decide +kernel
theorem dX4_negated_15 : decode cX4_negated 15 = .ok (.bipush (-12), 2) := by decide +kernel
theorem dX4_negated_17 : decode cX4_negated 17 = .ok (.invokevirtual 38, 3) := by decide +kernel
theorem dX4_negated_20 : decode cX4_negated 20 = .ok (.iconst 1, 1) := by decide +kernel
theorem dX4_negated_21 : decode cX4_negated 21 = .ok (.ireturn, 1) := by decide +kernel
theorem dX4_write_0 : decode cX4_write 0 = .ok (.aload_n 0, 1) := by decide +kernel
theorem dX4_write_1 : decode cX4_write 1 = .ok (.getfield 19, 3) := by decide +kernel
theorem dX4_write_4 : decode cX4_write 4 = .ok (.ifnull 35, 3) := by decide +kernel
theorem dX4_write_7 : decode cX4_write 7 = .ok (.aload_n 0, 1) := by decide +kernel
theorem dX4_write_8 : decode cX4_write 8 = .ok (.getfield 22, 3) := by decide +kernel
theorem dX4_write_11 : decode cX4_write 11 = .ok (.aload_n 0, 1) := by decide +kernel
theorem dX4_write_12 : decode cX4_write 12 = .ok (.getfield 19, 3) := by decide +kernel
theorem dX4_write_15 : decode cX4_write 15 = .ok (.arraylength, 1) := by decide +kernel
theorem dX4_write_16 : decode cX4_write 16 = .ok (.if_icmp .ge 23, 3) := by decide +kernel
theorem dX4_write_19 : decode cX4_write 19 = .ok (.aload_n 0, 1) := by decide +kernel
theorem dX4_write_20 : decode cX4_write 20 = .ok (.getfield 19, 3) := by decide +kernel
theorem dX4_write_23 : decode cX4_write 23 = .ok (.aload_n 0, 1) := by decide +kernel
theorem dX4_write_24 : decode cX4_write 24 = .ok (.getfield 22, 3) := by decide +kernel
theorem dX4_write_27 : decode cX4_write 27 = .ok (.iload_n 1, 1) := by decide +kernel
theorem dX4_write_28 : decode cX4_write 28 = .ok (.iastore, 1) := by decide +kernel
theorem dX4_write_29 : decode cX4_write 29 = .ok (.aload_n 0, 1) := by decide +kernel
theorem dX4_write_30 : decode cX4_write 30 = .ok (.dup, 1) := by decide +kernel
theorem dX4_write_31 : decode cX4_write 31 = .ok (.getfield 22, 3) := by decide +kernel
theorem dX4_write_34 : decode cX4_write 34 = .ok (.iconst 1, 1) := by decide +kernel
theorem dX4_write_35 : decode cX4_write 35 = .ok (.iadd, 1) := by decide +kernel
theorem dX4_write_36 : decode cX4_write 36 = .ok (.putfield 22, 3) := by decide +kernel
theorem dX4_write_39 : decode cX4_write 39 = .ok (.return_, 1) := by decide +kernel
theorem dX4_next_0 : decode cX4_next 0 = .ok (.aload_n 0, 1) := by decide +kernel
theorem dX4_next_1 : decode cX4_next 1 = .ok (.getfield 25, 3) := by decide +kernel
theorem dX4_next_4 : decode cX4_next 4 = .ok (.aload_n 0, 1) := by decide +kernel
theorem dX4_next_5 : decode cX4_next 5 = .ok (.getfield 15, 3) := by decide +kernel
theorem dX4_next_8 : decode cX4_next 8 = .ok (.if_icmp .ge 44, 3) := by decide +kernel
theorem dX4_next_11 : decode cX4_next 11 = .ok (.aload_n 0, 1) := by decide +kernel
theorem dX4_next_12 : decode cX4_next 12 = .ok (.getfield 11, 3) := by decide +kernel
theorem dX4_next_15 : decode cX4_next 15 = .ok (.aload_n 0, 1) := by decide +kernel
theorem dX4_next_16 : decode cX4_next 16 = .ok (.getfield 25, 3) := by decide +kernel
theorem dX4_next_19 : decode cX4_next 19 = .ok (.iaload, 1) := by decide +kernel
theorem dX4_next_20 : decode cX4_next 20 = .ok (.bipush 32, 2) := by decide +kernel
theorem dX4_next_22 : decode cX4_next 22 = .ok (.if_icmp .eq 17, 3) := by decide +kernel
theorem dX4_next_25 : decode cX4_next 25 = .ok (.aload_n 0, 1) := by decide +kernel
theorem dX4_next_26 : decode cX4_next 26 = .ok (.getfield 11, 3) := by decide +kernel
theorem dX4_next_29 : decode cX4_next 29 = .ok (.aload_n 0, 1) := by decide +kernel
theorem dX4_next_30 : decode cX4_next 30 = .ok (.getfield 25, 3) := by decide +kernel
theorem dX4_next_33 : decode cX4_next 33 = .ok (.iaload, 1) := by decide +kernel
theorem dX4_next_34 : decode cX4_next 34 = .ok (.bipush 10, 2) := by decide +kernel
theorem dX4_next_36 : decode cX4_next 36 = .ok (.if_icmp .ne 16, 3) := by decide +kernel
theorem dX4_next_39 : decode cX4_next 39 = .ok (.aload_n 0, 1) := by decide +kernel
theorem dX4_next_40 : decode cX4_next 40 = .ok (.dup, 1) := by decide +kernel
theorem dX4_next_41 : decode cX4_next 41 = .ok (.getfield 25, 3) := by decide +kernel
theorem dX4_next_44 : decode cX4_next 44 = .ok (.iconst 1, 1) := by decide +kernel
theorem dX4_next_45 : decode cX4_next 45 = .ok (.iadd, 1) := by decide +kernel
theorem dX4_next_46 : decode cX4_next 46 = .ok (.putfield 25, 3) := by decide +kernel
theorem dX4_next_49 : decode cX4_next 49 = .ok (.goto (-49), 3) := by decide +kernel
theorem dX4_next_52 : decode cX4_next 52 = .ok (.aload_n 0, 1) := by decide +kernel
theorem dX4_next_53 : decode cX4_next 53 = .ok (.aload_n 0, 1) := by decide +kernel
theorem dX4_next_54 : decode cX4_next 54 = .ok (.getfield 25, 3) := by decide +kernel
theorem dX4_next_57 : decode cX4_next 57 = .ok (.putfield 42, 3) := by decide +kernel
theorem dX4_next_60 : decode cX4_next 60 = .ok (.aload_n 0, 1) := by decide +kernel
theorem dX4_next_61 : decode cX4_next 61 = .ok (.getfield 25, 3) := by decide +kernel
theorem dX4_next_64 : decode cX4_next 64 = .ok (.aload_n 0, 1) := by decide +kernel
theorem dX4_next_65 : decode cX4_next 65 = .ok (.getfield 15, 3) := by decide +kernel
theorem dX4_next_68 : decode cX4_next 68 = .ok (.if_icmp .lt 9, 3) := by decide +kernel
theorem dX4_next_71 : decode cX4_next 71 = .ok (.aload_n 0, 1) := by decide +kernel
theorem dX4_next_72 : decode cX4_next 72 = .ok (.iconst 1, 1) := by decide +kernel
theorem dX4_next_73 : decode cX4_next 73 = .ok (.putfield 31, 3) := by decide +kernel
theorem dX4_next_76 : decode cX4_next 76 = .ok (.return_, 1) := by decide +kernel
theorem dX4_next_77 : decode cX4_next 77 = .ok (.aload_n 0, 1) := by decide +kernel
theorem dX4_next_78 : decode cX4_next 78 = .ok (.getfield 11, 3) := by decide +kernel
theorem dX4_next_81 : decode cX4_next 81 = .ok (.aload_n 0, 1) := by decide +kernel
theorem dX4_next_82 : decode cX4_next 82 = .ok (.getfield 25, 3) := by decide +kernel
theorem dX4_next_85 : decode cX4_next 85 = .ok (.iaload, 1) := by decide +kernel
theorem dX4_next_86 : decode cX4_next 86 = .ok (.istore_n 1, 1) := by decide +kernel
theorem dX4_next_87 : decode cX4_next 87 = .ok (.aload_n 0, 1) := by decide +kernel
theorem dX4_next_88 : decode cX4_next 88 = .ok (.dup, 1) := by decide +kernel
theorem dX4_next_89 : decode cX4_next 89 = .ok (.getfield 25, 3) := by decide +kernel
theorem dX4_next_92 : decode cX4_next 92 = .ok (.iconst 1, 1) := by decide +kernel
theorem dX4_next_93 : decode cX4_next 93 = .ok (.iadd, 1) := by decide +kernel
theorem dX4_next_94 : decode cX4_next 94 = .ok (.putfield 25, 3) := by decide +kernel
theorem dX4_next_97 : decode cX4_next 97 = .ok (.iload_n 1, 1) := by decide +kernel
theorem dX4_next_98 : decode cX4_next 98 = .ok (.invokestatic 72, 3) := by decide +kernel
theorem dX4_next_101 : decode cX4_next 101 = .ok (.ifCond .eq 10, 3) := by decide +kernel
theorem dX4_next_104 : decode cX4_next 104 = .ok (.aload_n 0, 1) := by decide +kernel
theorem dX4_next_105 : decode cX4_next 105 = .ok (.invokevirtual 75, 3) := by decide +kernel
theorem dX4_next_108 : decode cX4_next 108 = .ok (.goto 33, 3) := by decide +kernel
theorem dX4_next_111 : decode cX4_next 111 = .ok (.iload_n 1, 1) := by decide +kernel
theorem dX4_next_112 : decode cX4_next 112 = .ok (.invokestatic 78, 3) := by decide +kernel
theorem dX4_next_115 : decode cX4_next 115 = .ok (.ifCond .eq 10, 3) := by decide +kernel
theorem dX4_next_118 : decode cX4_next 118 = .ok (.aload_n 0, 1) := by decide +kernel
theorem dX4_next_119 : decode cX4_next 119 = .ok (.invokevirtual 81, 3) := by decide +kernel
theorem dX4_next_122 : decode cX4_next 122 = .ok (.goto 19, 3) := by decide +kernel
theorem dX4_next_125 : decode cX4_next 125 = .ok (.aload_n 0, 1) := by decide +kernel
theorem dX4_next_126 : decode cX4_next 126 = .ok (.iload_n 1, 1) := by decide +kernel
theorem dX4_next_127 : decode cX4_next 127 = .ok (.invokestatic 84, 3) := by decide +kernel
theorem dX4_next_130 : decode cX4_next 130 = .ok (.ifCond .eq 7, 3) := by decide +kernel
theorem dX4_next_133 : decode cX4_next 133 = .ok (.iload_n 1, 1) := by decide +kernel
theorem dX4_next_134 : decode cX4_next 134 = .ok (.goto 4, 3) := by decide +kernel
theorem dX4_next_137 : decode cX4_next 137 = .ok (.iconst 0, 1) := by decide +kernel
theorem dX4_next_138 : decode cX4_next 138 = .ok (.putfield 31, 3) := by decide +kernel
theorem dX4_next_141 : decode cX4_next 141 = .ok (.return_, 1) := by decide +kernel
theorem dX4_nextWord_0 : decode cX4_nextWord 0 = .ok (.aload_n 0, 1) := by decide +kernel
theorem dX4_nextWord_1 : decode cX4_nextWord 1 = .ok (.getfield 25, 3) := by decide +kernel
theorem dX4_nextWord_4 : decode cX4_nextWord 4 = .ok (.aload_n 0, 1) := by decide +kernel
theorem dX4_nextWord_5 : decode cX4_nextWord 5 = .ok (.getfield 15, 3) := by decide +kernel
theorem dX4_nextWord_8 : decode cX4_nextWord 8 = .ok (.if_icmp .ge 31, 3) := by decide +kernel
theorem dX4_nextWord_11 : decode cX4_nextWord 11 = .ok (.aload_n 0, 1) := by decide +kernel
theorem dX4_nextWord_12 : decode cX4_nextWord 12 = .ok (.getfield 11, 3) := by decide +kernel
theorem dX4_nextWord_15 : decode cX4_nextWord 15 = .ok (.aload_n 0, 1) := by decide +kernel
theorem dX4_nextWord_16 : decode cX4_nextWord 16 = .ok (.getfield 25, 3) := by decide +kernel
theorem dX4_nextWord_19 : decode cX4_nextWord 19 = .ok (.iaload, 1) := by decide +kernel
theorem dX4_nextWord_20 : decode cX4_nextWord 20 = .ok (.invokestatic 72, 3) := by decide +kernel
theorem dX4_nextWord_23 : decode cX4_nextWord 23 = .ok (.ifCond .eq 16, 3) := by decide +kernel
theorem dX4_nextWord_26 : decode cX4_nextWord 26 = .ok (.aload_n 0, 1) := by decide +kernel
theorem dX4_nextWord_27 : decode cX4_nextWord 27 = .ok (.dup, 1) := by decide +kernel
theorem dX4_nextWord_28 : decode cX4_nextWord 28 = .ok (.getfield 25, 3) := by decide +kernel
theorem dX4_nextWord_31 : decode cX4_nextWord 31 = .ok (.iconst 1, 1) := by decide +kernel
theorem dX4_nextWord_32 : decode cX4_nextWord 32 = .ok (.iadd, 1) := by decide +kernel
theorem dX4_nextWord_33 : decode cX4_nextWord 33 = .ok (.putfield 25, 3) := by decide +kernel
theorem dX4_nextWord_36 : decode cX4_nextWord 36 = .ok (.goto (-36), 3) := by decide +kernel
theorem dX4_nextWord_39 : decode cX4_nextWord 39 = .ok (.aload_n 0, 1) := by decide +kernel
theorem dX4_nextWord_40 : decode cX4_nextWord 40 = .ok (.iconst 0, 1) := by decide +kernel
theorem dX4_nextWord_41 : decode cX4_nextWord 41 = .ok (.putfield 31, 3) := by decide +kernel
theorem dX4_nextWord_44 : decode cX4_nextWord 44 = .ok (.iconst 0, 1) := by decide +kernel
theorem dX4_nextWord_45 : decode cX4_nextWord 45 = .ok (.istore_n 1, 1) := by decide +kernel
theorem dX4_nextWord_46 : decode cX4_nextWord 46 = .ok (.iload_n 1, 1) := by decide +kernel
theorem dX4_nextWord_47 : decode cX4_nextWord 47 = .ok (.bipush 12, 2) := by decide +kernel
theorem dX4_nextWord_49 : decode cX4_nextWord 49 = .ok (.if_icmp .ge 29, 3) := by decide +kernel
theorem dX4_nextWord_52 : decode cX4_nextWord 52 = .ok (.aload_n 0, 1) := by decide +kernel
theorem dX4_nextWord_53 : decode cX4_nextWord 53 = .ok (.iload_n 1, 1) := by decide +kernel
theorem dX4_nextWord_54 : decode cX4_nextWord 54 = .ok (.invokestatic 87, 3) := by decide +kernel
theorem dX4_nextWord_57 : decode cX4_nextWord 57 = .ok (.invokevirtual 91, 3) := by decide +kernel
theorem dX4_nextWord_60 : decode cX4_nextWord 60 = .ok (.ifCond .eq 12, 3) := by decide +kernel
theorem dX4_nextWord_63 : decode cX4_nextWord 63 = .ok (.aload_n 0, 1) := by decide +kernel
theorem dX4_nextWord_64 : decode cX4_nextWord 64 = .ok (.sipush 1000, 3) := by decide +kernel
theorem dX4_nextWord_67 : decode cX4_nextWord 67 = .ok (.iload_n 1, 1) := by decide +kernel
theorem dX4_nextWord_68 : decode cX4_nextWord 68 = .ok (.iadd, 1) := by decide +kernel
theorem dX4_nextWord_69 : decode cX4_nextWord 69 = .ok (.putfield 31, 3) := by decide +kernel
theorem dX4_nextWord_72 : decode cX4_nextWord 72 = .ok (.iinc 1 1, 3) := by decide +kernel
theorem dX4_nextWord_75 : decode cX4_nextWord 75 = .ok (.goto (-29), 3) := by decide +kernel
theorem dX4_nextWord_78 : decode cX4_nextWord 78 = .ok (.return_, 1) := by decide +kernel
theorem dX4_nextNumber_0 : decode cX4_nextNumber 0 = .ok (.aload_n 0, 1) := by decide +kernel
theorem dX4_nextNumber_1 : decode cX4_nextNumber 1 = .ok (.getfield 25, 3) := by decide +kernel
theorem dX4_nextNumber_4 : decode cX4_nextNumber 4 = .ok (.aload_n 0, 1) := by decide +kernel
theorem dX4_nextNumber_5 : decode cX4_nextNumber 5 = .ok (.getfield 15, 3) := by decide +kernel
theorem dX4_nextNumber_8 : decode cX4_nextNumber 8 = .ok (.if_icmp .ge 31, 3) := by decide +kernel
theorem dX4_nextNumber_11 : decode cX4_nextNumber 11 = .ok (.aload_n 0, 1) := by decide +kernel
theorem dX4_nextNumber_12 : decode cX4_nextNumber 12 = .ok (.getfield 11, 3) := by decide +kernel
theorem dX4_nextNumber_15 : decode cX4_nextNumber 15 = .ok (.aload_n 0, 1) := by decide +kernel
theorem dX4_nextNumber_16 : decode cX4_nextNumber 16 = .ok (.getfield 25, 3) := by decide +kernel
theorem dX4_nextNumber_19 : decode cX4_nextNumber 19 = .ok (.iaload, 1) := by decide +kernel
theorem dX4_nextNumber_20 : decode cX4_nextNumber 20 = .ok (.invokestatic 78, 3) := by decide +kernel
theorem dX4_nextNumber_23 : decode cX4_nextNumber 23 = .ok (.ifCond .eq 16, 3) := by decide +kernel
theorem dX4_nextNumber_26 : decode cX4_nextNumber 26 = .ok (.aload_n 0, 1) := by decide +kernel
theorem dX4_nextNumber_27 : decode cX4_nextNumber 27 = .ok (.dup, 1) := by decide +kernel
theorem dX4_nextNumber_28 : decode cX4_nextNumber 28 = .ok (.getfield 25, 3) := by decide +kernel
theorem dX4_nextNumber_31 : decode cX4_nextNumber 31 = .ok (.iconst 1, 1) := by decide +kernel
theorem dX4_nextNumber_32 : decode cX4_nextNumber 32 = .ok (.iadd, 1) := by decide +kernel
theorem dX4_nextNumber_33 : decode cX4_nextNumber 33 = .ok (.putfield 25, 3) := by decide +kernel
theorem dX4_nextNumber_36 : decode cX4_nextNumber 36 = .ok (.goto (-36), 3) := by decide +kernel
theorem dX4_nextNumber_39 : decode cX4_nextNumber 39 = .ok (.aload_n 0, 1) := by decide +kernel
theorem dX4_nextNumber_40 : decode cX4_nextNumber 40 = .ok (.iconst 0, 1) := by decide +kernel
theorem dX4_nextNumber_41 : decode cX4_nextNumber 41 = .ok (.putfield 63, 3) := by decide +kernel
theorem dX4_nextNumber_44 : decode cX4_nextNumber 44 = .ok (.aload_n 0, 1) := by decide +kernel
theorem dX4_nextNumber_45 : decode cX4_nextNumber 45 = .ok (.getfield 42, 3) := by decide +kernel
theorem dX4_nextNumber_48 : decode cX4_nextNumber 48 = .ok (.istore_n 1, 1) := by decide +kernel
theorem dX4_nextNumber_49 : decode cX4_nextNumber 49 = .ok (.iload_n 1, 1) := by decide +kernel
theorem dX4_nextNumber_50 : decode cX4_nextNumber 50 = .ok (.aload_n 0, 1) := by decide +kernel
theorem dX4_nextNumber_51 : decode cX4_nextNumber 51 = .ok (.getfield 25, 3) := by decide +kernel
theorem dX4_nextNumber_54 : decode cX4_nextNumber 54 = .ok (.if_icmp .ge 40, 3) := by decide +kernel
theorem dX4_nextNumber_57 : decode cX4_nextNumber 57 = .ok (.iload_n 1, 1) := by decide +kernel
theorem dX4_nextNumber_58 : decode cX4_nextNumber 58 = .ok (.aload_n 0, 1) := by decide +kernel
theorem dX4_nextNumber_59 : decode cX4_nextNumber 59 = .ok (.getfield 42, 3) := by decide +kernel
theorem dX4_nextNumber_62 : decode cX4_nextNumber 62 = .ok (.iconst 4, 1) := by decide +kernel
theorem dX4_nextNumber_63 : decode cX4_nextNumber 63 = .ok (.iadd, 1) := by decide +kernel
theorem dX4_nextNumber_64 : decode cX4_nextNumber 64 = .ok (.if_icmp .ge 30, 3) := by decide +kernel
theorem dX4_nextNumber_67 : decode cX4_nextNumber 67 = .ok (.aload_n 0, 1) := by decide +kernel
theorem dX4_nextNumber_68 : decode cX4_nextNumber 68 = .ok (.bipush 10, 2) := by decide +kernel
theorem dX4_nextNumber_70 : decode cX4_nextNumber 70 = .ok (.aload_n 0, 1) := by decide +kernel
theorem dX4_nextNumber_71 : decode cX4_nextNumber 71 = .ok (.getfield 63, 3) := by decide +kernel
theorem dX4_nextNumber_74 : decode cX4_nextNumber 74 = .ok (.imul, 1) := by decide +kernel
theorem dX4_nextNumber_75 : decode cX4_nextNumber 75 = .ok (.aload_n 0, 1) := by decide +kernel
theorem dX4_nextNumber_76 : decode cX4_nextNumber 76 = .ok (.getfield 11, 3) := by decide +kernel
theorem dX4_nextNumber_79 : decode cX4_nextNumber 79 = .ok (.iload_n 1, 1) := by decide +kernel
theorem dX4_nextNumber_80 : decode cX4_nextNumber 80 = .ok (.iaload, 1) := by decide +kernel
theorem dX4_nextNumber_81 : decode cX4_nextNumber 81 = .ok (.iadd, 1) := by decide +kernel
theorem dX4_nextNumber_82 : decode cX4_nextNumber 82 = .ok (.bipush 48, 2) := by decide +kernel
theorem dX4_nextNumber_84 : decode cX4_nextNumber 84 = .ok (.isub, 1) := by decide +kernel
theorem dX4_nextNumber_85 : decode cX4_nextNumber 85 = .ok (.putfield 63, 3) := by decide +kernel
theorem dX4_nextNumber_88 : decode cX4_nextNumber 88 = .ok (.iinc 1 1, 3) := by decide +kernel
theorem dX4_nextNumber_91 : decode cX4_nextNumber 91 = .ok (.goto (-42), 3) := by decide +kernel
theorem dX4_nextNumber_94 : decode cX4_nextNumber 94 = .ok (.aload_n 0, 1) := by decide +kernel
theorem dX4_nextNumber_95 : decode cX4_nextNumber 95 = .ok (.aload_n 0, 1) := by decide +kernel
theorem dX4_nextNumber_96 : decode cX4_nextNumber 96 = .ok (.getfield 25, 3) := by decide +kernel
theorem dX4_nextNumber_99 : decode cX4_nextNumber 99 = .ok (.aload_n 0, 1) := by decide +kernel
theorem dX4_nextNumber_100 : decode cX4_nextNumber 100 = .ok (.getfield 42, 3) := by decide +kernel
theorem dX4_nextNumber_103 : decode cX4_nextNumber 103 = .ok (.isub, 1) := by decide +kernel
theorem dX4_nextNumber_104 : decode cX4_nextNumber 104 = .ok (.iconst 4, 1) := by decide +kernel
theorem dX4_nextNumber_105 : decode cX4_nextNumber 105 = .ok (.if_icmp .le 7, 3) := by decide +kernel
theorem dX4_nextNumber_108 : decode cX4_nextNumber 108 = .ok (.iconst 0, 1) := by decide +kernel
theorem dX4_nextNumber_109 : decode cX4_nextNumber 109 = .ok (.goto 4, 3) := by decide +kernel
theorem dX4_nextNumber_112 : decode cX4_nextNumber 112 = .ok (.iconst 2, 1) := by decide +kernel
theorem dX4_nextNumber_113 : decode cX4_nextNumber 113 = .ok (.putfield 31, 3) := by decide +kernel
theorem dX4_nextNumber_116 : decode cX4_nextNumber 116 = .ok (.return_, 1) := by decide +kernel
theorem dX4_stands_0 : decode cX4_stands 0 = .ok (.aload_n 1, 1) := by decide +kernel
theorem dX4_stands_1 : decode cX4_stands 1 = .ok (.invokevirtual 95, 3) := by decide +kernel
theorem dX4_stands_4 : decode cX4_stands 4 = .ok (.aload_n 0, 1) := by decide +kernel
theorem dX4_stands_5 : decode cX4_stands 5 = .ok (.getfield 25, 3) := by decide +kernel
theorem dX4_stands_8 : decode cX4_stands 8 = .ok (.aload_n 0, 1) := by decide +kernel
theorem dX4_stands_9 : decode cX4_stands 9 = .ok (.getfield 42, 3) := by decide +kernel
theorem dX4_stands_12 : decode cX4_stands 12 = .ok (.isub, 1) := by decide +kernel
theorem dX4_stands_13 : decode cX4_stands 13 = .ok (.if_icmp .eq 5, 3) := by decide +kernel
theorem dX4_stands_16 : decode cX4_stands 16 = .ok (.iconst 0, 1) := by decide +kernel
theorem dX4_stands_17 : decode cX4_stands 17 = .ok (.ireturn, 1) := by decide +kernel
theorem dX4_stands_18 : decode cX4_stands 18 = .ok (.iconst 0, 1) := by decide +kernel
theorem dX4_stands_19 : decode cX4_stands 19 = .ok (.istore_n 2, 1) := by decide +kernel
theorem dX4_stands_20 : decode cX4_stands 20 = .ok (.iload_n 2, 1) := by decide +kernel
theorem dX4_stands_21 : decode cX4_stands 21 = .ok (.aload_n 1, 1) := by decide +kernel
theorem dX4_stands_22 : decode cX4_stands 22 = .ok (.invokevirtual 95, 3) := by decide +kernel
theorem dX4_stands_25 : decode cX4_stands 25 = .ok (.if_icmp .ge 30, 3) := by decide +kernel
theorem dX4_stands_28 : decode cX4_stands 28 = .ok (.aload_n 1, 1) := by decide +kernel
theorem dX4_stands_29 : decode cX4_stands 29 = .ok (.iload_n 2, 1) := by decide +kernel
theorem dX4_stands_30 : decode cX4_stands 30 = .ok (.invokevirtual 101, 3) := by decide +kernel
theorem dX4_stands_33 : decode cX4_stands 33 = .ok (.aload_n 0, 1) := by decide +kernel
theorem dX4_stands_34 : decode cX4_stands 34 = .ok (.getfield 11, 3) := by decide +kernel
theorem dX4_stands_37 : decode cX4_stands 37 = .ok (.aload_n 0, 1) := by decide +kernel
theorem dX4_stands_38 : decode cX4_stands 38 = .ok (.getfield 42, 3) := by decide +kernel
theorem dX4_stands_41 : decode cX4_stands 41 = .ok (.iload_n 2, 1) := by decide +kernel
theorem dX4_stands_42 : decode cX4_stands 42 = .ok (.iadd, 1) := by decide +kernel
theorem dX4_stands_43 : decode cX4_stands 43 = .ok (.iaload, 1) := by decide +kernel
theorem dX4_stands_44 : decode cX4_stands 44 = .ok (.if_icmp .eq 5, 3) := by decide +kernel
theorem dX4_stands_47 : decode cX4_stands 47 = .ok (.iconst 0, 1) := by decide +kernel
theorem dX4_stands_48 : decode cX4_stands 48 = .ok (.ireturn, 1) := by decide +kernel
theorem dX4_stands_49 : decode cX4_stands 49 = .ok (.iinc 2 1, 3) := by decide +kernel
theorem dX4_stands_52 : decode cX4_stands 52 = .ok (.goto (-32), 3) := by decide +kernel
theorem dX4_stands_55 : decode cX4_stands 55 = .ok (.iconst 1, 1) := by decide +kernel
theorem dX4_stands_56 : decode cX4_stands 56 = .ok (.ireturn, 1) := by decide +kernel
theorem dX4_word_0 : decode cX4_word 0 = .ok (.iload_n 0, 1) := by decide +kernel
theorem dX4_word_1 : decode cX4_word 1 = .ok (.tableswitch 92 0 10 #[59, 62, 65, 68, 71, 74, 77, 80, 83, 86, 89], 59) := by decide +kernel
theorem dX4_word_60 : decode cX4_word 60 = .ok (.ldc 105, 2) := by decide +kernel
theorem dX4_word_62 : decode cX4_word 62 = .ok (.areturn, 1) := by decide +kernel
theorem dX4_word_63 : decode cX4_word 63 = .ok (.ldc 107, 2) := by decide +kernel
theorem dX4_word_65 : decode cX4_word 65 = .ok (.areturn, 1) := by decide +kernel
theorem dX4_word_66 : decode cX4_word 66 = .ok (.ldc 109, 2) := by decide +kernel
theorem dX4_word_68 : decode cX4_word 68 = .ok (.areturn, 1) := by decide +kernel
theorem dX4_word_69 : decode cX4_word 69 = .ok (.ldc 111, 2) := by decide +kernel
theorem dX4_word_71 : decode cX4_word 71 = .ok (.areturn, 1) := by decide +kernel
theorem dX4_word_72 : decode cX4_word 72 = .ok (.ldc 113, 2) := by decide +kernel
theorem dX4_word_74 : decode cX4_word 74 = .ok (.areturn, 1) := by decide +kernel
theorem dX4_word_75 : decode cX4_word 75 = .ok (.ldc 115, 2) := by decide +kernel
theorem dX4_word_77 : decode cX4_word 77 = .ok (.areturn, 1) := by decide +kernel
theorem dX4_word_78 : decode cX4_word 78 = .ok (.ldc 117, 2) := by decide +kernel
theorem dX4_word_80 : decode cX4_word 80 = .ok (.areturn, 1) := by decide +kernel
theorem dX4_word_81 : decode cX4_word 81 = .ok (.ldc 119, 2) := by decide +kernel
theorem dX4_word_83 : decode cX4_word 83 = .ok (.areturn, 1) := by decide +kernel
theorem dX4_word_84 : decode cX4_word 84 = .ok (.ldc 121, 2) := by decide +kernel
theorem dX4_word_86 : decode cX4_word 86 = .ok (.areturn, 1) := by decide +kernel
theorem dX4_word_87 : decode cX4_word 87 = .ok (.ldc 123, 2) := by decide +kernel
theorem dX4_word_89 : decode cX4_word 89 = .ok (.areturn, 1) := by decide +kernel
theorem dX4_word_90 : decode cX4_word 90 = .ok (.ldc 125, 2) := by decide +kernel
theorem dX4_word_92 : decode cX4_word 92 = .ok (.areturn, 1) := by decide +kernel
theorem dX4_word_93 : decode cX4_word 93 = .ok (.ldc 127, 2) := by decide +kernel
theorem dX4_word_95 : decode cX4_word 95 = .ok (.areturn, 1) := by decide +kernel
theorem dX4_isLetter_0 : decode cX4_isLetter 0 = .ok (.iload_n 0, 1) := by decide +kernel
theorem dX4_isLetter_1 : decode cX4_isLetter 1 = .ok (.bipush 97, 2) := by decide +kernel
theorem dX4_isLetter_3 : decode cX4_isLetter 3 = .ok (.if_icmp .lt 13, 3) := by decide +kernel
theorem dX4_isLetter_6 : decode cX4_isLetter 6 = .ok (.iload_n 0, 1) := by decide +kernel
theorem dX4_isLetter_7 : decode cX4_isLetter 7 = .ok (.bipush 122, 2) := by decide +kernel
theorem dX4_isLetter_9 : decode cX4_isLetter 9 = .ok (.if_icmp .gt 7, 3) := by decide +kernel
theorem dX4_isLetter_12 : decode cX4_isLetter 12 = .ok (.iconst 1, 1) := by decide +kernel
theorem dX4_isLetter_13 : decode cX4_isLetter 13 = .ok (.goto 4, 3) := by decide +kernel
theorem dX4_isLetter_16 : decode cX4_isLetter 16 = .ok (.iconst 0, 1) := by decide +kernel
theorem dX4_isLetter_17 : decode cX4_isLetter 17 = .ok (.ireturn, 1) := by decide +kernel
theorem dX4_isDigit_0 : decode cX4_isDigit 0 = .ok (.iload_n 0, 1) := by decide +kernel
theorem dX4_isDigit_1 : decode cX4_isDigit 1 = .ok (.bipush 48, 2) := by decide +kernel
theorem dX4_isDigit_3 : decode cX4_isDigit 3 = .ok (.if_icmp .lt 13, 3) := by decide +kernel
theorem dX4_isDigit_6 : decode cX4_isDigit 6 = .ok (.iload_n 0, 1) := by decide +kernel
theorem dX4_isDigit_7 : decode cX4_isDigit 7 = .ok (.bipush 57, 2) := by decide +kernel
theorem dX4_isDigit_9 : decode cX4_isDigit 9 = .ok (.if_icmp .gt 7, 3) := by decide +kernel
theorem dX4_isDigit_12 : decode cX4_isDigit 12 = .ok (.iconst 1, 1) := by decide +kernel
theorem dX4_isDigit_13 : decode cX4_isDigit 13 = .ok (.goto 4, 3) := by decide +kernel
theorem dX4_isDigit_16 : decode cX4_isDigit 16 = .ok (.iconst 0, 1) := by decide +kernel
theorem dX4_isDigit_17 : decode cX4_isDigit 17 = .ok (.ireturn, 1) := by decide +kernel
theorem dX4_isSign_0 : decode cX4_isSign 0 = .ok (.ldc 128, 2) := by decide +kernel
theorem dX4_isSign_2 : decode cX4_isSign 2 = .ok (.iload_n 0, 1) := by decide +kernel
theorem dX4_isSign_3 : decode cX4_isSign 3 = .ok (.i2c, 1) := by decide +kernel
theorem dX4_isSign_4 : decode cX4_isSign 4 = .ok (.invokevirtual 130, 3) := by decide +kernel
theorem dX4_isSign_7 : decode cX4_isSign 7 = .ok (.ifCond .lt 7, 3) := by decide +kernel
theorem dX4_isSign_10 : decode cX4_isSign 10 = .ok (.iconst 1, 1) := by decide +kernel
theorem dX4_isSign_11 : decode cX4_isSign 11 = .ok (.goto 4, 3) := by decide +kernel
theorem dX4_isSign_14 : decode cX4_isSign 14 = .ok (.iconst 0, 1) := by decide +kernel
theorem dX4_isSign_15 : decode cX4_isSign 15 = .ok (.ireturn, 1) := by decide +kernel
theorem dX5_init_0 : decode cX5_init 0 = .ok (.aload_n 0, 1) := by decide +kernel
theorem dX5_init_1 : decode cX5_init 1 = .ok (.invokespecial 3, 3) := by decide +kernel
theorem dX5_init_4 : decode cX5_init 4 = .ok (.aload_n 0, 1) := by decide +kernel
theorem dX5_init_5 : decode cX5_init 5 = .ok (.iconst (-1), 1) := by decide +kernel
theorem dX5_init_6 : decode cX5_init 6 = .ok (.putfield 9, 3) := by decide +kernel
theorem dX5_init_9 : decode cX5_init 9 = .ok (.aload_n 0, 1) := by decide +kernel
theorem dX5_init_10 : decode cX5_init 10 = .ok (.bipush 40, 2) := by decide +kernel
theorem dX5_init_12 : decode cX5_init 12 = .ok (.newarray .int, 2) := by decide +kernel
theorem dX5_init_14 : decode cX5_init 14 = .ok (.putfield 15, 3) := by decide +kernel
theorem dX5_init_17 : decode cX5_init 17 = .ok (.return_, 1) := by decide +kernel
theorem dX5_lay_0 : decode cX5_lay 0 = .ok (.aload_n 0, 1) := by decide +kernel
theorem dX5_lay_1 : decode cX5_lay 1 = .ok (.iload_n 1, 1) := by decide +kernel
theorem dX5_lay_2 : decode cX5_lay 2 = .ok (.putfield 9, 3) := by decide +kernel
theorem dX5_lay_5 : decode cX5_lay 5 = .ok (.aload_n 0, 1) := by decide +kernel
theorem dX5_lay_6 : decode cX5_lay 6 = .ok (.iload_n 2, 1) := by decide +kernel
theorem dX5_lay_7 : decode cX5_lay 7 = .ok (.putfield 19, 3) := by decide +kernel
theorem dX5_lay_10 : decode cX5_lay 10 = .ok (.iconst 0, 1) := by decide +kernel
theorem dX5_lay_11 : decode cX5_lay 11 = .ok (.istore_n 3, 1) := by decide +kernel
theorem dX5_lay_12 : decode cX5_lay 12 = .ok (.iload_n 3, 1) := by decide +kernel
theorem dX5_lay_13 : decode cX5_lay 13 = .ok (.aload_n 0, 1) := by decide +kernel
theorem dX5_lay_14 : decode cX5_lay 14 = .ok (.getfield 15, 3) := by decide +kernel
theorem dX5_lay_17 : decode cX5_lay 17 = .ok (.arraylength, 1) := by decide +kernel
theorem dX5_lay_18 : decode cX5_lay 18 = .ok (.if_icmp .ge 16, 3) := by decide +kernel
theorem dX5_lay_21 : decode cX5_lay 21 = .ok (.aload_n 0, 1) := by decide +kernel
theorem dX5_lay_22 : decode cX5_lay 22 = .ok (.getfield 15, 3) := by decide +kernel
theorem dX5_lay_25 : decode cX5_lay 25 = .ok (.iload_n 3, 1) := by decide +kernel
theorem dX5_lay_26 : decode cX5_lay 26 = .ok (.iconst 0, 1) := by decide +kernel
theorem dX5_lay_27 : decode cX5_lay 27 = .ok (.iastore, 1) := by decide +kernel
theorem dX5_lay_28 : decode cX5_lay 28 = .ok (.iinc 3 1, 3) := by decide +kernel
theorem dX5_lay_31 : decode cX5_lay 31 = .ok (.goto (-19), 3) := by decide +kernel
theorem dX5_lay_34 : decode cX5_lay 34 = .ok (.return_, 1) := by decide +kernel
theorem dX5_holds_0 : decode cX5_holds 0 = .ok (.iload_n 1, 1) := by decide +kernel
theorem dX5_holds_1 : decode cX5_holds 1 = .ok (.ifCond .lt 24, 3) := by decide +kernel
theorem dX5_holds_4 : decode cX5_holds 4 = .ok (.iload_n 1, 1) := by decide +kernel
theorem dX5_holds_5 : decode cX5_holds 5 = .ok (.aload_n 0, 1) := by decide +kernel
theorem dX5_holds_6 : decode cX5_holds 6 = .ok (.getfield 19, 3) := by decide +kernel
theorem dX5_holds_9 : decode cX5_holds 9 = .ok (.if_icmp .ge 16, 3) := by decide +kernel
theorem dX5_holds_12 : decode cX5_holds 12 = .ok (.iload_n 1, 1) := by decide +kernel
theorem dX5_holds_13 : decode cX5_holds 13 = .ok (.aload_n 0, 1) := by decide +kernel
theorem dX5_holds_14 : decode cX5_holds 14 = .ok (.getfield 15, 3) := by decide +kernel
theorem dX5_holds_17 : decode cX5_holds 17 = .ok (.arraylength, 1) := by decide +kernel
theorem dX5_holds_18 : decode cX5_holds 18 = .ok (.if_icmp .ge 7, 3) := by decide +kernel
theorem dX5_holds_21 : decode cX5_holds 21 = .ok (.iconst 1, 1) := by decide +kernel
theorem dX5_holds_22 : decode cX5_holds 22 = .ok (.goto 4, 3) := by decide +kernel
theorem dX5_holds_25 : decode cX5_holds 25 = .ok (.iconst 0, 1) := by decide +kernel
theorem dX5_holds_26 : decode cX5_holds 26 = .ok (.ireturn, 1) := by decide +kernel
theorem dX5_holdsRun_0 : decode cX5_holdsRun 0 = .ok (.iload_n 1, 1) := by decide +kernel
theorem dX5_holdsRun_1 : decode cX5_holdsRun 1 = .ok (.ifCond .lt 29, 3) := by decide +kernel
theorem dX5_holdsRun_4 : decode cX5_holdsRun 4 = .ok (.iload_n 2, 1) := by decide +kernel
theorem dX5_holdsRun_5 : decode cX5_holdsRun 5 = .ok (.ifCond .lt 25, 3) := by decide +kernel
theorem dX5_holdsRun_8 : decode cX5_holdsRun 8 = .ok (.iload_n 2, 1) := by decide +kernel
theorem dX5_holdsRun_9 : decode cX5_holdsRun 9 = .ok (.aload_n 0, 1) := by decide +kernel
theorem dX5_holdsRun_10 : decode cX5_holdsRun 10 = .ok (.getfield 19, 3) := by decide +kernel
theorem dX5_holdsRun_13 : decode cX5_holdsRun 13 = .ok (.if_icmp .gt 17, 3) := by decide +kernel
theorem dX5_holdsRun_16 : decode cX5_holdsRun 16 = .ok (.iload_n 1, 1) := by decide +kernel
theorem dX5_holdsRun_17 : decode cX5_holdsRun 17 = .ok (.aload_n 0, 1) := by decide +kernel
theorem dX5_holdsRun_18 : decode cX5_holdsRun 18 = .ok (.getfield 19, 3) := by decide +kernel
theorem dX5_holdsRun_21 : decode cX5_holdsRun 21 = .ok (.iload_n 2, 1) := by decide +kernel
theorem dX5_holdsRun_22 : decode cX5_holdsRun 22 = .ok (.isub, 1) := by decide +kernel
theorem dX5_holdsRun_23 : decode cX5_holdsRun 23 = .ok (.if_icmp .gt 7, 3) := by decide +kernel
theorem dX5_holdsRun_26 : decode cX5_holdsRun 26 = .ok (.iconst 1, 1) := by decide +kernel
theorem dX5_holdsRun_27 : decode cX5_holdsRun 27 = .ok (.goto 4, 3) := by decide +kernel
theorem dX5_holdsRun_30 : decode cX5_holdsRun 30 = .ok (.iconst 0, 1) := by decide +kernel
theorem dX5_holdsRun_31 : decode cX5_holdsRun 31 = .ok (.ireturn, 1) := by decide +kernel
theorem dX5_at_0 : decode cX5_at 0 = .ok (.aload_n 0, 1) := by decide +kernel
theorem dX5_at_1 : decode cX5_at 1 = .ok (.iload_n 1, 1) := by decide +kernel
theorem dX5_at_2 : decode cX5_at 2 = .ok (.invokevirtual 22, 3) := by decide +kernel
theorem dX5_at_5 : decode cX5_at 5 = .ok (.ifCond .eq 12, 3) := by decide +kernel
theorem dX5_at_8 : decode cX5_at 8 = .ok (.aload_n 0, 1) := by decide +kernel
theorem dX5_at_9 : decode cX5_at 9 = .ok (.getfield 15, 3) := by decide +kernel
theorem dX5_at_12 : decode cX5_at 12 = .ok (.iload_n 1, 1) := by decide +kernel
theorem dX5_at_13 : decode cX5_at 13 = .ok (.iaload, 1) := by decide +kernel
theorem dX5_at_14 : decode cX5_at 14 = .ok (.goto 4, 3) := by decide +kernel
theorem dX5_at_17 : decode cX5_at 17 = .ok (.iconst 0, 1) := by decide +kernel
theorem dX5_at_18 : decode cX5_at 18 = .ok (.ireturn, 1) := by decide +kernel
theorem dX5_put_0 : decode cX5_put 0 = .ok (.aload_n 0, 1) := by decide +kernel
theorem dX5_put_1 : decode cX5_put 1 = .ok (.iload_n 1, 1) := by decide +kernel
theorem dX5_put_2 : decode cX5_put 2 = .ok (.invokevirtual 22, 3) := by decide +kernel
theorem dX5_put_5 : decode cX5_put 5 = .ok (.ifCond .eq 35, 3) := by decide +kernel
theorem dX5_put_8 : decode cX5_put 8 = .ok (.aload_n 0, 1) := by decide +kernel
theorem dX5_put_9 : decode cX5_put 9 = .ok (.getfield 15, 3) := by decide +kernel
theorem dX5_put_12 : decode cX5_put 12 = .ok (.iload_n 1, 1) := by decide +kernel
theorem dX5_put_13 : decode cX5_put 13 = .ok (.aload_n 0, 1) := by decide +kernel
theorem dX5_put_14 : decode cX5_put 14 = .ok (.getfield 9, 3) := by decide +kernel
theorem dX5_put_17 : decode cX5_put 17 = .ok (.ifCond .ne 8, 3) := by decide +kernel
theorem dX5_put_20 : decode cX5_put 20 = .ok (.iload_n 2, 1) := by decide +kernel
theorem dX5_put_21 : decode cX5_put 21 = .ok (.i2b, 1) := by decide +kernel
theorem dX5_put_22 : decode cX5_put 22 = .ok (.goto 17, 3) := by decide +kernel
theorem dX5_put_25 : decode cX5_put 25 = .ok (.aload_n 0, 1) := by decide +kernel
theorem dX5_put_26 : decode cX5_put 26 = .ok (.getfield 9, 3) := by decide +kernel
theorem dX5_put_29 : decode cX5_put 29 = .ok (.iconst 1, 1) := by decide +kernel
theorem dX5_put_30 : decode cX5_put 30 = .ok (.if_icmp .ne 8, 3) := by decide +kernel
theorem dX5_put_33 : decode cX5_put 33 = .ok (.iload_n 2, 1) := by decide +kernel
theorem dX5_put_34 : decode cX5_put 34 = .ok (.i2s, 1) := by decide +kernel
theorem dX5_put_35 : decode cX5_put 35 = .ok (.goto 4, 3) := by decide +kernel
theorem dX5_put_38 : decode cX5_put 38 = .ok (.iload_n 2, 1) := by decide +kernel
theorem dX5_put_39 : decode cX5_put 39 = .ok (.iastore, 1) := by decide +kernel
theorem dX5_put_40 : decode cX5_put 40 = .ok (.return_, 1) := by decide +kernel
theorem dX5_tellsSums_0 : decode cX5_tellsSums 0 = .ok (.aload_n 0, 1) := by decide +kernel
theorem dX5_tellsSums_1 : decode cX5_tellsSums 1 = .ok (.getfield 19, 3) := by decide +kernel
theorem dX5_tellsSums_4 : decode cX5_tellsSums 4 = .ok (.iconst 2, 1) := by decide +kernel
theorem dX5_tellsSums_5 : decode cX5_tellsSums 5 = .ok (.irem, 1) := by decide +kernel
theorem dX5_tellsSums_6 : decode cX5_tellsSums 6 = .ok (.ifCond .eq 5, 3) := by decide +kernel
theorem dX5_tellsSums_9 : decode cX5_tellsSums 9 = .ok (.iconst 0, 1) := by decide +kernel
theorem dX5_tellsSums_10 : decode cX5_tellsSums 10 = .ok (.ireturn, 1) := by decide +kernel
theorem dX5_tellsSums_11 : decode cX5_tellsSums 11 = .ok (.iconst 0, 1) := by decide +kernel
theorem dX5_tellsSums_12 : decode cX5_tellsSums 12 = .ok (.istore_n 1, 1) := by decide +kernel
theorem dX5_tellsSums_13 : decode cX5_tellsSums 13 = .ok (.iload_n 1, 1) := by decide +kernel
theorem dX5_tellsSums_14 : decode cX5_tellsSums 14 = .ok (.aload_n 0, 1) := by decide +kernel
theorem dX5_tellsSums_15 : decode cX5_tellsSums 15 = .ok (.getfield 19, 3) := by decide +kernel
theorem dX5_tellsSums_18 : decode cX5_tellsSums 18 = .ok (.if_icmp .ge 22, 3) := by decide +kernel
theorem dX5_tellsSums_21 : decode cX5_tellsSums 21 = .ok (.aload_n 0, 1) := by decide +kernel
theorem dX5_tellsSums_22 : decode cX5_tellsSums 22 = .ok (.iload_n 1, 1) := by decide +kernel
theorem dX5_tellsSums_23 : decode cX5_tellsSums 23 = .ok (.invokevirtual 26, 3) := by decide +kernel
theorem dX5_tellsSums_26 : decode cX5_tellsSums 26 = .ok (.invokestatic 30, 3) := by decide +kernel
theorem dX5_tellsSums_29 : decode cX5_tellsSums 29 = .ok (.ifCond .ne 5, 3) := by decide +kernel
theorem dX5_tellsSums_32 : decode cX5_tellsSums 32 = .ok (.iconst 0, 1) := by decide +kernel
theorem dX5_tellsSums_33 : decode cX5_tellsSums 33 = .ok (.ireturn, 1) := by decide +kernel
theorem dX5_tellsSums_34 : decode cX5_tellsSums 34 = .ok (.iinc 1 2, 3) := by decide +kernel
theorem dX5_tellsSums_37 : decode cX5_tellsSums 37 = .ok (.goto (-24), 3) := by decide +kernel
theorem dX5_tellsSums_40 : decode cX5_tellsSums 40 = .ok (.iconst 1, 1) := by decide +kernel
theorem dX5_tellsSums_41 : decode cX5_tellsSums 41 = .ok (.ireturn, 1) := by decide +kernel
theorem dX6_init_0 : decode cX6_init 0 = .ok (.aload_n 0, 1) := by decide +kernel
theorem dX6_init_1 : decode cX6_init 1 = .ok (.invokespecial 3, 3) := by decide +kernel
theorem dX6_init_4 : decode cX6_init 4 = .ok (.aload_n 0, 1) := by decide +kernel
theorem dX6_init_5 : decode cX6_init 5 = .ok (.bipush 6, 2) := by decide +kernel
theorem dX6_init_7 : decode cX6_init 7 = .ok (.bipush 6, 2) := by decide +kernel
theorem dX6_init_9 : decode cX6_init 9 = .ok (.multianewarray 9 2, 4) := by decide +kernel
theorem dX6_init_13 : decode cX6_init 13 = .ok (.putfield 11, 3) := by decide +kernel
theorem dX6_init_16 : decode cX6_init 16 = .ok (.aload_n 0, 1) := by decide +kernel
theorem dX6_init_17 : decode cX6_init 17 = .ok (.bipush 6, 2) := by decide +kernel
theorem dX6_init_19 : decode cX6_init 19 = .ok (.newarray .int, 2) := by decide +kernel
theorem dX6_init_21 : decode cX6_init 21 = .ok (.putfield 16, 3) := by decide +kernel
theorem dX6_init_24 : decode cX6_init 24 = .ok (.aload_n 0, 1) := by decide +kernel
theorem dX6_init_25 : decode cX6_init 25 = .ok (.bipush 6, 2) := by decide +kernel
theorem dX6_init_27 : decode cX6_init 27 = .ok (.newarray .int, 2) := by decide +kernel
theorem dX6_init_29 : decode cX6_init 29 = .ok (.putfield 20, 3) := by decide +kernel
theorem dX6_init_32 : decode cX6_init 32 = .ok (.aload_n 0, 1) := by decide +kernel
theorem dX6_init_33 : decode cX6_init 33 = .ok (.aload_n 1, 1) := by decide +kernel
theorem dX6_init_34 : decode cX6_init 34 = .ok (.putfield 23, 3) := by decide +kernel
theorem dX6_init_37 : decode cX6_init 37 = .ok (.return_, 1) := by decide +kernel
theorem dX6_lay_0 : decode cX6_lay 0 = .ok (.aload_n 0, 1) := by decide +kernel
theorem dX6_lay_1 : decode cX6_lay 1 = .ok (.iconst 0, 1) := by decide +kernel
theorem dX6_lay_2 : decode cX6_lay 2 = .ok (.iload_n 2, 1) := by decide +kernel
theorem dX6_lay_3 : decode cX6_lay 3 = .ok (.bipush 6, 2) := by decide +kernel
theorem dX6_lay_5 : decode cX6_lay 5 = .ok (.aload_n 1, 1) := by decide +kernel
theorem dX6_lay_6 : decode cX6_lay 6 = .ok (.arraylength, 1) := by decide +kernel
theorem dX6_lay_7 : decode cX6_lay 7 = .ok (.invokestatic 27, 3) := by decide +kernel
theorem dX6_lay_10 : decode cX6_lay 10 = .ok (.invokestatic 27, 3) := by decide +kernel
theorem dX6_lay_13 : decode cX6_lay 13 = .ok (.invokestatic 33, 3) := by decide +kernel
theorem dX6_lay_16 : decode cX6_lay 16 = .ok (.putfield 36, 3) := by decide +kernel
theorem dX6_lay_19 : decode cX6_lay 19 = .ok (.iconst 0, 1) := by decide +kernel
theorem dX6_lay_20 : decode cX6_lay 20 = .ok (.istore 4, 2) := by decide +kernel
theorem dX6_lay_22 : decode cX6_lay 22 = .ok (.iload 4, 2) := by decide +kernel
theorem dX6_lay_24 : decode cX6_lay 24 = .ok (.aload_n 0, 1) := by decide +kernel
theorem dX6_lay_25 : decode cX6_lay 25 = .ok (.getfield 36, 3) := by decide +kernel
theorem dX6_lay_28 : decode cX6_lay 28 = .ok (.if_icmp .ge 96, 3) := by decide +kernel
theorem dX6_lay_31 : decode cX6_lay 31 = .ok (.aload_n 0, 1) := by decide +kernel
theorem dX6_lay_32 : decode cX6_lay 32 = .ok (.getfield 11, 3) := by decide +kernel
theorem dX6_lay_35 : decode cX6_lay 35 = .ok (.iload 4, 2) := by decide +kernel
theorem dX6_lay_37 : decode cX6_lay 37 = .ok (.aaload, 1) := by decide +kernel
theorem dX6_lay_38 : decode cX6_lay 38 = .ok (.iload 4, 2) := by decide +kernel
theorem dX6_lay_40 : decode cX6_lay 40 = .ok (.iconst (-1), 1) := by decide +kernel
theorem dX6_lay_41 : decode cX6_lay 41 = .ok (.iastore, 1) := by decide +kernel
theorem dX6_lay_42 : decode cX6_lay 42 = .ok (.iload 4, 2) := by decide +kernel
theorem dX6_lay_44 : decode cX6_lay 44 = .ok (.iconst 1, 1) := by decide +kernel
theorem dX6_lay_45 : decode cX6_lay 45 = .ok (.iadd, 1) := by decide +kernel
theorem dX6_lay_46 : decode cX6_lay 46 = .ok (.istore 5, 2) := by decide +kernel
theorem dX6_lay_48 : decode cX6_lay 48 = .ok (.iload 5, 2) := by decide +kernel
theorem dX6_lay_50 : decode cX6_lay 50 = .ok (.aload_n 0, 1) := by decide +kernel
theorem dX6_lay_51 : decode cX6_lay 51 = .ok (.getfield 36, 3) := by decide +kernel
theorem dX6_lay_54 : decode cX6_lay 54 = .ok (.if_icmp .ge 64, 3) := by decide +kernel
theorem dX6_lay_57 : decode cX6_lay 57 = .ok (.aload_n 0, 1) := by decide +kernel
theorem dX6_lay_58 : decode cX6_lay 58 = .ok (.getfield 23, 3) := by decide +kernel
theorem dX6_lay_61 : decode cX6_lay 61 = .ok (.aload_n 1, 1) := by decide +kernel
theorem dX6_lay_62 : decode cX6_lay 62 = .ok (.iload 4, 2) := by decide +kernel
theorem dX6_lay_64 : decode cX6_lay 64 = .ok (.aaload, 1) := by decide +kernel
theorem dX6_lay_65 : decode cX6_lay 65 = .ok (.aload_n 1, 1) := by decide +kernel
theorem dX6_lay_66 : decode cX6_lay 66 = .ok (.iload 5, 2) := by decide +kernel
theorem dX6_lay_68 : decode cX6_lay 68 = .ok (.aaload, 1) := by decide +kernel
theorem dX6_lay_69 : decode cX6_lay 69 = .ok (.iload_n 3, 1) := by decide +kernel
theorem dX6_lay_70 : decode cX6_lay 70 = .ok (.iconst 0, 1) := by decide +kernel
theorem dX6_lay_71 : decode cX6_lay 71 = .ok (.invokevirtual 40, 3) := by decide +kernel
theorem dX6_lay_74 : decode cX6_lay 74 = .ok (.aload_n 0, 1) := by decide +kernel
theorem dX6_lay_75 : decode cX6_lay 75 = .ok (.getfield 11, 3) := by decide +kernel
theorem dX6_lay_78 : decode cX6_lay 78 = .ok (.iload 4, 2) := by decide +kernel
theorem dX6_lay_80 : decode cX6_lay 80 = .ok (.aaload, 1) := by decide +kernel
theorem dX6_lay_81 : decode cX6_lay 81 = .ok (.iload 5, 2) := by decide +kernel
theorem dX6_lay_83 : decode cX6_lay 83 = .ok (.aload_n 0, 1) := by decide +kernel
theorem dX6_lay_84 : decode cX6_lay 84 = .ok (.getfield 23, 3) := by decide +kernel
theorem dX6_lay_87 : decode cX6_lay 87 = .ok (.iload_n 3, 1) := by decide +kernel
theorem dX6_lay_88 : decode cX6_lay 88 = .ok (.invokevirtual 46, 3) := by decide +kernel
theorem dX6_lay_91 : decode cX6_lay 91 = .ok (.iastore, 1) := by decide +kernel
theorem dX6_lay_92 : decode cX6_lay 92 = .ok (.aload_n 0, 1) := by decide +kernel
theorem dX6_lay_93 : decode cX6_lay 93 = .ok (.getfield 11, 3) := by decide +kernel
theorem dX6_lay_96 : decode cX6_lay 96 = .ok (.iload 5, 2) := by decide +kernel
theorem dX6_lay_98 : decode cX6_lay 98 = .ok (.aaload, 1) := by decide +kernel
theorem dX6_lay_99 : decode cX6_lay 99 = .ok (.iload 4, 2) := by decide +kernel
theorem dX6_lay_101 : decode cX6_lay 101 = .ok (.aload_n 0, 1) := by decide +kernel
theorem dX6_lay_102 : decode cX6_lay 102 = .ok (.getfield 11, 3) := by decide +kernel
theorem dX6_lay_105 : decode cX6_lay 105 = .ok (.iload 4, 2) := by decide +kernel
theorem dX6_lay_107 : decode cX6_lay 107 = .ok (.aaload, 1) := by decide +kernel
theorem dX6_lay_108 : decode cX6_lay 108 = .ok (.iload 5, 2) := by decide +kernel
theorem dX6_lay_110 : decode cX6_lay 110 = .ok (.iaload, 1) := by decide +kernel
theorem dX6_lay_111 : decode cX6_lay 111 = .ok (.iastore, 1) := by decide +kernel
theorem dX6_lay_112 : decode cX6_lay 112 = .ok (.iinc 5 1, 3) := by decide +kernel
theorem dX6_lay_115 : decode cX6_lay 115 = .ok (.goto (-67), 3) := by decide +kernel
theorem dX6_lay_118 : decode cX6_lay 118 = .ok (.iinc 4 1, 3) := by decide +kernel
theorem dX6_lay_121 : decode cX6_lay 121 = .ok (.goto (-99), 3) := by decide +kernel
theorem dX6_lay_124 : decode cX6_lay 124 = .ok (.return_, 1) := by decide +kernel
theorem dX6_walk_0 : decode cX6_walk 0 = .ok (.iconst 0, 1) := by decide +kernel
theorem dX6_walk_1 : decode cX6_walk 1 = .ok (.istore_n 2, 1) := by decide +kernel
theorem dX6_walk_2 : decode cX6_walk 2 = .ok (.iload_n 2, 1) := by decide +kernel
theorem dX6_walk_3 : decode cX6_walk 3 = .ok (.aload_n 0, 1) := by decide +kernel
theorem dX6_walk_4 : decode cX6_walk 4 = .ok (.getfield 36, 3) := by decide +kernel
theorem dX6_walk_7 : decode cX6_walk 7 = .ok (.if_icmp .ge 41, 3) := by decide +kernel
theorem dX6_walk_10 : decode cX6_walk 10 = .ok (.aload_n 0, 1) := by decide +kernel
theorem dX6_walk_11 : decode cX6_walk 11 = .ok (.getfield 16, 3) := by decide +kernel
theorem dX6_walk_14 : decode cX6_walk 14 = .ok (.iload_n 2, 1) := by decide +kernel
theorem dX6_walk_15 : decode cX6_walk 15 = .ok (.iload_n 2, 1) := by decide +kernel
theorem dX6_walk_16 : decode cX6_walk 16 = .ok (.iload_n 1, 1) := by decide +kernel
theorem dX6_walk_17 : decode cX6_walk 17 = .ok (.if_icmp .ne 7, 3) := by decide +kernel
theorem dX6_walk_20 : decode cX6_walk 20 = .ok (.iconst 0, 1) := by decide +kernel
theorem dX6_walk_21 : decode cX6_walk 21 = .ok (.goto 4, 3) := by decide +kernel
theorem dX6_walk_24 : decode cX6_walk 24 = .ok (.iconst (-1), 1) := by decide +kernel
theorem dX6_walk_25 : decode cX6_walk 25 = .ok (.iastore, 1) := by decide +kernel
theorem dX6_walk_26 : decode cX6_walk 26 = .ok (.aload_n 0, 1) := by decide +kernel
theorem dX6_walk_27 : decode cX6_walk 27 = .ok (.getfield 20, 3) := by decide +kernel
theorem dX6_walk_30 : decode cX6_walk 30 = .ok (.iload_n 2, 1) := by decide +kernel
theorem dX6_walk_31 : decode cX6_walk 31 = .ok (.iload_n 2, 1) := by decide +kernel
theorem dX6_walk_32 : decode cX6_walk 32 = .ok (.iload_n 1, 1) := by decide +kernel
theorem dX6_walk_33 : decode cX6_walk 33 = .ok (.if_icmp .ne 7, 3) := by decide +kernel
theorem dX6_walk_36 : decode cX6_walk 36 = .ok (.iconst 0, 1) := by decide +kernel
theorem dX6_walk_37 : decode cX6_walk 37 = .ok (.goto 4, 3) := by decide +kernel
theorem dX6_walk_40 : decode cX6_walk 40 = .ok (.iconst (-1), 1) := by decide +kernel
theorem dX6_walk_41 : decode cX6_walk 41 = .ok (.iastore, 1) := by decide +kernel
theorem dX6_walk_42 : decode cX6_walk 42 = .ok (.iinc 2 1, 3) := by decide +kernel
theorem dX6_walk_45 : decode cX6_walk 45 = .ok (.goto (-43), 3) := by decide +kernel
theorem dX6_walk_48 : decode cX6_walk 48 = .ok (.iconst 1, 1) := by decide +kernel
theorem dX6_walk_49 : decode cX6_walk 49 = .ok (.istore_n 2, 1) := by decide +kernel
theorem dX6_walk_50 : decode cX6_walk 50 = .ok (.iload_n 2, 1) := by decide +kernel
theorem dX6_walk_51 : decode cX6_walk 51 = .ok (.aload_n 0, 1) := by decide +kernel
theorem dX6_walk_52 : decode cX6_walk 52 = .ok (.getfield 36, 3) := by decide +kernel
theorem dX6_walk_55 : decode cX6_walk 55 = .ok (.if_icmp .ge 30, 3) := by decide +kernel
theorem dX6_walk_58 : decode cX6_walk 58 = .ok (.iconst 0, 1) := by decide +kernel
theorem dX6_walk_59 : decode cX6_walk 59 = .ok (.istore_n 3, 1) := by decide +kernel
theorem dX6_walk_60 : decode cX6_walk 60 = .ok (.iload_n 3, 1) := by decide +kernel
theorem dX6_walk_61 : decode cX6_walk 61 = .ok (.aload_n 0, 1) := by decide +kernel
theorem dX6_walk_62 : decode cX6_walk 62 = .ok (.getfield 36, 3) := by decide +kernel
theorem dX6_walk_65 : decode cX6_walk 65 = .ok (.if_icmp .ge 14, 3) := by decide +kernel
theorem dX6_walk_68 : decode cX6_walk 68 = .ok (.aload_n 0, 1) := by decide +kernel
theorem dX6_walk_69 : decode cX6_walk 69 = .ok (.iload_n 3, 1) := by decide +kernel
theorem dX6_walk_70 : decode cX6_walk 70 = .ok (.invokevirtual 50, 3) := by decide +kernel
theorem dX6_walk_73 : decode cX6_walk 73 = .ok (.iinc 3 1, 3) := by decide +kernel
theorem dX6_walk_76 : decode cX6_walk 76 = .ok (.goto (-16), 3) := by decide +kernel
theorem dX6_walk_79 : decode cX6_walk 79 = .ok (.iinc 2 1, 3) := by decide +kernel
theorem dX6_walk_82 : decode cX6_walk 82 = .ok (.goto (-32), 3) := by decide +kernel
theorem dX6_walk_85 : decode cX6_walk 85 = .ok (.return_, 1) := by decide +kernel
theorem dX6_walkOn_0 : decode cX6_walkOn 0 = .ok (.aload_n 0, 1) := by decide +kernel
theorem dX6_walkOn_1 : decode cX6_walkOn 1 = .ok (.getfield 16, 3) := by decide +kernel
theorem dX6_walkOn_4 : decode cX6_walkOn 4 = .ok (.iload_n 1, 1) := by decide +kernel
theorem dX6_walkOn_5 : decode cX6_walkOn 5 = .ok (.iaload, 1) := by decide +kernel
theorem dX6_walkOn_6 : decode cX6_walkOn 6 = .ok (.iconst (-1), 1) := by decide +kernel
theorem dX6_walkOn_7 : decode cX6_walkOn 7 = .ok (.if_icmp .ne 4, 3) := by decide +kernel
theorem dX6_walkOn_10 : decode cX6_walkOn 10 = .ok (.return_, 1) := by decide +kernel
theorem dX6_walkOn_11 : decode cX6_walkOn 11 = .ok (.iconst 0, 1) := by decide +kernel
theorem dX6_walkOn_12 : decode cX6_walkOn 12 = .ok (.istore_n 2, 1) := by decide +kernel
theorem dX6_walkOn_13 : decode cX6_walkOn 13 = .ok (.iload_n 2, 1) := by decide +kernel
theorem dX6_walkOn_14 : decode cX6_walkOn 14 = .ok (.aload_n 0, 1) := by decide +kernel
theorem dX6_walkOn_15 : decode cX6_walkOn 15 = .ok (.getfield 36, 3) := by decide +kernel
theorem dX6_walkOn_18 : decode cX6_walkOn 18 = .ok (.if_icmp .ge 75, 3) := by decide +kernel
theorem dX6_walkOn_21 : decode cX6_walkOn 21 = .ok (.aload_n 0, 1) := by decide +kernel
theorem dX6_walkOn_22 : decode cX6_walkOn 22 = .ok (.getfield 16, 3) := by decide +kernel
theorem dX6_walkOn_25 : decode cX6_walkOn 25 = .ok (.iload_n 1, 1) := by decide +kernel
theorem dX6_walkOn_26 : decode cX6_walkOn 26 = .ok (.iaload, 1) := by decide +kernel
theorem dX6_walkOn_27 : decode cX6_walkOn 27 = .ok (.aload_n 0, 1) := by decide +kernel
theorem dX6_walkOn_28 : decode cX6_walkOn 28 = .ok (.getfield 11, 3) := by decide +kernel
theorem dX6_walkOn_31 : decode cX6_walkOn 31 = .ok (.iload_n 1, 1) := by decide +kernel
theorem dX6_walkOn_32 : decode cX6_walkOn 32 = .ok (.aaload, 1) := by decide +kernel
theorem dX6_walkOn_33 : decode cX6_walkOn 33 = .ok (.iload_n 2, 1) := by decide +kernel
theorem dX6_walkOn_34 : decode cX6_walkOn 34 = .ok (.iaload, 1) := by decide +kernel
theorem dX6_walkOn_35 : decode cX6_walkOn 35 = .ok (.iadd, 1) := by decide +kernel
theorem dX6_walkOn_36 : decode cX6_walkOn 36 = .ok (.istore_n 3, 1) := by decide +kernel
theorem dX6_walkOn_37 : decode cX6_walkOn 37 = .ok (.aload_n 0, 1) := by decide +kernel
theorem dX6_walkOn_38 : decode cX6_walkOn 38 = .ok (.getfield 11, 3) := by decide +kernel
theorem dX6_walkOn_41 : decode cX6_walkOn 41 = .ok (.iload_n 1, 1) := by decide +kernel
theorem dX6_walkOn_42 : decode cX6_walkOn 42 = .ok (.aaload, 1) := by decide +kernel
theorem dX6_walkOn_43 : decode cX6_walkOn 43 = .ok (.iload_n 2, 1) := by decide +kernel
theorem dX6_walkOn_44 : decode cX6_walkOn 44 = .ok (.iaload, 1) := by decide +kernel
theorem dX6_walkOn_45 : decode cX6_walkOn 45 = .ok (.iconst (-1), 1) := by decide +kernel
theorem dX6_walkOn_46 : decode cX6_walkOn 46 = .ok (.if_icmp .eq 41, 3) := by decide +kernel
theorem dX6_walkOn_49 : decode cX6_walkOn 49 = .ok (.aload_n 0, 1) := by decide +kernel
theorem dX6_walkOn_50 : decode cX6_walkOn 50 = .ok (.iload_n 3, 1) := by decide +kernel
theorem dX6_walkOn_51 : decode cX6_walkOn 51 = .ok (.aload_n 0, 1) := by decide +kernel
theorem dX6_walkOn_52 : decode cX6_walkOn 52 = .ok (.getfield 20, 3) := by decide +kernel
theorem dX6_walkOn_55 : decode cX6_walkOn 55 = .ok (.iload_n 1, 1) := by decide +kernel
theorem dX6_walkOn_56 : decode cX6_walkOn 56 = .ok (.iaload, 1) := by decide +kernel
theorem dX6_walkOn_57 : decode cX6_walkOn 57 = .ok (.iconst 1, 1) := by decide +kernel
theorem dX6_walkOn_58 : decode cX6_walkOn 58 = .ok (.iadd, 1) := by decide +kernel
theorem dX6_walkOn_59 : decode cX6_walkOn 59 = .ok (.iload_n 2, 1) := by decide +kernel
theorem dX6_walkOn_60 : decode cX6_walkOn 60 = .ok (.invokevirtual 54, 3) := by decide +kernel
theorem dX6_walkOn_63 : decode cX6_walkOn 63 = .ok (.ifCond .eq 24, 3) := by decide +kernel
theorem dX6_walkOn_66 : decode cX6_walkOn 66 = .ok (.aload_n 0, 1) := by decide +kernel
theorem dX6_walkOn_67 : decode cX6_walkOn 67 = .ok (.getfield 16, 3) := by decide +kernel
theorem dX6_walkOn_70 : decode cX6_walkOn 70 = .ok (.iload_n 2, 1) := by decide +kernel
theorem dX6_walkOn_71 : decode cX6_walkOn 71 = .ok (.iload_n 3, 1) := by decide +kernel
theorem dX6_walkOn_72 : decode cX6_walkOn 72 = .ok (.iastore, 1) := by decide +kernel
theorem dX6_walkOn_73 : decode cX6_walkOn 73 = .ok (.aload_n 0, 1) := by decide +kernel
theorem dX6_walkOn_74 : decode cX6_walkOn 74 = .ok (.getfield 20, 3) := by decide +kernel
theorem dX6_walkOn_77 : decode cX6_walkOn 77 = .ok (.iload_n 2, 1) := by decide +kernel
theorem dX6_walkOn_78 : decode cX6_walkOn 78 = .ok (.aload_n 0, 1) := by decide +kernel
theorem dX6_walkOn_79 : decode cX6_walkOn 79 = .ok (.getfield 20, 3) := by decide +kernel
theorem dX6_walkOn_82 : decode cX6_walkOn 82 = .ok (.iload_n 1, 1) := by decide +kernel
theorem dX6_walkOn_83 : decode cX6_walkOn 83 = .ok (.iaload, 1) := by decide +kernel
theorem dX6_walkOn_84 : decode cX6_walkOn 84 = .ok (.iconst 1, 1) := by decide +kernel
theorem dX6_walkOn_85 : decode cX6_walkOn 85 = .ok (.iadd, 1) := by decide +kernel
theorem dX6_walkOn_86 : decode cX6_walkOn 86 = .ok (.iastore, 1) := by decide +kernel
theorem dX6_walkOn_87 : decode cX6_walkOn 87 = .ok (.iinc 2 1, 3) := by decide +kernel
theorem dX6_walkOn_90 : decode cX6_walkOn 90 = .ok (.goto (-77), 3) := by decide +kernel
theorem dX6_walkOn_93 : decode cX6_walkOn 93 = .ok (.return_, 1) := by decide +kernel
theorem dX6_isBetter_0 : decode cX6_isBetter 0 = .ok (.aload_n 0, 1) := by decide +kernel
theorem dX6_isBetter_1 : decode cX6_isBetter 1 = .ok (.getfield 16, 3) := by decide +kernel
theorem dX6_isBetter_4 : decode cX6_isBetter 4 = .ok (.iload_n 3, 1) := by decide +kernel
theorem dX6_isBetter_5 : decode cX6_isBetter 5 = .ok (.iaload, 1) := by decide +kernel
theorem dX6_isBetter_6 : decode cX6_isBetter 6 = .ok (.iconst (-1), 1) := by decide +kernel
theorem dX6_isBetter_7 : decode cX6_isBetter 7 = .ok (.if_icmp .eq 33, 3) := by decide +kernel
theorem dX6_isBetter_10 : decode cX6_isBetter 10 = .ok (.iload_n 1, 1) := by decide +kernel
theorem dX6_isBetter_11 : decode cX6_isBetter 11 = .ok (.aload_n 0, 1) := by decide +kernel
theorem dX6_isBetter_12 : decode cX6_isBetter 12 = .ok (.getfield 16, 3) := by decide +kernel
theorem dX6_isBetter_15 : decode cX6_isBetter 15 = .ok (.iload_n 3, 1) := by decide +kernel
theorem dX6_isBetter_16 : decode cX6_isBetter 16 = .ok (.iaload, 1) := by decide +kernel
theorem dX6_isBetter_17 : decode cX6_isBetter 17 = .ok (.if_icmp .lt 23, 3) := by decide +kernel
theorem dX6_isBetter_20 : decode cX6_isBetter 20 = .ok (.iload_n 1, 1) := by decide +kernel
theorem dX6_isBetter_21 : decode cX6_isBetter 21 = .ok (.aload_n 0, 1) := by decide +kernel
theorem dX6_isBetter_22 : decode cX6_isBetter 22 = .ok (.getfield 16, 3) := by decide +kernel
theorem dX6_isBetter_25 : decode cX6_isBetter 25 = .ok (.iload_n 3, 1) := by decide +kernel
theorem dX6_isBetter_26 : decode cX6_isBetter 26 = .ok (.iaload, 1) := by decide +kernel
theorem dX6_isBetter_27 : decode cX6_isBetter 27 = .ok (.if_icmp .ne 17, 3) := by decide +kernel
theorem dX6_isBetter_30 : decode cX6_isBetter 30 = .ok (.iload_n 2, 1) := by decide +kernel
theorem dX6_isBetter_31 : decode cX6_isBetter 31 = .ok (.aload_n 0, 1) := by decide +kernel
theorem dX6_isBetter_32 : decode cX6_isBetter 32 = .ok (.getfield 20, 3) := by decide +kernel
theorem dX6_isBetter_35 : decode cX6_isBetter 35 = .ok (.iload_n 3, 1) := by decide +kernel
theorem dX6_isBetter_36 : decode cX6_isBetter 36 = .ok (.iaload, 1) := by decide +kernel
theorem dX6_isBetter_37 : decode cX6_isBetter 37 = .ok (.if_icmp .ge 7, 3) := by decide +kernel
theorem dX6_isBetter_40 : decode cX6_isBetter 40 = .ok (.iconst 1, 1) := by decide +kernel
theorem dX6_isBetter_41 : decode cX6_isBetter 41 = .ok (.goto 4, 3) := by decide +kernel
theorem dX6_isBetter_44 : decode cX6_isBetter 44 = .ok (.iconst 0, 1) := by decide +kernel
theorem dX6_isBetter_45 : decode cX6_isBetter 45 = .ok (.ireturn, 1) := by decide +kernel
theorem dX6_costTo_0 : decode cX6_costTo 0 = .ok (.iload_n 1, 1) := by decide +kernel
theorem dX6_costTo_1 : decode cX6_costTo 1 = .ok (.ifCond .lt 11, 3) := by decide +kernel
theorem dX6_costTo_4 : decode cX6_costTo 4 = .ok (.iload_n 1, 1) := by decide +kernel
theorem dX6_costTo_5 : decode cX6_costTo 5 = .ok (.aload_n 0, 1) := by decide +kernel
theorem dX6_costTo_6 : decode cX6_costTo 6 = .ok (.getfield 36, 3) := by decide +kernel
theorem dX6_costTo_9 : decode cX6_costTo 9 = .ok (.if_icmp .lt 7, 3) := by decide +kernel
theorem dX6_costTo_12 : decode cX6_costTo 12 = .ok (.iconst (-1), 1) := by decide +kernel
theorem dX6_costTo_13 : decode cX6_costTo 13 = .ok (.goto 9, 3) := by decide +kernel
theorem dX6_costTo_16 : decode cX6_costTo 16 = .ok (.aload_n 0, 1) := by decide +kernel
theorem dX6_costTo_17 : decode cX6_costTo 17 = .ok (.getfield 16, 3) := by decide +kernel
theorem dX6_costTo_20 : decode cX6_costTo 20 = .ok (.iload_n 1, 1) := by decide +kernel
theorem dX6_costTo_21 : decode cX6_costTo 21 = .ok (.iaload, 1) := by decide +kernel
theorem dX6_costTo_22 : decode cX6_costTo 22 = .ok (.ireturn, 1) := by decide +kernel
theorem dX6_stepsTo_0 : decode cX6_stepsTo 0 = .ok (.iload_n 1, 1) := by decide +kernel
theorem dX6_stepsTo_1 : decode cX6_stepsTo 1 = .ok (.ifCond .lt 11, 3) := by decide +kernel
theorem dX6_stepsTo_4 : decode cX6_stepsTo 4 = .ok (.iload_n 1, 1) := by decide +kernel
theorem dX6_stepsTo_5 : decode cX6_stepsTo 5 = .ok (.aload_n 0, 1) := by decide +kernel
theorem dX6_stepsTo_6 : decode cX6_stepsTo 6 = .ok (.getfield 36, 3) := by decide +kernel
theorem dX6_stepsTo_9 : decode cX6_stepsTo 9 = .ok (.if_icmp .lt 7, 3) := by decide +kernel
theorem dX6_stepsTo_12 : decode cX6_stepsTo 12 = .ok (.iconst (-1), 1) := by decide +kernel
theorem dX6_stepsTo_13 : decode cX6_stepsTo 13 = .ok (.goto 9, 3) := by decide +kernel
theorem dX6_stepsTo_16 : decode cX6_stepsTo 16 = .ok (.aload_n 0, 1) := by decide +kernel
theorem dX6_stepsTo_17 : decode cX6_stepsTo 17 = .ok (.getfield 20, 3) := by decide +kernel
theorem dX6_stepsTo_20 : decode cX6_stepsTo 20 = .ok (.iload_n 1, 1) := by decide +kernel
theorem dX6_stepsTo_21 : decode cX6_stepsTo 21 = .ok (.iaload, 1) := by decide +kernel
theorem dX6_stepsTo_22 : decode cX6_stepsTo 22 = .ok (.ireturn, 1) := by decide +kernel
theorem dX6_partedWithout_0 : decode cX6_partedWithout 0 = .ok (.iconst 0, 1) := by decide +kernel
theorem dX6_partedWithout_1 : decode cX6_partedWithout 1 = .ok (.istore_n 2, 1) := by decide +kernel
theorem dX6_partedWithout_2 : decode cX6_partedWithout 2 = .ok (.iconst 0, 1) := by decide +kernel
theorem dX6_partedWithout_3 : decode cX6_partedWithout 3 = .ok (.istore_n 3, 1) := by decide +kernel
theorem dX6_partedWithout_4 : decode cX6_partedWithout 4 = .ok (.iload_n 3, 1) := by decide +kernel
theorem dX6_partedWithout_5 : decode cX6_partedWithout 5 = .ok (.aload_n 0, 1) := by decide +kernel
theorem dX6_partedWithout_6 : decode cX6_partedWithout 6 = .ok (.getfield 36, 3) := by decide +kernel
theorem dX6_partedWithout_9 : decode cX6_partedWithout 9 = .ok (.if_icmp .ge 71, 3) := by decide +kernel
theorem dX6_partedWithout_12 : decode cX6_partedWithout 12 = .ok (.iload_n 3, 1) := by decide +kernel
theorem dX6_partedWithout_13 : decode cX6_partedWithout 13 = .ok (.iload_n 1, 1) := by decide +kernel
theorem dX6_partedWithout_14 : decode cX6_partedWithout 14 = .ok (.if_icmp .eq 60, 3) := by decide +kernel
theorem dX6_partedWithout_17 : decode cX6_partedWithout 17 = .ok (.aload_n 0, 1) := by decide +kernel
theorem dX6_partedWithout_18 : decode cX6_partedWithout 18 = .ok (.iload_n 3, 1) := by decide +kernel
theorem dX6_partedWithout_19 : decode cX6_partedWithout 19 = .ok (.iconst (-1), 1) := by decide +kernel
theorem dX6_partedWithout_20 : decode cX6_partedWithout 20 = .ok (.invokevirtual 58, 3) := by decide +kernel
theorem dX6_partedWithout_23 : decode cX6_partedWithout 23 = .ok (.aload_n 0, 1) := by decide +kernel
theorem dX6_partedWithout_24 : decode cX6_partedWithout 24 = .ok (.iload_n 3, 1) := by decide +kernel
theorem dX6_partedWithout_25 : decode cX6_partedWithout 25 = .ok (.iload_n 1, 1) := by decide +kernel
theorem dX6_partedWithout_26 : decode cX6_partedWithout 26 = .ok (.invokevirtual 58, 3) := by decide +kernel
theorem dX6_partedWithout_29 : decode cX6_partedWithout 29 = .ok (.iconst (-1), 1) := by decide +kernel
theorem dX6_partedWithout_30 : decode cX6_partedWithout 30 = .ok (.ixor, 1) := by decide +kernel
theorem dX6_partedWithout_31 : decode cX6_partedWithout 31 = .ok (.iand, 1) := by decide +kernel
theorem dX6_partedWithout_32 : decode cX6_partedWithout 32 = .ok (.istore 4, 2) := by decide +kernel
theorem dX6_partedWithout_34 : decode cX6_partedWithout 34 = .ok (.iload_n 3, 1) := by decide +kernel
theorem dX6_partedWithout_35 : decode cX6_partedWithout 35 = .ok (.iconst 1, 1) := by decide +kernel
theorem dX6_partedWithout_36 : decode cX6_partedWithout 36 = .ok (.iadd, 1) := by decide +kernel
theorem dX6_partedWithout_37 : decode cX6_partedWithout 37 = .ok (.istore 5, 2) := by decide +kernel
theorem dX6_partedWithout_39 : decode cX6_partedWithout 39 = .ok (.iload 5, 2) := by decide +kernel
theorem dX6_partedWithout_41 : decode cX6_partedWithout 41 = .ok (.aload_n 0, 1) := by decide +kernel
theorem dX6_partedWithout_42 : decode cX6_partedWithout 42 = .ok (.getfield 36, 3) := by decide +kernel
theorem dX6_partedWithout_45 : decode cX6_partedWithout 45 = .ok (.if_icmp .ge 29, 3) := by decide +kernel
theorem dX6_partedWithout_48 : decode cX6_partedWithout 48 = .ok (.iload_n 2, 1) := by decide +kernel
theorem dX6_partedWithout_49 : decode cX6_partedWithout 49 = .ok (.iload 5, 2) := by decide +kernel
theorem dX6_partedWithout_51 : decode cX6_partedWithout 51 = .ok (.iload_n 1, 1) := by decide +kernel
theorem dX6_partedWithout_52 : decode cX6_partedWithout 52 = .ok (.if_icmp .ne 7, 3) := by decide +kernel
theorem dX6_partedWithout_55 : decode cX6_partedWithout 55 = .ok (.iconst 0, 1) := by decide +kernel
theorem dX6_partedWithout_56 : decode cX6_partedWithout 56 = .ok (.goto 10, 3) := by decide +kernel
theorem dX6_partedWithout_59 : decode cX6_partedWithout 59 = .ok (.iload 4, 2) := by decide +kernel
theorem dX6_partedWithout_61 : decode cX6_partedWithout 61 = .ok (.iload 5, 2) := by decide +kernel
theorem dX6_partedWithout_63 : decode cX6_partedWithout 63 = .ok (.ishr, 1) := by decide +kernel
theorem dX6_partedWithout_64 : decode cX6_partedWithout 64 = .ok (.iconst 1, 1) := by decide +kernel
theorem dX6_partedWithout_65 : decode cX6_partedWithout 65 = .ok (.iand, 1) := by decide +kernel
theorem dX6_partedWithout_66 : decode cX6_partedWithout 66 = .ok (.iadd, 1) := by decide +kernel
theorem dX6_partedWithout_67 : decode cX6_partedWithout 67 = .ok (.istore_n 2, 1) := by decide +kernel
theorem dX6_partedWithout_68 : decode cX6_partedWithout 68 = .ok (.iinc 5 1, 3) := by decide +kernel
theorem dX6_partedWithout_71 : decode cX6_partedWithout 71 = .ok (.goto (-32), 3) := by decide +kernel
theorem dX6_partedWithout_74 : decode cX6_partedWithout 74 = .ok (.iinc 3 1, 3) := by decide +kernel
theorem dX6_partedWithout_77 : decode cX6_partedWithout 77 = .ok (.goto (-73), 3) := by decide +kernel
theorem dX6_partedWithout_80 : decode cX6_partedWithout 80 = .ok (.iload_n 2, 1) := by decide +kernel
theorem dX6_partedWithout_81 : decode cX6_partedWithout 81 = .ok (.ireturn, 1) := by decide +kernel
theorem dX6_reached_0 : decode cX6_reached 0 = .ok (.iconst 1, 1) := by decide +kernel
theorem dX6_reached_1 : decode cX6_reached 1 = .ok (.iload_n 1, 1) := by decide +kernel
theorem dX6_reached_2 : decode cX6_reached 2 = .ok (.ishl, 1) := by decide +kernel
theorem dX6_reached_3 : decode cX6_reached 3 = .ok (.istore_n 3, 1) := by decide +kernel
theorem dX6_reached_4 : decode cX6_reached 4 = .ok (.iconst 1, 1) := by decide +kernel
theorem dX6_reached_5 : decode cX6_reached 5 = .ok (.istore 4, 2) := by decide +kernel
theorem dX6_reached_7 : decode cX6_reached 7 = .ok (.iload 4, 2) := by decide +kernel
theorem dX6_reached_9 : decode cX6_reached 9 = .ok (.aload_n 0, 1) := by decide +kernel
theorem dX6_reached_10 : decode cX6_reached 10 = .ok (.getfield 36, 3) := by decide +kernel
theorem dX6_reached_13 : decode cX6_reached 13 = .ok (.if_icmp .ge 81, 3) := by decide +kernel
theorem dX6_reached_16 : decode cX6_reached 16 = .ok (.iconst 0, 1) := by decide +kernel
theorem dX6_reached_17 : decode cX6_reached 17 = .ok (.istore 5, 2) := by decide +kernel
theorem dX6_reached_19 : decode cX6_reached 19 = .ok (.iload 5, 2) := by decide +kernel
theorem dX6_reached_21 : decode cX6_reached 21 = .ok (.aload_n 0, 1) := by decide +kernel
theorem dX6_reached_22 : decode cX6_reached 22 = .ok (.getfield 36, 3) := by decide +kernel
theorem dX6_reached_25 : decode cX6_reached 25 = .ok (.if_icmp .ge 63, 3) := by decide +kernel
theorem dX6_reached_28 : decode cX6_reached 28 = .ok (.iconst 0, 1) := by decide +kernel
theorem dX6_reached_29 : decode cX6_reached 29 = .ok (.istore 6, 2) := by decide +kernel
theorem dX6_reached_31 : decode cX6_reached 31 = .ok (.iload 6, 2) := by decide +kernel
theorem dX6_reached_33 : decode cX6_reached 33 = .ok (.aload_n 0, 1) := by decide +kernel
theorem dX6_reached_34 : decode cX6_reached 34 = .ok (.getfield 36, 3) := by decide +kernel
theorem dX6_reached_37 : decode cX6_reached 37 = .ok (.if_icmp .ge 45, 3) := by decide +kernel
theorem dX6_reached_40 : decode cX6_reached 40 = .ok (.iload_n 3, 1) := by decide +kernel
theorem dX6_reached_41 : decode cX6_reached 41 = .ok (.iload 5, 2) := by decide +kernel
theorem dX6_reached_43 : decode cX6_reached 43 = .ok (.ishr, 1) := by decide +kernel
theorem dX6_reached_44 : decode cX6_reached 44 = .ok (.iconst 1, 1) := by decide +kernel
theorem dX6_reached_45 : decode cX6_reached 45 = .ok (.iand, 1) := by decide +kernel
theorem dX6_reached_46 : decode cX6_reached 46 = .ok (.ifCond .eq 30, 3) := by decide +kernel
theorem dX6_reached_49 : decode cX6_reached 49 = .ok (.iload 6, 2) := by decide +kernel
theorem dX6_reached_51 : decode cX6_reached 51 = .ok (.iload_n 2, 1) := by decide +kernel
theorem dX6_reached_52 : decode cX6_reached 52 = .ok (.if_icmp .eq 24, 3) := by decide +kernel
theorem dX6_reached_55 : decode cX6_reached 55 = .ok (.aload_n 0, 1) := by decide +kernel
theorem dX6_reached_56 : decode cX6_reached 56 = .ok (.getfield 11, 3) := by decide +kernel
theorem dX6_reached_59 : decode cX6_reached 59 = .ok (.iload 5, 2) := by decide +kernel
theorem dX6_reached_61 : decode cX6_reached 61 = .ok (.aaload, 1) := by decide +kernel
theorem dX6_reached_62 : decode cX6_reached 62 = .ok (.iload 6, 2) := by decide +kernel
theorem dX6_reached_64 : decode cX6_reached 64 = .ok (.iaload, 1) := by decide +kernel
theorem dX6_reached_65 : decode cX6_reached 65 = .ok (.iconst (-1), 1) := by decide +kernel
theorem dX6_reached_66 : decode cX6_reached 66 = .ok (.if_icmp .eq 10, 3) := by decide +kernel
theorem dX6_reached_69 : decode cX6_reached 69 = .ok (.iload_n 3, 1) := by decide +kernel
theorem dX6_reached_70 : decode cX6_reached 70 = .ok (.iconst 1, 1) := by decide +kernel
theorem dX6_reached_71 : decode cX6_reached 71 = .ok (.iload 6, 2) := by decide +kernel
theorem dX6_reached_73 : decode cX6_reached 73 = .ok (.ishl, 1) := by decide +kernel
theorem dX6_reached_74 : decode cX6_reached 74 = .ok (.ior, 1) := by decide +kernel
theorem dX6_reached_75 : decode cX6_reached 75 = .ok (.istore_n 3, 1) := by decide +kernel
theorem dX6_reached_76 : decode cX6_reached 76 = .ok (.iinc 6 1, 3) := by decide +kernel
theorem dX6_reached_79 : decode cX6_reached 79 = .ok (.goto (-48), 3) := by decide +kernel
theorem dX6_reached_82 : decode cX6_reached 82 = .ok (.iinc 5 1, 3) := by decide +kernel
theorem dX6_reached_85 : decode cX6_reached 85 = .ok (.goto (-66), 3) := by decide +kernel
theorem dX6_reached_88 : decode cX6_reached 88 = .ok (.iinc 4 1, 3) := by decide +kernel
theorem dX6_reached_91 : decode cX6_reached 91 = .ok (.goto (-84), 3) := by decide +kernel
theorem dX6_reached_94 : decode cX6_reached 94 = .ok (.iload_n 3, 1) := by decide +kernel
theorem dX6_reached_95 : decode cX6_reached 95 = .ok (.ireturn, 1) := by decide +kernel
theorem dX7_init_0 : decode cX7_init 0 = .ok (.aload_n 0, 1) := by decide +kernel
theorem dX7_init_1 : decode cX7_init 1 = .ok (.invokespecial 3, 3) := by decide +kernel
theorem dX7_init_4 : decode cX7_init 4 = .ok (.aload_n 0, 1) := by decide +kernel
theorem dX7_init_5 : decode cX7_init 5 = .ok (.bipush 6, 2) := by decide +kernel
theorem dX7_init_7 : decode cX7_init 7 = .ok (.anewarray 9, 3) := by decide +kernel
theorem dX7_init_10 : decode cX7_init 10 = .ok (.putfield 11, 3) := by decide +kernel
theorem dX7_init_13 : decode cX7_init 13 = .ok (.aload_n 0, 1) := by decide +kernel
theorem dX7_init_14 : decode cX7_init 14 = .ok (.iconst 4, 1) := by decide +kernel
theorem dX7_init_15 : decode cX7_init 15 = .ok (.anewarray 15, 3) := by decide +kernel
theorem dX7_init_18 : decode cX7_init 18 = .ok (.putfield 17, 3) := by decide +kernel
theorem dX7_init_21 : decode cX7_init 21 = .ok (.aload_n 0, 1) := by decide +kernel
theorem dX7_init_22 : decode cX7_init 22 = .ok (.new 21, 3) := by decide +kernel
theorem dX7_init_25 : decode cX7_init 25 = .ok (.dup, 1) := by decide +kernel
theorem dX7_init_26 : decode cX7_init 26 = .ok (.invokespecial 23, 3) := by decide +kernel
theorem dX7_init_29 : decode cX7_init 29 = .ok (.putfield 24, 3) := by decide +kernel
theorem dX7_init_32 : decode cX7_init 32 = .ok (.aload_n 0, 1) := by decide +kernel
theorem dX7_init_33 : decode cX7_init 33 = .ok (.new 28, 3) := by decide +kernel
theorem dX7_init_36 : decode cX7_init 36 = .ok (.dup, 1) := by decide +kernel
theorem dX7_init_37 : decode cX7_init 37 = .ok (.aload_n 0, 1) := by decide +kernel
theorem dX7_init_38 : decode cX7_init 38 = .ok (.getfield 24, 3) := by decide +kernel
theorem dX7_init_41 : decode cX7_init 41 = .ok (.invokespecial 30, 3) := by decide +kernel
theorem dX7_init_44 : decode cX7_init 44 = .ok (.putfield 33, 3) := by decide +kernel
