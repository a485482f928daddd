theorem dX0_init_0 : decode cX0_init 0 = .ok (.aload_n 0, 1) := by decide +kernel
theorem dX0_init_1 : decode cX0_init 1 = .ok (.invokespecial 3, 3) := by decide +kernel
theorem dX0_init_4 : decode cX0_init 4 = .ok (.aload_n 0, 1) := by decide +kernel
theorem dX0_init_5 : decode cX0_init 5 = .ok (.bipush 7, 2) := by decide +kernel
theorem dX0_init_7 : decode cX0_init 7 = .ok (.newarray .int, 2) := by decide +kernel
theorem dX0_init_9 : decode cX0_init 9 = .ok (.putfield 9, 3) := by decide +kernel
theorem dX0_init_12 : decode cX0_init 12 = .ok (.aload_n 0, 1) := by decide +kernel
theorem dX0_init_13 : decode cX0_init 13 = .ok (.bipush 8, 2) := by decide +kernel
theorem dX0_init_15 : decode cX0_init 15 = .ok (.newarray .int, 2) := by decide +kernel
theorem dX0_init_17 : decode cX0_init 17 = .ok (.putfield 15, 3) := by decide +kernel
theorem dX0_init_20 : decode cX0_init 20 = .ok (.aload_n 0, 1) := by decide +kernel
theorem dX0_init_21 : decode cX0_init 21 = .ok (.aload_n 1, 1) := by decide +kernel
theorem dX0_init_22 : decode cX0_init 22 = .ok (.putfield 18, 3) := by decide +kernel
theorem dX0_init_25 : decode cX0_init 25 = .ok (.return_, 1) := by decide +kernel
theorem dX0_take_0 : decode cX0_take 0 = .ok (.iconst 0, 1) := by decide +kernel
theorem dX0_take_1 : decode cX0_take 1 = .ok (.istore_n 1, 1) := by decide +kernel
theorem dX0_take_2 : decode cX0_take 2 = .ok (.iload_n 1, 1) := by decide +kernel
theorem dX0_take_3 : decode cX0_take 3 = .ok (.bipush 7, 2) := by decide +kernel
theorem dX0_take_5 : decode cX0_take 5 = .ok (.if_icmp .ge 16, 3) := by decide +kernel
theorem dX0_take_8 : decode cX0_take 8 = .ok (.aload_n 0, 1) := by decide +kernel
theorem dX0_take_9 : decode cX0_take 9 = .ok (.getfield 9, 3) := by decide +kernel
theorem dX0_take_12 : decode cX0_take 12 = .ok (.iload_n 1, 1) := by decide +kernel
theorem dX0_take_13 : decode cX0_take 13 = .ok (.iconst (-1), 1) := by decide +kernel
theorem dX0_take_14 : decode cX0_take 14 = .ok (.iastore, 1) := by decide +kernel
theorem dX0_take_15 : decode cX0_take 15 = .ok (.iinc 1 1, 3) := by decide +kernel
theorem dX0_take_18 : decode cX0_take 18 = .ok (.goto (-16), 3) := by decide +kernel
theorem dX0_take_21 : decode cX0_take 21 = .ok (.iconst 0, 1) := by decide +kernel
theorem dX0_take_22 : decode cX0_take 22 = .ok (.istore_n 1, 1) := by decide +kernel
theorem dX0_take_23 : decode cX0_take 23 = .ok (.iload_n 1, 1) := by decide +kernel
theorem dX0_take_24 : decode cX0_take 24 = .ok (.bipush 8, 2) := by decide +kernel
theorem dX0_take_26 : decode cX0_take 26 = .ok (.if_icmp .ge 16, 3) := by decide +kernel
theorem dX0_take_29 : decode cX0_take 29 = .ok (.aload_n 0, 1) := by decide +kernel
theorem dX0_take_30 : decode cX0_take 30 = .ok (.getfield 15, 3) := by decide +kernel
theorem dX0_take_33 : decode cX0_take 33 = .ok (.iload_n 1, 1) := by decide +kernel
theorem dX0_take_34 : decode cX0_take 34 = .ok (.iconst (-1), 1) := by decide +kernel
theorem dX0_take_35 : decode cX0_take 35 = .ok (.iastore, 1) := by decide +kernel
theorem dX0_take_36 : decode cX0_take 36 = .ok (.iinc 1 1, 3) := by decide +kernel
theorem dX0_take_39 : decode cX0_take 39 = .ok (.goto (-16), 3) := by decide +kernel
theorem dX0_take_42 : decode cX0_take 42 = .ok (.aload_n 0, 1) := by decide +kernel
theorem dX0_take_43 : decode cX0_take 43 = .ok (.lconst 0, 1) := by decide +kernel
theorem dX0_take_44 : decode cX0_take 44 = .ok (.putfield 22, 3) := by decide +kernel
theorem dX0_take_47 : decode cX0_take 47 = .ok (.aload_n 0, 1) := by decide +kernel
theorem dX0_take_48 : decode cX0_take 48 = .ok (.iconst 0, 1) := by decide +kernel
theorem dX0_take_49 : decode cX0_take 49 = .ok (.putfield 26, 3) := by decide +kernel
theorem dX0_take_52 : decode cX0_take 52 = .ok (.aload_n 0, 1) := by decide +kernel
theorem dX0_take_53 : decode cX0_take 53 = .ok (.getfield 26, 3) := by decide +kernel
theorem dX0_take_56 : decode cX0_take 56 = .ok (.aload_n 0, 1) := by decide +kernel
theorem dX0_take_57 : decode cX0_take 57 = .ok (.getfield 18, 3) := by decide +kernel
theorem dX0_take_60 : decode cX0_take 60 = .ok (.getfield 30, 3) := by decide +kernel
theorem dX0_take_63 : decode cX0_take 63 = .ok (.if_icmp .ge 23, 3) := by decide +kernel
theorem dX0_take_66 : decode cX0_take 66 = .ok (.aload_n 0, 1) := by decide +kernel
theorem dX0_take_67 : decode cX0_take 67 = .ok (.invokevirtual 35, 3) := by decide +kernel
theorem dX0_take_70 : decode cX0_take 70 = .ok (.ifCond .eq 16, 3) := by decide +kernel
theorem dX0_take_73 : decode cX0_take 73 = .ok (.aload_n 0, 1) := by decide +kernel
theorem dX0_take_74 : decode cX0_take 74 = .ok (.dup, 1) := by decide +kernel
theorem dX0_take_75 : decode cX0_take 75 = .ok (.getfield 26, 3) := by decide +kernel
theorem dX0_take_78 : decode cX0_take 78 = .ok (.iconst 1, 1) := by decide +kernel
theorem dX0_take_79 : decode cX0_take 79 = .ok (.iadd, 1) := by decide +kernel
theorem dX0_take_80 : decode cX0_take 80 = .ok (.putfield 26, 3) := by decide +kernel
theorem dX0_take_83 : decode cX0_take 83 = .ok (.goto (-31), 3) := by decide +kernel
theorem dX0_take_86 : decode cX0_take 86 = .ok (.return_, 1) := by decide +kernel
theorem dX0_takeLeast_0 : decode cX0_takeLeast 0 = .ok (.ldc2_w 39, 3) := by decide +kernel
theorem dX0_takeLeast_3 : decode cX0_takeLeast 3 = .ok (.lstore_n 1, 1) := by decide +kernel
theorem dX0_takeLeast_4 : decode cX0_takeLeast 4 = .ok (.iconst 0, 1) := by decide +kernel
theorem dX0_takeLeast_5 : decode cX0_takeLeast 5 = .ok (.istore_n 3, 1) := by decide +kernel
theorem dX0_takeLeast_6 : decode cX0_takeLeast 6 = .ok (.iconst 0, 1) := by decide +kernel
theorem dX0_takeLeast_7 : decode cX0_takeLeast 7 = .ok (.istore 4, 2) := by decide +kernel
theorem dX0_takeLeast_9 : decode cX0_takeLeast 9 = .ok (.iconst 0, 1) := by decide +kernel
theorem dX0_takeLeast_10 : decode cX0_takeLeast 10 = .ok (.istore 5, 2) := by decide +kernel
theorem dX0_takeLeast_12 : decode cX0_takeLeast 12 = .ok (.iload 5, 2) := by decide +kernel
theorem dX0_takeLeast_14 : decode cX0_takeLeast 14 = .ok (.aload_n 0, 1) := by decide +kernel
theorem dX0_takeLeast_15 : decode cX0_takeLeast 15 = .ok (.getfield 18, 3) := by decide +kernel
theorem dX0_takeLeast_18 : decode cX0_takeLeast 18 = .ok (.getfield 30, 3) := by decide +kernel
theorem dX0_takeLeast_21 : decode cX0_takeLeast 21 = .ok (.if_icmp .ge 99, 3) := by decide +kernel
theorem dX0_takeLeast_24 : decode cX0_takeLeast 24 = .ok (.iconst 0, 1) := by decide +kernel
theorem dX0_takeLeast_25 : decode cX0_takeLeast 25 = .ok (.istore 6, 2) := by decide +kernel
theorem dX0_takeLeast_27 : decode cX0_takeLeast 27 = .ok (.iload 6, 2) := by decide +kernel
theorem dX0_takeLeast_29 : decode cX0_takeLeast 29 = .ok (.aload_n 0, 1) := by decide +kernel
theorem dX0_takeLeast_30 : decode cX0_takeLeast 30 = .ok (.getfield 18, 3) := by decide +kernel
theorem dX0_takeLeast_33 : decode cX0_takeLeast 33 = .ok (.getfield 41, 3) := by decide +kernel
theorem dX0_takeLeast_36 : decode cX0_takeLeast 36 = .ok (.if_icmp .ge 78, 3) := by decide +kernel
theorem dX0_takeLeast_39 : decode cX0_takeLeast 39 = .ok (.aload_n 0, 1) := by decide +kernel
theorem dX0_takeLeast_40 : decode cX0_takeLeast 40 = .ok (.getfield 9, 3) := by decide +kernel
theorem dX0_takeLeast_43 : decode cX0_takeLeast 43 = .ok (.iload 5, 2) := by decide +kernel
theorem dX0_takeLeast_45 : decode cX0_takeLeast 45 = .ok (.iaload, 1) := by decide +kernel
theorem dX0_takeLeast_46 : decode cX0_takeLeast 46 = .ok (.iconst (-1), 1) := by decide +kernel
theorem dX0_takeLeast_47 : decode cX0_takeLeast 47 = .ok (.if_icmp .ne 18, 3) := by decide +kernel
theorem dX0_takeLeast_50 : decode cX0_takeLeast 50 = .ok (.aload_n 0, 1) := by decide +kernel
theorem dX0_takeLeast_51 : decode cX0_takeLeast 51 = .ok (.getfield 15, 3) := by decide +kernel
theorem dX0_takeLeast_54 : decode cX0_takeLeast 54 = .ok (.iload 6, 2) := by decide +kernel
theorem dX0_takeLeast_56 : decode cX0_takeLeast 56 = .ok (.iaload, 1) := by decide +kernel
theorem dX0_takeLeast_57 : decode cX0_takeLeast 57 = .ok (.iconst (-1), 1) := by decide +kernel
theorem dX0_takeLeast_58 : decode cX0_takeLeast 58 = .ok (.if_icmp .ne 7, 3) := by decide +kernel
theorem dX0_takeLeast_61 : decode cX0_takeLeast 61 = .ok (.iconst 1, 1) := by decide +kernel
theorem dX0_takeLeast_62 : decode cX0_takeLeast 62 = .ok (.goto 4, 3) := by decide +kernel
theorem dX0_takeLeast_65 : decode cX0_takeLeast 65 = .ok (.iconst 0, 1) := by decide +kernel
theorem dX0_takeLeast_66 : decode cX0_takeLeast 66 = .ok (.istore 7, 2) := by decide +kernel
theorem dX0_takeLeast_68 : decode cX0_takeLeast 68 = .ok (.iload 7, 2) := by decide +kernel
theorem dX0_takeLeast_70 : decode cX0_takeLeast 70 = .ok (.ifCond .eq 38, 3) := by decide +kernel
theorem dX0_takeLeast_73 : decode cX0_takeLeast 73 = .ok (.aload_n 0, 1) := by decide +kernel
theorem dX0_takeLeast_74 : decode cX0_takeLeast 74 = .ok (.getfield 18, 3) := by decide +kernel
theorem dX0_takeLeast_77 : decode cX0_takeLeast 77 = .ok (.iload 5, 2) := by decide +kernel
theorem dX0_takeLeast_79 : decode cX0_takeLeast 79 = .ok (.iload 6, 2) := by decide +kernel
theorem dX0_takeLeast_81 : decode cX0_takeLeast 81 = .ok (.invokevirtual 44, 3) := by decide +kernel
theorem dX0_takeLeast_84 : decode cX0_takeLeast 84 = .ok (.lload_n 1, 1) := by decide +kernel
theorem dX0_takeLeast_85 : decode cX0_takeLeast 85 = .ok (.lcmp, 1) := by decide +kernel
theorem dX0_takeLeast_86 : decode cX0_takeLeast 86 = .ok (.ifCond .ge 22, 3) := by decide +kernel
theorem dX0_takeLeast_89 : decode cX0_takeLeast 89 = .ok (.aload_n 0, 1) := by decide +kernel
theorem dX0_takeLeast_90 : decode cX0_takeLeast 90 = .ok (.getfield 18, 3) := by decide +kernel
theorem dX0_takeLeast_93 : decode cX0_takeLeast 93 = .ok (.iload 5, 2) := by decide +kernel
theorem dX0_takeLeast_95 : decode cX0_takeLeast 95 = .ok (.iload 6, 2) := by decide +kernel
theorem dX0_takeLeast_97 : decode cX0_takeLeast 97 = .ok (.invokevirtual 44, 3) := by decide +kernel
theorem dX0_takeLeast_100 : decode cX0_takeLeast 100 = .ok (.lstore_n 1, 1) := by decide +kernel
theorem dX0_takeLeast_101 : decode cX0_takeLeast 101 = .ok (.iload 5, 2) := by decide +kernel
theorem dX0_takeLeast_103 : decode cX0_takeLeast 103 = .ok (.istore_n 3, 1) := by decide +kernel
theorem dX0_takeLeast_104 : decode cX0_takeLeast 104 = .ok (.iload 6, 2) := by decide +kernel
theorem dX0_takeLeast_106 : decode cX0_takeLeast 106 = .ok (.istore 4, 2) := by decide +kernel
theorem dX0_takeLeast_108 : decode cX0_takeLeast 108 = .ok (.iinc 6 1, 3) := by decide +kernel
theorem dX0_takeLeast_111 : decode cX0_takeLeast 111 = .ok (.goto (-84), 3) := by decide +kernel
theorem dX0_takeLeast_114 : decode cX0_takeLeast 114 = .ok (.iinc 5 1, 3) := by decide +kernel
theorem dX0_takeLeast_117 : decode cX0_takeLeast 117 = .ok (.goto (-105), 3) := by decide +kernel
theorem dX0_takeLeast_120 : decode cX0_takeLeast 120 = .ok (.lload_n 1, 1) := by decide +kernel
theorem dX0_takeLeast_121 : decode cX0_takeLeast 121 = .ok (.ldc2_w 39, 3) := by decide +kernel
theorem dX0_takeLeast_124 : decode cX0_takeLeast 124 = .ok (.lcmp, 1) := by decide +kernel
theorem dX0_takeLeast_125 : decode cX0_takeLeast 125 = .ok (.ifCond .ne 5, 3) := by decide +kernel
theorem dX0_takeLeast_128 : decode cX0_takeLeast 128 = .ok (.iconst 0, 1) := by decide +kernel
theorem dX0_takeLeast_129 : decode cX0_takeLeast 129 = .ok (.ireturn, 1) := by decide +kernel
theorem dX0_takeLeast_130 : decode cX0_takeLeast 130 = .ok (.aload_n 0, 1) := by decide +kernel
theorem dX0_takeLeast_131 : decode cX0_takeLeast 131 = .ok (.iload_n 3, 1) := by decide +kernel
theorem dX0_takeLeast_132 : decode cX0_takeLeast 132 = .ok (.iload 4, 2) := by decide +kernel
theorem dX0_takeLeast_134 : decode cX0_takeLeast 134 = .ok (.invokevirtual 48, 3) := by decide +kernel
theorem dX0_takeLeast_137 : decode cX0_takeLeast 137 = .ok (.aload_n 0, 1) := by decide +kernel
theorem dX0_takeLeast_138 : decode cX0_takeLeast 138 = .ok (.dup, 1) := by decide +kernel
theorem dX0_takeLeast_139 : decode cX0_takeLeast 139 = .ok (.getfield 22, 3) := by decide +kernel
theorem dX0_takeLeast_142 : decode cX0_takeLeast 142 = .ok (.lload_n 1, 1) := by decide +kernel
theorem dX0_takeLeast_143 : decode cX0_takeLeast 143 = .ok (.ladd, 1) := by decide +kernel
theorem dX0_takeLeast_144 : decode cX0_takeLeast 144 = .ok (.putfield 22, 3) := by decide +kernel
theorem dX0_takeLeast_147 : decode cX0_takeLeast 147 = .ok (.iconst 1, 1) := by decide +kernel
theorem dX0_takeLeast_148 : decode cX0_takeLeast 148 = .ok (.ireturn, 1) := by decide +kernel
theorem dX0_seat_0 : decode cX0_seat 0 = .ok (.aload_n 0, 1) := by decide +kernel
theorem dX0_seat_1 : decode cX0_seat 1 = .ok (.getfield 18, 3) := by decide +kernel
theorem dX0_seat_4 : decode cX0_seat 4 = .ok (.iload_n 1, 1) := by decide +kernel
theorem dX0_seat_5 : decode cX0_seat 5 = .ok (.iload_n 2, 1) := by decide +kernel
theorem dX0_seat_6 : decode cX0_seat 6 = .ok (.invokevirtual 52, 3) := by decide +kernel
theorem dX0_seat_9 : decode cX0_seat 9 = .ok (.ifCond .eq 17, 3) := by decide +kernel
theorem dX0_seat_12 : decode cX0_seat 12 = .ok (.aload_n 0, 1) := by decide +kernel
theorem dX0_seat_13 : decode cX0_seat 13 = .ok (.getfield 9, 3) := by decide +kernel
theorem dX0_seat_16 : decode cX0_seat 16 = .ok (.iload_n 1, 1) := by decide +kernel
theorem dX0_seat_17 : decode cX0_seat 17 = .ok (.iload_n 2, 1) := by decide +kernel
theorem dX0_seat_18 : decode cX0_seat 18 = .ok (.iastore, 1) := by decide +kernel
theorem dX0_seat_19 : decode cX0_seat 19 = .ok (.aload_n 0, 1) := by decide +kernel
theorem dX0_seat_20 : decode cX0_seat 20 = .ok (.getfield 15, 3) := by decide +kernel
theorem dX0_seat_23 : decode cX0_seat 23 = .ok (.iload_n 2, 1) := by decide +kernel
theorem dX0_seat_24 : decode cX0_seat 24 = .ok (.iload_n 1, 1) := by decide +kernel
theorem dX0_seat_25 : decode cX0_seat 25 = .ok (.iastore, 1) := by decide +kernel
theorem dX0_seat_26 : decode cX0_seat 26 = .ok (.return_, 1) := by decide +kernel
theorem dX0_mend_0 : decode cX0_mend 0 = .ok (.aload_n 0, 1) := by decide +kernel
theorem dX0_mend_1 : decode cX0_mend 1 = .ok (.iconst 0, 1) := by decide +kernel
theorem dX0_mend_2 : decode cX0_mend 2 = .ok (.putfield 56, 3) := by decide +kernel
theorem dX0_mend_5 : decode cX0_mend 5 = .ok (.aload_n 0, 1) := by decide +kernel
theorem dX0_mend_6 : decode cX0_mend 6 = .ok (.getfield 26, 3) := by decide +kernel
theorem dX0_mend_9 : decode cX0_mend 9 = .ok (.aload_n 0, 1) := by decide +kernel
theorem dX0_mend_10 : decode cX0_mend 10 = .ok (.getfield 18, 3) := by decide +kernel
theorem dX0_mend_13 : decode cX0_mend 13 = .ok (.getfield 30, 3) := by decide +kernel
theorem dX0_mend_16 : decode cX0_mend 16 = .ok (.if_icmp .ne 36, 3) := by decide +kernel
theorem dX0_mend_19 : decode cX0_mend 19 = .ok (.aload_n 0, 1) := by decide +kernel
theorem dX0_mend_20 : decode cX0_mend 20 = .ok (.getfield 56, 3) := by decide +kernel
theorem dX0_mend_23 : decode cX0_mend 23 = .ok (.ldc 59, 2) := by decide +kernel
theorem dX0_mend_25 : decode cX0_mend 25 = .ok (.if_icmp .ge 27, 3) := by decide +kernel
theorem dX0_mend_28 : decode cX0_mend 28 = .ok (.aload_n 0, 1) := by decide +kernel
theorem dX0_mend_29 : decode cX0_mend 29 = .ok (.invokevirtual 60, 3) := by decide +kernel
theorem dX0_mend_32 : decode cX0_mend 32 = .ok (.ifCond .eq 20, 3) := by decide +kernel
theorem dX0_mend_35 : decode cX0_mend 35 = .ok (.aload_n 0, 1) := by decide +kernel
theorem dX0_mend_36 : decode cX0_mend 36 = .ok (.invokevirtual 63, 3) := by decide +kernel
theorem dX0_mend_39 : decode cX0_mend 39 = .ok (.aload_n 0, 1) := by decide +kernel
theorem dX0_mend_40 : decode cX0_mend 40 = .ok (.dup, 1) := by decide +kernel
theorem dX0_mend_41 : decode cX0_mend 41 = .ok (.getfield 56, 3) := by decide +kernel
theorem dX0_mend_44 : decode cX0_mend 44 = .ok (.iconst 1, 1) := by decide +kernel
theorem dX0_mend_45 : decode cX0_mend 45 = .ok (.iadd, 1) := by decide +kernel
theorem dX0_mend_46 : decode cX0_mend 46 = .ok (.putfield 56, 3) := by decide +kernel
theorem dX0_mend_49 : decode cX0_mend 49 = .ok (.goto (-44), 3) := by decide +kernel
theorem dX0_mend_52 : decode cX0_mend 52 = .ok (.return_, 1) := by decide +kernel
theorem dX0_findStep_0 : decode cX0_findStep 0 = .ok (.aload_n 0, 1) := by decide +kernel
theorem dX0_findStep_1 : decode cX0_findStep 1 = .ok (.lconst 0, 1) := by decide +kernel
theorem dX0_findStep_2 : decode cX0_findStep 2 = .ok (.putfield 66, 3) := by decide +kernel
theorem dX0_findStep_5 : decode cX0_findStep 5 = .ok (.iconst 0, 1) := by decide +kernel
theorem dX0_findStep_6 : decode cX0_findStep 6 = .ok (.istore_n 1, 1) := by decide +kernel
theorem dX0_findStep_7 : decode cX0_findStep 7 = .ok (.iload_n 1, 1) := by decide +kernel
theorem dX0_findStep_8 : decode cX0_findStep 8 = .ok (.aload_n 0, 1) := by decide +kernel
theorem dX0_findStep_9 : decode cX0_findStep 9 = .ok (.getfield 18, 3) := by decide +kernel
theorem dX0_findStep_12 : decode cX0_findStep 12 = .ok (.getfield 30, 3) := by decide +kernel
theorem dX0_findStep_15 : decode cX0_findStep 15 = .ok (.if_icmp .ge 50, 3) := by decide +kernel
theorem dX0_findStep_18 : decode cX0_findStep 18 = .ok (.iconst 0, 1) := by decide +kernel
theorem dX0_findStep_19 : decode cX0_findStep 19 = .ok (.istore_n 2, 1) := by decide +kernel
theorem dX0_findStep_20 : decode cX0_findStep 20 = .ok (.iload_n 2, 1) := by decide +kernel
theorem dX0_findStep_21 : decode cX0_findStep 21 = .ok (.aload_n 0, 1) := by decide +kernel
theorem dX0_findStep_22 : decode cX0_findStep 22 = .ok (.getfield 18, 3) := by decide +kernel
theorem dX0_findStep_25 : decode cX0_findStep 25 = .ok (.getfield 41, 3) := by decide +kernel
theorem dX0_findStep_28 : decode cX0_findStep 28 = .ok (.if_icmp .ge 31, 3) := by decide +kernel
theorem dX0_findStep_31 : decode cX0_findStep 31 = .ok (.aload_n 0, 1) := by decide +kernel
theorem dX0_findStep_32 : decode cX0_findStep 32 = .ok (.getfield 15, 3) := by decide +kernel
theorem dX0_findStep_35 : decode cX0_findStep 35 = .ok (.iload_n 2, 1) := by decide +kernel
theorem dX0_findStep_36 : decode cX0_findStep 36 = .ok (.iaload, 1) := by decide +kernel
theorem dX0_findStep_37 : decode cX0_findStep 37 = .ok (.iconst (-1), 1) := by decide +kernel
theorem dX0_findStep_38 : decode cX0_findStep 38 = .ok (.if_icmp .ne 15, 3) := by decide +kernel
theorem dX0_findStep_41 : decode cX0_findStep 41 = .ok (.aload_n 0, 1) := by decide +kernel
theorem dX0_findStep_42 : decode cX0_findStep 42 = .ok (.iload_n 1, 1) := by decide +kernel
theorem dX0_findStep_43 : decode cX0_findStep 43 = .ok (.iload_n 2, 1) := by decide +kernel
theorem dX0_findStep_44 : decode cX0_findStep 44 = .ok (.aload_n 0, 1) := by decide +kernel
theorem dX0_findStep_45 : decode cX0_findStep 45 = .ok (.iload_n 1, 1) := by decide +kernel
theorem dX0_findStep_46 : decode cX0_findStep 46 = .ok (.iload_n 2, 1) := by decide +kernel
theorem dX0_findStep_47 : decode cX0_findStep 47 = .ok (.invokevirtual 69, 3) := by decide +kernel
theorem dX0_findStep_50 : decode cX0_findStep 50 = .ok (.invokevirtual 72, 3) := by decide +kernel
theorem dX0_findStep_53 : decode cX0_findStep 53 = .ok (.iinc 2 1, 3) := by decide +kernel
theorem dX0_findStep_56 : decode cX0_findStep 56 = .ok (.goto (-36), 3) := by decide +kernel
theorem dX0_findStep_59 : decode cX0_findStep 59 = .ok (.iinc 1 1, 3) := by decide +kernel
theorem dX0_findStep_62 : decode cX0_findStep 62 = .ok (.goto (-55), 3) := by decide +kernel
theorem dX0_findStep_65 : decode cX0_findStep 65 = .ok (.iconst 0, 1) := by decide +kernel
theorem dX0_findStep_66 : decode cX0_findStep 66 = .ok (.istore_n 1, 1) := by decide +kernel
theorem dX0_findStep_67 : decode cX0_findStep 67 = .ok (.iload_n 1, 1) := by decide +kernel
theorem dX0_findStep_68 : decode cX0_findStep 68 = .ok (.aload_n 0, 1) := by decide +kernel
theorem dX0_findStep_69 : decode cX0_findStep 69 = .ok (.getfield 18, 3) := by decide +kernel
theorem dX0_findStep_72 : decode cX0_findStep 72 = .ok (.getfield 30, 3) := by decide +kernel
theorem dX0_findStep_75 : decode cX0_findStep 75 = .ok (.if_icmp .ge 47, 3) := by decide +kernel
theorem dX0_findStep_78 : decode cX0_findStep 78 = .ok (.iload_n 1, 1) := by decide +kernel
theorem dX0_findStep_79 : decode cX0_findStep 79 = .ok (.iconst 1, 1) := by decide +kernel
theorem dX0_findStep_80 : decode cX0_findStep 80 = .ok (.iadd, 1) := by decide +kernel
theorem dX0_findStep_81 : decode cX0_findStep 81 = .ok (.istore_n 2, 1) := by decide +kernel
theorem dX0_findStep_82 : decode cX0_findStep 82 = .ok (.iload_n 2, 1) := by decide +kernel
theorem dX0_findStep_83 : decode cX0_findStep 83 = .ok (.aload_n 0, 1) := by decide +kernel
theorem dX0_findStep_84 : decode cX0_findStep 84 = .ok (.getfield 18, 3) := by decide +kernel
theorem dX0_findStep_87 : decode cX0_findStep 87 = .ok (.getfield 30, 3) := by decide +kernel
theorem dX0_findStep_90 : decode cX0_findStep 90 = .ok (.if_icmp .ge 26, 3) := by decide +kernel
theorem dX0_findStep_93 : decode cX0_findStep 93 = .ok (.aload_n 0, 1) := by decide +kernel
theorem dX0_findStep_94 : decode cX0_findStep 94 = .ok (.iload_n 1, 1) := by decide +kernel
theorem dX0_findStep_95 : decode cX0_findStep 95 = .ok (.aload_n 0, 1) := by decide +kernel
theorem dX0_findStep_96 : decode cX0_findStep 96 = .ok (.getfield 9, 3) := by decide +kernel
theorem dX0_findStep_99 : decode cX0_findStep 99 = .ok (.iload_n 2, 1) := by decide +kernel
theorem dX0_findStep_100 : decode cX0_findStep 100 = .ok (.iaload, 1) := by decide +kernel
theorem dX0_findStep_101 : decode cX0_findStep 101 = .ok (.aload_n 0, 1) := by decide +kernel
theorem dX0_findStep_102 : decode cX0_findStep 102 = .ok (.iload_n 1, 1) := by decide +kernel
theorem dX0_findStep_103 : decode cX0_findStep 103 = .ok (.iload_n 2, 1) := by decide +kernel
theorem dX0_findStep_104 : decode cX0_findStep 104 = .ok (.invokevirtual 76, 3) := by decide +kernel
theorem dX0_findStep_107 : decode cX0_findStep 107 = .ok (.invokevirtual 72, 3) := by decide +kernel
theorem dX0_findStep_110 : decode cX0_findStep 110 = .ok (.iinc 2 1, 3) := by decide +kernel
theorem dX0_findStep_113 : decode cX0_findStep 113 = .ok (.goto (-31), 3) := by decide +kernel
theorem dX0_findStep_116 : decode cX0_findStep 116 = .ok (.iinc 1 1, 3) := by decide +kernel
theorem dX0_findStep_119 : decode cX0_findStep 119 = .ok (.goto (-52), 3) := by decide +kernel
theorem dX0_findStep_122 : decode cX0_findStep 122 = .ok (.aload_n 0, 1) := by decide +kernel
theorem dX0_findStep_123 : decode cX0_findStep 123 = .ok (.getfield 66, 3) := by decide +kernel
theorem dX0_findStep_126 : decode cX0_findStep 126 = .ok (.lconst 0, 1) := by decide +kernel
theorem dX0_findStep_127 : decode cX0_findStep 127 = .ok (.lcmp, 1) := by decide +kernel
theorem dX0_findStep_128 : decode cX0_findStep 128 = .ok (.ifCond .le 7, 3) := by decide +kernel
theorem dX0_findStep_131 : decode cX0_findStep 131 = .ok (.iconst 1, 1) := by decide +kernel
theorem dX0_findStep_132 : decode cX0_findStep 132 = .ok (.goto 4, 3) := by decide +kernel
theorem dX0_findStep_135 : decode cX0_findStep 135 = .ok (.iconst 0, 1) := by decide +kernel
theorem dX0_findStep_136 : decode cX0_findStep 136 = .ok (.ireturn, 1) := by decide +kernel
theorem dX0_goingGain_0 : decode cX0_goingGain 0 = .ok (.aload_n 0, 1) := by decide +kernel
theorem dX0_goingGain_1 : decode cX0_goingGain 1 = .ok (.getfield 18, 3) := by decide +kernel
theorem dX0_goingGain_4 : decode cX0_goingGain 4 = .ok (.iload_n 1, 1) := by decide +kernel
theorem dX0_goingGain_5 : decode cX0_goingGain 5 = .ok (.iload_n 2, 1) := by decide +kernel
theorem dX0_goingGain_6 : decode cX0_goingGain 6 = .ok (.invokevirtual 44, 3) := by decide +kernel
theorem dX0_goingGain_9 : decode cX0_goingGain 9 = .ok (.lstore_n 3, 1) := by decide +kernel
theorem dX0_goingGain_10 : decode cX0_goingGain 10 = .ok (.lload_n 3, 1) := by decide +kernel
theorem dX0_goingGain_11 : decode cX0_goingGain 11 = .ok (.ldc2_w 39, 3) := by decide +kernel
theorem dX0_goingGain_14 : decode cX0_goingGain 14 = .ok (.lcmp, 1) := by decide +kernel
theorem dX0_goingGain_15 : decode cX0_goingGain 15 = .ok (.ifCond .ne 9, 3) := by decide +kernel
theorem dX0_goingGain_18 : decode cX0_goingGain 18 = .ok (.ldc2_w 79, 3) := by decide +kernel
theorem dX0_goingGain_21 : decode cX0_goingGain 21 = .ok (.goto 19, 3) := by decide +kernel
theorem dX0_goingGain_24 : decode cX0_goingGain 24 = .ok (.aload_n 0, 1) := by decide +kernel
theorem dX0_goingGain_25 : decode cX0_goingGain 25 = .ok (.getfield 18, 3) := by decide +kernel
theorem dX0_goingGain_28 : decode cX0_goingGain 28 = .ok (.iload_n 1, 1) := by decide +kernel
theorem dX0_goingGain_29 : decode cX0_goingGain 29 = .ok (.aload_n 0, 1) := by decide +kernel
theorem dX0_goingGain_30 : decode cX0_goingGain 30 = .ok (.getfield 9, 3) := by decide +kernel
theorem dX0_goingGain_33 : decode cX0_goingGain 33 = .ok (.iload_n 1, 1) := by decide +kernel
theorem dX0_goingGain_34 : decode cX0_goingGain 34 = .ok (.iaload, 1) := by decide +kernel
theorem dX0_goingGain_35 : decode cX0_goingGain 35 = .ok (.invokevirtual 44, 3) := by decide +kernel
theorem dX0_goingGain_38 : decode cX0_goingGain 38 = .ok (.lload_n 3, 1) := by decide +kernel
theorem dX0_goingGain_39 : decode cX0_goingGain 39 = .ok (.lsub, 1) := by decide +kernel
theorem dX0_goingGain_40 : decode cX0_goingGain 40 = .ok (.lreturn, 1) := by decide +kernel
theorem dX0_changingGain_0 : decode cX0_changingGain 0 = .ok (.aload_n 0, 1) := by decide +kernel
theorem dX0_changingGain_1 : decode cX0_changingGain 1 = .ok (.iload_n 1, 1) := by decide +kernel
theorem dX0_changingGain_2 : decode cX0_changingGain 2 = .ok (.aload_n 0, 1) := by decide +kernel
theorem dX0_changingGain_3 : decode cX0_changingGain 3 = .ok (.getfield 9, 3) := by decide +kernel
theorem dX0_changingGain_6 : decode cX0_changingGain 6 = .ok (.iload_n 2, 1) := by decide +kernel
theorem dX0_changingGain_7 : decode cX0_changingGain 7 = .ok (.iaload, 1) := by decide +kernel
theorem dX0_changingGain_8 : decode cX0_changingGain 8 = .ok (.invokevirtual 69, 3) := by decide +kernel
theorem dX0_changingGain_11 : decode cX0_changingGain 11 = .ok (.lstore_n 3, 1) := by decide +kernel
theorem dX0_changingGain_12 : decode cX0_changingGain 12 = .ok (.aload_n 0, 1) := by decide +kernel
theorem dX0_changingGain_13 : decode cX0_changingGain 13 = .ok (.iload_n 2, 1) := by decide +kernel
theorem dX0_changingGain_14 : decode cX0_changingGain 14 = .ok (.aload_n 0, 1) := by decide +kernel
theorem dX0_changingGain_15 : decode cX0_changingGain 15 = .ok (.getfield 9, 3) := by decide +kernel
theorem dX0_changingGain_18 : decode cX0_changingGain 18 = .ok (.iload_n 1, 1) := by decide +kernel
theorem dX0_changingGain_19 : decode cX0_changingGain 19 = .ok (.iaload, 1) := by decide +kernel
theorem dX0_changingGain_20 : decode cX0_changingGain 20 = .ok (.invokevirtual 69, 3) := by decide +kernel
theorem dX0_changingGain_23 : decode cX0_changingGain 23 = .ok (.lstore 5, 2) := by decide +kernel
theorem dX0_changingGain_25 : decode cX0_changingGain 25 = .ok (.lload_n 3, 1) := by decide +kernel
theorem dX0_changingGain_26 : decode cX0_changingGain 26 = .ok (.ldc2_w 79, 3) := by decide +kernel
theorem dX0_changingGain_29 : decode cX0_changingGain 29 = .ok (.lcmp, 1) := by decide +kernel
theorem dX0_changingGain_30 : decode cX0_changingGain 30 = .ok (.ifCond .eq 12, 3) := by decide +kernel
theorem dX0_changingGain_33 : decode cX0_changingGain 33 = .ok (.lload 5, 2) := by decide +kernel
theorem dX0_changingGain_35 : decode cX0_changingGain 35 = .ok (.ldc2_w 79, 3) := by decide +kernel
theorem dX0_changingGain_38 : decode cX0_changingGain 38 = .ok (.lcmp, 1) := by decide +kernel
theorem dX0_changingGain_39 : decode cX0_changingGain 39 = .ok (.ifCond .ne 9, 3) := by decide +kernel
theorem dX0_changingGain_42 : decode cX0_changingGain 42 = .ok (.ldc2_w 79, 3) := by decide +kernel
theorem dX0_changingGain_45 : decode cX0_changingGain 45 = .ok (.goto 7, 3) := by decide +kernel
theorem dX0_changingGain_48 : decode cX0_changingGain 48 = .ok (.lload_n 3, 1) := by decide +kernel
theorem dX0_changingGain_49 : decode cX0_changingGain 49 = .ok (.lload 5, 2) := by decide +kernel
theorem dX0_changingGain_51 : decode cX0_changingGain 51 = .ok (.ladd, 1) := by decide +kernel
theorem dX0_changingGain_52 : decode cX0_changingGain 52 = .ok (.lreturn, 1) := by decide +kernel
theorem dX0_weigh_0 : decode cX0_weigh 0 = .ok (.lload_n 3, 1) := by decide +kernel
theorem dX0_weigh_1 : decode cX0_weigh 1 = .ok (.aload_n 0, 1) := by decide +kernel
theorem dX0_weigh_2 : decode cX0_weigh 2 = .ok (.getfield 66, 3) := by decide +kernel
theorem dX0_weigh_5 : decode cX0_weigh 5 = .ok (.lcmp, 1) := by decide +kernel
theorem dX0_weigh_6 : decode cX0_weigh 6 = .ok (.ifCond .le 18, 3) := by decide +kernel
theorem dX0_weigh_9 : decode cX0_weigh 9 = .ok (.aload_n 0, 1) := by decide +kernel
theorem dX0_weigh_10 : decode cX0_weigh 10 = .ok (.lload_n 3, 1) := by decide +kernel
theorem dX0_weigh_11 : decode cX0_weigh 11 = .ok (.putfield 66, 3) := by decide +kernel
theorem dX0_weigh_14 : decode cX0_weigh 14 = .ok (.aload_n 0, 1) := by decide +kernel
theorem dX0_weigh_15 : decode cX0_weigh 15 = .ok (.iload_n 1, 1) := by decide +kernel
theorem dX0_weigh_16 : decode cX0_weigh 16 = .ok (.putfield 81, 3) := by decide +kernel
theorem dX0_weigh_19 : decode cX0_weigh 19 = .ok (.aload_n 0, 1) := by decide +kernel
theorem dX0_weigh_20 : decode cX0_weigh 20 = .ok (.iload_n 2, 1) := by decide +kernel
theorem dX0_weigh_21 : decode cX0_weigh 21 = .ok (.putfield 84, 3) := by decide +kernel
theorem dX0_weigh_24 : decode cX0_weigh 24 = .ok (.return_, 1) := by decide +kernel
theorem dX0_doStep_0 : decode cX0_doStep 0 = .ok (.aload_n 0, 1) := by decide +kernel
theorem dX0_doStep_1 : decode cX0_doStep 1 = .ok (.getfield 9, 3) := by decide +kernel
theorem dX0_doStep_4 : decode cX0_doStep 4 = .ok (.aload_n 0, 1) := by decide +kernel
theorem dX0_doStep_5 : decode cX0_doStep 5 = .ok (.getfield 81, 3) := by decide +kernel
theorem dX0_doStep_8 : decode cX0_doStep 8 = .ok (.iaload, 1) := by decide +kernel
theorem dX0_doStep_9 : decode cX0_doStep 9 = .ok (.istore_n 1, 1) := by decide +kernel
theorem dX0_doStep_10 : decode cX0_doStep 10 = .ok (.aload_n 0, 1) := by decide +kernel
theorem dX0_doStep_11 : decode cX0_doStep 11 = .ok (.getfield 15, 3) := by decide +kernel
theorem dX0_doStep_14 : decode cX0_doStep 14 = .ok (.aload_n 0, 1) := by decide +kernel
theorem dX0_doStep_15 : decode cX0_doStep 15 = .ok (.getfield 84, 3) := by decide +kernel
theorem dX0_doStep_18 : decode cX0_doStep 18 = .ok (.iaload, 1) := by decide +kernel
theorem dX0_doStep_19 : decode cX0_doStep 19 = .ok (.istore_n 2, 1) := by decide +kernel
theorem dX0_doStep_20 : decode cX0_doStep 20 = .ok (.aload_n 0, 1) := by decide +kernel
theorem dX0_doStep_21 : decode cX0_doStep 21 = .ok (.aload_n 0, 1) := by decide +kernel
theorem dX0_doStep_22 : decode cX0_doStep 22 = .ok (.getfield 81, 3) := by decide +kernel
theorem dX0_doStep_25 : decode cX0_doStep 25 = .ok (.aload_n 0, 1) := by decide +kernel
theorem dX0_doStep_26 : decode cX0_doStep 26 = .ok (.getfield 84, 3) := by decide +kernel
theorem dX0_doStep_29 : decode cX0_doStep 29 = .ok (.invokevirtual 48, 3) := by decide +kernel
theorem dX0_doStep_32 : decode cX0_doStep 32 = .ok (.iload_n 2, 1) := by decide +kernel
theorem dX0_doStep_33 : decode cX0_doStep 33 = .ok (.iconst (-1), 1) := by decide +kernel
theorem dX0_doStep_34 : decode cX0_doStep 34 = .ok (.if_icmp .eq 12, 3) := by decide +kernel
theorem dX0_doStep_37 : decode cX0_doStep 37 = .ok (.aload_n 0, 1) := by decide +kernel
theorem dX0_doStep_38 : decode cX0_doStep 38 = .ok (.iload_n 2, 1) := by decide +kernel
theorem dX0_doStep_39 : decode cX0_doStep 39 = .ok (.iload_n 1, 1) := by decide +kernel
theorem dX0_doStep_40 : decode cX0_doStep 40 = .ok (.invokevirtual 48, 3) := by decide +kernel
theorem dX0_doStep_43 : decode cX0_doStep 43 = .ok (.goto 15, 3) := by decide +kernel
theorem dX0_doStep_46 : decode cX0_doStep 46 = .ok (.iload_n 1, 1) := by decide +kernel
theorem dX0_doStep_47 : decode cX0_doStep 47 = .ok (.iconst (-1), 1) := by decide +kernel
theorem dX0_doStep_48 : decode cX0_doStep 48 = .ok (.if_icmp .eq 10, 3) := by decide +kernel
theorem dX0_doStep_51 : decode cX0_doStep 51 = .ok (.aload_n 0, 1) := by decide +kernel
theorem dX0_doStep_52 : decode cX0_doStep 52 = .ok (.getfield 15, 3) := by decide +kernel
theorem dX0_doStep_55 : decode cX0_doStep 55 = .ok (.iload_n 1, 1) := by decide +kernel
theorem dX0_doStep_56 : decode cX0_doStep 56 = .ok (.iconst (-1), 1) := by decide +kernel
theorem dX0_doStep_57 : decode cX0_doStep 57 = .ok (.iastore, 1) := by decide +kernel
theorem dX0_doStep_58 : decode cX0_doStep 58 = .ok (.aload_n 0, 1) := by decide +kernel
theorem dX0_doStep_59 : decode cX0_doStep 59 = .ok (.dup, 1) := by decide +kernel
theorem dX0_doStep_60 : decode cX0_doStep 60 = .ok (.getfield 22, 3) := by decide +kernel
theorem dX0_doStep_63 : decode cX0_doStep 63 = .ok (.aload_n 0, 1) := by decide +kernel
theorem dX0_doStep_64 : decode cX0_doStep 64 = .ok (.getfield 66, 3) := by decide +kernel
theorem dX0_doStep_67 : decode cX0_doStep 67 = .ok (.lsub, 1) := by decide +kernel
theorem dX0_doStep_68 : decode cX0_doStep 68 = .ok (.putfield 22, 3) := by decide +kernel
theorem dX0_doStep_71 : decode cX0_doStep 71 = .ok (.return_, 1) := by decide +kernel
theorem dX1_init_0 : decode cX1_init 0 = .ok (.aload_n 0, 1) := by decide +kernel
theorem dX1_init_1 : decode cX1_init 1 = .ok (.invokespecial 3, 3) := by decide +kernel
theorem dX1_init_4 : decode cX1_init 4 = .ok (.aload_n 0, 1) := by decide +kernel
theorem dX1_init_5 : decode cX1_init 5 = .ok (.bipush 56, 2) := by decide +kernel
theorem dX1_init_7 : decode cX1_init 7 = .ok (.newarray .long, 2) := by decide +kernel
theorem dX1_init_9 : decode cX1_init 9 = .ok (.putfield 9, 3) := by decide +kernel
theorem dX1_init_12 : decode cX1_init 12 = .ok (.return_, 1) := by decide +kernel
theorem dX1_clear_0 : decode cX1_clear 0 = .ok (.aload_n 0, 1) := by decide +kernel
theorem dX1_clear_1 : decode cX1_clear 1 = .ok (.iconst 0, 1) := by decide +kernel
theorem dX1_clear_2 : decode cX1_clear 2 = .ok (.putfield 15, 3) := by decide +kernel
theorem dX1_clear_5 : decode cX1_clear 5 = .ok (.aload_n 0, 1) := by decide +kernel
theorem dX1_clear_6 : decode cX1_clear 6 = .ok (.iconst 0, 1) := by decide +kernel
theorem dX1_clear_7 : decode cX1_clear 7 = .ok (.putfield 19, 3) := by decide +kernel
theorem dX1_clear_10 : decode cX1_clear 10 = .ok (.return_, 1) := by decide +kernel
theorem dX1_copy_0 : decode cX1_copy 0 = .ok (.aload_n 0, 1) := by decide +kernel
theorem dX1_copy_1 : decode cX1_copy 1 = .ok (.aload_n 1, 1) := by decide +kernel
theorem dX1_copy_2 : decode cX1_copy 2 = .ok (.getfield 15, 3) := by decide +kernel
theorem dX1_copy_5 : decode cX1_copy 5 = .ok (.putfield 15, 3) := by decide +kernel
theorem dX1_copy_8 : decode cX1_copy 8 = .ok (.aload_n 0, 1) := by decide +kernel
theorem dX1_copy_9 : decode cX1_copy 9 = .ok (.aload_n 1, 1) := by decide +kernel
theorem dX1_copy_10 : decode cX1_copy 10 = .ok (.getfield 19, 3) := by decide +kernel
theorem dX1_copy_13 : decode cX1_copy 13 = .ok (.putfield 19, 3) := by decide +kernel
theorem dX1_copy_16 : decode cX1_copy 16 = .ok (.iconst 0, 1) := by decide +kernel
theorem dX1_copy_17 : decode cX1_copy 17 = .ok (.istore_n 2, 1) := by decide +kernel
theorem dX1_copy_18 : decode cX1_copy 18 = .ok (.iload_n 2, 1) := by decide +kernel
theorem dX1_copy_19 : decode cX1_copy 19 = .ok (.aload_n 0, 1) := by decide +kernel
theorem dX1_copy_20 : decode cX1_copy 20 = .ok (.getfield 9, 3) := by decide +kernel
theorem dX1_copy_23 : decode cX1_copy 23 = .ok (.arraylength, 1) := by decide +kernel
theorem dX1_copy_24 : decode cX1_copy 24 = .ok (.if_icmp .ge 21, 3) := by decide +kernel
theorem dX1_copy_27 : decode cX1_copy 27 = .ok (.aload_n 0, 1) := by decide +kernel
theorem dX1_copy_28 : decode cX1_copy 28 = .ok (.getfield 9, 3) := by decide +kernel
theorem dX1_copy_31 : decode cX1_copy 31 = .ok (.iload_n 2, 1) := by decide +kernel
theorem dX1_copy_32 : decode cX1_copy 32 = .ok (.aload_n 1, 1) := by decide +kernel
theorem dX1_copy_33 : decode cX1_copy 33 = .ok (.getfield 9, 3) := by decide +kernel
theorem dX1_copy_36 : decode cX1_copy 36 = .ok (.iload_n 2, 1) := by decide +kernel
theorem dX1_copy_37 : decode cX1_copy 37 = .ok (.laload, 1) := by decide +kernel
theorem dX1_copy_38 : decode cX1_copy 38 = .ok (.lastore, 1) := by decide +kernel
theorem dX1_copy_39 : decode cX1_copy 39 = .ok (.iinc 2 1, 3) := by decide +kernel
theorem dX1_copy_42 : decode cX1_copy 42 = .ok (.goto (-24), 3) := by decide +kernel
theorem dX1_copy_45 : decode cX1_copy 45 = .ok (.return_, 1) := by decide +kernel
theorem dX1_hasWorker_0 : decode cX1_hasWorker 0 = .ok (.iload_n 1, 1) := by decide +kernel
theorem dX1_hasWorker_1 : decode cX1_hasWorker 1 = .ok (.ifCond .lt 15, 3) := by decide +kernel
theorem dX1_hasWorker_4 : decode cX1_hasWorker 4 = .ok (.iload_n 1, 1) := by decide +kernel
theorem dX1_hasWorker_5 : decode cX1_hasWorker 5 = .ok (.aload_n 0, 1) := by decide +kernel
theorem dX1_hasWorker_6 : decode cX1_hasWorker 6 = .ok (.getfield 15, 3) := by decide +kernel
theorem dX1_hasWorker_9 : decode cX1_hasWorker 9 = .ok (.if_icmp .ge 7, 3) := by decide +kernel
theorem dX1_hasWorker_12 : decode cX1_hasWorker 12 = .ok (.iconst 1, 1) := by decide +kernel
theorem dX1_hasWorker_13 : decode cX1_hasWorker 13 = .ok (.goto 4, 3) := by decide +kernel
theorem dX1_hasWorker_16 : decode cX1_hasWorker 16 = .ok (.iconst 0, 1) := by decide +kernel
theorem dX1_hasWorker_17 : decode cX1_hasWorker 17 = .ok (.ireturn, 1) := by decide +kernel
theorem dX1_hasJob_0 : decode cX1_hasJob 0 = .ok (.iload_n 1, 1) := by decide +kernel
theorem dX1_hasJob_1 : decode cX1_hasJob 1 = .ok (.ifCond .lt 15, 3) := by decide +kernel
theorem dX1_hasJob_4 : decode cX1_hasJob 4 = .ok (.iload_n 1, 1) := by decide +kernel
theorem dX1_hasJob_5 : decode cX1_hasJob 5 = .ok (.aload_n 0, 1) := by decide +kernel
theorem dX1_hasJob_6 : decode cX1_hasJob 6 = .ok (.getfield 19, 3) := by decide +kernel
theorem dX1_hasJob_9 : decode cX1_hasJob 9 = .ok (.if_icmp .ge 7, 3) := by decide +kernel
theorem dX1_hasJob_12 : decode cX1_hasJob 12 = .ok (.iconst 1, 1) := by decide +kernel
theorem dX1_hasJob_13 : decode cX1_hasJob 13 = .ok (.goto 4, 3) := by decide +kernel
theorem dX1_hasJob_16 : decode cX1_hasJob 16 = .ok (.iconst 0, 1) := by decide +kernel
theorem dX1_hasJob_17 : decode cX1_hasJob 17 = .ok (.ireturn, 1) := by decide +kernel
theorem dX1_has_0 : decode cX1_has 0 = .ok (.iload_n 1, 1) := by decide +kernel
theorem dX1_has_1 : decode cX1_has 1 = .ok (.ifCond .lt 27, 3) := by decide +kernel
theorem dX1_has_4 : decode cX1_has 4 = .ok (.iload_n 1, 1) := by decide +kernel
theorem dX1_has_5 : decode cX1_has 5 = .ok (.aload_n 0, 1) := by decide +kernel
theorem dX1_has_6 : decode cX1_has 6 = .ok (.getfield 15, 3) := by decide +kernel
theorem dX1_has_9 : decode cX1_has 9 = .ok (.if_icmp .ge 19, 3) := by decide +kernel
theorem dX1_has_12 : decode cX1_has 12 = .ok (.iload_n 2, 1) := by decide +kernel
theorem dX1_has_13 : decode cX1_has 13 = .ok (.ifCond .lt 15, 3) := by decide +kernel
theorem dX1_has_16 : decode cX1_has 16 = .ok (.iload_n 2, 1) := by decide +kernel
theorem dX1_has_17 : decode cX1_has 17 = .ok (.aload_n 0, 1) := by decide +kernel
theorem dX1_has_18 : decode cX1_has 18 = .ok (.getfield 19, 3) := by decide +kernel
theorem dX1_has_21 : decode cX1_has 21 = .ok (.if_icmp .ge 7, 3) := by decide +kernel
theorem dX1_has_24 : decode cX1_has 24 = .ok (.iconst 1, 1) := by decide +kernel
theorem dX1_has_25 : decode cX1_has 25 = .ok (.goto 4, 3) := by decide +kernel
theorem dX1_has_28 : decode cX1_has 28 = .ok (.iconst 0, 1) := by decide +kernel
theorem dX1_has_29 : decode cX1_has 29 = .ok (.ireturn, 1) := by decide +kernel
theorem dX1_howMany_0 : decode cX1_howMany 0 = .ok (.iload_n 1, 1) := by decide +kernel
theorem dX1_howMany_1 : decode cX1_howMany 1 = .ok (.ifCond .ne 10, 3) := by decide +kernel
theorem dX1_howMany_4 : decode cX1_howMany 4 = .ok (.aload_n 0, 1) := by decide +kernel
theorem dX1_howMany_5 : decode cX1_howMany 5 = .ok (.getfield 15, 3) := by decide +kernel
theorem dX1_howMany_8 : decode cX1_howMany 8 = .ok (.goto 7, 3) := by decide +kernel
theorem dX1_howMany_11 : decode cX1_howMany 11 = .ok (.aload_n 0, 1) := by decide +kernel
theorem dX1_howMany_12 : decode cX1_howMany 12 = .ok (.getfield 19, 3) := by decide +kernel
theorem dX1_howMany_15 : decode cX1_howMany 15 = .ok (.ireturn, 1) := by decide +kernel
theorem dX1_hasLine_0 : decode cX1_hasLine 0 = .ok (.iload_n 2, 1) := by decide +kernel
theorem dX1_hasLine_1 : decode cX1_hasLine 1 = .ok (.invokestatic 22, 3) := by decide +kernel
theorem dX1_hasLine_4 : decode cX1_hasLine 4 = .ok (.ifCond .eq 20, 3) := by decide +kernel
theorem dX1_hasLine_7 : decode cX1_hasLine 7 = .ok (.iload_n 1, 1) := by decide +kernel
theorem dX1_hasLine_8 : decode cX1_hasLine 8 = .ok (.ifCond .lt 16, 3) := by decide +kernel
theorem dX1_hasLine_11 : decode cX1_hasLine 11 = .ok (.iload_n 1, 1) := by decide +kernel
theorem dX1_hasLine_12 : decode cX1_hasLine 12 = .ok (.aload_n 0, 1) := by decide +kernel
theorem dX1_hasLine_13 : decode cX1_hasLine 13 = .ok (.iload_n 2, 1) := by decide +kernel
theorem dX1_hasLine_14 : decode cX1_hasLine 14 = .ok (.invokevirtual 26, 3) := by decide +kernel
theorem dX1_hasLine_17 : decode cX1_hasLine 17 = .ok (.if_icmp .ge 7, 3) := by decide +kernel
theorem dX1_hasLine_20 : decode cX1_hasLine 20 = .ok (.iconst 1, 1) := by decide +kernel
theorem dX1_hasLine_21 : decode cX1_hasLine 21 = .ok (.goto 4, 3) := by decide +kernel
theorem dX1_hasLine_24 : decode cX1_hasLine 24 = .ok (.iconst 0, 1) := by decide +kernel
theorem dX1_hasLine_25 : decode cX1_hasLine 25 = .ok (.ireturn, 1) := by decide +kernel
theorem dX1_at_0 : decode cX1_at 0 = .ok (.iload_n 1, 1) := by decide +kernel
theorem dX1_at_1 : decode cX1_at 1 = .ok (.ifCond .lt 27, 3) := by decide +kernel
theorem dX1_at_4 : decode cX1_at 4 = .ok (.iload_n 1, 1) := by decide +kernel
theorem dX1_at_5 : decode cX1_at 5 = .ok (.aload_n 0, 1) := by decide +kernel
theorem dX1_at_6 : decode cX1_at 6 = .ok (.getfield 15, 3) := by decide +kernel
theorem dX1_at_9 : decode cX1_at 9 = .ok (.if_icmp .ge 19, 3) := by decide +kernel
theorem dX1_at_12 : decode cX1_at 12 = .ok (.iload_n 2, 1) := by decide +kernel
theorem dX1_at_13 : decode cX1_at 13 = .ok (.ifCond .lt 15, 3) := by decide +kernel
theorem dX1_at_16 : decode cX1_at 16 = .ok (.iload_n 2, 1) := by decide +kernel
theorem dX1_at_17 : decode cX1_at 17 = .ok (.aload_n 0, 1) := by decide +kernel
theorem dX1_at_18 : decode cX1_at 18 = .ok (.getfield 19, 3) := by decide +kernel
theorem dX1_at_21 : decode cX1_at 21 = .ok (.if_icmp .ge 7, 3) := by decide +kernel
theorem dX1_at_24 : decode cX1_at 24 = .ok (.iconst 1, 1) := by decide +kernel
theorem dX1_at_25 : decode cX1_at 25 = .ok (.goto 4, 3) := by decide +kernel
theorem dX1_at_28 : decode cX1_at 28 = .ok (.iconst 0, 1) := by decide +kernel
theorem dX1_at_29 : decode cX1_at 29 = .ok (.istore_n 3, 1) := by decide +kernel
theorem dX1_at_30 : decode cX1_at 30 = .ok (.iload_n 3, 1) := by decide +kernel
theorem dX1_at_31 : decode cX1_at 31 = .ok (.ifCond .eq 17, 3) := by decide +kernel
theorem dX1_at_34 : decode cX1_at 34 = .ok (.aload_n 0, 1) := by decide +kernel
theorem dX1_at_35 : decode cX1_at 35 = .ok (.getfield 9, 3) := by decide +kernel
theorem dX1_at_38 : decode cX1_at 38 = .ok (.iload_n 1, 1) := by decide +kernel
theorem dX1_at_39 : decode cX1_at 39 = .ok (.bipush 8, 2) := by decide +kernel
theorem dX1_at_41 : decode cX1_at 41 = .ok (.imul, 1) := by decide +kernel
theorem dX1_at_42 : decode cX1_at 42 = .ok (.iload_n 2, 1) := by decide +kernel
theorem dX1_at_43 : decode cX1_at 43 = .ok (.iadd, 1) := by decide +kernel
theorem dX1_at_44 : decode cX1_at 44 = .ok (.laload, 1) := by decide +kernel
theorem dX1_at_45 : decode cX1_at 45 = .ok (.goto 6, 3) := by decide +kernel
theorem dX1_at_48 : decode cX1_at 48 = .ok (.ldc2_w 30, 3) := by decide +kernel
theorem dX1_at_51 : decode cX1_at 51 = .ok (.lreturn, 1) := by decide +kernel
theorem dX1_put_0 : decode cX1_put 0 = .ok (.aload_n 0, 1) := by decide +kernel
theorem dX1_put_1 : decode cX1_put 1 = .ok (.iload_n 1, 1) := by decide +kernel
theorem dX1_put_2 : decode cX1_put 2 = .ok (.iload_n 2, 1) := by decide +kernel
theorem dX1_put_3 : decode cX1_put 3 = .ok (.invokevirtual 32, 3) := by decide +kernel
theorem dX1_put_6 : decode cX1_put 6 = .ok (.ifCond .eq 15, 3) := by decide +kernel
theorem dX1_put_9 : decode cX1_put 9 = .ok (.aload_n 0, 1) := by decide +kernel
theorem dX1_put_10 : decode cX1_put 10 = .ok (.getfield 9, 3) := by decide +kernel
theorem dX1_put_13 : decode cX1_put 13 = .ok (.iload_n 1, 1) := by decide +kernel
theorem dX1_put_14 : decode cX1_put 14 = .ok (.bipush 8, 2) := by decide +kernel
theorem dX1_put_16 : decode cX1_put 16 = .ok (.imul, 1) := by decide +kernel
theorem dX1_put_17 : decode cX1_put 17 = .ok (.iload_n 2, 1) := by decide +kernel
theorem dX1_put_18 : decode cX1_put 18 = .ok (.iadd, 1) := by decide +kernel
theorem dX1_put_19 : decode cX1_put 19 = .ok (.lload_n 3, 1) := by decide +kernel
theorem dX1_put_20 : decode cX1_put 20 = .ok (.lastore, 1) := by decide +kernel
theorem dX1_put_21 : decode cX1_put 21 = .ok (.return_, 1) := by decide +kernel
theorem dX1_across_0 : decode cX1_across 0 = .ok (.iload_n 1, 1) := by decide +kernel
theorem dX1_across_1 : decode cX1_across 1 = .ok (.ifCond .ne 10, 3) := by decide +kernel
theorem dX1_across_4 : decode cX1_across 4 = .ok (.aload_n 0, 1) := by decide +kernel
theorem dX1_across_5 : decode cX1_across 5 = .ok (.getfield 19, 3) := by decide +kernel
theorem dX1_across_8 : decode cX1_across 8 = .ok (.goto 7, 3) := by decide +kernel
theorem dX1_across_11 : decode cX1_across 11 = .ok (.aload_n 0, 1) := by decide +kernel
theorem dX1_across_12 : decode cX1_across 12 = .ok (.getfield 15, 3) := by decide +kernel
theorem dX1_across_15 : decode cX1_across 15 = .ok (.ireturn, 1) := by decide +kernel
theorem dX1_inLine_0 : decode cX1_inLine 0 = .ok (.iload_n 2, 1) := by decide +kernel
theorem dX1_inLine_1 : decode cX1_inLine 1 = .ok (.ifCond .ne 12, 3) := by decide +kernel
theorem dX1_inLine_4 : decode cX1_inLine 4 = .ok (.aload_n 0, 1) := by decide +kernel
theorem dX1_inLine_5 : decode cX1_inLine 5 = .ok (.iload_n 1, 1) := by decide +kernel
theorem dX1_inLine_6 : decode cX1_inLine 6 = .ok (.iload_n 3, 1) := by decide +kernel
theorem dX1_inLine_7 : decode cX1_inLine 7 = .ok (.invokevirtual 36, 3) := by decide +kernel
theorem dX1_inLine_10 : decode cX1_inLine 10 = .ok (.goto 9, 3) := by decide +kernel
theorem dX1_inLine_13 : decode cX1_inLine 13 = .ok (.aload_n 0, 1) := by decide +kernel
theorem dX1_inLine_14 : decode cX1_inLine 14 = .ok (.iload_n 3, 1) := by decide +kernel
theorem dX1_inLine_15 : decode cX1_inLine 15 = .ok (.iload_n 1, 1) := by decide +kernel
theorem dX1_inLine_16 : decode cX1_inLine 16 = .ok (.invokevirtual 36, 3) := by decide +kernel
theorem dX1_inLine_19 : decode cX1_inLine 19 = .ok (.lreturn, 1) := by decide +kernel
theorem dX1_barred_0 : decode cX1_barred 0 = .ok (.iconst 0, 1) := by decide +kernel
theorem dX1_barred_1 : decode cX1_barred 1 = .ok (.istore_n 1, 1) := by decide +kernel
theorem dX1_barred_2 : decode cX1_barred 2 = .ok (.iconst 0, 1) := by decide +kernel
theorem dX1_barred_3 : decode cX1_barred 3 = .ok (.istore_n 2, 1) := by decide +kernel
theorem dX1_barred_4 : decode cX1_barred 4 = .ok (.iload_n 2, 1) := by decide +kernel
theorem dX1_barred_5 : decode cX1_barred 5 = .ok (.aload_n 0, 1) := by decide +kernel
theorem dX1_barred_6 : decode cX1_barred 6 = .ok (.getfield 15, 3) := by decide +kernel
theorem dX1_barred_9 : decode cX1_barred 9 = .ok (.if_icmp .ge 23, 3) := by decide +kernel
theorem dX1_barred_12 : decode cX1_barred 12 = .ok (.iload_n 1, 1) := by decide +kernel
theorem dX1_barred_13 : decode cX1_barred 13 = .ok (.aload_n 0, 1) := by decide +kernel
theorem dX1_barred_14 : decode cX1_barred 14 = .ok (.getfield 19, 3) := by decide +kernel
theorem dX1_barred_17 : decode cX1_barred 17 = .ok (.aload_n 0, 1) := by decide +kernel
theorem dX1_barred_18 : decode cX1_barred 18 = .ok (.iload_n 2, 1) := by decide +kernel
theorem dX1_barred_19 : decode cX1_barred 19 = .ok (.iconst 0, 1) := by decide +kernel
theorem dX1_barred_20 : decode cX1_barred 20 = .ok (.invokevirtual 40, 3) := by decide +kernel
theorem dX1_barred_23 : decode cX1_barred 23 = .ok (.isub, 1) := by decide +kernel
theorem dX1_barred_24 : decode cX1_barred 24 = .ok (.iadd, 1) := by decide +kernel
theorem dX1_barred_25 : decode cX1_barred 25 = .ok (.istore_n 1, 1) := by decide +kernel
theorem dX1_barred_26 : decode cX1_barred 26 = .ok (.iinc 2 1, 3) := by decide +kernel
theorem dX1_barred_29 : decode cX1_barred 29 = .ok (.goto (-25), 3) := by decide +kernel
theorem dX1_barred_32 : decode cX1_barred 32 = .ok (.iload_n 1, 1) := by decide +kernel
theorem dX1_barred_33 : decode cX1_barred 33 = .ok (.ireturn, 1) := by decide +kernel
theorem dX1_openIn_0 : decode cX1_openIn 0 = .ok (.iconst 0, 1) := by decide +kernel
theorem dX1_openIn_1 : decode cX1_openIn 1 = .ok (.istore_n 3, 1) := by decide +kernel
theorem dX1_openIn_2 : decode cX1_openIn 2 = .ok (.iconst 0, 1) := by decide +kernel
theorem dX1_openIn_3 : decode cX1_openIn 3 = .ok (.istore 4, 2) := by decide +kernel
theorem dX1_openIn_5 : decode cX1_openIn 5 = .ok (.iload 4, 2) := by decide +kernel
theorem dX1_openIn_7 : decode cX1_openIn 7 = .ok (.aload_n 0, 1) := by decide +kernel
theorem dX1_openIn_8 : decode cX1_openIn 8 = .ok (.iload_n 2, 1) := by decide +kernel
theorem dX1_openIn_9 : decode cX1_openIn 9 = .ok (.invokevirtual 44, 3) := by decide +kernel
theorem dX1_openIn_12 : decode cX1_openIn 12 = .ok (.if_icmp .ge 27, 3) := by decide +kernel
theorem dX1_openIn_15 : decode cX1_openIn 15 = .ok (.aload_n 0, 1) := by decide +kernel
theorem dX1_openIn_16 : decode cX1_openIn 16 = .ok (.iload_n 1, 1) := by decide +kernel
theorem dX1_openIn_17 : decode cX1_openIn 17 = .ok (.iload_n 2, 1) := by decide +kernel
theorem dX1_openIn_18 : decode cX1_openIn 18 = .ok (.iload 4, 2) := by decide +kernel
theorem dX1_openIn_20 : decode cX1_openIn 20 = .ok (.invokevirtual 47, 3) := by decide +kernel
theorem dX1_openIn_23 : decode cX1_openIn 23 = .ok (.ldc2_w 30, 3) := by decide +kernel
theorem dX1_openIn_26 : decode cX1_openIn 26 = .ok (.lcmp, 1) := by decide +kernel
theorem dX1_openIn_27 : decode cX1_openIn 27 = .ok (.ifCond .eq 6, 3) := by decide +kernel
theorem dX1_openIn_30 : decode cX1_openIn 30 = .ok (.iinc 3 1, 3) := by decide +kernel
theorem dX1_openIn_33 : decode cX1_openIn 33 = .ok (.iinc 4 1, 3) := by decide +kernel
theorem dX1_openIn_36 : decode cX1_openIn 36 = .ok (.goto (-31), 3) := by decide +kernel
theorem dX1_openIn_39 : decode cX1_openIn 39 = .ok (.iload_n 3, 1) := by decide +kernel
theorem dX1_openIn_40 : decode cX1_openIn 40 = .ok (.ireturn, 1) := by decide +kernel
theorem dX1_leastOf_0 : decode cX1_leastOf 0 = .ok (.ldc2_w 30, 3) := by decide +kernel
theorem dX1_leastOf_3 : decode cX1_leastOf 3 = .ok (.lstore_n 3, 1) := by decide +kernel
theorem dX1_leastOf_4 : decode cX1_leastOf 4 = .ok (.iconst 0, 1) := by decide +kernel
theorem dX1_leastOf_5 : decode cX1_leastOf 5 = .ok (.istore 5, 2) := by decide +kernel
theorem dX1_leastOf_7 : decode cX1_leastOf 7 = .ok (.iload 5, 2) := by decide +kernel
theorem dX1_leastOf_9 : decode cX1_leastOf 9 = .ok (.aload_n 0, 1) := by decide +kernel
theorem dX1_leastOf_10 : decode cX1_leastOf 10 = .ok (.iload_n 2, 1) := by decide +kernel
theorem dX1_leastOf_11 : decode cX1_leastOf 11 = .ok (.invokevirtual 44, 3) := by decide +kernel
theorem dX1_leastOf_14 : decode cX1_leastOf 14 = .ok (.if_icmp .ge 22, 3) := by decide +kernel
theorem dX1_leastOf_17 : decode cX1_leastOf 17 = .ok (.lload_n 3, 1) := by decide +kernel
theorem dX1_leastOf_18 : decode cX1_leastOf 18 = .ok (.aload_n 0, 1) := by decide +kernel
theorem dX1_leastOf_19 : decode cX1_leastOf 19 = .ok (.iload_n 1, 1) := by decide +kernel
theorem dX1_leastOf_20 : decode cX1_leastOf 20 = .ok (.iload_n 2, 1) := by decide +kernel
theorem dX1_leastOf_21 : decode cX1_leastOf 21 = .ok (.iload 5, 2) := by decide +kernel
theorem dX1_leastOf_23 : decode cX1_leastOf 23 = .ok (.invokevirtual 47, 3) := by decide +kernel
theorem dX1_leastOf_26 : decode cX1_leastOf 26 = .ok (.invokestatic 51, 3) := by decide +kernel
theorem dX1_leastOf_29 : decode cX1_leastOf 29 = .ok (.lstore_n 3, 1) := by decide +kernel
theorem dX1_leastOf_30 : decode cX1_leastOf 30 = .ok (.iinc 5 1, 3) := by decide +kernel
theorem dX1_leastOf_33 : decode cX1_leastOf 33 = .ok (.goto (-26), 3) := by decide +kernel
theorem dX1_leastOf_36 : decode cX1_leastOf 36 = .ok (.lload_n 3, 1) := by decide +kernel
theorem dX1_leastOf_37 : decode cX1_leastOf 37 = .ok (.lreturn, 1) := by decide +kernel
theorem dX1_bearsTilt_0 : decode cX1_bearsTilt 0 = .ok (.iconst 0, 1) := by decide +kernel
theorem dX1_bearsTilt_1 : decode cX1_bearsTilt 1 = .ok (.istore 5, 2) := by decide +kernel
theorem dX1_bearsTilt_3 : decode cX1_bearsTilt 3 = .ok (.iload 5, 2) := by decide +kernel
theorem dX1_bearsTilt_5 : decode cX1_bearsTilt 5 = .ok (.aload_n 0, 1) := by decide +kernel
theorem dX1_bearsTilt_6 : decode cX1_bearsTilt 6 = .ok (.iload 4, 2) := by decide +kernel
theorem dX1_bearsTilt_8 : decode cX1_bearsTilt 8 = .ok (.invokevirtual 44, 3) := by decide +kernel
theorem dX1_bearsTilt_11 : decode cX1_bearsTilt 11 = .ok (.if_icmp .ge 41, 3) := by decide +kernel
theorem dX1_bearsTilt_14 : decode cX1_bearsTilt 14 = .ok (.aload_n 0, 1) := by decide +kernel
theorem dX1_bearsTilt_15 : decode cX1_bearsTilt 15 = .ok (.iload_n 1, 1) := by decide +kernel
theorem dX1_bearsTilt_16 : decode cX1_bearsTilt 16 = .ok (.iload 4, 2) := by decide +kernel
theorem dX1_bearsTilt_18 : decode cX1_bearsTilt 18 = .ok (.iload 5, 2) := by decide +kernel
theorem dX1_bearsTilt_20 : decode cX1_bearsTilt 20 = .ok (.invokevirtual 47, 3) := by decide +kernel
theorem dX1_bearsTilt_23 : decode cX1_bearsTilt 23 = .ok (.lstore 6, 2) := by decide +kernel
theorem dX1_bearsTilt_25 : decode cX1_bearsTilt 25 = .ok (.lload 6, 2) := by decide +kernel
theorem dX1_bearsTilt_27 : decode cX1_bearsTilt 27 = .ok (.ldc2_w 30, 3) := by decide +kernel
theorem dX1_bearsTilt_30 : decode cX1_bearsTilt 30 = .ok (.lcmp, 1) := by decide +kernel
theorem dX1_bearsTilt_31 : decode cX1_bearsTilt 31 = .ok (.ifCond .eq 15, 3) := by decide +kernel
theorem dX1_bearsTilt_34 : decode cX1_bearsTilt 34 = .ok (.lload 6, 2) := by decide +kernel
theorem dX1_bearsTilt_36 : decode cX1_bearsTilt 36 = .ok (.lload_n 2, 1) := by decide +kernel
theorem dX1_bearsTilt_37 : decode cX1_bearsTilt 37 = .ok (.ladd, 1) := by decide +kernel
theorem dX1_bearsTilt_38 : decode cX1_bearsTilt 38 = .ok (.invokestatic 57, 3) := by decide +kernel
theorem dX1_bearsTilt_41 : decode cX1_bearsTilt 41 = .ok (.ifCond .ne 5, 3) := by decide +kernel
theorem dX1_bearsTilt_44 : decode cX1_bearsTilt 44 = .ok (.iconst 0, 1) := by decide +kernel
theorem dX1_bearsTilt_45 : decode cX1_bearsTilt 45 = .ok (.ireturn, 1) := by decide +kernel
theorem dX1_bearsTilt_46 : decode cX1_bearsTilt 46 = .ok (.iinc 5 1, 3) := by decide +kernel
theorem dX1_bearsTilt_49 : decode cX1_bearsTilt 49 = .ok (.goto (-46), 3) := by decide +kernel
theorem dX1_bearsTilt_52 : decode cX1_bearsTilt 52 = .ok (.iconst 1, 1) := by decide +kernel
theorem dX1_bearsTilt_53 : decode cX1_bearsTilt 53 = .ok (.ireturn, 1) := by decide +kernel
theorem dX1_tilt_0 : decode cX1_tilt 0 = .ok (.iconst 0, 1) := by decide +kernel
theorem dX1_tilt_1 : decode cX1_tilt 1 = .ok (.istore 5, 2) := by decide +kernel
theorem dX1_tilt_3 : decode cX1_tilt 3 = .ok (.iload 5, 2) := by decide +kernel
theorem dX1_tilt_5 : decode cX1_tilt 5 = .ok (.aload_n 0, 1) := by decide +kernel
theorem dX1_tilt_6 : decode cX1_tilt 6 = .ok (.iload 4, 2) := by decide +kernel
theorem dX1_tilt_8 : decode cX1_tilt 8 = .ok (.invokevirtual 44, 3) := by decide +kernel
theorem dX1_tilt_11 : decode cX1_tilt 11 = .ok (.if_icmp .ge 59, 3) := by decide +kernel
theorem dX1_tilt_14 : decode cX1_tilt 14 = .ok (.aload_n 0, 1) := by decide +kernel
theorem dX1_tilt_15 : decode cX1_tilt 15 = .ok (.iload_n 1, 1) := by decide +kernel
theorem dX1_tilt_16 : decode cX1_tilt 16 = .ok (.iload 4, 2) := by decide +kernel
theorem dX1_tilt_18 : decode cX1_tilt 18 = .ok (.iload 5, 2) := by decide +kernel
theorem dX1_tilt_20 : decode cX1_tilt 20 = .ok (.invokevirtual 47, 3) := by decide +kernel
theorem dX1_tilt_23 : decode cX1_tilt 23 = .ok (.lstore 6, 2) := by decide +kernel
theorem dX1_tilt_25 : decode cX1_tilt 25 = .ok (.lload 6, 2) := by decide +kernel
theorem dX1_tilt_27 : decode cX1_tilt 27 = .ok (.ldc2_w 30, 3) := by decide +kernel
theorem dX1_tilt_30 : decode cX1_tilt 30 = .ok (.lcmp, 1) := by decide +kernel
theorem dX1_tilt_31 : decode cX1_tilt 31 = .ok (.ifCond .eq 33, 3) := by decide +kernel
theorem dX1_tilt_34 : decode cX1_tilt 34 = .ok (.aload_n 0, 1) := by decide +kernel
theorem dX1_tilt_35 : decode cX1_tilt 35 = .ok (.iload 4, 2) := by decide +kernel
theorem dX1_tilt_37 : decode cX1_tilt 37 = .ok (.ifCond .ne 7, 3) := by decide +kernel
theorem dX1_tilt_40 : decode cX1_tilt 40 = .ok (.iload_n 1, 1) := by decide +kernel
theorem dX1_tilt_41 : decode cX1_tilt 41 = .ok (.goto 5, 3) := by decide +kernel
theorem dX1_tilt_44 : decode cX1_tilt 44 = .ok (.iload 5, 2) := by decide +kernel
theorem dX1_tilt_46 : decode cX1_tilt 46 = .ok (.iload 4, 2) := by decide +kernel
theorem dX1_tilt_48 : decode cX1_tilt 48 = .ok (.ifCond .ne 8, 3) := by decide +kernel
theorem dX1_tilt_51 : decode cX1_tilt 51 = .ok (.iload 5, 2) := by decide +kernel
theorem dX1_tilt_53 : decode cX1_tilt 53 = .ok (.goto 4, 3) := by decide +kernel
theorem dX1_tilt_56 : decode cX1_tilt 56 = .ok (.iload_n 1, 1) := by decide +kernel
theorem dX1_tilt_57 : decode cX1_tilt 57 = .ok (.lload 6, 2) := by decide +kernel
theorem dX1_tilt_59 : decode cX1_tilt 59 = .ok (.lload_n 2, 1) := by decide +kernel
theorem dX1_tilt_60 : decode cX1_tilt 60 = .ok (.ladd, 1) := by decide +kernel
theorem dX1_tilt_61 : decode cX1_tilt 61 = .ok (.invokevirtual 61, 3) := by decide +kernel
theorem dX1_tilt_64 : decode cX1_tilt 64 = .ok (.iinc 5 1, 3) := by decide +kernel
theorem dX1_tilt_67 : decode cX1_tilt 67 = .ok (.goto (-64), 3) := by decide +kernel
theorem dX1_tilt_70 : decode cX1_tilt 70 = .ok (.return_, 1) := by decide +kernel
theorem dX1_addWorker_0 : decode cX1_addWorker 0 = .ok (.aload_n 0, 1) := by decide +kernel
theorem dX1_addWorker_1 : decode cX1_addWorker 1 = .ok (.getfield 15, 3) := by decide +kernel
theorem dX1_addWorker_4 : decode cX1_addWorker 4 = .ok (.bipush 7, 2) := by decide +kernel
theorem dX1_addWorker_6 : decode cX1_addWorker 6 = .ok (.if_icmp .ge 41, 3) := by decide +kernel
theorem dX1_addWorker_9 : decode cX1_addWorker 9 = .ok (.aload_n 0, 1) := by decide +kernel
theorem dX1_addWorker_10 : decode cX1_addWorker 10 = .ok (.dup, 1) := by decide +kernel
theorem dX1_addWorker_11 : decode cX1_addWorker 11 = .ok (.getfield 15, 3) := by decide +kernel
theorem dX1_addWorker_14 : decode cX1_addWorker 14 = .ok (.iconst 1, 1) := by decide +kernel
theorem dX1_addWorker_15 : decode cX1_addWorker 15 = .ok (.iadd, 1) := by decide +kernel
theorem dX1_addWorker_16 : decode cX1_addWorker 16 = .ok (.putfield 15, 3) := by decide +kernel
theorem dX1_addWorker_19 : decode cX1_addWorker 19 = .ok (.iconst 0, 1) := by decide +kernel
theorem dX1_addWorker_20 : decode cX1_addWorker 20 = .ok (.istore_n 3, 1) := by decide +kernel
theorem dX1_addWorker_21 : decode cX1_addWorker 21 = .ok (.iload_n 3, 1) := by decide +kernel
theorem dX1_addWorker_22 : decode cX1_addWorker 22 = .ok (.aload_n 0, 1) := by decide +kernel
theorem dX1_addWorker_23 : decode cX1_addWorker 23 = .ok (.getfield 19, 3) := by decide +kernel
theorem dX1_addWorker_26 : decode cX1_addWorker 26 = .ok (.if_icmp .ge 21, 3) := by decide +kernel
theorem dX1_addWorker_29 : decode cX1_addWorker 29 = .ok (.aload_n 0, 1) := by decide +kernel
theorem dX1_addWorker_30 : decode cX1_addWorker 30 = .ok (.aload_n 0, 1) := by decide +kernel
theorem dX1_addWorker_31 : decode cX1_addWorker 31 = .ok (.getfield 15, 3) := by decide +kernel
theorem dX1_addWorker_34 : decode cX1_addWorker 34 = .ok (.iconst 1, 1) := by decide +kernel
theorem dX1_addWorker_35 : decode cX1_addWorker 35 = .ok (.isub, 1) := by decide +kernel
theorem dX1_addWorker_36 : decode cX1_addWorker 36 = .ok (.iload_n 3, 1) := by decide +kernel
theorem dX1_addWorker_37 : decode cX1_addWorker 37 = .ok (.lload_n 1, 1) := by decide +kernel
theorem dX1_addWorker_38 : decode cX1_addWorker 38 = .ok (.invokevirtual 61, 3) := by decide +kernel
theorem dX1_addWorker_41 : decode cX1_addWorker 41 = .ok (.iinc 3 1, 3) := by decide +kernel
theorem dX1_addWorker_44 : decode cX1_addWorker 44 = .ok (.goto (-23), 3) := by decide +kernel
theorem dX1_addWorker_47 : decode cX1_addWorker 47 = .ok (.return_, 1) := by decide +kernel
theorem dX1_addJob_0 : decode cX1_addJob 0 = .ok (.aload_n 0, 1) := by decide +kernel
theorem dX1_addJob_1 : decode cX1_addJob 1 = .ok (.getfield 19, 3) := by decide +kernel
theorem dX1_addJob_4 : decode cX1_addJob 4 = .ok (.bipush 8, 2) := by decide +kernel
theorem dX1_addJob_6 : decode cX1_addJob 6 = .ok (.if_icmp .ge 41, 3) := by decide +kernel
theorem dX1_addJob_9 : decode cX1_addJob 9 = .ok (.aload_n 0, 1) := by decide +kernel
theorem dX1_addJob_10 : decode cX1_addJob 10 = .ok (.dup, 1) := by decide +kernel
theorem dX1_addJob_11 : decode cX1_addJob 11 = .ok (.getfield 19, 3) := by decide +kernel
theorem dX1_addJob_14 : decode cX1_addJob 14 = .ok (.iconst 1, 1) := by decide +kernel
theorem dX1_addJob_15 : decode cX1_addJob 15 = .ok (.iadd, 1) := by decide +kernel
theorem dX1_addJob_16 : decode cX1_addJob 16 = .ok (.putfield 19, 3) := by decide +kernel
theorem dX1_addJob_19 : decode cX1_addJob 19 = .ok (.iconst 0, 1) := by decide +kernel
theorem dX1_addJob_20 : decode cX1_addJob 20 = .ok (.istore_n 3, 1) := by decide +kernel
theorem dX1_addJob_21 : decode cX1_addJob 21 = .ok (.iload_n 3, 1) := by decide +kernel
theorem dX1_addJob_22 : decode cX1_addJob 22 = .ok (.aload_n 0, 1) := by decide +kernel
theorem dX1_addJob_23 : decode cX1_addJob 23 = .ok (.getfield 15, 3) := by decide +kernel
theorem dX1_addJob_26 : decode cX1_addJob 26 = .ok (.if_icmp .ge 21, 3) := by decide +kernel
theorem dX1_addJob_29 : decode cX1_addJob 29 = .ok (.aload_n 0, 1) := by decide +kernel
theorem dX1_addJob_30 : decode cX1_addJob 30 = .ok (.iload_n 3, 1) := by decide +kernel
theorem dX1_addJob_31 : decode cX1_addJob 31 = .ok (.aload_n 0, 1) := by decide +kernel
theorem dX1_addJob_32 : decode cX1_addJob 32 = .ok (.getfield 19, 3) := by decide +kernel
theorem dX1_addJob_35 : decode cX1_addJob 35 = .ok (.iconst 1, 1) := by decide +kernel
theorem dX1_addJob_36 : decode cX1_addJob 36 = .ok (.isub, 1) := by decide +kernel
theorem dX1_addJob_37 : decode cX1_addJob 37 = .ok (.lload_n 1, 1) := by decide +kernel
theorem dX1_addJob_38 : decode cX1_addJob 38 = .ok (.invokevirtual 61, 3) := by decide +kernel
theorem dX1_addJob_41 : decode cX1_addJob 41 = .ok (.iinc 3 1, 3) := by decide +kernel
theorem dX1_addJob_44 : decode cX1_addJob 44 = .ok (.goto (-23), 3) := by decide +kernel
theorem dX1_addJob_47 : decode cX1_addJob 47 = .ok (.return_, 1) := by decide +kernel
theorem dX1_dropWorker_0 : decode cX1_dropWorker 0 = .ok (.aload_n 0, 1) := by decide +kernel
theorem dX1_dropWorker_1 : decode cX1_dropWorker 1 = .ok (.iload_n 1, 1) := by decide +kernel
theorem dX1_dropWorker_2 : decode cX1_dropWorker 2 = .ok (.invokevirtual 65, 3) := by decide +kernel
theorem dX1_dropWorker_5 : decode cX1_dropWorker 5 = .ok (.ifCond .ne 4, 3) := by decide +kernel
theorem dX1_dropWorker_8 : decode cX1_dropWorker 8 = .ok (.return_, 1) := by decide +kernel
theorem dX1_dropWorker_9 : decode cX1_dropWorker 9 = .ok (.iload_n 1, 1) := by decide +kernel
theorem dX1_dropWorker_10 : decode cX1_dropWorker 10 = .ok (.istore_n 2, 1) := by decide +kernel
theorem dX1_dropWorker_11 : decode cX1_dropWorker 11 = .ok (.iload_n 2, 1) := by decide +kernel
theorem dX1_dropWorker_12 : decode cX1_dropWorker 12 = .ok (.aload_n 0, 1) := by decide +kernel
theorem dX1_dropWorker_13 : decode cX1_dropWorker 13 = .ok (.getfield 15, 3) := by decide +kernel
theorem dX1_dropWorker_16 : decode cX1_dropWorker 16 = .ok (.iconst 1, 1) := by decide +kernel
theorem dX1_dropWorker_17 : decode cX1_dropWorker 17 = .ok (.isub, 1) := by decide +kernel
theorem dX1_dropWorker_18 : decode cX1_dropWorker 18 = .ok (.if_icmp .ge 39, 3) := by decide +kernel
theorem dX1_dropWorker_21 : decode cX1_dropWorker 21 = .ok (.iconst 0, 1) := by decide +kernel
theorem dX1_dropWorker_22 : decode cX1_dropWorker 22 = .ok (.istore_n 3, 1) := by decide +kernel
theorem dX1_dropWorker_23 : decode cX1_dropWorker 23 = .ok (.iload_n 3, 1) := by decide +kernel
theorem dX1_dropWorker_24 : decode cX1_dropWorker 24 = .ok (.aload_n 0, 1) := by decide +kernel
theorem dX1_dropWorker_25 : decode cX1_dropWorker 25 = .ok (.getfield 19, 3) := by decide +kernel
theorem dX1_dropWorker_28 : decode cX1_dropWorker 28 = .ok (.if_icmp .ge 23, 3) := by decide +kernel
theorem dX1_dropWorker_31 : decode cX1_dropWorker 31 = .ok (.aload_n 0, 1) := by decide +kernel
theorem dX1_dropWorker_32 : decode cX1_dropWorker 32 = .ok (.iload_n 2, 1) := by decide +kernel
theorem dX1_dropWorker_33 : decode cX1_dropWorker 33 = .ok (.iload_n 3, 1) := by decide +kernel
theorem dX1_dropWorker_34 : decode cX1_dropWorker 34 = .ok (.aload_n 0, 1) := by decide +kernel
theorem dX1_dropWorker_35 : decode cX1_dropWorker 35 = .ok (.iload_n 2, 1) := by decide +kernel
theorem dX1_dropWorker_36 : decode cX1_dropWorker 36 = .ok (.iconst 1, 1) := by decide +kernel
theorem dX1_dropWorker_37 : decode cX1_dropWorker 37 = .ok (.iadd, 1) := by decide +kernel
theorem dX1_dropWorker_38 : decode cX1_dropWorker 38 = .ok (.iload_n 3, 1) := by decide +kernel
theorem dX1_dropWorker_39 : decode cX1_dropWorker 39 = .ok (.invokevirtual 36, 3) := by decide +kernel
theorem dX1_dropWorker_42 : decode cX1_dropWorker 42 = .ok (.invokevirtual 61, 3) := by decide +kernel
theorem dX1_dropWorker_45 : decode cX1_dropWorker 45 = .ok (.iinc 3 1, 3) := by decide +kernel
theorem dX1_dropWorker_48 : decode cX1_dropWorker 48 = .ok (.goto (-25), 3) := by decide +kernel
theorem dX1_dropWorker_51 : decode cX1_dropWorker 51 = .ok (.iinc 2 1, 3) := by decide +kernel
theorem dX1_dropWorker_54 : decode cX1_dropWorker 54 = .ok (.goto (-43), 3) := by decide +kernel
theorem dX1_dropWorker_57 : decode cX1_dropWorker 57 = .ok (.aload_n 0, 1) := by decide +kernel
theorem dX1_dropWorker_58 : decode cX1_dropWorker 58 = .ok (.dup, 1) := by decide +kernel
theorem dX1_dropWorker_59 : decode cX1_dropWorker 59 = .ok (.getfield 15, 3) := by decide +kernel
theorem dX1_dropWorker_62 : decode cX1_dropWorker 62 = .ok (.iconst 1, 1) := by decide +kernel
theorem dX1_dropWorker_63 : decode cX1_dropWorker 63 = .ok (.isub, 1) := by decide +kernel
theorem dX1_dropWorker_64 : decode cX1_dropWorker 64 = .ok (.putfield 15, 3) := by decide +kernel
theorem dX1_dropWorker_67 : decode cX1_dropWorker 67 = .ok (.return_, 1) := by decide +kernel
theorem dX1_dropJob_0 : decode cX1_dropJob 0 = .ok (.aload_n 0, 1) := by decide +kernel
theorem dX1_dropJob_1 : decode cX1_dropJob 1 = .ok (.iload_n 1, 1) := by decide +kernel
theorem dX1_dropJob_2 : decode cX1_dropJob 2 = .ok (.invokevirtual 68, 3) := by decide +kernel
theorem dX1_dropJob_5 : decode cX1_dropJob 5 = .ok (.ifCond .ne 4, 3) := by decide +kernel
theorem dX1_dropJob_8 : decode cX1_dropJob 8 = .ok (.return_, 1) := by decide +kernel
theorem dX1_dropJob_9 : decode cX1_dropJob 9 = .ok (.iconst 0, 1) := by decide +kernel
theorem dX1_dropJob_10 : decode cX1_dropJob 10 = .ok (.istore_n 2, 1) := by decide +kernel
theorem dX1_dropJob_11 : decode cX1_dropJob 11 = .ok (.iload_n 2, 1) := by decide +kernel
theorem dX1_dropJob_12 : decode cX1_dropJob 12 = .ok (.aload_n 0, 1) := by decide +kernel
theorem dX1_dropJob_13 : decode cX1_dropJob 13 = .ok (.getfield 15, 3) := by decide +kernel
theorem dX1_dropJob_16 : decode cX1_dropJob 16 = .ok (.if_icmp .ge 41, 3) := by decide +kernel
theorem dX1_dropJob_19 : decode cX1_dropJob 19 = .ok (.iload_n 1, 1) := by decide +kernel
theorem dX1_dropJob_20 : decode cX1_dropJob 20 = .ok (.istore_n 3, 1) := by decide +kernel
theorem dX1_dropJob_21 : decode cX1_dropJob 21 = .ok (.iload_n 3, 1) := by decide +kernel
theorem dX1_dropJob_22 : decode cX1_dropJob 22 = .ok (.aload_n 0, 1) := by decide +kernel
theorem dX1_dropJob_23 : decode cX1_dropJob 23 = .ok (.getfield 19, 3) := by decide +kernel
theorem dX1_dropJob_26 : decode cX1_dropJob 26 = .ok (.iconst 1, 1) := by decide +kernel
theorem dX1_dropJob_27 : decode cX1_dropJob 27 = .ok (.isub, 1) := by decide +kernel
theorem dX1_dropJob_28 : decode cX1_dropJob 28 = .ok (.if_icmp .ge 23, 3) := by decide +kernel
theorem dX1_dropJob_31 : decode cX1_dropJob 31 = .ok (.aload_n 0, 1) := by decide +kernel
theorem dX1_dropJob_32 : decode cX1_dropJob 32 = .ok (.iload_n 2, 1) := by decide +kernel
theorem dX1_dropJob_33 : decode cX1_dropJob 33 = .ok (.iload_n 3, 1) := by decide +kernel
theorem dX1_dropJob_34 : decode cX1_dropJob 34 = .ok (.aload_n 0, 1) := by decide +kernel
theorem dX1_dropJob_35 : decode cX1_dropJob 35 = .ok (.iload_n 2, 1) := by decide +kernel
theorem dX1_dropJob_36 : decode cX1_dropJob 36 = .ok (.iload_n 3, 1) := by decide +kernel
theorem dX1_dropJob_37 : decode cX1_dropJob 37 = .ok (.iconst 1, 1) := by decide +kernel
theorem dX1_dropJob_38 : decode cX1_dropJob 38 = .ok (.iadd, 1) := by decide +kernel
theorem dX1_dropJob_39 : decode cX1_dropJob 39 = .ok (.invokevirtual 36, 3) := by decide +kernel
theorem dX1_dropJob_42 : decode cX1_dropJob 42 = .ok (.invokevirtual 61, 3) := by decide +kernel
theorem dX1_dropJob_45 : decode cX1_dropJob 45 = .ok (.iinc 3 1, 3) := by decide +kernel
theorem dX1_dropJob_48 : decode cX1_dropJob 48 = .ok (.goto (-27), 3) := by decide +kernel
theorem dX1_dropJob_51 : decode cX1_dropJob 51 = .ok (.iinc 2 1, 3) := by decide +kernel
theorem dX1_dropJob_54 : decode cX1_dropJob 54 = .ok (.goto (-43), 3) := by decide +kernel
theorem dX1_dropJob_57 : decode cX1_dropJob 57 = .ok (.aload_n 0, 1) := by decide +kernel
theorem dX1_dropJob_58 : decode cX1_dropJob 58 = .ok (.dup, 1) := by decide +kernel
theorem dX1_dropJob_59 : decode cX1_dropJob 59 = .ok (.getfield 19, 3) := by decide +kernel
theorem dX1_dropJob_62 : decode cX1_dropJob 62 = .ok (.iconst 1, 1) := by decide +kernel
theorem dX1_dropJob_63 : decode cX1_dropJob 63 = .ok (.isub, 1) := by decide +kernel
theorem dX1_dropJob_64 : decode cX1_dropJob 64 = .ok (.putfield 19, 3) := by decide +kernel
theorem dX1_dropJob_67 : decode cX1_dropJob 67 = .ok (.return_, 1) := by decide +kernel
theorem dX1_barJob_0 : decode cX1_barJob 0 = .ok (.iconst 0, 1) := by decide +kernel
theorem dX1_barJob_1 : decode cX1_barJob 1 = .ok (.istore_n 2, 1) := by decide +kernel
theorem dX1_barJob_2 : decode cX1_barJob 2 = .ok (.iload_n 2, 1) := by decide +kernel
theorem dX1_barJob_3 : decode cX1_barJob 3 = .ok (.aload_n 0, 1) := by decide +kernel
theorem dX1_barJob_4 : decode cX1_barJob 4 = .ok (.getfield 15, 3) := by decide +kernel
theorem dX1_barJob_7 : decode cX1_barJob 7 = .ok (.if_icmp .ge 18, 3) := by decide +kernel
theorem dX1_barJob_10 : decode cX1_barJob 10 = .ok (.aload_n 0, 1) := by decide +kernel
theorem dX1_barJob_11 : decode cX1_barJob 11 = .ok (.iload_n 2, 1) := by decide +kernel
theorem dX1_barJob_12 : decode cX1_barJob 12 = .ok (.iload_n 1, 1) := by decide +kernel
theorem dX1_barJob_13 : decode cX1_barJob 13 = .ok (.ldc2_w 30, 3) := by decide +kernel
theorem dX1_barJob_16 : decode cX1_barJob 16 = .ok (.invokevirtual 61, 3) := by decide +kernel
theorem dX1_barJob_19 : decode cX1_barJob 19 = .ok (.iinc 2 1, 3) := by decide +kernel
theorem dX1_barJob_22 : decode cX1_barJob 22 = .ok (.goto (-20), 3) := by decide +kernel
theorem dX1_barJob_25 : decode cX1_barJob 25 = .ok (.return_, 1) := by decide +kernel
theorem dX1_sameCosts_0 : decode cX1_sameCosts 0 = .ok (.iconst 0, 1) := by decide +kernel
theorem dX1_sameCosts_1 : decode cX1_sameCosts 1 = .ok (.istore_n 3, 1) := by decide +kernel
theorem dX1_sameCosts_2 : decode cX1_sameCosts 2 = .ok (.iload_n 3, 1) := by decide +kernel
theorem dX1_sameCosts_3 : decode cX1_sameCosts 3 = .ok (.aload_n 0, 1) := by decide +kernel
theorem dX1_sameCosts_4 : decode cX1_sameCosts 4 = .ok (.getfield 19, 3) := by decide +kernel
theorem dX1_sameCosts_7 : decode cX1_sameCosts 7 = .ok (.if_icmp .ge 27, 3) := by decide +kernel
theorem dX1_sameCosts_10 : decode cX1_sameCosts 10 = .ok (.aload_n 0, 1) := by decide +kernel
theorem dX1_sameCosts_11 : decode cX1_sameCosts 11 = .ok (.iload_n 1, 1) := by decide +kernel
theorem dX1_sameCosts_12 : decode cX1_sameCosts 12 = .ok (.iload_n 3, 1) := by decide +kernel
theorem dX1_sameCosts_13 : decode cX1_sameCosts 13 = .ok (.invokevirtual 36, 3) := by decide +kernel
theorem dX1_sameCosts_16 : decode cX1_sameCosts 16 = .ok (.aload_n 0, 1) := by decide +kernel
theorem dX1_sameCosts_17 : decode cX1_sameCosts 17 = .ok (.iload_n 2, 1) := by decide +kernel
theorem dX1_sameCosts_18 : decode cX1_sameCosts 18 = .ok (.iload_n 3, 1) := by decide +kernel
theorem dX1_sameCosts_19 : decode cX1_sameCosts 19 = .ok (.invokevirtual 36, 3) := by decide +kernel
theorem dX1_sameCosts_22 : decode cX1_sameCosts 22 = .ok (.lcmp, 1) := by decide +kernel
theorem dX1_sameCosts_23 : decode cX1_sameCosts 23 = .ok (.ifCond .eq 5, 3) := by decide +kernel
theorem dX1_sameCosts_26 : decode cX1_sameCosts 26 = .ok (.iconst 0, 1) := by decide +kernel
theorem dX1_sameCosts_27 : decode cX1_sameCosts 27 = .ok (.ireturn, 1) := by decide +kernel
theorem dX1_sameCosts_28 : decode cX1_sameCosts 28 = .ok (.iinc 3 1, 3) := by decide +kernel
theorem dX1_sameCosts_31 : decode cX1_sameCosts 31 = .ok (.goto (-29), 3) := by decide +kernel
theorem dX1_sameCosts_34 : decode cX1_sameCosts 34 = .ok (.iconst 1, 1) := by decide +kernel
theorem dX1_sameCosts_35 : decode cX1_sameCosts 35 = .ok (.ireturn, 1) := by decide +kernel
theorem dX1_swap_0 : decode cX1_swap 0 = .ok (.iconst 0, 1) := by decide +kernel
theorem dX1_swap_1 : decode cX1_swap 1 = .ok (.istore_n 3, 1) := by decide +kernel
theorem dX1_swap_2 : decode cX1_swap 2 = .ok (.iload_n 3, 1) := by decide +kernel
theorem dX1_swap_3 : decode cX1_swap 3 = .ok (.aload_n 0, 1) := by decide +kernel
theorem dX1_swap_4 : decode cX1_swap 4 = .ok (.getfield 19, 3) := by decide +kernel
theorem dX1_swap_7 : decode cX1_swap 7 = .ok (.if_icmp .ge 37, 3) := by decide +kernel
theorem dX1_swap_10 : decode cX1_swap 10 = .ok (.aload_n 0, 1) := by decide +kernel
theorem dX1_swap_11 : decode cX1_swap 11 = .ok (.iload_n 1, 1) := by decide +kernel
theorem dX1_swap_12 : decode cX1_swap 12 = .ok (.iload_n 3, 1) := by decide +kernel
theorem dX1_swap_13 : decode cX1_swap 13 = .ok (.invokevirtual 36, 3) := by decide +kernel
theorem dX1_swap_16 : decode cX1_swap 16 = .ok (.lstore 4, 2) := by decide +kernel
theorem dX1_swap_18 : decode cX1_swap 18 = .ok (.aload_n 0, 1) := by decide +kernel
theorem dX1_swap_19 : decode cX1_swap 19 = .ok (.iload_n 1, 1) := by decide +kernel
theorem dX1_swap_20 : decode cX1_swap 20 = .ok (.iload_n 3, 1) := by decide +kernel
theorem dX1_swap_21 : decode cX1_swap 21 = .ok (.aload_n 0, 1) := by decide +kernel
theorem dX1_swap_22 : decode cX1_swap 22 = .ok (.iload_n 2, 1) := by decide +kernel
theorem dX1_swap_23 : decode cX1_swap 23 = .ok (.iload_n 3, 1) := by decide +kernel
theorem dX1_swap_24 : decode cX1_swap 24 = .ok (.invokevirtual 36, 3) := by decide +kernel
theorem dX1_swap_27 : decode cX1_swap 27 = .ok (.invokevirtual 61, 3) := by decide +kernel
theorem dX1_swap_30 : decode cX1_swap 30 = .ok (.aload_n 0, 1) := by decide +kernel
theorem dX1_swap_31 : decode cX1_swap 31 = .ok (.iload_n 2, 1) := by decide +kernel
theorem dX1_swap_32 : decode cX1_swap 32 = .ok (.iload_n 3, 1) := by decide +kernel
theorem dX1_swap_33 : decode cX1_swap 33 = .ok (.lload 4, 2) := by decide +kernel
theorem dX1_swap_35 : decode cX1_swap 35 = .ok (.invokevirtual 61, 3) := by decide +kernel
theorem dX1_swap_38 : decode cX1_swap 38 = .ok (.iinc 3 1, 3) := by decide +kernel
theorem dX1_swap_41 : decode cX1_swap 41 = .ok (.goto (-39), 3) := by decide +kernel
theorem dX1_swap_44 : decode cX1_swap 44 = .ok (.return_, 1) := by decide +kernel
theorem dX1_jobsOpenTo_0 : decode cX1_jobsOpenTo 0 = .ok (.iconst 0, 1) := by decide +kernel
theorem dX1_jobsOpenTo_1 : decode cX1_jobsOpenTo 1 = .ok (.istore_n 2, 1) := by decide +kernel
theorem dX1_jobsOpenTo_2 : decode cX1_jobsOpenTo 2 = .ok (.iconst 0, 1) := by decide +kernel
theorem dX1_jobsOpenTo_3 : decode cX1_jobsOpenTo 3 = .ok (.istore_n 3, 1) := by decide +kernel
theorem dX1_jobsOpenTo_4 : decode cX1_jobsOpenTo 4 = .ok (.iload_n 3, 1) := by decide +kernel
theorem dX1_jobsOpenTo_5 : decode cX1_jobsOpenTo 5 = .ok (.aload_n 0, 1) := by decide +kernel
theorem dX1_jobsOpenTo_6 : decode cX1_jobsOpenTo 6 = .ok (.getfield 15, 3) := by decide +kernel
theorem dX1_jobsOpenTo_9 : decode cX1_jobsOpenTo 9 = .ok (.if_icmp .ge 57, 3) := by decide +kernel
theorem dX1_jobsOpenTo_12 : decode cX1_jobsOpenTo 12 = .ok (.iconst 0, 1) := by decide +kernel
theorem dX1_jobsOpenTo_13 : decode cX1_jobsOpenTo 13 = .ok (.istore 4, 2) := by decide +kernel
theorem dX1_jobsOpenTo_15 : decode cX1_jobsOpenTo 15 = .ok (.iload 4, 2) := by decide +kernel
theorem dX1_jobsOpenTo_17 : decode cX1_jobsOpenTo 17 = .ok (.aload_n 0, 1) := by decide +kernel
theorem dX1_jobsOpenTo_18 : decode cX1_jobsOpenTo 18 = .ok (.getfield 19, 3) := by decide +kernel
theorem dX1_jobsOpenTo_21 : decode cX1_jobsOpenTo 21 = .ok (.if_icmp .ge 39, 3) := by decide +kernel
theorem dX1_jobsOpenTo_24 : decode cX1_jobsOpenTo 24 = .ok (.iload_n 1, 1) := by decide +kernel
theorem dX1_jobsOpenTo_25 : decode cX1_jobsOpenTo 25 = .ok (.iload_n 3, 1) := by decide +kernel
theorem dX1_jobsOpenTo_26 : decode cX1_jobsOpenTo 26 = .ok (.ishr, 1) := by decide +kernel
theorem dX1_jobsOpenTo_27 : decode cX1_jobsOpenTo 27 = .ok (.iconst 1, 1) := by decide +kernel
theorem dX1_jobsOpenTo_28 : decode cX1_jobsOpenTo 28 = .ok (.iand, 1) := by decide +kernel
theorem dX1_jobsOpenTo_29 : decode cX1_jobsOpenTo 29 = .ok (.iconst 1, 1) := by decide +kernel
theorem dX1_jobsOpenTo_30 : decode cX1_jobsOpenTo 30 = .ok (.if_icmp .ne 24, 3) := by decide +kernel
theorem dX1_jobsOpenTo_33 : decode cX1_jobsOpenTo 33 = .ok (.aload_n 0, 1) := by decide +kernel
theorem dX1_jobsOpenTo_34 : decode cX1_jobsOpenTo 34 = .ok (.iload_n 3, 1) := by decide +kernel
theorem dX1_jobsOpenTo_35 : decode cX1_jobsOpenTo 35 = .ok (.iload 4, 2) := by decide +kernel
theorem dX1_jobsOpenTo_37 : decode cX1_jobsOpenTo 37 = .ok (.invokevirtual 36, 3) := by decide +kernel
theorem dX1_jobsOpenTo_40 : decode cX1_jobsOpenTo 40 = .ok (.ldc2_w 30, 3) := by decide +kernel
theorem dX1_jobsOpenTo_43 : decode cX1_jobsOpenTo 43 = .ok (.lcmp, 1) := by decide +kernel
theorem dX1_jobsOpenTo_44 : decode cX1_jobsOpenTo 44 = .ok (.ifCond .eq 10, 3) := by decide +kernel
theorem dX1_jobsOpenTo_47 : decode cX1_jobsOpenTo 47 = .ok (.iload_n 2, 1) := by decide +kernel
theorem dX1_jobsOpenTo_48 : decode cX1_jobsOpenTo 48 = .ok (.iconst 1, 1) := by decide +kernel
theorem dX1_jobsOpenTo_49 : decode cX1_jobsOpenTo 49 = .ok (.iload 4, 2) := by decide +kernel
theorem dX1_jobsOpenTo_51 : decode cX1_jobsOpenTo 51 = .ok (.ishl, 1) := by decide +kernel
theorem dX1_jobsOpenTo_52 : decode cX1_jobsOpenTo 52 = .ok (.ior, 1) := by decide +kernel
theorem dX1_jobsOpenTo_53 : decode cX1_jobsOpenTo 53 = .ok (.istore_n 2, 1) := by decide +kernel
theorem dX1_jobsOpenTo_54 : decode cX1_jobsOpenTo 54 = .ok (.iinc 4 1, 3) := by decide +kernel
theorem dX1_jobsOpenTo_57 : decode cX1_jobsOpenTo 57 = .ok (.goto (-42), 3) := by decide +kernel
theorem dX1_jobsOpenTo_60 : decode cX1_jobsOpenTo 60 = .ok (.iinc 3 1, 3) := by decide +kernel
theorem dX1_jobsOpenTo_63 : decode cX1_jobsOpenTo 63 = .ok (.goto (-59), 3) := by decide +kernel
theorem dX1_jobsOpenTo_66 : decode cX1_jobsOpenTo 66 = .ok (.iload_n 2, 1) := by decide +kernel
theorem dX1_jobsOpenTo_67 : decode cX1_jobsOpenTo 67 = .ok (.ireturn, 1) := by decide +kernel
theorem dX1_reducedAt_0 : decode cX1_reducedAt 0 = .ok (.aload_n 0, 1) := by decide +kernel
theorem dX1_reducedAt_1 : decode cX1_reducedAt 1 = .ok (.iload_n 1, 1) := by decide +kernel
theorem dX1_reducedAt_2 : decode cX1_reducedAt 2 = .ok (.iload_n 2, 1) := by decide +kernel
theorem dX1_reducedAt_3 : decode cX1_reducedAt 3 = .ok (.invokevirtual 71, 3) := by decide +kernel
theorem dX1_reducedAt_6 : decode cX1_reducedAt 6 = .ok (.lstore_n 3, 1) := by decide +kernel
theorem dX1_reducedAt_7 : decode cX1_reducedAt 7 = .ok (.lload_n 3, 1) := by decide +kernel
theorem dX1_reducedAt_8 : decode cX1_reducedAt 8 = .ok (.ldc2_w 30, 3) := by decide +kernel
theorem dX1_reducedAt_11 : decode cX1_reducedAt 11 = .ok (.lcmp, 1) := by decide +kernel
theorem dX1_reducedAt_12 : decode cX1_reducedAt 12 = .ok (.ifCond .ne 7, 3) := by decide +kernel
theorem dX1_reducedAt_15 : decode cX1_reducedAt 15 = .ok (.ldc2_w 30, 3) := by decide +kernel
theorem dX1_reducedAt_18 : decode cX1_reducedAt 18 = .ok (.lreturn, 1) := by decide +kernel
theorem dX1_reducedAt_19 : decode cX1_reducedAt 19 = .ok (.lload_n 3, 1) := by decide +kernel
theorem dX1_reducedAt_20 : decode cX1_reducedAt 20 = .ok (.lstore 5, 2) := by decide +kernel
theorem dX1_reducedAt_22 : decode cX1_reducedAt 22 = .ok (.iconst 0, 1) := by decide +kernel
theorem dX1_reducedAt_23 : decode cX1_reducedAt 23 = .ok (.istore 7, 2) := by decide +kernel
theorem dX1_reducedAt_25 : decode cX1_reducedAt 25 = .ok (.iload 7, 2) := by decide +kernel
theorem dX1_reducedAt_27 : decode cX1_reducedAt 27 = .ok (.aload_n 0, 1) := by decide +kernel
theorem dX1_reducedAt_28 : decode cX1_reducedAt 28 = .ok (.getfield 15, 3) := by decide +kernel
theorem dX1_reducedAt_31 : decode cX1_reducedAt 31 = .ok (.if_icmp .ge 23, 3) := by decide +kernel
theorem dX1_reducedAt_34 : decode cX1_reducedAt 34 = .ok (.lload 5, 2) := by decide +kernel
theorem dX1_reducedAt_36 : decode cX1_reducedAt 36 = .ok (.aload_n 0, 1) := by decide +kernel
theorem dX1_reducedAt_37 : decode cX1_reducedAt 37 = .ok (.iload 7, 2) := by decide +kernel
theorem dX1_reducedAt_39 : decode cX1_reducedAt 39 = .ok (.iload_n 2, 1) := by decide +kernel
theorem dX1_reducedAt_40 : decode cX1_reducedAt 40 = .ok (.invokevirtual 71, 3) := by decide +kernel
theorem dX1_reducedAt_43 : decode cX1_reducedAt 43 = .ok (.invokestatic 51, 3) := by decide +kernel
theorem dX1_reducedAt_46 : decode cX1_reducedAt 46 = .ok (.lstore 5, 2) := by decide +kernel
theorem dX1_reducedAt_48 : decode cX1_reducedAt 48 = .ok (.iinc 7 1, 3) := by decide +kernel
theorem dX1_reducedAt_51 : decode cX1_reducedAt 51 = .ok (.goto (-26), 3) := by decide +kernel
theorem dX1_reducedAt_54 : decode cX1_reducedAt 54 = .ok (.lload_n 3, 1) := by decide +kernel
theorem dX1_reducedAt_55 : decode cX1_reducedAt 55 = .ok (.lload 5, 2) := by decide +kernel
theorem dX1_reducedAt_57 : decode cX1_reducedAt 57 = .ok (.lsub, 1) := by decide +kernel
theorem dX1_reducedAt_58 : decode cX1_reducedAt 58 = .ok (.lreturn, 1) := by decide +kernel
theorem dX1_lessRow_0 : decode cX1_lessRow 0 = .ok (.aload_n 0, 1) := by decide +kernel
theorem dX1_lessRow_1 : decode cX1_lessRow 1 = .ok (.iload_n 1, 1) := by decide +kernel
theorem dX1_lessRow_2 : decode cX1_lessRow 2 = .ok (.iload_n 2, 1) := by decide +kernel
theorem dX1_lessRow_3 : decode cX1_lessRow 3 = .ok (.invokevirtual 36, 3) := by decide +kernel
theorem dX1_lessRow_6 : decode cX1_lessRow 6 = .ok (.lstore_n 3, 1) := by decide +kernel
theorem dX1_lessRow_7 : decode cX1_lessRow 7 = .ok (.lload_n 3, 1) := by decide +kernel
theorem dX1_lessRow_8 : decode cX1_lessRow 8 = .ok (.ldc2_w 30, 3) := by decide +kernel
theorem dX1_lessRow_11 : decode cX1_lessRow 11 = .ok (.lcmp, 1) := by decide +kernel
theorem dX1_lessRow_12 : decode cX1_lessRow 12 = .ok (.ifCond .ne 9, 3) := by decide +kernel
theorem dX1_lessRow_15 : decode cX1_lessRow 15 = .ok (.ldc2_w 30, 3) := by decide +kernel
theorem dX1_lessRow_18 : decode cX1_lessRow 18 = .ok (.goto 11, 3) := by decide +kernel
theorem dX1_lessRow_21 : decode cX1_lessRow 21 = .ok (.lload_n 3, 1) := by decide +kernel
theorem dX1_lessRow_22 : decode cX1_lessRow 22 = .ok (.aload_n 0, 1) := by decide +kernel
theorem dX1_lessRow_23 : decode cX1_lessRow 23 = .ok (.iload_n 1, 1) := by decide +kernel
theorem dX1_lessRow_24 : decode cX1_lessRow 24 = .ok (.iconst 0, 1) := by decide +kernel
theorem dX1_lessRow_25 : decode cX1_lessRow 25 = .ok (.invokevirtual 74, 3) := by decide +kernel
theorem dX1_lessRow_28 : decode cX1_lessRow 28 = .ok (.lsub, 1) := by decide +kernel
theorem dX1_lessRow_29 : decode cX1_lessRow 29 = .ok (.lreturn, 1) := by decide +kernel
theorem dX1_sumOf_0 : decode cX1_sumOf 0 = .ok (.lconst 0, 1) := by decide +kernel
theorem dX1_sumOf_1 : decode cX1_sumOf 1 = .ok (.lstore_n 2, 1) := by decide +kernel
theorem dX1_sumOf_2 : decode cX1_sumOf 2 = .ok (.iconst 0, 1) := by decide +kernel
theorem dX1_sumOf_3 : decode cX1_sumOf 3 = .ok (.istore 4, 2) := by decide +kernel
theorem dX1_sumOf_5 : decode cX1_sumOf 5 = .ok (.iload 4, 2) := by decide +kernel
theorem dX1_sumOf_7 : decode cX1_sumOf 7 = .ok (.aload_n 0, 1) := by decide +kernel
theorem dX1_sumOf_8 : decode cX1_sumOf 8 = .ok (.getfield 15, 3) := by decide +kernel
theorem dX1_sumOf_11 : decode cX1_sumOf 11 = .ok (.if_icmp .ge 29, 3) := by decide +kernel
theorem dX1_sumOf_14 : decode cX1_sumOf 14 = .ok (.iload 4, 2) := by decide +kernel
theorem dX1_sumOf_16 : decode cX1_sumOf 16 = .ok (.aload_n 1, 1) := by decide +kernel
theorem dX1_sumOf_17 : decode cX1_sumOf 17 = .ok (.arraylength, 1) := by decide +kernel
theorem dX1_sumOf_18 : decode cX1_sumOf 18 = .ok (.if_icmp .ge 22, 3) := by decide +kernel
theorem dX1_sumOf_21 : decode cX1_sumOf 21 = .ok (.lload_n 2, 1) := by decide +kernel
theorem dX1_sumOf_22 : decode cX1_sumOf 22 = .ok (.aload_n 0, 1) := by decide +kernel
theorem dX1_sumOf_23 : decode cX1_sumOf 23 = .ok (.iload 4, 2) := by decide +kernel
theorem dX1_sumOf_25 : decode cX1_sumOf 25 = .ok (.aload_n 1, 1) := by decide +kernel
theorem dX1_sumOf_26 : decode cX1_sumOf 26 = .ok (.iload 4, 2) := by decide +kernel
theorem dX1_sumOf_28 : decode cX1_sumOf 28 = .ok (.iaload, 1) := by decide +kernel
theorem dX1_sumOf_29 : decode cX1_sumOf 29 = .ok (.invokevirtual 36, 3) := by decide +kernel
theorem dX1_sumOf_32 : decode cX1_sumOf 32 = .ok (.ladd, 1) := by decide +kernel
theorem dX1_sumOf_33 : decode cX1_sumOf 33 = .ok (.lstore_n 2, 1) := by decide +kernel
theorem dX1_sumOf_34 : decode cX1_sumOf 34 = .ok (.iinc 4 1, 3) := by decide +kernel
theorem dX1_sumOf_37 : decode cX1_sumOf 37 = .ok (.goto (-32), 3) := by decide +kernel
theorem dX1_sumOf_40 : decode cX1_sumOf 40 = .ok (.lload_n 2, 1) := by decide +kernel
theorem dX1_sumOf_41 : decode cX1_sumOf 41 = .ok (.lreturn, 1) := by decide +kernel
theorem dX1_greatestOf_0 : decode cX1_greatestOf 0 = .ok (.ldc2_w 77, 3) := by decide +kernel
theorem dX1_greatestOf_3 : decode cX1_greatestOf 3 = .ok (.lstore_n 2, 1) := by decide +kernel
theorem dX1_greatestOf_4 : decode cX1_greatestOf 4 = .ok (.iconst 0, 1) := by decide +kernel
theorem dX1_greatestOf_5 : decode cX1_greatestOf 5 = .ok (.istore 4, 2) := by decide +kernel
theorem dX1_greatestOf_7 : decode cX1_greatestOf 7 = .ok (.iload 4, 2) := by decide +kernel
theorem dX1_greatestOf_9 : decode cX1_greatestOf 9 = .ok (.aload_n 0, 1) := by decide +kernel
theorem dX1_greatestOf_10 : decode cX1_greatestOf 10 = .ok (.getfield 15, 3) := by decide +kernel
theorem dX1_greatestOf_13 : decode cX1_greatestOf 13 = .ok (.if_icmp .ge 31, 3) := by decide +kernel
theorem dX1_greatestOf_16 : decode cX1_greatestOf 16 = .ok (.iload 4, 2) := by decide +kernel
theorem dX1_greatestOf_18 : decode cX1_greatestOf 18 = .ok (.aload_n 1, 1) := by decide +kernel
theorem dX1_greatestOf_19 : decode cX1_greatestOf 19 = .ok (.arraylength, 1) := by decide +kernel
theorem dX1_greatestOf_20 : decode cX1_greatestOf 20 = .ok (.if_icmp .ge 24, 3) := by decide +kernel
theorem dX1_greatestOf_23 : decode cX1_greatestOf 23 = .ok (.lload_n 2, 1) := by decide +kernel
theorem dX1_greatestOf_24 : decode cX1_greatestOf 24 = .ok (.aload_n 0, 1) := by decide +kernel
theorem dX1_greatestOf_25 : decode cX1_greatestOf 25 = .ok (.iload 4, 2) := by decide +kernel
theorem dX1_greatestOf_27 : decode cX1_greatestOf 27 = .ok (.aload_n 1, 1) := by decide +kernel
theorem dX1_greatestOf_28 : decode cX1_greatestOf 28 = .ok (.iload 4, 2) := by decide +kernel
theorem dX1_greatestOf_30 : decode cX1_greatestOf 30 = .ok (.iaload, 1) := by decide +kernel
theorem dX1_greatestOf_31 : decode cX1_greatestOf 31 = .ok (.invokevirtual 36, 3) := by decide +kernel
theorem dX1_greatestOf_34 : decode cX1_greatestOf 34 = .ok (.invokestatic 79, 3) := by decide +kernel
theorem dX1_greatestOf_37 : decode cX1_greatestOf 37 = .ok (.lstore_n 2, 1) := by decide +kernel
theorem dX1_greatestOf_38 : decode cX1_greatestOf 38 = .ok (.iinc 4 1, 3) := by decide +kernel
theorem dX1_greatestOf_41 : decode cX1_greatestOf 41 = .ok (.goto (-34), 3) := by decide +kernel
theorem dX1_greatestOf_44 : decode cX1_greatestOf 44 = .ok (.lload_n 2, 1) := by decide +kernel
theorem dX1_greatestOf_45 : decode cX1_greatestOf 45 = .ok (.lreturn, 1) := by decide +kernel
theorem dX1_smallestOf_0 : decode cX1_smallestOf 0 = .ok (.ldc2_w 30, 3) := by decide +kernel
theorem dX1_smallestOf_3 : decode cX1_smallestOf 3 = .ok (.lstore_n 2, 1) := by decide +kernel
theorem dX1_smallestOf_4 : decode cX1_smallestOf 4 = .ok (.iconst 0, 1) := by decide +kernel
theorem dX1_smallestOf_5 : decode cX1_smallestOf 5 = .ok (.istore 4, 2) := by decide +kernel
theorem dX1_smallestOf_7 : decode cX1_smallestOf 7 = .ok (.iload 4, 2) := by decide +kernel
theorem dX1_smallestOf_9 : decode cX1_smallestOf 9 = .ok (.aload_n 0, 1) := by decide +kernel
theorem dX1_smallestOf_10 : decode cX1_smallestOf 10 = .ok (.getfield 15, 3) := by decide +kernel
theorem dX1_smallestOf_13 : decode cX1_smallestOf 13 = .ok (.if_icmp .ge 31, 3) := by decide +kernel
theorem dX1_smallestOf_16 : decode cX1_smallestOf 16 = .ok (.iload 4, 2) := by decide +kernel
theorem dX1_smallestOf_18 : decode cX1_smallestOf 18 = .ok (.aload_n 1, 1) := by decide +kernel
theorem dX1_smallestOf_19 : decode cX1_smallestOf 19 = .ok (.arraylength, 1) := by decide +kernel
theorem dX1_smallestOf_20 : decode cX1_smallestOf 20 = .ok (.if_icmp .ge 24, 3) := by decide +kernel
theorem dX1_smallestOf_23 : decode cX1_smallestOf 23 = .ok (.lload_n 2, 1) := by decide +kernel
theorem dX1_smallestOf_24 : decode cX1_smallestOf 24 = .ok (.aload_n 0, 1) := by decide +kernel
theorem dX1_smallestOf_25 : decode cX1_smallestOf 25 = .ok (.iload 4, 2) := by decide +kernel
theorem dX1_smallestOf_27 : decode cX1_smallestOf 27 = .ok (.aload_n 1, 1) := by decide +kernel
theorem dX1_smallestOf_28 : decode cX1_smallestOf 28 = .ok (.iload 4, 2) := by decide +kernel
theorem dX1_smallestOf_30 : decode cX1_smallestOf 30 = .ok (.iaload, 1) := by decide +kernel
theorem dX1_smallestOf_31 : decode cX1_smallestOf 31 = .ok (.invokevirtual 36, 3) := by decide +kernel
theorem dX1_smallestOf_34 : decode cX1_smallestOf 34 = .ok (.invokestatic 51, 3) := by decide +kernel
theorem dX1_smallestOf_37 : decode cX1_smallestOf 37 = .ok (.lstore_n 2, 1) := by decide +kernel
theorem dX1_smallestOf_38 : decode cX1_smallestOf 38 = .ok (.iinc 4 1, 3) := by decide +kernel
theorem dX1_smallestOf_41 : decode cX1_smallestOf 41 = .ok (.goto (-34), 3) := by decide +kernel
theorem dX1_smallestOf_44 : decode cX1_smallestOf 44 = .ok (.lload_n 2, 1) := by decide +kernel
theorem dX1_smallestOf_45 : decode cX1_smallestOf 45 = .ok (.lreturn, 1) := by decide +kernel
theorem dX1_decode_0 : decode cX1_decode 0 = .ok (.iload_n 1, 1) := by decide +kernel
theorem dX1_decode_1 : decode cX1_decode 1 = .ok (.ifCond .lt 12, 3) := by decide +kernel
theorem dX1_decode_4 : decode cX1_decode 4 = .ok (.aload_n 2, 1) := by decide +kernel
theorem dX1_decode_5 : decode cX1_decode 5 = .ok (.arraylength, 1) := by decide +kernel
theorem dX1_decode_6 : decode cX1_decode 6 = .ok (.aload_n 0, 1) := by decide +kernel
theorem dX1_decode_7 : decode cX1_decode 7 = .ok (.getfield 15, 3) := by decide +kernel
theorem dX1_decode_10 : decode cX1_decode 10 = .ok (.if_icmp .ge 5, 3) := by decide +kernel
theorem dX1_decode_13 : decode cX1_decode 13 = .ok (.iconst 0, 1) := by decide +kernel
theorem dX1_decode_14 : decode cX1_decode 14 = .ok (.ireturn, 1) := by decide +kernel
theorem dX1_decode_15 : decode cX1_decode 15 = .ok (.iload_n 1, 1) := by decide +kernel
theorem dX1_decode_16 : decode cX1_decode 16 = .ok (.istore_n 3, 1) := by decide +kernel
theorem dX1_decode_17 : decode cX1_decode 17 = .ok (.iconst 0, 1) := by decide +kernel
theorem dX1_decode_18 : decode cX1_decode 18 = .ok (.istore 4, 2) := by decide +kernel
theorem dX1_decode_20 : decode cX1_decode 20 = .ok (.aload_n 0, 1) := by decide +kernel
theorem dX1_decode_21 : decode cX1_decode 21 = .ok (.getfield 15, 3) := by decide +kernel
theorem dX1_decode_24 : decode cX1_decode 24 = .ok (.iconst 1, 1) := by decide +kernel
theorem dX1_decode_25 : decode cX1_decode 25 = .ok (.isub, 1) := by decide +kernel
theorem dX1_decode_26 : decode cX1_decode 26 = .ok (.istore 5, 2) := by decide +kernel
theorem dX1_decode_28 : decode cX1_decode 28 = .ok (.iload 5, 2) := by decide +kernel
theorem dX1_decode_30 : decode cX1_decode 30 = .ok (.ifCond .lt 62, 3) := by decide +kernel
theorem dX1_decode_33 : decode cX1_decode 33 = .ok (.iload_n 3, 1) := by decide +kernel
theorem dX1_decode_34 : decode cX1_decode 34 = .ok (.bipush 7, 2) := by decide +kernel
theorem dX1_decode_36 : decode cX1_decode 36 = .ok (.iand, 1) := by decide +kernel
theorem dX1_decode_37 : decode cX1_decode 37 = .ok (.istore 6, 2) := by decide +kernel
theorem dX1_decode_39 : decode cX1_decode 39 = .ok (.aload_n 0, 1) := by decide +kernel
theorem dX1_decode_40 : decode cX1_decode 40 = .ok (.iload 5, 2) := by decide +kernel
theorem dX1_decode_42 : decode cX1_decode 42 = .ok (.iload 6, 2) := by decide +kernel
theorem dX1_decode_44 : decode cX1_decode 44 = .ok (.invokevirtual 36, 3) := by decide +kernel
theorem dX1_decode_47 : decode cX1_decode 47 = .ok (.ldc2_w 30, 3) := by decide +kernel
theorem dX1_decode_50 : decode cX1_decode 50 = .ok (.lcmp, 1) := by decide +kernel
theorem dX1_decode_51 : decode cX1_decode 51 = .ok (.ifCond .eq 14, 3) := by decide +kernel
theorem dX1_decode_54 : decode cX1_decode 54 = .ok (.iload 4, 2) := by decide +kernel
theorem dX1_decode_56 : decode cX1_decode 56 = .ok (.iload 6, 2) := by decide +kernel
theorem dX1_decode_58 : decode cX1_decode 58 = .ok (.ishr, 1) := by decide +kernel
theorem dX1_decode_59 : decode cX1_decode 59 = .ok (.iconst 1, 1) := by decide +kernel
theorem dX1_decode_60 : decode cX1_decode 60 = .ok (.iand, 1) := by decide +kernel
theorem dX1_decode_61 : decode cX1_decode 61 = .ok (.iconst 1, 1) := by decide +kernel
theorem dX1_decode_62 : decode cX1_decode 62 = .ok (.if_icmp .ne 5, 3) := by decide +kernel
theorem dX1_decode_65 : decode cX1_decode 65 = .ok (.iconst 0, 1) := by decide +kernel
theorem dX1_decode_66 : decode cX1_decode 66 = .ok (.ireturn, 1) := by decide +kernel
theorem dX1_decode_67 : decode cX1_decode 67 = .ok (.aload_n 2, 1) := by decide +kernel
theorem dX1_decode_68 : decode cX1_decode 68 = .ok (.iload 5, 2) := by decide +kernel
theorem dX1_decode_70 : decode cX1_decode 70 = .ok (.iload 6, 2) := by decide +kernel
theorem dX1_decode_72 : decode cX1_decode 72 = .ok (.iastore, 1) := by decide +kernel
theorem dX1_decode_73 : decode cX1_decode 73 = .ok (.iload 4, 2) := by decide +kernel
theorem dX1_decode_75 : decode cX1_decode 75 = .ok (.iconst 1, 1) := by decide +kernel
theorem dX1_decode_76 : decode cX1_decode 76 = .ok (.iload 6, 2) := by decide +kernel
theorem dX1_decode_78 : decode cX1_decode 78 = .ok (.ishl, 1) := by decide +kernel
theorem dX1_decode_79 : decode cX1_decode 79 = .ok (.ior, 1) := by decide +kernel
theorem dX1_decode_80 : decode cX1_decode 80 = .ok (.istore 4, 2) := by decide +kernel
theorem dX1_decode_82 : decode cX1_decode 82 = .ok (.iload_n 3, 1) := by decide +kernel
theorem dX1_decode_83 : decode cX1_decode 83 = .ok (.iconst 3, 1) := by decide +kernel
theorem dX1_decode_84 : decode cX1_decode 84 = .ok (.ishr, 1) := by decide +kernel
theorem dX1_decode_85 : decode cX1_decode 85 = .ok (.istore_n 3, 1) := by decide +kernel
theorem dX1_decode_86 : decode cX1_decode 86 = .ok (.iinc 5 (-1), 3) := by decide +kernel
theorem dX1_decode_89 : decode cX1_decode 89 = .ok (.goto (-61), 3) := by decide +kernel
theorem dX1_decode_92 : decode cX1_decode 92 = .ok (.iload_n 3, 1) := by decide +kernel
theorem dX1_decode_93 : decode cX1_decode 93 = .ok (.ifCond .ne 7, 3) := by decide +kernel
theorem dX1_decode_96 : decode cX1_decode 96 = .ok (.iconst 1, 1) := by decide +kernel
theorem dX1_decode_97 : decode cX1_decode 97 = .ok (.goto 4, 3) := by decide +kernel
theorem dX1_decode_100 : decode cX1_decode 100 = .ok (.iconst 0, 1) := by decide +kernel
theorem dX1_decode_101 : decode cX1_decode 101 = .ok (.ireturn, 1) := by decide +kernel
theorem dX2_init_0 : decode cX2_init 0 = .ok (.aload_n 0, 1) := by decide +kernel
theorem dX2_init_1 : decode cX2_init 1 = .ok (.invokespecial 1, 3) := by decide +kernel
theorem dX2_init_4 : decode cX2_init 4 = .ok (.aload_n 0, 1) := by decide +kernel
theorem dX2_init_5 : decode cX2_init 5 = .ok (.bipush 10, 2) := by decide +kernel
theorem dX2_init_7 : decode cX2_init 7 = .ok (.anewarray 9, 3) := by decide +kernel
theorem dX2_init_10 : decode cX2_init 10 = .ok (.putfield 11, 3) := by decide +kernel
theorem dX2_init_13 : decode cX2_init 13 = .ok (.iconst 0, 1) := by decide +kernel
theorem dX2_init_14 : decode cX2_init 14 = .ok (.istore_n 1, 1) := by decide +kernel
theorem dX2_init_15 : decode cX2_init 15 = .ok (.iload_n 1, 1) := by decide +kernel
theorem dX2_init_16 : decode cX2_init 16 = .ok (.bipush 10, 2) := by decide +kernel
theorem dX2_init_18 : decode cX2_init 18 = .ok (.if_icmp .ge 22, 3) := by decide +kernel
theorem dX2_init_21 : decode cX2_init 21 = .ok (.aload_n 0, 1) := by decide +kernel
theorem dX2_init_22 : decode cX2_init 22 = .ok (.getfield 11, 3) := by decide +kernel
theorem dX2_init_25 : decode cX2_init 25 = .ok (.iload_n 1, 1) := by decide +kernel
theorem dX2_init_26 : decode cX2_init 26 = .ok (.new 9, 3) := by decide +kernel
theorem dX2_init_29 : decode cX2_init 29 = .ok (.dup, 1) := by decide +kernel
theorem dX2_init_30 : decode cX2_init 30 = .ok (.invokespecial 15, 3) := by decide +kernel
theorem dX2_init_33 : decode cX2_init 33 = .ok (.aastore, 1) := by decide +kernel
theorem dX2_init_34 : decode cX2_init 34 = .ok (.iinc 1 1, 3) := by decide +kernel
theorem dX2_init_37 : decode cX2_init 37 = .ok (.goto (-22), 3) := by decide +kernel
theorem dX2_init_40 : decode cX2_init 40 = .ok (.return_, 1) := by decide +kernel
theorem dX2_clear_0 : decode cX2_clear 0 = .ok (.aload_n 0, 1) := by decide +kernel
theorem dX2_clear_1 : decode cX2_clear 1 = .ok (.iconst 0, 1) := by decide +kernel
theorem dX2_clear_2 : decode cX2_clear 2 = .ok (.putfield 16, 3) := by decide +kernel
theorem dX2_clear_5 : decode cX2_clear 5 = .ok (.return_, 1) := by decide +kernel
theorem dX2_keep_0 : decode cX2_keep 0 = .ok (.aload_n 0, 1) := by decide +kernel
theorem dX2_keep_1 : decode cX2_keep 1 = .ok (.getfield 16, 3) := by decide +kernel
theorem dX2_keep_4 : decode cX2_keep 4 = .ok (.bipush 10, 2) := by decide +kernel
theorem dX2_keep_6 : decode cX2_keep 6 = .ok (.if_icmp .ne 26, 3) := by decide +kernel
theorem dX2_keep_9 : decode cX2_keep 9 = .ok (.aload_n 0, 1) := by decide +kernel
theorem dX2_keep_10 : decode cX2_keep 10 = .ok (.aload_n 0, 1) := by decide +kernel
theorem dX2_keep_11 : decode cX2_keep 11 = .ok (.getfield 20, 3) := by decide +kernel
theorem dX2_keep_14 : decode cX2_keep 14 = .ok (.iconst 1, 1) := by decide +kernel
theorem dX2_keep_15 : decode cX2_keep 15 = .ok (.iadd, 1) := by decide +kernel
theorem dX2_keep_16 : decode cX2_keep 16 = .ok (.bipush 10, 2) := by decide +kernel
theorem dX2_keep_18 : decode cX2_keep 18 = .ok (.irem, 1) := by decide +kernel
theorem dX2_keep_19 : decode cX2_keep 19 = .ok (.putfield 20, 3) := by decide +kernel
theorem dX2_keep_22 : decode cX2_keep 22 = .ok (.aload_n 0, 1) := by decide +kernel
theorem dX2_keep_23 : decode cX2_keep 23 = .ok (.dup, 1) := by decide +kernel
theorem dX2_keep_24 : decode cX2_keep 24 = .ok (.getfield 16, 3) := by decide +kernel
theorem dX2_keep_27 : decode cX2_keep 27 = .ok (.iconst 1, 1) := by decide +kernel
theorem dX2_keep_28 : decode cX2_keep 28 = .ok (.isub, 1) := by decide +kernel
theorem dX2_keep_29 : decode cX2_keep 29 = .ok (.putfield 16, 3) := by decide +kernel
theorem dX2_keep_32 : decode cX2_keep 32 = .ok (.aload_n 0, 1) := by decide +kernel
theorem dX2_keep_33 : decode cX2_keep 33 = .ok (.getfield 11, 3) := by decide +kernel
theorem dX2_keep_36 : decode cX2_keep 36 = .ok (.aload_n 0, 1) := by decide +kernel
theorem dX2_keep_37 : decode cX2_keep 37 = .ok (.getfield 20, 3) := by decide +kernel
theorem dX2_keep_40 : decode cX2_keep 40 = .ok (.aload_n 0, 1) := by decide +kernel
theorem dX2_keep_41 : decode cX2_keep 41 = .ok (.getfield 16, 3) := by decide +kernel
theorem dX2_keep_44 : decode cX2_keep 44 = .ok (.iadd, 1) := by decide +kernel
theorem dX2_keep_45 : decode cX2_keep 45 = .ok (.bipush 10, 2) := by decide +kernel
theorem dX2_keep_47 : decode cX2_keep 47 = .ok (.irem, 1) := by decide +kernel
theorem dX2_keep_48 : decode cX2_keep 48 = .ok (.aaload, 1) := by decide +kernel
theorem dX2_keep_49 : decode cX2_keep 49 = .ok (.aload_n 1, 1) := by decide +kernel
theorem dX2_keep_50 : decode cX2_keep 50 = .ok (.invokevirtual 23, 3) := by decide +kernel
theorem dX2_keep_53 : decode cX2_keep 53 = .ok (.aload_n 0, 1) := by decide +kernel
theorem dX2_keep_54 : decode cX2_keep 54 = .ok (.dup, 1) := by decide +kernel
theorem dX2_keep_55 : decode cX2_keep 55 = .ok (.getfield 16, 3) := by decide +kernel
theorem dX2_keep_58 : decode cX2_keep 58 = .ok (.iconst 1, 1) := by decide +kernel
theorem dX2_keep_59 : decode cX2_keep 59 = .ok (.iadd, 1) := by decide +kernel
theorem dX2_keep_60 : decode cX2_keep 60 = .ok (.putfield 16, 3) := by decide +kernel
theorem dX2_keep_63 : decode cX2_keep 63 = .ok (.return_, 1) := by decide +kernel
theorem dX2_restore_0 : decode cX2_restore 0 = .ok (.aload_n 0, 1) := by decide +kernel
theorem dX2_restore_1 : decode cX2_restore 1 = .ok (.getfield 16, 3) := by decide +kernel
theorem dX2_restore_4 : decode cX2_restore 4 = .ok (.ifCond .ne 5, 3) := by decide +kernel
theorem dX2_restore_7 : decode cX2_restore 7 = .ok (.iconst 0, 1) := by decide +kernel
theorem dX2_restore_8 : decode cX2_restore 8 = .ok (.ireturn, 1) := by decide +kernel
theorem dX2_restore_9 : decode cX2_restore 9 = .ok (.aload_n 0, 1) := by decide +kernel
theorem dX2_restore_10 : decode cX2_restore 10 = .ok (.dup, 1) := by decide +kernel
theorem dX2_restore_11 : decode cX2_restore 11 = .ok (.getfield 16, 3) := by decide +kernel
theorem dX2_restore_14 : decode cX2_restore 14 = .ok (.iconst 1, 1) := by decide +kernel
theorem dX2_restore_15 : decode cX2_restore 15 = .ok (.isub, 1) := by decide +kernel
theorem dX2_restore_16 : decode cX2_restore 16 = .ok (.putfield 16, 3) := by decide +kernel
theorem dX2_restore_19 : decode cX2_restore 19 = .ok (.aload_n 1, 1) := by decide +kernel
theorem dX2_restore_20 : decode cX2_restore 20 = .ok (.aload_n 0, 1) := by decide +kernel
theorem dX2_restore_21 : decode cX2_restore 21 = .ok (.getfield 11, 3) := by decide +kernel
theorem dX2_restore_24 : decode cX2_restore 24 = .ok (.aload_n 0, 1) := by decide +kernel
theorem dX2_restore_25 : decode cX2_restore 25 = .ok (.getfield 20, 3) := by decide +kernel
theorem dX2_restore_28 : decode cX2_restore 28 = .ok (.aload_n 0, 1) := by decide +kernel
theorem dX2_restore_29 : decode cX2_restore 29 = .ok (.getfield 16, 3) := by decide +kernel
theorem dX2_restore_32 : decode cX2_restore 32 = .ok (.iadd, 1) := by decide +kernel
theorem dX2_restore_33 : decode cX2_restore 33 = .ok (.bipush 10, 2) := by decide +kernel
theorem dX2_restore_35 : decode cX2_restore 35 = .ok (.irem, 1) := by decide +kernel
theorem dX2_restore_36 : decode cX2_restore 36 = .ok (.aaload, 1) := by decide +kernel
theorem dX2_restore_37 : decode cX2_restore 37 = .ok (.invokevirtual 23, 3) := by decide +kernel
theorem dX2_restore_40 : decode cX2_restore 40 = .ok (.iconst 1, 1) := by decide +kernel
theorem dX2_restore_41 : decode cX2_restore 41 = .ok (.ireturn, 1) := by decide +kernel
theorem dX3_init_0 : decode cX3_init 0 = .ok (.aload_n 0, 1) := by decide +kernel
theorem dX3_init_1 : decode cX3_init 1 = .ok (.invokespecial 3, 3) := by decide +kernel
theorem dX3_init_4 : decode cX3_init 4 = .ok (.aload_n 0, 1) := by decide +kernel
theorem dX3_init_5 : decode cX3_init 5 = .ok (.bipush 7, 2) := by decide +kernel
theorem dX3_init_7 : decode cX3_init 7 = .ok (.newarray .int, 2) := by decide +kernel
theorem dX3_init_9 : decode cX3_init 9 = .ok (.putfield 9, 3) := by decide +kernel
theorem dX3_init_12 : decode cX3_init 12 = .ok (.aload_n 0, 1) := by decide +kernel
theorem dX3_init_13 : decode cX3_init 13 = .ok (.aload_n 1, 1) := by decide +kernel
theorem dX3_init_14 : decode cX3_init 14 = .ok (.putfield 15, 3) := by decide +kernel
theorem dX3_init_17 : decode cX3_init 17 = .ok (.return_, 1) := by decide +kernel
theorem dX3_search_0 : decode cX3_search 0 = .ok (.aload_n 0, 1) := by decide +kernel
theorem dX3_search_1 : decode cX3_search 1 = .ok (.iconst 0, 1) := by decide +kernel
theorem dX3_search_2 : decode cX3_search 2 = .ok (.putfield 19, 3) := by decide +kernel
theorem dX3_search_5 : decode cX3_search 5 = .ok (.aload_n 0, 1) := by decide +kernel
theorem dX3_search_6 : decode cX3_search 6 = .ok (.iconst 0, 1) := by decide +kernel
theorem dX3_search_7 : decode cX3_search 7 = .ok (.putfield 23, 3) := by decide +kernel
theorem dX3_search_10 : decode cX3_search 10 = .ok (.iconst 0, 1) := by decide +kernel
theorem dX3_search_11 : decode cX3_search 11 = .ok (.istore_n 2, 1) := by decide +kernel
theorem dX3_search_12 : decode cX3_search 12 = .ok (.iload_n 2, 1) := by decide +kernel
theorem dX3_search_13 : decode cX3_search 13 = .ok (.aload_n 0, 1) := by decide +kernel
theorem dX3_search_14 : decode cX3_search 14 = .ok (.getfield 15, 3) := by decide +kernel
theorem dX3_search_17 : decode cX3_search 17 = .ok (.getfield 26, 3) := by decide +kernel
theorem dX3_search_20 : decode cX3_search 20 = .ok (.if_icmp .ge 38, 3) := by decide +kernel
theorem dX3_search_23 : decode cX3_search 23 = .ok (.iload_n 2, 1) := by decide +kernel
theorem dX3_search_24 : decode cX3_search 24 = .ok (.aload_n 1, 1) := by decide +kernel
theorem dX3_search_25 : decode cX3_search 25 = .ok (.arraylength, 1) := by decide +kernel
theorem dX3_search_26 : decode cX3_search 26 = .ok (.if_icmp .ge 32, 3) := by decide +kernel
theorem dX3_search_29 : decode cX3_search 29 = .ok (.aload_n 0, 1) := by decide +kernel
theorem dX3_search_30 : decode cX3_search 30 = .ok (.getfield 9, 3) := by decide +kernel
theorem dX3_search_33 : decode cX3_search 33 = .ok (.iload_n 2, 1) := by decide +kernel
theorem dX3_search_34 : decode cX3_search 34 = .ok (.aload_n 1, 1) := by decide +kernel
theorem dX3_search_35 : decode cX3_search 35 = .ok (.iload_n 2, 1) := by decide +kernel
theorem dX3_search_36 : decode cX3_search 36 = .ok (.iaload, 1) := by decide +kernel
theorem dX3_search_37 : decode cX3_search 37 = .ok (.iastore, 1) := by decide +kernel
theorem dX3_search_38 : decode cX3_search 38 = .ok (.aload_n 0, 1) := by decide +kernel
theorem dX3_search_39 : decode cX3_search 39 = .ok (.dup, 1) := by decide +kernel
theorem dX3_search_40 : decode cX3_search 40 = .ok (.getfield 23, 3) := by decide +kernel
theorem dX3_search_43 : decode cX3_search 43 = .ok (.iconst 1, 1) := by decide +kernel
theorem dX3_search_44 : decode cX3_search 44 = .ok (.aload_n 1, 1) := by decide +kernel
theorem dX3_search_45 : decode cX3_search 45 = .ok (.iload_n 2, 1) := by decide +kernel
theorem dX3_search_46 : decode cX3_search 46 = .ok (.iaload, 1) := by decide +kernel
theorem dX3_search_47 : decode cX3_search 47 = .ok (.ishl, 1) := by decide +kernel
theorem dX3_search_48 : decode cX3_search 48 = .ok (.ior, 1) := by decide +kernel
theorem dX3_search_49 : decode cX3_search 49 = .ok (.putfield 23, 3) := by decide +kernel
theorem dX3_search_52 : decode cX3_search 52 = .ok (.iinc 2 1, 3) := by decide +kernel
theorem dX3_search_55 : decode cX3_search 55 = .ok (.goto (-43), 3) := by decide +kernel
theorem dX3_search_58 : decode cX3_search 58 = .ok (.iconst 0, 1) := by decide +kernel
theorem dX3_search_59 : decode cX3_search 59 = .ok (.istore_n 2, 1) := by decide +kernel
theorem dX3_search_60 : decode cX3_search 60 = .ok (.iload_n 2, 1) := by decide +kernel
theorem dX3_search_61 : decode cX3_search 61 = .ok (.aload_n 0, 1) := by decide +kernel
theorem dX3_search_62 : decode cX3_search 62 = .ok (.getfield 15, 3) := by decide +kernel
theorem dX3_search_65 : decode cX3_search 65 = .ok (.getfield 26, 3) := by decide +kernel
theorem dX3_search_68 : decode cX3_search 68 = .ok (.if_icmp .ge 19, 3) := by decide +kernel
theorem dX3_search_71 : decode cX3_search 71 = .ok (.aload_n 0, 1) := by decide +kernel
theorem dX3_search_72 : decode cX3_search 72 = .ok (.iload_n 2, 1) := by decide +kernel
theorem dX3_search_73 : decode cX3_search 73 = .ok (.iload_n 2, 1) := by decide +kernel
theorem dX3_search_74 : decode cX3_search 74 = .ok (.iconst 1, 1) := by decide +kernel
theorem dX3_search_75 : decode cX3_search 75 = .ok (.iload_n 2, 1) := by decide +kernel
theorem dX3_search_76 : decode cX3_search 76 = .ok (.ishl, 1) := by decide +kernel
theorem dX3_search_77 : decode cX3_search 77 = .ok (.lconst 0, 1) := by decide +kernel
theorem dX3_search_78 : decode cX3_search 78 = .ok (.invokestatic 31, 3) := by decide +kernel
theorem dX3_search_81 : decode cX3_search 81 = .ok (.iinc 2 1, 3) := by decide +kernel
theorem dX3_search_84 : decode cX3_search 84 = .ok (.goto (-24), 3) := by decide +kernel
theorem dX3_search_87 : decode cX3_search 87 = .ok (.aload_n 0, 1) := by decide +kernel
theorem dX3_search_88 : decode cX3_search 88 = .ok (.getfield 19, 3) := by decide +kernel
theorem dX3_search_91 : decode cX3_search 91 = .ok (.ifCond .eq 7, 3) := by decide +kernel
theorem dX3_search_94 : decode cX3_search 94 = .ok (.iconst 1, 1) := by decide +kernel
theorem dX3_search_95 : decode cX3_search 95 = .ok (.goto 4, 3) := by decide +kernel
theorem dX3_search_98 : decode cX3_search 98 = .ok (.iconst 0, 1) := by decide +kernel
theorem dX3_search_99 : decode cX3_search 99 = .ok (.ireturn, 1) := by decide +kernel
theorem dX3_extend_0 : decode cX3_extend 0 = .ok (.iload_n 3, 1) := by decide +kernel
theorem dX3_extend_1 : decode cX3_extend 1 = .ok (.invokestatic 35, 3) := by decide +kernel
theorem dX3_extend_4 : decode cX3_extend 4 = .ok (.aload_n 0, 1) := by decide +kernel
theorem dX3_extend_5 : decode cX3_extend 5 = .ok (.getfield 15, 3) := by decide +kernel
theorem dX3_extend_8 : decode cX3_extend 8 = .ok (.getfield 26, 3) := by decide +kernel
theorem dX3_extend_11 : decode cX3_extend 11 = .ok (.if_icmp .le 4, 3) := by decide +kernel
theorem dX3_extend_14 : decode cX3_extend 14 = .ok (.return_, 1) := by decide +kernel
theorem dX3_extend_15 : decode cX3_extend 15 = .ok (.iload_n 1, 1) := by decide +kernel
theorem dX3_extend_16 : decode cX3_extend 16 = .ok (.iload_n 2, 1) := by decide +kernel
theorem dX3_extend_17 : decode cX3_extend 17 = .ok (.if_icmp .eq 21, 3) := by decide +kernel
theorem dX3_extend_20 : decode cX3_extend 20 = .ok (.aload_n 0, 1) := by decide +kernel
theorem dX3_extend_21 : decode cX3_extend 21 = .ok (.iload_n 3, 1) := by decide +kernel
theorem dX3_extend_22 : decode cX3_extend 22 = .ok (.lload 4, 2) := by decide +kernel
theorem dX3_extend_24 : decode cX3_extend 24 = .ok (.aload_n 0, 1) := by decide +kernel
theorem dX3_extend_25 : decode cX3_extend 25 = .ok (.iload_n 2, 1) := by decide +kernel
theorem dX3_extend_26 : decode cX3_extend 26 = .ok (.aload_n 0, 1) := by decide +kernel
theorem dX3_extend_27 : decode cX3_extend 27 = .ok (.getfield 9, 3) := by decide +kernel
theorem dX3_extend_30 : decode cX3_extend 30 = .ok (.iload_n 1, 1) := by decide +kernel
theorem dX3_extend_31 : decode cX3_extend 31 = .ok (.iaload, 1) := by decide +kernel
theorem dX3_extend_32 : decode cX3_extend 32 = .ok (.invokevirtual 41, 3) := by decide +kernel
theorem dX3_extend_35 : decode cX3_extend 35 = .ok (.invokevirtual 45, 3) := by decide +kernel
theorem dX3_extend_38 : decode cX3_extend 38 = .ok (.iconst 0, 1) := by decide +kernel
theorem dX3_extend_39 : decode cX3_extend 39 = .ok (.istore 6, 2) := by decide +kernel
theorem dX3_extend_41 : decode cX3_extend 41 = .ok (.iload 6, 2) := by decide +kernel
theorem dX3_extend_43 : decode cX3_extend 43 = .ok (.aload_n 0, 1) := by decide +kernel
theorem dX3_extend_44 : decode cX3_extend 44 = .ok (.getfield 15, 3) := by decide +kernel
theorem dX3_extend_47 : decode cX3_extend 47 = .ok (.getfield 49, 3) := by decide +kernel
theorem dX3_extend_50 : decode cX3_extend 50 = .ok (.if_icmp .ge 35, 3) := by decide +kernel
theorem dX3_extend_53 : decode cX3_extend 53 = .ok (.aload_n 0, 1) := by decide +kernel
theorem dX3_extend_54 : decode cX3_extend 54 = .ok (.getfield 23, 3) := by decide +kernel
theorem dX3_extend_57 : decode cX3_extend 57 = .ok (.iload 6, 2) := by decide +kernel
theorem dX3_extend_59 : decode cX3_extend 59 = .ok (.ishr, 1) := by decide +kernel
theorem dX3_extend_60 : decode cX3_extend 60 = .ok (.iconst 1, 1) := by decide +kernel
theorem dX3_extend_61 : decode cX3_extend 61 = .ok (.iand, 1) := by decide +kernel
theorem dX3_extend_62 : decode cX3_extend 62 = .ok (.ifCond .ne 17, 3) := by decide +kernel
theorem dX3_extend_65 : decode cX3_extend 65 = .ok (.aload_n 0, 1) := by decide +kernel
theorem dX3_extend_66 : decode cX3_extend 66 = .ok (.iload_n 3, 1) := by decide +kernel
theorem dX3_extend_67 : decode cX3_extend 67 = .ok (.lload 4, 2) := by decide +kernel
theorem dX3_extend_69 : decode cX3_extend 69 = .ok (.aload_n 0, 1) := by decide +kernel
theorem dX3_extend_70 : decode cX3_extend 70 = .ok (.iload_n 2, 1) := by decide +kernel
theorem dX3_extend_71 : decode cX3_extend 71 = .ok (.iload 6, 2) := by decide +kernel
theorem dX3_extend_73 : decode cX3_extend 73 = .ok (.invokevirtual 41, 3) := by decide +kernel
theorem dX3_extend_76 : decode cX3_extend 76 = .ok (.invokevirtual 45, 3) := by decide +kernel
theorem dX3_extend_79 : decode cX3_extend 79 = .ok (.iinc 6 1, 3) := by decide +kernel
theorem dX3_extend_82 : decode cX3_extend 82 = .ok (.goto (-41), 3) := by decide +kernel
theorem dX3_extend_85 : decode cX3_extend 85 = .ok (.iconst 0, 1) := by decide +kernel
theorem dX3_extend_86 : decode cX3_extend 86 = .ok (.istore 6, 2) := by decide +kernel
theorem dX3_extend_88 : decode cX3_extend 88 = .ok (.iload 6, 2) := by decide +kernel
theorem dX3_extend_90 : decode cX3_extend 90 = .ok (.aload_n 0, 1) := by decide +kernel
theorem dX3_extend_91 : decode cX3_extend 91 = .ok (.getfield 15, 3) := by decide +kernel
theorem dX3_extend_94 : decode cX3_extend 94 = .ok (.getfield 26, 3) := by decide +kernel
theorem dX3_extend_97 : decode cX3_extend 97 = .ok (.if_icmp .ge 59, 3) := by decide +kernel
theorem dX3_extend_100 : decode cX3_extend 100 = .ok (.iload_n 3, 1) := by decide +kernel
theorem dX3_extend_101 : decode cX3_extend 101 = .ok (.iload 6, 2) := by decide +kernel
theorem dX3_extend_103 : decode cX3_extend 103 = .ok (.ishr, 1) := by decide +kernel
theorem dX3_extend_104 : decode cX3_extend 104 = .ok (.iconst 1, 1) := by decide +kernel
theorem dX3_extend_105 : decode cX3_extend 105 = .ok (.iand, 1) := by decide +kernel
theorem dX3_extend_106 : decode cX3_extend 106 = .ok (.ifCond .ne 44, 3) := by decide +kernel
theorem dX3_extend_109 : decode cX3_extend 109 = .ok (.aload_n 0, 1) := by decide +kernel
theorem dX3_extend_110 : decode cX3_extend 110 = .ok (.iload_n 2, 1) := by decide +kernel
theorem dX3_extend_111 : decode cX3_extend 111 = .ok (.aload_n 0, 1) := by decide +kernel
theorem dX3_extend_112 : decode cX3_extend 112 = .ok (.getfield 9, 3) := by decide +kernel
theorem dX3_extend_115 : decode cX3_extend 115 = .ok (.iload 6, 2) := by decide +kernel
theorem dX3_extend_117 : decode cX3_extend 117 = .ok (.iaload, 1) := by decide +kernel
theorem dX3_extend_118 : decode cX3_extend 118 = .ok (.invokevirtual 41, 3) := by decide +kernel
theorem dX3_extend_121 : decode cX3_extend 121 = .ok (.lstore 7, 2) := by decide +kernel
theorem dX3_extend_123 : decode cX3_extend 123 = .ok (.lload 7, 2) := by decide +kernel
theorem dX3_extend_125 : decode cX3_extend 125 = .ok (.ldc2_w 52, 3) := by decide +kernel
theorem dX3_extend_128 : decode cX3_extend 128 = .ok (.lcmp, 1) := by decide +kernel
theorem dX3_extend_129 : decode cX3_extend 129 = .ok (.ifCond .eq 21, 3) := by decide +kernel
theorem dX3_extend_132 : decode cX3_extend 132 = .ok (.aload_n 0, 1) := by decide +kernel
theorem dX3_extend_133 : decode cX3_extend 133 = .ok (.iload_n 1, 1) := by decide +kernel
theorem dX3_extend_134 : decode cX3_extend 134 = .ok (.iload 6, 2) := by decide +kernel
theorem dX3_extend_136 : decode cX3_extend 136 = .ok (.iload_n 3, 1) := by decide +kernel
theorem dX3_extend_137 : decode cX3_extend 137 = .ok (.iconst 1, 1) := by decide +kernel
theorem dX3_extend_138 : decode cX3_extend 138 = .ok (.iload 6, 2) := by decide +kernel
theorem dX3_extend_140 : decode cX3_extend 140 = .ok (.ishl, 1) := by decide +kernel
theorem dX3_extend_141 : decode cX3_extend 141 = .ok (.ior, 1) := by decide +kernel
theorem dX3_extend_142 : decode cX3_extend 142 = .ok (.lload 4, 2) := by decide +kernel
theorem dX3_extend_144 : decode cX3_extend 144 = .ok (.lload 7, 2) := by decide +kernel
theorem dX3_extend_146 : decode cX3_extend 146 = .ok (.ladd, 1) := by decide +kernel
theorem dX3_extend_147 : decode cX3_extend 147 = .ok (.invokestatic 31, 3) := by decide +kernel
theorem dX3_extend_150 : decode cX3_extend 150 = .ok (.iinc 6 1, 3) := by decide +kernel
theorem dX3_extend_153 : decode cX3_extend 153 = .ok (.goto (-65), 3) := by decide +kernel
theorem dX3_extend_156 : decode cX3_extend 156 = .ok (.return_, 1) := by decide +kernel
theorem dX3_shift_0 : decode cX3_shift 0 = .ok (.aload_n 0, 1) := by decide +kernel
theorem dX3_shift_1 : decode cX3_shift 1 = .ok (.getfield 15, 3) := by decide +kernel
theorem dX3_shift_4 : decode cX3_shift 4 = .ok (.iload_n 1, 1) := by decide +kernel
theorem dX3_shift_5 : decode cX3_shift 5 = .ok (.iload_n 2, 1) := by decide +kernel
theorem dX3_shift_6 : decode cX3_shift 6 = .ok (.invokevirtual 54, 3) := by decide +kernel
theorem dX3_shift_9 : decode cX3_shift 9 = .ok (.lstore_n 3, 1) := by decide +kernel
theorem dX3_shift_10 : decode cX3_shift 10 = .ok (.lload_n 3, 1) := by decide +kernel
theorem dX3_shift_11 : decode cX3_shift 11 = .ok (.ldc2_w 52, 3) := by decide +kernel
theorem dX3_shift_14 : decode cX3_shift 14 = .ok (.lcmp, 1) := by decide +kernel
theorem dX3_shift_15 : decode cX3_shift 15 = .ok (.ifCond .ne 9, 3) := by decide +kernel
theorem dX3_shift_18 : decode cX3_shift 18 = .ok (.ldc2_w 52, 3) := by decide +kernel
theorem dX3_shift_21 : decode cX3_shift 21 = .ok (.goto 19, 3) := by decide +kernel
theorem dX3_shift_24 : decode cX3_shift 24 = .ok (.lload_n 3, 1) := by decide +kernel
theorem dX3_shift_25 : decode cX3_shift 25 = .ok (.aload_n 0, 1) := by decide +kernel
theorem dX3_shift_26 : decode cX3_shift 26 = .ok (.getfield 15, 3) := by decide +kernel
theorem dX3_shift_29 : decode cX3_shift 29 = .ok (.iload_n 1, 1) := by decide +kernel
theorem dX3_shift_30 : decode cX3_shift 30 = .ok (.aload_n 0, 1) := by decide +kernel
theorem dX3_shift_31 : decode cX3_shift 31 = .ok (.getfield 9, 3) := by decide +kernel
theorem dX3_shift_34 : decode cX3_shift 34 = .ok (.iload_n 1, 1) := by decide +kernel
theorem dX3_shift_35 : decode cX3_shift 35 = .ok (.iaload, 1) := by decide +kernel
theorem dX3_shift_36 : decode cX3_shift 36 = .ok (.invokevirtual 54, 3) := by decide +kernel
theorem dX3_shift_39 : decode cX3_shift 39 = .ok (.lsub, 1) := by decide +kernel
theorem dX3_shift_40 : decode cX3_shift 40 = .ok (.lreturn, 1) := by decide +kernel
theorem dX3_offer_0 : decode cX3_offer 0 = .ok (.lload 4, 2) := by decide +kernel
theorem dX3_offer_2 : decode cX3_offer 2 = .ok (.ldc2_w 52, 3) := by decide +kernel
theorem dX3_offer_5 : decode cX3_offer 5 = .ok (.lcmp, 1) := by decide +kernel
theorem dX3_offer_6 : decode cX3_offer 6 = .ok (.ifCond .ne 4, 3) := by decide +kernel
theorem dX3_offer_9 : decode cX3_offer 9 = .ok (.return_, 1) := by decide +kernel
theorem dX3_offer_10 : decode cX3_offer 10 = .ok (.lload_n 2, 1) := by decide +kernel
theorem dX3_offer_11 : decode cX3_offer 11 = .ok (.lload 4, 2) := by decide +kernel
theorem dX3_offer_13 : decode cX3_offer 13 = .ok (.ladd, 1) := by decide +kernel
theorem dX3_offer_14 : decode cX3_offer 14 = .ok (.lstore 6, 2) := by decide +kernel
theorem dX3_offer_16 : decode cX3_offer 16 = .ok (.aload_n 0, 1) := by decide +kernel
theorem dX3_offer_17 : decode cX3_offer 17 = .ok (.getfield 19, 3) := by decide +kernel
theorem dX3_offer_20 : decode cX3_offer 20 = .ok (.ifCond .eq 34, 3) := by decide +kernel
theorem dX3_offer_23 : decode cX3_offer 23 = .ok (.lload 6, 2) := by decide +kernel
theorem dX3_offer_25 : decode cX3_offer 25 = .ok (.aload_n 0, 1) := by decide +kernel
theorem dX3_offer_26 : decode cX3_offer 26 = .ok (.getfield 57, 3) := by decide +kernel
theorem dX3_offer_29 : decode cX3_offer 29 = .ok (.lcmp, 1) := by decide +kernel
theorem dX3_offer_30 : decode cX3_offer 30 = .ok (.ifCond .lt 24, 3) := by decide +kernel
theorem dX3_offer_33 : decode cX3_offer 33 = .ok (.lload 6, 2) := by decide +kernel
theorem dX3_offer_35 : decode cX3_offer 35 = .ok (.aload_n 0, 1) := by decide +kernel
theorem dX3_offer_36 : decode cX3_offer 36 = .ok (.getfield 57, 3) := by decide +kernel
theorem dX3_offer_39 : decode cX3_offer 39 = .ok (.lcmp, 1) := by decide +kernel
theorem dX3_offer_40 : decode cX3_offer 40 = .ok (.ifCond .ne 25, 3) := by decide +kernel
theorem dX3_offer_43 : decode cX3_offer 43 = .ok (.iload_n 1, 1) := by decide +kernel
theorem dX3_offer_44 : decode cX3_offer 44 = .ok (.aload_n 0, 1) := by decide +kernel
theorem dX3_offer_45 : decode cX3_offer 45 = .ok (.getfield 19, 3) := by decide +kernel
theorem dX3_offer_48 : decode cX3_offer 48 = .ok (.invokestatic 61, 3) := by decide +kernel
theorem dX3_offer_51 : decode cX3_offer 51 = .ok (.ifCond .eq 14, 3) := by decide +kernel
theorem dX3_offer_54 : decode cX3_offer 54 = .ok (.aload_n 0, 1) := by decide +kernel
theorem dX3_offer_55 : decode cX3_offer 55 = .ok (.lload 6, 2) := by decide +kernel
theorem dX3_offer_57 : decode cX3_offer 57 = .ok (.putfield 57, 3) := by decide +kernel
theorem dX3_offer_60 : decode cX3_offer 60 = .ok (.aload_n 0, 1) := by decide +kernel
theorem dX3_offer_61 : decode cX3_offer 61 = .ok (.iload_n 1, 1) := by decide +kernel
theorem dX3_offer_62 : decode cX3_offer 62 = .ok (.putfield 19, 3) := by decide +kernel
theorem dX3_offer_65 : decode cX3_offer 65 = .ok (.return_, 1) := by decide +kernel
theorem dX3_comesBefore_0 : decode cX3_comesBefore 0 = .ok (.iload_n 0, 1) := by decide +kernel
theorem dX3_comesBefore_1 : decode cX3_comesBefore 1 = .ok (.invokestatic 35, 3) := by decide +kernel
theorem dX3_comesBefore_4 : decode cX3_comesBefore 4 = .ok (.istore_n 2, 1) := by decide +kernel
theorem dX3_comesBefore_5 : decode cX3_comesBefore 5 = .ok (.iload_n 1, 1) := by decide +kernel
theorem dX3_comesBefore_6 : decode cX3_comesBefore 6 = .ok (.invokestatic 35, 3) := by decide +kernel
theorem dX3_comesBefore_9 : decode cX3_comesBefore 9 = .ok (.istore_n 3, 1) := by decide +kernel
theorem dX3_comesBefore_10 : decode cX3_comesBefore 10 = .ok (.iload_n 2, 1) := by decide +kernel
theorem dX3_comesBefore_11 : decode cX3_comesBefore 11 = .ok (.iload_n 3, 1) := by decide +kernel
theorem dX3_comesBefore_12 : decode cX3_comesBefore 12 = .ok (.if_icmp .lt 13, 3) := by decide +kernel
theorem dX3_comesBefore_15 : decode cX3_comesBefore 15 = .ok (.iload_n 2, 1) := by decide +kernel
theorem dX3_comesBefore_16 : decode cX3_comesBefore 16 = .ok (.iload_n 3, 1) := by decide +kernel
theorem dX3_comesBefore_17 : decode cX3_comesBefore 17 = .ok (.if_icmp .ne 12, 3) := by decide +kernel
theorem dX3_comesBefore_20 : decode cX3_comesBefore 20 = .ok (.iload_n 0, 1) := by decide +kernel
theorem dX3_comesBefore_21 : decode cX3_comesBefore 21 = .ok (.iload_n 1, 1) := by decide +kernel
theorem dX3_comesBefore_22 : decode cX3_comesBefore 22 = .ok (.if_icmp .ge 7, 3) := by decide +kernel
theorem dX3_comesBefore_25 : decode cX3_comesBefore 25 = .ok (.iconst 1, 1) := by decide +kernel
theorem dX3_comesBefore_26 : decode cX3_comesBefore 26 = .ok (.goto 4, 3) := by decide +kernel
theorem dX3_comesBefore_29 : decode cX3_comesBefore 29 = .ok (.iconst 0, 1) := by decide +kernel
theorem dX3_comesBefore_30 : decode cX3_comesBefore 30 = .ok (.ireturn, 1) := by decide +kernel
theorem dX4_init_0 : decode cX4_init 0 = .ok (.aload_n 0, 1) := by decide +kernel
theorem dX4_init_1 : decode cX4_init 1 = .ok (.invokespecial 3, 3) := by decide +kernel
theorem dX4_init_4 : decode cX4_init 4 = .ok (.aload_n 0, 1) := by decide +kernel
theorem dX4_init_5 : decode cX4_init 5 = .ok (.sipush 200, 3) := by decide +kernel
theorem dX4_init_8 : decode cX4_init 8 = .ok (.newarray .int, 2) := by decide +kernel
theorem dX4_init_10 : decode cX4_init 10 = .ok (.putfield 9, 3) := by decide +kernel
theorem dX4_init_13 : decode cX4_init 13 = .ok (.aload_n 0, 1) := by decide +kernel
theorem dX4_init_14 : decode cX4_init 14 = .ok (.sipush 200, 3) := by decide +kernel
theorem dX4_init_17 : decode cX4_init 17 = .ok (.newarray .long, 2) := by decide +kernel
theorem dX4_init_19 : decode cX4_init 19 = .ok (.putfield 15, 3) := by decide +kernel
theorem dX4_init_22 : decode cX4_init 22 = .ok (.aload_n 0, 1) := by decide +kernel
theorem dX4_init_23 : decode cX4_init 23 = .ok (.bipush 64, 2) := by decide +kernel
theorem dX4_init_25 : decode cX4_init 25 = .ok (.newarray .int, 2) := by decide +kernel
theorem dX4_init_27 : decode cX4_init 27 = .ok (.putfield 19, 3) := by decide +kernel
theorem dX4_init_30 : decode cX4_init 30 = .ok (.aload_n 0, 1) := by decide +kernel
theorem dX4_init_31 : decode cX4_init 31 = .ok (.aload_n 1, 1) := by decide +kernel
theorem dX4_init_32 : decode cX4_init 32 = .ok (.putfield 22, 3) := by decide +kernel
theorem dX4_init_35 : decode cX4_init 35 = .ok (.aload_n 0, 1) := by decide +kernel
theorem dX4_init_36 : decode cX4_init 36 = .ok (.aload_n 2, 1) := by decide +kernel
theorem dX4_init_37 : decode cX4_init 37 = .ok (.putfield 26, 3) := by decide +kernel
theorem dX4_init_40 : decode cX4_init 40 = .ok (.return_, 1) := by decide +kernel
theorem dX4_forget_0 : decode cX4_forget 0 = .ok (.aload_n 0, 1) := by decide +kernel
theorem dX4_forget_1 : decode cX4_forget 1 = .ok (.iconst 0, 1) := by decide +kernel
theorem dX4_forget_2 : decode cX4_forget 2 = .ok (.putfield 30, 3) := by decide +kernel
theorem dX4_forget_5 : decode cX4_forget 5 = .ok (.return_, 1) := by decide +kernel
theorem dX4_sumOf_0 : decode cX4_sumOf 0 = .ok (.iload_n 1, 1) := by decide +kernel
theorem dX4_sumOf_1 : decode cX4_sumOf 1 = .ok (.ifCond .ne 11, 3) := by decide +kernel
theorem dX4_sumOf_4 : decode cX4_sumOf 4 = .ok (.aload_n 0, 1) := by decide +kernel
theorem dX4_sumOf_5 : decode cX4_sumOf 5 = .ok (.getfield 26, 3) := by decide +kernel
theorem dX4_sumOf_8 : decode cX4_sumOf 8 = .ok (.invokevirtual 34, 3) := by decide +kernel
theorem dX4_sumOf_11 : decode cX4_sumOf 11 = .ok (.lreturn, 1) := by decide +kernel
theorem dX4_sumOf_12 : decode cX4_sumOf 12 = .ok (.aload_n 0, 1) := by decide +kernel
theorem dX4_sumOf_13 : decode cX4_sumOf 13 = .ok (.invokevirtual 40, 3) := by decide +kernel
theorem dX4_sumOf_16 : decode cX4_sumOf 16 = .ok (.iload_n 1, 1) := by decide +kernel
theorem dX4_sumOf_17 : decode cX4_sumOf 17 = .ok (.ifCond .le 20, 3) := by decide +kernel
theorem dX4_sumOf_20 : decode cX4_sumOf 20 = .ok (.iload_n 1, 1) := by decide +kernel
theorem dX4_sumOf_21 : decode cX4_sumOf 21 = .ok (.aload_n 0, 1) := by decide +kernel
theorem dX4_sumOf_22 : decode cX4_sumOf 22 = .ok (.getfield 43, 3) := by decide +kernel
theorem dX4_sumOf_25 : decode cX4_sumOf 25 = .ok (.if_icmp .ge 12, 3) := by decide +kernel
theorem dX4_sumOf_28 : decode cX4_sumOf 28 = .ok (.aload_n 0, 1) := by decide +kernel
theorem dX4_sumOf_29 : decode cX4_sumOf 29 = .ok (.getfield 15, 3) := by decide +kernel
theorem dX4_sumOf_32 : decode cX4_sumOf 32 = .ok (.iload_n 1, 1) := by decide +kernel
theorem dX4_sumOf_33 : decode cX4_sumOf 33 = .ok (.laload, 1) := by decide +kernel
theorem dX4_sumOf_34 : decode cX4_sumOf 34 = .ok (.goto 6, 3) := by decide +kernel
theorem dX4_sumOf_37 : decode cX4_sumOf 37 = .ok (.ldc2_w 47, 3) := by decide +kernel
theorem dX4_sumOf_40 : decode cX4_sumOf 40 = .ok (.lreturn, 1) := by decide +kernel
theorem dX4_lay_0 : decode cX4_lay 0 = .ok (.iload_n 1, 1) := by decide +kernel
theorem dX4_lay_1 : decode cX4_lay 1 = .ok (.ifCond .ne 12, 3) := by decide +kernel
theorem dX4_lay_4 : decode cX4_lay 4 = .ok (.aload_n 0, 1) := by decide +kernel
theorem dX4_lay_5 : decode cX4_lay 5 = .ok (.getfield 26, 3) := by decide +kernel
theorem dX4_lay_8 : decode cX4_lay 8 = .ok (.aload_n 2, 1) := by decide +kernel
theorem dX4_lay_9 : decode cX4_lay 9 = .ok (.invokevirtual 49, 3) := by decide +kernel
theorem dX4_lay_12 : decode cX4_lay 12 = .ok (.ireturn, 1) := by decide +kernel
theorem dX4_lay_13 : decode cX4_lay 13 = .ok (.aload_n 0, 1) := by decide +kernel
theorem dX4_lay_14 : decode cX4_lay 14 = .ok (.invokevirtual 40, 3) := by decide +kernel
theorem dX4_lay_17 : decode cX4_lay 17 = .ok (.iload_n 1, 1) := by decide +kernel
theorem dX4_lay_18 : decode cX4_lay 18 = .ok (.ifCond .le 32, 3) := by decide +kernel
theorem dX4_lay_21 : decode cX4_lay 21 = .ok (.iload_n 1, 1) := by decide +kernel
theorem dX4_lay_22 : decode cX4_lay 22 = .ok (.aload_n 0, 1) := by decide +kernel
theorem dX4_lay_23 : decode cX4_lay 23 = .ok (.getfield 43, 3) := by decide +kernel
theorem dX4_lay_26 : decode cX4_lay 26 = .ok (.if_icmp .ge 24, 3) := by decide +kernel
theorem dX4_lay_29 : decode cX4_lay 29 = .ok (.aload_n 0, 1) := by decide +kernel
theorem dX4_lay_30 : decode cX4_lay 30 = .ok (.getfield 22, 3) := by decide +kernel
theorem dX4_lay_33 : decode cX4_lay 33 = .ok (.aload_n 0, 1) := by decide +kernel
theorem dX4_lay_34 : decode cX4_lay 34 = .ok (.getfield 9, 3) := by decide +kernel
theorem dX4_lay_37 : decode cX4_lay 37 = .ok (.iload_n 1, 1) := by decide +kernel
theorem dX4_lay_38 : decode cX4_lay 38 = .ok (.iaload, 1) := by decide +kernel
theorem dX4_lay_39 : decode cX4_lay 39 = .ok (.aload_n 2, 1) := by decide +kernel
theorem dX4_lay_40 : decode cX4_lay 40 = .ok (.invokevirtual 53, 3) := by decide +kernel
theorem dX4_lay_43 : decode cX4_lay 43 = .ok (.ifCond .eq 7, 3) := by decide +kernel
theorem dX4_lay_46 : decode cX4_lay 46 = .ok (.iconst 1, 1) := by decide +kernel
theorem dX4_lay_47 : decode cX4_lay 47 = .ok (.goto 4, 3) := by decide +kernel
theorem dX4_lay_50 : decode cX4_lay 50 = .ok (.iconst 0, 1) := by decide +kernel
theorem dX4_lay_51 : decode cX4_lay 51 = .ok (.ireturn, 1) := by decide +kernel
theorem dX4_with_0 : decode cX4_with 0 = .ok (.aload_n 0, 1) := by decide +kernel
theorem dX4_with_1 : decode cX4_with 1 = .ok (.invokevirtual 40, 3) := by decide +kernel
theorem dX4_with_4 : decode cX4_with 4 = .ok (.iconst 3, 1) := by decide +kernel
theorem dX4_with_5 : decode cX4_with 5 = .ok (.aload_n 0, 1) := by decide +kernel
theorem dX4_with_6 : decode cX4_with 6 = .ok (.getfield 22, 3) := by decide +kernel
theorem dX4_with_9 : decode cX4_with 9 = .ok (.getfield 59, 3) := by decide +kernel
theorem dX4_with_12 : decode cX4_with 12 = .ok (.iconst 1, 1) := by decide +kernel
theorem dX4_with_13 : decode cX4_with 13 = .ok (.isub, 1) := by decide +kernel
theorem dX4_with_14 : decode cX4_with 14 = .ok (.iload_n 1, 1) := by decide +kernel
theorem dX4_with_15 : decode cX4_with 15 = .ok (.isub, 1) := by decide +kernel
theorem dX4_with_16 : decode cX4_with 16 = .ok (.imul, 1) := by decide +kernel
theorem dX4_with_17 : decode cX4_with 17 = .ok (.istore 4, 2) := by decide +kernel
theorem dX4_with_19 : decode cX4_with 19 = .ok (.iconst 0, 1) := by decide +kernel
theorem dX4_with_20 : decode cX4_with 20 = .ok (.istore 5, 2) := by decide +kernel
theorem dX4_with_22 : decode cX4_with 22 = .ok (.iconst 0, 1) := by decide +kernel
theorem dX4_with_23 : decode cX4_with 23 = .ok (.istore 6, 2) := by decide +kernel
theorem dX4_with_25 : decode cX4_with 25 = .ok (.iload 6, 2) := by decide +kernel
theorem dX4_with_27 : decode cX4_with 27 = .ok (.iload_n 3, 1) := by decide +kernel
theorem dX4_with_28 : decode cX4_with 28 = .ok (.if_icmp .ge 38, 3) := by decide +kernel
theorem dX4_with_31 : decode cX4_with 31 = .ok (.iload 6, 2) := by decide +kernel
theorem dX4_with_33 : decode cX4_with 33 = .ok (.aload_n 0, 1) := by decide +kernel
theorem dX4_with_34 : decode cX4_with 34 = .ok (.getfield 43, 3) := by decide +kernel
theorem dX4_with_37 : decode cX4_with 37 = .ok (.if_icmp .ge 29, 3) := by decide +kernel
theorem dX4_with_40 : decode cX4_with 40 = .ok (.aload_n 0, 1) := by decide +kernel
theorem dX4_with_41 : decode cX4_with 41 = .ok (.getfield 9, 3) := by decide +kernel
theorem dX4_with_44 : decode cX4_with 44 = .ok (.iload 6, 2) := by decide +kernel
theorem dX4_with_46 : decode cX4_with 46 = .ok (.iaload, 1) := by decide +kernel
theorem dX4_with_47 : decode cX4_with 47 = .ok (.iload 4, 2) := by decide +kernel
theorem dX4_with_49 : decode cX4_with 49 = .ok (.ishr, 1) := by decide +kernel
theorem dX4_with_50 : decode cX4_with 50 = .ok (.bipush 7, 2) := by decide +kernel
theorem dX4_with_52 : decode cX4_with 52 = .ok (.iand, 1) := by decide +kernel
theorem dX4_with_53 : decode cX4_with 53 = .ok (.iload_n 2, 1) := by decide +kernel
theorem dX4_with_54 : decode cX4_with 54 = .ok (.if_icmp .ne 6, 3) := by decide +kernel
theorem dX4_with_57 : decode cX4_with 57 = .ok (.iinc 5 1, 3) := by decide +kernel
theorem dX4_with_60 : decode cX4_with 60 = .ok (.iinc 6 1, 3) := by decide +kernel
theorem dX4_with_63 : decode cX4_with 63 = .ok (.goto (-38), 3) := by decide +kernel
theorem dX4_with_66 : decode cX4_with 66 = .ok (.iload 5, 2) := by decide +kernel
theorem dX4_with_68 : decode cX4_with 68 = .ok (.ireturn, 1) := by decide +kernel
theorem dX4_sumAt_0 : decode cX4_sumAt 0 = .ok (.aload_n 0, 1) := by decide +kernel
theorem dX4_sumAt_1 : decode cX4_sumAt 1 = .ok (.getfield 26, 3) := by decide +kernel
theorem dX4_sumAt_4 : decode cX4_sumAt 4 = .ok (.getfield 62, 3) := by decide +kernel
theorem dX4_sumAt_7 : decode cX4_sumAt 7 = .ok (.iconst 0, 1) := by decide +kernel
theorem dX4_sumAt_8 : decode cX4_sumAt 8 = .ok (.laload, 1) := by decide +kernel
theorem dX4_sumAt_9 : decode cX4_sumAt 9 = .ok (.lstore_n 2, 1) := by decide +kernel
theorem dX4_sumAt_10 : decode cX4_sumAt 10 = .ok (.aload_n 0, 1) := by decide +kernel
theorem dX4_sumAt_11 : decode cX4_sumAt 11 = .ok (.getfield 26, 3) := by decide +kernel
theorem dX4_sumAt_14 : decode cX4_sumAt 14 = .ok (.getfield 65, 3) := by decide +kernel
theorem dX4_sumAt_17 : decode cX4_sumAt 17 = .ok (.iconst 0, 1) := by decide +kernel
theorem dX4_sumAt_18 : decode cX4_sumAt 18 = .ok (.laload, 1) := by decide +kernel
theorem dX4_sumAt_19 : decode cX4_sumAt 19 = .ok (.lload_n 2, 1) := by decide +kernel
theorem dX4_sumAt_20 : decode cX4_sumAt 20 = .ok (.lsub, 1) := by decide +kernel
theorem dX4_sumAt_21 : decode cX4_sumAt 21 = .ok (.lstore 4, 2) := by decide +kernel
theorem dX4_sumAt_23 : decode cX4_sumAt 23 = .ok (.aload_n 0, 1) := by decide +kernel
theorem dX4_sumAt_24 : decode cX4_sumAt 24 = .ok (.iload_n 1, 1) := by decide +kernel
theorem dX4_sumAt_25 : decode cX4_sumAt 25 = .ok (.putfield 68, 3) := by decide +kernel
theorem dX4_sumAt_28 : decode cX4_sumAt 28 = .ok (.aload_n 0, 1) := by decide +kernel
theorem dX4_sumAt_29 : decode cX4_sumAt 29 = .ok (.iconst 0, 1) := by decide +kernel
theorem dX4_sumAt_30 : decode cX4_sumAt 30 = .ok (.putfield 71, 3) := by decide +kernel
theorem dX4_sumAt_33 : decode cX4_sumAt 33 = .ok (.aload_n 0, 1) := by decide +kernel
theorem dX4_sumAt_34 : decode cX4_sumAt 34 = .ok (.getfield 71, 3) := by decide +kernel
theorem dX4_sumAt_37 : decode cX4_sumAt 37 = .ok (.bipush 12, 2) := by decide +kernel
theorem dX4_sumAt_39 : decode cX4_sumAt 39 = .ok (.if_icmp .ge 30, 3) := by decide +kernel
theorem dX4_sumAt_42 : decode cX4_sumAt 42 = .ok (.lload 4, 2) := by decide +kernel
theorem dX4_sumAt_44 : decode cX4_sumAt 44 = .ok (.aload_n 0, 1) := by decide +kernel
theorem dX4_sumAt_45 : decode cX4_sumAt 45 = .ok (.getfield 71, 3) := by decide +kernel
theorem dX4_sumAt_48 : decode cX4_sumAt 48 = .ok (.lshr, 1) := by decide +kernel
theorem dX4_sumAt_49 : decode cX4_sumAt 49 = .ok (.ldc2_w 74, 3) := by decide +kernel
theorem dX4_sumAt_52 : decode cX4_sumAt 52 = .ok (.lcmp, 1) := by decide +kernel
theorem dX4_sumAt_53 : decode cX4_sumAt 53 = .ok (.ifCond .lt 16, 3) := by decide +kernel
theorem dX4_sumAt_56 : decode cX4_sumAt 56 = .ok (.aload_n 0, 1) := by decide +kernel
theorem dX4_sumAt_57 : decode cX4_sumAt 57 = .ok (.dup, 1) := by decide +kernel
theorem dX4_sumAt_58 : decode cX4_sumAt 58 = .ok (.getfield 71, 3) := by decide +kernel
theorem dX4_sumAt_61 : decode cX4_sumAt 61 = .ok (.iconst 1, 1) := by decide +kernel
theorem dX4_sumAt_62 : decode cX4_sumAt 62 = .ok (.iadd, 1) := by decide +kernel
theorem dX4_sumAt_63 : decode cX4_sumAt 63 = .ok (.putfield 71, 3) := by decide +kernel
theorem dX4_sumAt_66 : decode cX4_sumAt 66 = .ok (.goto (-33), 3) := by decide +kernel
theorem dX4_sumAt_69 : decode cX4_sumAt 69 = .ok (.iconst 0, 1) := by decide +kernel
theorem dX4_sumAt_70 : decode cX4_sumAt 70 = .ok (.istore 6, 2) := by decide +kernel
theorem dX4_sumAt_72 : decode cX4_sumAt 72 = .ok (.iload 6, 2) := by decide +kernel
theorem dX4_sumAt_74 : decode cX4_sumAt 74 = .ok (.iconst 3, 1) := by decide +kernel
theorem dX4_sumAt_75 : decode cX4_sumAt 75 = .ok (.if_icmp .ge 56, 3) := by decide +kernel
theorem dX4_sumAt_78 : decode cX4_sumAt 78 = .ok (.lload 4, 2) := by decide +kernel
theorem dX4_sumAt_80 : decode cX4_sumAt 80 = .ok (.lconst 0, 1) := by decide +kernel
theorem dX4_sumAt_81 : decode cX4_sumAt 81 = .ok (.lcmp, 1) := by decide +kernel
theorem dX4_sumAt_82 : decode cX4_sumAt 82 = .ok (.ifCond .le 49, 3) := by decide +kernel
theorem dX4_sumAt_85 : decode cX4_sumAt 85 = .ok (.lload_n 2, 1) := by decide +kernel
theorem dX4_sumAt_86 : decode cX4_sumAt 86 = .ok (.aload_n 0, 1) := by decide +kernel
theorem dX4_sumAt_87 : decode cX4_sumAt 87 = .ok (.lload_n 2, 1) := by decide +kernel
theorem dX4_sumAt_88 : decode cX4_sumAt 88 = .ok (.invokevirtual 76, 3) := by decide +kernel
theorem dX4_sumAt_91 : decode cX4_sumAt 91 = .ok (.i2l, 1) := by decide +kernel
theorem dX4_sumAt_92 : decode cX4_sumAt 92 = .ok (.aload_n 0, 1) := by decide +kernel
theorem dX4_sumAt_93 : decode cX4_sumAt 93 = .ok (.getfield 71, 3) := by decide +kernel
theorem dX4_sumAt_96 : decode cX4_sumAt 96 = .ok (.lshl, 1) := by decide +kernel
theorem dX4_sumAt_97 : decode cX4_sumAt 97 = .ok (.ladd, 1) := by decide +kernel
theorem dX4_sumAt_98 : decode cX4_sumAt 98 = .ok (.lstore_n 2, 1) := by decide +kernel
theorem dX4_sumAt_99 : decode cX4_sumAt 99 = .ok (.iconst 1, 1) := by decide +kernel
theorem dX4_sumAt_100 : decode cX4_sumAt 100 = .ok (.aload_n 0, 1) := by decide +kernel
theorem dX4_sumAt_101 : decode cX4_sumAt 101 = .ok (.getfield 71, 3) := by decide +kernel
theorem dX4_sumAt_104 : decode cX4_sumAt 104 = .ok (.ishl, 1) := by decide +kernel
theorem dX4_sumAt_105 : decode cX4_sumAt 105 = .ok (.iconst 1, 1) := by decide +kernel
theorem dX4_sumAt_106 : decode cX4_sumAt 106 = .ok (.isub, 1) := by decide +kernel
theorem dX4_sumAt_107 : decode cX4_sumAt 107 = .ok (.i2l, 1) := by decide +kernel
theorem dX4_sumAt_108 : decode cX4_sumAt 108 = .ok (.lstore 4, 2) := by decide +kernel
theorem dX4_sumAt_110 : decode cX4_sumAt 110 = .ok (.aload_n 0, 1) := by decide +kernel
theorem dX4_sumAt_111 : decode cX4_sumAt 111 = .ok (.iconst 0, 1) := by decide +kernel
theorem dX4_sumAt_112 : decode cX4_sumAt 112 = .ok (.aload_n 0, 1) := by decide +kernel
theorem dX4_sumAt_113 : decode cX4_sumAt 113 = .ok (.getfield 71, 3) := by decide +kernel
theorem dX4_sumAt_116 : decode cX4_sumAt 116 = .ok (.bipush 6, 2) := by decide +kernel
theorem dX4_sumAt_118 : decode cX4_sumAt 118 = .ok (.isub, 1) := by decide +kernel
theorem dX4_sumAt_119 : decode cX4_sumAt 119 = .ok (.invokestatic 80, 3) := by decide +kernel
theorem dX4_sumAt_122 : decode cX4_sumAt 122 = .ok (.putfield 71, 3) := by decide +kernel
theorem dX4_sumAt_125 : decode cX4_sumAt 125 = .ok (.iinc 6 1, 3) := by decide +kernel
theorem dX4_sumAt_128 : decode cX4_sumAt 128 = .ok (.goto (-56), 3) := by decide +kernel
theorem dX4_sumAt_131 : decode cX4_sumAt 131 = .ok (.lload_n 2, 1) := by decide +kernel
theorem dX4_sumAt_132 : decode cX4_sumAt 132 = .ok (.lreturn, 1) := by decide +kernel
theorem dX4_partOfSkipped_0 : decode cX4_partOfSkipped 0 = .ok (.iconst 0, 1) := by decide +kernel
theorem dX4_partOfSkipped_1 : decode cX4_partOfSkipped 1 = .ok (.istore_n 3, 1) := by decide +kernel
theorem dX4_partOfSkipped_2 : decode cX4_partOfSkipped 2 = .ok (.iload_n 3, 1) := by decide +kernel
theorem dX4_partOfSkipped_3 : decode cX4_partOfSkipped 3 = .ok (.bipush 64, 2) := by decide +kernel
theorem dX4_partOfSkipped_5 : decode cX4_partOfSkipped 5 = .ok (.if_icmp .ge 16, 3) := by decide +kernel
theorem dX4_partOfSkipped_8 : decode cX4_partOfSkipped 8 = .ok (.aload_n 0, 1) := by decide +kernel
theorem dX4_partOfSkipped_9 : decode cX4_partOfSkipped 9 = .ok (.getfield 19, 3) := by decide +kernel
theorem dX4_partOfSkipped_12 : decode cX4_partOfSkipped 12 = .ok (.iload_n 3, 1) := by decide +kernel
theorem dX4_partOfSkipped_13 : decode cX4_partOfSkipped 13 = .ok (.iconst 0, 1) := by decide +kernel
theorem dX4_partOfSkipped_14 : decode cX4_partOfSkipped 14 = .ok (.iastore, 1) := by decide +kernel
theorem dX4_partOfSkipped_15 : decode cX4_partOfSkipped 15 = .ok (.iinc 3 1, 3) := by decide +kernel
theorem dX4_partOfSkipped_18 : decode cX4_partOfSkipped 18 = .ok (.goto (-16), 3) := by decide +kernel
theorem dX4_partOfSkipped_21 : decode cX4_partOfSkipped 21 = .ok (.aload_n 0, 1) := by decide +kernel
theorem dX4_partOfSkipped_22 : decode cX4_partOfSkipped 22 = .ok (.bipush 63, 2) := by decide +kernel
theorem dX4_partOfSkipped_24 : decode cX4_partOfSkipped 24 = .ok (.putfield 86, 3) := by decide +kernel
theorem dX4_partOfSkipped_27 : decode cX4_partOfSkipped 27 = .ok (.aload_n 0, 1) := by decide +kernel
theorem dX4_partOfSkipped_28 : decode cX4_partOfSkipped 28 = .ok (.iconst 0, 1) := by decide +kernel
theorem dX4_partOfSkipped_29 : decode cX4_partOfSkipped 29 = .ok (.putfield 89, 3) := by decide +kernel
theorem dX4_partOfSkipped_32 : decode cX4_partOfSkipped 32 = .ok (.aload_n 0, 1) := by decide +kernel
theorem dX4_partOfSkipped_33 : decode cX4_partOfSkipped 33 = .ok (.iconst 0, 1) := by decide +kernel
theorem dX4_partOfSkipped_34 : decode cX4_partOfSkipped 34 = .ok (.iconst 0, 1) := by decide +kernel
theorem dX4_partOfSkipped_35 : decode cX4_partOfSkipped 35 = .ok (.lload_n 1, 1) := by decide +kernel
theorem dX4_partOfSkipped_36 : decode cX4_partOfSkipped 36 = .ok (.lneg, 1) := by decide +kernel
theorem dX4_partOfSkipped_37 : decode cX4_partOfSkipped 37 = .ok (.invokestatic 92, 3) := by decide +kernel
theorem dX4_partOfSkipped_40 : decode cX4_partOfSkipped 40 = .ok (.iconst 0, 1) := by decide +kernel
theorem dX4_partOfSkipped_41 : decode cX4_partOfSkipped 41 = .ok (.istore_n 3, 1) := by decide +kernel
theorem dX4_partOfSkipped_42 : decode cX4_partOfSkipped 42 = .ok (.iload_n 3, 1) := by decide +kernel
theorem dX4_partOfSkipped_43 : decode cX4_partOfSkipped 43 = .ok (.bipush 63, 2) := by decide +kernel
theorem dX4_partOfSkipped_45 : decode cX4_partOfSkipped 45 = .ok (.if_icmp .ge 37, 3) := by decide +kernel
theorem dX4_partOfSkipped_48 : decode cX4_partOfSkipped 48 = .ok (.aload_n 0, 1) := by decide +kernel
theorem dX4_partOfSkipped_49 : decode cX4_partOfSkipped 49 = .ok (.getfield 68, 3) := by decide +kernel
theorem dX4_partOfSkipped_52 : decode cX4_partOfSkipped 52 = .ok (.aload_n 0, 1) := by decide +kernel
theorem dX4_partOfSkipped_53 : decode cX4_partOfSkipped 53 = .ok (.getfield 19, 3) := by decide +kernel
theorem dX4_partOfSkipped_56 : decode cX4_partOfSkipped 56 = .ok (.iload_n 3, 1) := by decide +kernel
theorem dX4_partOfSkipped_57 : decode cX4_partOfSkipped 57 = .ok (.iaload, 1) := by decide +kernel
theorem dX4_partOfSkipped_58 : decode cX4_partOfSkipped 58 = .ok (.if_icmp .lt 24, 3) := by decide +kernel
theorem dX4_partOfSkipped_61 : decode cX4_partOfSkipped 61 = .ok (.aload_n 0, 1) := by decide +kernel
theorem dX4_partOfSkipped_62 : decode cX4_partOfSkipped 62 = .ok (.dup, 1) := by decide +kernel
theorem dX4_partOfSkipped_63 : decode cX4_partOfSkipped 63 = .ok (.getfield 68, 3) := by decide +kernel
theorem dX4_partOfSkipped_66 : decode cX4_partOfSkipped 66 = .ok (.aload_n 0, 1) := by decide +kernel
theorem dX4_partOfSkipped_67 : decode cX4_partOfSkipped 67 = .ok (.getfield 19, 3) := by decide +kernel
theorem dX4_partOfSkipped_70 : decode cX4_partOfSkipped 70 = .ok (.iload_n 3, 1) := by decide +kernel
theorem dX4_partOfSkipped_71 : decode cX4_partOfSkipped 71 = .ok (.iaload, 1) := by decide +kernel
theorem dX4_partOfSkipped_72 : decode cX4_partOfSkipped 72 = .ok (.isub, 1) := by decide +kernel
theorem dX4_partOfSkipped_73 : decode cX4_partOfSkipped 73 = .ok (.putfield 68, 3) := by decide +kernel
theorem dX4_partOfSkipped_76 : decode cX4_partOfSkipped 76 = .ok (.iinc 3 1, 3) := by decide +kernel
theorem dX4_partOfSkipped_79 : decode cX4_partOfSkipped 79 = .ok (.goto (-37), 3) := by decide +kernel
theorem dX4_partOfSkipped_82 : decode cX4_partOfSkipped 82 = .ok (.iload_n 3, 1) := by decide +kernel
theorem dX4_partOfSkipped_83 : decode cX4_partOfSkipped 83 = .ok (.ireturn, 1) := by decide +kernel
theorem dX4_spread_0 : decode cX4_spread 0 = .ok (.aload_n 0, 1) := by decide +kernel
theorem dX4_spread_1 : decode cX4_spread 1 = .ok (.getfield 26, 3) := by decide +kernel
theorem dX4_spread_4 : decode cX4_spread 4 = .ok (.astore 5, 2) := by decide +kernel
theorem dX4_spread_6 : decode cX4_spread 6 = .ok (.iconst 0, 1) := by decide +kernel
theorem dX4_spread_7 : decode cX4_spread 7 = .ok (.istore 6, 2) := by decide +kernel
theorem dX4_spread_9 : decode cX4_spread 9 = .ok (.iload_n 2, 1) := by decide +kernel
theorem dX4_spread_10 : decode cX4_spread 10 = .ok (.aload_n 0, 1) := by decide +kernel
theorem dX4_spread_11 : decode cX4_spread 11 = .ok (.getfield 22, 3) := by decide +kernel
theorem dX4_spread_14 : decode cX4_spread 14 = .ok (.getfield 59, 3) := by decide +kernel
theorem dX4_spread_17 : decode cX4_spread 17 = .ok (.if_icmp .ge 187, 3) := by decide +kernel
theorem dX4_spread_20 : decode cX4_spread 20 = .ok (.iload 6, 2) := by decide +kernel
theorem dX4_spread_22 : decode cX4_spread 22 = .ok (.aload_n 0, 1) := by decide +kernel
theorem dX4_spread_23 : decode cX4_spread 23 = .ok (.getfield 22, 3) := by decide +kernel
theorem dX4_spread_26 : decode cX4_spread 26 = .ok (.getfield 96, 3) := by decide +kernel
theorem dX4_spread_29 : decode cX4_spread 29 = .ok (.if_icmp .ge 175, 3) := by decide +kernel
theorem dX4_spread_32 : decode cX4_spread 32 = .ok (.iload_n 1, 1) := by decide +kernel
theorem dX4_spread_33 : decode cX4_spread 33 = .ok (.iconst 1, 1) := by decide +kernel
theorem dX4_spread_34 : decode cX4_spread 34 = .ok (.iload 6, 2) := by decide +kernel
theorem dX4_spread_36 : decode cX4_spread 36 = .ok (.ishl, 1) := by decide +kernel
theorem dX4_spread_37 : decode cX4_spread 37 = .ok (.ior, 1) := by decide +kernel
theorem dX4_spread_38 : decode cX4_spread 38 = .ok (.istore 7, 2) := by decide +kernel
theorem dX4_spread_40 : decode cX4_spread 40 = .ok (.aload_n 0, 1) := by decide +kernel
theorem dX4_spread_41 : decode cX4_spread 41 = .ok (.getfield 22, 3) := by decide +kernel
theorem dX4_spread_44 : decode cX4_spread 44 = .ok (.iload_n 2, 1) := by decide +kernel
theorem dX4_spread_45 : decode cX4_spread 45 = .ok (.iload 6, 2) := by decide +kernel
theorem dX4_spread_47 : decode cX4_spread 47 = .ok (.invokevirtual 99, 3) := by decide +kernel
theorem dX4_spread_50 : decode cX4_spread 50 = .ok (.lstore 8, 2) := by decide +kernel
theorem dX4_spread_52 : decode cX4_spread 52 = .ok (.iload 7, 2) := by decide +kernel
theorem dX4_spread_54 : decode cX4_spread 54 = .ok (.iload_n 1, 1) := by decide +kernel
theorem dX4_spread_55 : decode cX4_spread 55 = .ok (.if_icmp .eq 143, 3) := by decide +kernel
theorem dX4_spread_58 : decode cX4_spread 58 = .ok (.lload 8, 2) := by decide +kernel
theorem dX4_spread_60 : decode cX4_spread 60 = .ok (.ldc2_w 103, 3) := by decide +kernel
theorem dX4_spread_63 : decode cX4_spread 63 = .ok (.lcmp, 1) := by decide +kernel
theorem dX4_spread_64 : decode cX4_spread 64 = .ok (.ifCond .eq 134, 3) := by decide +kernel
theorem dX4_spread_67 : decode cX4_spread 67 = .ok (.aload 5, 2) := by decide +kernel
theorem dX4_spread_69 : decode cX4_spread 69 = .ok (.getfield 105, 3) := by decide +kernel
theorem dX4_spread_72 : decode cX4_spread 72 = .ok (.iload 7, 2) := by decide +kernel
theorem dX4_spread_74 : decode cX4_spread 74 = .ok (.iaload, 1) := by decide +kernel
theorem dX4_spread_75 : decode cX4_spread 75 = .ok (.ifCond .ne 6, 3) := by decide +kernel
theorem dX4_spread_78 : decode cX4_spread 78 = .ok (.goto 120, 3) := by decide +kernel
theorem dX4_spread_81 : decode cX4_spread 81 = .ok (.lload_n 3, 1) := by decide +kernel
theorem dX4_spread_82 : decode cX4_spread 82 = .ok (.lload 8, 2) := by decide +kernel
theorem dX4_spread_84 : decode cX4_spread 84 = .ok (.ladd, 1) := by decide +kernel
theorem dX4_spread_85 : decode cX4_spread 85 = .ok (.aload 5, 2) := by decide +kernel
theorem dX4_spread_87 : decode cX4_spread 87 = .ok (.getfield 62, 3) := by decide +kernel
theorem dX4_spread_90 : decode cX4_spread 90 = .ok (.iload 7, 2) := by decide +kernel
theorem dX4_spread_92 : decode cX4_spread 92 = .ok (.laload, 1) := by decide +kernel
theorem dX4_spread_93 : decode cX4_spread 93 = .ok (.ladd, 1) := by decide +kernel
theorem dX4_spread_94 : decode cX4_spread 94 = .ok (.lstore 10, 2) := by decide +kernel
theorem dX4_spread_96 : decode cX4_spread 96 = .ok (.lload_n 3, 1) := by decide +kernel
theorem dX4_spread_97 : decode cX4_spread 97 = .ok (.lload 8, 2) := by decide +kernel
theorem dX4_spread_99 : decode cX4_spread 99 = .ok (.ladd, 1) := by decide +kernel
theorem dX4_spread_100 : decode cX4_spread 100 = .ok (.aload 5, 2) := by decide +kernel
theorem dX4_spread_102 : decode cX4_spread 102 = .ok (.getfield 65, 3) := by decide +kernel
theorem dX4_spread_105 : decode cX4_spread 105 = .ok (.iload 7, 2) := by decide +kernel
theorem dX4_spread_107 : decode cX4_spread 107 = .ok (.laload, 1) := by decide +kernel
theorem dX4_spread_108 : decode cX4_spread 108 = .ok (.ladd, 1) := by decide +kernel
theorem dX4_spread_109 : decode cX4_spread 109 = .ok (.lstore 12, 2) := by decide +kernel
theorem dX4_spread_111 : decode cX4_spread 111 = .ok (.lload 12, 2) := by decide +kernel
theorem dX4_spread_113 : decode cX4_spread 113 = .ok (.lconst 0, 1) := by decide +kernel
theorem dX4_spread_114 : decode cX4_spread 114 = .ok (.lcmp, 1) := by decide +kernel
theorem dX4_spread_115 : decode cX4_spread 115 = .ok (.ifCond .lt 83, 3) := by decide +kernel
theorem dX4_spread_118 : decode cX4_spread 118 = .ok (.lload 10, 2) := by decide +kernel
theorem dX4_spread_120 : decode cX4_spread 120 = .ok (.aload_n 0, 1) := by decide +kernel
theorem dX4_spread_121 : decode cX4_spread 121 = .ok (.getfield 71, 3) := by decide +kernel
theorem dX4_spread_124 : decode cX4_spread 124 = .ok (.lshr, 1) := by decide +kernel
theorem dX4_spread_125 : decode cX4_spread 125 = .ok (.aload_n 0, 1) := by decide +kernel
theorem dX4_spread_126 : decode cX4_spread 126 = .ok (.getfield 86, 3) := by decide +kernel
theorem dX4_spread_129 : decode cX4_spread 129 = .ok (.i2l, 1) := by decide +kernel
theorem dX4_spread_130 : decode cX4_spread 130 = .ok (.lcmp, 1) := by decide +kernel
theorem dX4_spread_131 : decode cX4_spread 131 = .ok (.ifCond .le 6, 3) := by decide +kernel
theorem dX4_spread_134 : decode cX4_spread 134 = .ok (.goto 64, 3) := by decide +kernel
theorem dX4_spread_137 : decode cX4_spread 137 = .ok (.lload 10, 2) := by decide +kernel
theorem dX4_spread_139 : decode cX4_spread 139 = .ok (.lconst 0, 1) := by decide +kernel
theorem dX4_spread_140 : decode cX4_spread 140 = .ok (.lcmp, 1) := by decide +kernel
theorem dX4_spread_141 : decode cX4_spread 141 = .ok (.ifCond .lt 44, 3) := by decide +kernel
theorem dX4_spread_144 : decode cX4_spread 144 = .ok (.lload 10, 2) := by decide +kernel
theorem dX4_spread_146 : decode cX4_spread 146 = .ok (.aload_n 0, 1) := by decide +kernel
theorem dX4_spread_147 : decode cX4_spread 147 = .ok (.getfield 71, 3) := by decide +kernel
theorem dX4_spread_150 : decode cX4_spread 150 = .ok (.lshr, 1) := by decide +kernel
theorem dX4_spread_151 : decode cX4_spread 151 = .ok (.lload 12, 2) := by decide +kernel
theorem dX4_spread_153 : decode cX4_spread 153 = .ok (.aload_n 0, 1) := by decide +kernel
theorem dX4_spread_154 : decode cX4_spread 154 = .ok (.getfield 71, 3) := by decide +kernel
theorem dX4_spread_157 : decode cX4_spread 157 = .ok (.lshr, 1) := by decide +kernel
theorem dX4_spread_158 : decode cX4_spread 158 = .ok (.lcmp, 1) := by decide +kernel
theorem dX4_spread_159 : decode cX4_spread 159 = .ok (.ifCond .ne 26, 3) := by decide +kernel
theorem dX4_spread_162 : decode cX4_spread 162 = .ok (.aload_n 0, 1) := by decide +kernel
theorem dX4_spread_163 : decode cX4_spread 163 = .ok (.lload 10, 2) := by decide +kernel
theorem dX4_spread_165 : decode cX4_spread 165 = .ok (.aload_n 0, 1) := by decide +kernel
theorem dX4_spread_166 : decode cX4_spread 166 = .ok (.getfield 71, 3) := by decide +kernel
theorem dX4_spread_169 : decode cX4_spread 169 = .ok (.lshr, 1) := by decide +kernel
theorem dX4_spread_170 : decode cX4_spread 170 = .ok (.l2i, 1) := by decide +kernel
theorem dX4_spread_171 : decode cX4_spread 171 = .ok (.aload 5, 2) := by decide +kernel
theorem dX4_spread_173 : decode cX4_spread 173 = .ok (.getfield 105, 3) := by decide +kernel
theorem dX4_spread_176 : decode cX4_spread 176 = .ok (.iload 7, 2) := by decide +kernel
theorem dX4_spread_178 : decode cX4_spread 178 = .ok (.iaload, 1) := by decide +kernel
theorem dX4_spread_179 : decode cX4_spread 179 = .ok (.invokevirtual 108, 3) := by decide +kernel
theorem dX4_spread_182 : decode cX4_spread 182 = .ok (.goto 16, 3) := by decide +kernel
theorem dX4_spread_185 : decode cX4_spread 185 = .ok (.aload_n 0, 1) := by decide +kernel
theorem dX4_spread_186 : decode cX4_spread 186 = .ok (.iload 7, 2) := by decide +kernel
theorem dX4_spread_188 : decode cX4_spread 188 = .ok (.iload_n 2, 1) := by decide +kernel
theorem dX4_spread_189 : decode cX4_spread 189 = .ok (.iconst 1, 1) := by decide +kernel
theorem dX4_spread_190 : decode cX4_spread 190 = .ok (.iadd, 1) := by decide +kernel
theorem dX4_spread_191 : decode cX4_spread 191 = .ok (.lload_n 3, 1) := by decide +kernel
theorem dX4_spread_192 : decode cX4_spread 192 = .ok (.lload 8, 2) := by decide +kernel
theorem dX4_spread_194 : decode cX4_spread 194 = .ok (.ladd, 1) := by decide +kernel
theorem dX4_spread_195 : decode cX4_spread 195 = .ok (.invokestatic 92, 3) := by decide +kernel
theorem dX4_spread_198 : decode cX4_spread 198 = .ok (.iinc 6 1, 3) := by decide +kernel
theorem dX4_spread_201 : decode cX4_spread 201 = .ok (.goto (-192), 3) := by decide +kernel
theorem dX4_spread_204 : decode cX4_spread 204 = .ok (.return_, 1) := by decide +kernel
theorem dX4_addToPart_0 : decode cX4_addToPart 0 = .ok (.iload_n 1, 1) := by decide +kernel
theorem dX4_addToPart_1 : decode cX4_addToPart 1 = .ok (.ifCond .lt 9, 3) := by decide +kernel
theorem dX4_addToPart_4 : decode cX4_addToPart 4 = .ok (.iload_n 1, 1) := by decide +kernel
theorem dX4_addToPart_5 : decode cX4_addToPart 5 = .ok (.bipush 64, 2) := by decide +kernel
theorem dX4_addToPart_7 : decode cX4_addToPart 7 = .ok (.if_icmp .lt 4, 3) := by decide +kernel
theorem dX4_addToPart_10 : decode cX4_addToPart 10 = .ok (.return_, 1) := by decide +kernel
theorem dX4_addToPart_11 : decode cX4_addToPart 11 = .ok (.aload_n 0, 1) := by decide +kernel
theorem dX4_addToPart_12 : decode cX4_addToPart 12 = .ok (.getfield 19, 3) := by decide +kernel
theorem dX4_addToPart_15 : decode cX4_addToPart 15 = .ok (.iload_n 1, 1) := by decide +kernel
theorem dX4_addToPart_16 : decode cX4_addToPart 16 = .ok (.dup2, 1) := by decide +kernel
theorem dX4_addToPart_17 : decode cX4_addToPart 17 = .ok (.iaload, 1) := by decide +kernel
theorem dX4_addToPart_18 : decode cX4_addToPart 18 = .ok (.iload_n 2, 1) := by decide +kernel
theorem dX4_addToPart_19 : decode cX4_addToPart 19 = .ok (.iadd, 1) := by decide +kernel
theorem dX4_addToPart_20 : decode cX4_addToPart 20 = .ok (.iastore, 1) := by decide +kernel
theorem dX4_addToPart_21 : decode cX4_addToPart 21 = .ok (.aload_n 0, 1) := by decide +kernel
theorem dX4_addToPart_22 : decode cX4_addToPart 22 = .ok (.dup, 1) := by decide +kernel
theorem dX4_addToPart_23 : decode cX4_addToPart 23 = .ok (.getfield 89, 3) := by decide +kernel
theorem dX4_addToPart_26 : decode cX4_addToPart 26 = .ok (.iload_n 2, 1) := by decide +kernel
theorem dX4_addToPart_27 : decode cX4_addToPart 27 = .ok (.iadd, 1) := by decide +kernel
theorem dX4_addToPart_28 : decode cX4_addToPart 28 = .ok (.putfield 89, 3) := by decide +kernel
theorem dX4_addToPart_31 : decode cX4_addToPart 31 = .ok (.aload_n 0, 1) := by decide +kernel
theorem dX4_addToPart_32 : decode cX4_addToPart 32 = .ok (.getfield 86, 3) := by decide +kernel
theorem dX4_addToPart_35 : decode cX4_addToPart 35 = .ok (.ifCond .le 55, 3) := by decide +kernel
theorem dX4_addToPart_38 : decode cX4_addToPart 38 = .ok (.aload_n 0, 1) := by decide +kernel
theorem dX4_addToPart_39 : decode cX4_addToPart 39 = .ok (.getfield 89, 3) := by decide +kernel
theorem dX4_addToPart_42 : decode cX4_addToPart 42 = .ok (.aload_n 0, 1) := by decide +kernel
theorem dX4_addToPart_43 : decode cX4_addToPart 43 = .ok (.getfield 19, 3) := by decide +kernel
theorem dX4_addToPart_46 : decode cX4_addToPart 46 = .ok (.aload_n 0, 1) := by decide +kernel
theorem dX4_addToPart_47 : decode cX4_addToPart 47 = .ok (.getfield 86, 3) := by decide +kernel
theorem dX4_addToPart_50 : decode cX4_addToPart 50 = .ok (.iaload, 1) := by decide +kernel
theorem dX4_addToPart_51 : decode cX4_addToPart 51 = .ok (.isub, 1) := by decide +kernel
theorem dX4_addToPart_52 : decode cX4_addToPart 52 = .ok (.aload_n 0, 1) := by decide +kernel
theorem dX4_addToPart_53 : decode cX4_addToPart 53 = .ok (.getfield 68, 3) := by decide +kernel
theorem dX4_addToPart_56 : decode cX4_addToPart 56 = .ok (.if_icmp .le 34, 3) := by decide +kernel
theorem dX4_addToPart_59 : decode cX4_addToPart 59 = .ok (.aload_n 0, 1) := by decide +kernel
theorem dX4_addToPart_60 : decode cX4_addToPart 60 = .ok (.dup, 1) := by decide +kernel
theorem dX4_addToPart_61 : decode cX4_addToPart 61 = .ok (.getfield 89, 3) := by decide +kernel
theorem dX4_addToPart_64 : decode cX4_addToPart 64 = .ok (.aload_n 0, 1) := by decide +kernel
theorem dX4_addToPart_65 : decode cX4_addToPart 65 = .ok (.getfield 19, 3) := by decide +kernel
theorem dX4_addToPart_68 : decode cX4_addToPart 68 = .ok (.aload_n 0, 1) := by decide +kernel
theorem dX4_addToPart_69 : decode cX4_addToPart 69 = .ok (.getfield 86, 3) := by decide +kernel
theorem dX4_addToPart_72 : decode cX4_addToPart 72 = .ok (.iaload, 1) := by decide +kernel
theorem dX4_addToPart_73 : decode cX4_addToPart 73 = .ok (.isub, 1) := by decide +kernel
theorem dX4_addToPart_74 : decode cX4_addToPart 74 = .ok (.putfield 89, 3) := by decide +kernel
theorem dX4_addToPart_77 : decode cX4_addToPart 77 = .ok (.aload_n 0, 1) := by decide +kernel
theorem dX4_addToPart_78 : decode cX4_addToPart 78 = .ok (.dup, 1) := by decide +kernel
theorem dX4_addToPart_79 : decode cX4_addToPart 79 = .ok (.getfield 86, 3) := by decide +kernel
theorem dX4_addToPart_82 : decode cX4_addToPart 82 = .ok (.iconst 1, 1) := by decide +kernel
theorem dX4_addToPart_83 : decode cX4_addToPart 83 = .ok (.isub, 1) := by decide +kernel
theorem dX4_addToPart_84 : decode cX4_addToPart 84 = .ok (.putfield 86, 3) := by decide +kernel
theorem dX4_addToPart_87 : decode cX4_addToPart 87 = .ok (.goto (-56), 3) := by decide +kernel
theorem dX4_addToPart_90 : decode cX4_addToPart 90 = .ok (.return_, 1) := by decide +kernel
theorem dX4_list_0 : decode cX4_list 0 = .ok (.aload_n 0, 1) := by decide +kernel
theorem dX4_list_1 : decode cX4_list 1 = .ok (.getfield 30, 3) := by decide +kernel
theorem dX4_list_4 : decode cX4_list 4 = .ok (.ifCond .eq 4, 3) := by decide +kernel
theorem dX4_list_7 : decode cX4_list 7 = .ok (.return_, 1) := by decide +kernel
theorem dX4_list_8 : decode cX4_list 8 = .ok (.aload_n 0, 1) := by decide +kernel
theorem dX4_list_9 : decode cX4_list 9 = .ok (.iconst 1, 1) := by decide +kernel
theorem dX4_list_10 : decode cX4_list 10 = .ok (.putfield 30, 3) := by decide +kernel
theorem dX4_list_13 : decode cX4_list 13 = .ok (.aload_n 0, 1) := by decide +kernel
theorem dX4_list_14 : decode cX4_list 14 = .ok (.iconst 0, 1) := by decide +kernel
theorem dX4_list_15 : decode cX4_list 15 = .ok (.putfield 43, 3) := by decide +kernel
theorem dX4_list_18 : decode cX4_list 18 = .ok (.sipush 200, 3) := by decide +kernel
theorem dX4_list_21 : decode cX4_list 21 = .ok (.aload_n 0, 1) := by decide +kernel
theorem dX4_list_22 : decode cX4_list 22 = .ok (.getfield 26, 3) := by decide +kernel
theorem dX4_list_25 : decode cX4_list 25 = .ok (.invokevirtual 112, 3) := by decide +kernel
theorem dX4_list_28 : decode cX4_list 28 = .ok (.invokestatic 116, 3) := by decide +kernel
theorem dX4_list_31 : decode cX4_list 31 = .ok (.istore_n 1, 1) := by decide +kernel
theorem dX4_list_32 : decode cX4_list 32 = .ok (.iload_n 1, 1) := by decide +kernel
theorem dX4_list_33 : decode cX4_list 33 = .ok (.ifCond .le 41, 3) := by decide +kernel
theorem dX4_list_36 : decode cX4_list 36 = .ok (.aload_n 0, 1) := by decide +kernel
theorem dX4_list_37 : decode cX4_list 37 = .ok (.aload_n 0, 1) := by decide +kernel
theorem dX4_list_38 : decode cX4_list 38 = .ok (.iload_n 1, 1) := by decide +kernel
theorem dX4_list_39 : decode cX4_list 39 = .ok (.iconst 1, 1) := by decide +kernel
theorem dX4_list_40 : decode cX4_list 40 = .ok (.isub, 1) := by decide +kernel
theorem dX4_list_41 : decode cX4_list 41 = .ok (.invokevirtual 119, 3) := by decide +kernel
theorem dX4_list_44 : decode cX4_list 44 = .ok (.putfield 123, 3) := by decide +kernel
theorem dX4_list_47 : decode cX4_list 47 = .ok (.aload_n 0, 1) := by decide +kernel
theorem dX4_list_48 : decode cX4_list 48 = .ok (.iload_n 1, 1) := by decide +kernel
theorem dX4_list_49 : decode cX4_list 49 = .ok (.aload_n 0, 1) := by decide +kernel
theorem dX4_list_50 : decode cX4_list 50 = .ok (.getfield 26, 3) := by decide +kernel
theorem dX4_list_53 : decode cX4_list 53 = .ok (.aload_n 0, 1) := by decide +kernel
theorem dX4_list_54 : decode cX4_list 54 = .ok (.getfield 123, 3) := by decide +kernel
theorem dX4_list_57 : decode cX4_list 57 = .ok (.lconst 1, 1) := by decide +kernel
theorem dX4_list_58 : decode cX4_list 58 = .ok (.lsub, 1) := by decide +kernel
theorem dX4_list_59 : decode cX4_list 59 = .ok (.invokevirtual 127, 3) := by decide +kernel
theorem dX4_list_62 : decode cX4_list 62 = .ok (.isub, 1) := by decide +kernel
theorem dX4_list_63 : decode cX4_list 63 = .ok (.putfield 130, 3) := by decide +kernel
theorem dX4_list_66 : decode cX4_list 66 = .ok (.aload_n 0, 1) := by decide +kernel
theorem dX4_list_67 : decode cX4_list 67 = .ok (.iconst 0, 1) := by decide +kernel
theorem dX4_list_68 : decode cX4_list 68 = .ok (.iconst 0, 1) := by decide +kernel
theorem dX4_list_69 : decode cX4_list 69 = .ok (.lconst 0, 1) := by decide +kernel
theorem dX4_list_70 : decode cX4_list 70 = .ok (.iconst 0, 1) := by decide +kernel
theorem dX4_list_71 : decode cX4_list 71 = .ok (.invokestatic 133, 3) := by decide +kernel
theorem dX4_list_74 : decode cX4_list 74 = .ok (.return_, 1) := by decide +kernel
theorem dX4_collect_0 : decode cX4_collect 0 = .ok (.iload_n 2, 1) := by decide +kernel
theorem dX4_collect_1 : decode cX4_collect 1 = .ok (.aload_n 0, 1) := by decide +kernel
theorem dX4_collect_2 : decode cX4_collect 2 = .ok (.getfield 22, 3) := by decide +kernel
theorem dX4_collect_5 : decode cX4_collect 5 = .ok (.getfield 59, 3) := by decide +kernel
theorem dX4_collect_8 : decode cX4_collect 8 = .ok (.if_icmp .lt 11, 3) := by decide +kernel
theorem dX4_collect_11 : decode cX4_collect 11 = .ok (.aload_n 0, 1) := by decide +kernel
theorem dX4_collect_12 : decode cX4_collect 12 = .ok (.iload 5, 2) := by decide +kernel
theorem dX4_collect_14 : decode cX4_collect 14 = .ok (.lload_n 3, 1) := by decide +kernel
theorem dX4_collect_15 : decode cX4_collect 15 = .ok (.invokevirtual 137, 3) := by decide +kernel
theorem dX4_collect_18 : decode cX4_collect 18 = .ok (.return_, 1) := by decide +kernel
theorem dX4_collect_19 : decode cX4_collect 19 = .ok (.iconst 0, 1) := by decide +kernel
theorem dX4_collect_20 : decode cX4_collect 20 = .ok (.istore 6, 2) := by decide +kernel
theorem dX4_collect_22 : decode cX4_collect 22 = .ok (.iload 6, 2) := by decide +kernel
theorem dX4_collect_24 : decode cX4_collect 24 = .ok (.aload_n 0, 1) := by decide +kernel
theorem dX4_collect_25 : decode cX4_collect 25 = .ok (.getfield 22, 3) := by decide +kernel
theorem dX4_collect_28 : decode cX4_collect 28 = .ok (.getfield 96, 3) := by decide +kernel
theorem dX4_collect_31 : decode cX4_collect 31 = .ok (.if_icmp .ge 102, 3) := by decide +kernel
theorem dX4_collect_34 : decode cX4_collect 34 = .ok (.iload_n 1, 1) := by decide +kernel
theorem dX4_collect_35 : decode cX4_collect 35 = .ok (.iconst 1, 1) := by decide +kernel
theorem dX4_collect_36 : decode cX4_collect 36 = .ok (.iload 6, 2) := by decide +kernel
theorem dX4_collect_38 : decode cX4_collect 38 = .ok (.ishl, 1) := by decide +kernel
theorem dX4_collect_39 : decode cX4_collect 39 = .ok (.ior, 1) := by decide +kernel
theorem dX4_collect_40 : decode cX4_collect 40 = .ok (.istore 7, 2) := by decide +kernel
theorem dX4_collect_42 : decode cX4_collect 42 = .ok (.aload_n 0, 1) := by decide +kernel
theorem dX4_collect_43 : decode cX4_collect 43 = .ok (.getfield 22, 3) := by decide +kernel
theorem dX4_collect_46 : decode cX4_collect 46 = .ok (.iload_n 2, 1) := by decide +kernel
theorem dX4_collect_47 : decode cX4_collect 47 = .ok (.iload 6, 2) := by decide +kernel
theorem dX4_collect_49 : decode cX4_collect 49 = .ok (.invokevirtual 99, 3) := by decide +kernel
theorem dX4_collect_52 : decode cX4_collect 52 = .ok (.lstore 8, 2) := by decide +kernel
theorem dX4_collect_54 : decode cX4_collect 54 = .ok (.iload 7, 2) := by decide +kernel
theorem dX4_collect_56 : decode cX4_collect 56 = .ok (.iload_n 1, 1) := by decide +kernel
theorem dX4_collect_57 : decode cX4_collect 57 = .ok (.if_icmp .eq 70, 3) := by decide +kernel
theorem dX4_collect_60 : decode cX4_collect 60 = .ok (.lload 8, 2) := by decide +kernel
theorem dX4_collect_62 : decode cX4_collect 62 = .ok (.ldc2_w 103, 3) := by decide +kernel
theorem dX4_collect_65 : decode cX4_collect 65 = .ok (.lcmp, 1) := by decide +kernel
theorem dX4_collect_66 : decode cX4_collect 66 = .ok (.ifCond .eq 61, 3) := by decide +kernel
theorem dX4_collect_69 : decode cX4_collect 69 = .ok (.aload_n 0, 1) := by decide +kernel
theorem dX4_collect_70 : decode cX4_collect 70 = .ok (.getfield 26, 3) := by decide +kernel
theorem dX4_collect_73 : decode cX4_collect 73 = .ok (.getfield 105, 3) := by decide +kernel
theorem dX4_collect_76 : decode cX4_collect 76 = .ok (.iload 7, 2) := by decide +kernel
theorem dX4_collect_78 : decode cX4_collect 78 = .ok (.iaload, 1) := by decide +kernel
theorem dX4_collect_79 : decode cX4_collect 79 = .ok (.ifCond .le 48, 3) := by decide +kernel
theorem dX4_collect_82 : decode cX4_collect 82 = .ok (.lload_n 3, 1) := by decide +kernel
theorem dX4_collect_83 : decode cX4_collect 83 = .ok (.lload 8, 2) := by decide +kernel
theorem dX4_collect_85 : decode cX4_collect 85 = .ok (.ladd, 1) := by decide +kernel
theorem dX4_collect_86 : decode cX4_collect 86 = .ok (.lstore 10, 2) := by decide +kernel
theorem dX4_collect_88 : decode cX4_collect 88 = .ok (.aload_n 0, 1) := by decide +kernel
theorem dX4_collect_89 : decode cX4_collect 89 = .ok (.lload 10, 2) := by decide +kernel
theorem dX4_collect_91 : decode cX4_collect 91 = .ok (.aload_n 0, 1) := by decide +kernel
theorem dX4_collect_92 : decode cX4_collect 92 = .ok (.getfield 26, 3) := by decide +kernel
theorem dX4_collect_95 : decode cX4_collect 95 = .ok (.getfield 62, 3) := by decide +kernel
theorem dX4_collect_98 : decode cX4_collect 98 = .ok (.iload 7, 2) := by decide +kernel
theorem dX4_collect_100 : decode cX4_collect 100 = .ok (.laload, 1) := by decide +kernel
theorem dX4_collect_101 : decode cX4_collect 101 = .ok (.ladd, 1) := by decide +kernel
theorem dX4_collect_102 : decode cX4_collect 102 = .ok (.invokevirtual 141, 3) := by decide +kernel
theorem dX4_collect_105 : decode cX4_collect 105 = .ok (.ifCond .eq 22, 3) := by decide +kernel
theorem dX4_collect_108 : decode cX4_collect 108 = .ok (.aload_n 0, 1) := by decide +kernel
theorem dX4_collect_109 : decode cX4_collect 109 = .ok (.iload 7, 2) := by decide +kernel
theorem dX4_collect_111 : decode cX4_collect 111 = .ok (.iload_n 2, 1) := by decide +kernel
theorem dX4_collect_112 : decode cX4_collect 112 = .ok (.iconst 1, 1) := by decide +kernel
theorem dX4_collect_113 : decode cX4_collect 113 = .ok (.iadd, 1) := by decide +kernel
theorem dX4_collect_114 : decode cX4_collect 114 = .ok (.lload 10, 2) := by decide +kernel
theorem dX4_collect_116 : decode cX4_collect 116 = .ok (.iload 5, 2) := by decide +kernel
theorem dX4_collect_118 : decode cX4_collect 118 = .ok (.bipush 8, 2) := by decide +kernel
theorem dX4_collect_120 : decode cX4_collect 120 = .ok (.imul, 1) := by decide +kernel
theorem dX4_collect_121 : decode cX4_collect 121 = .ok (.iload 6, 2) := by decide +kernel
theorem dX4_collect_123 : decode cX4_collect 123 = .ok (.iadd, 1) := by decide +kernel
theorem dX4_collect_124 : decode cX4_collect 124 = .ok (.invokestatic 133, 3) := by decide +kernel
theorem dX4_collect_127 : decode cX4_collect 127 = .ok (.iinc 6 1, 3) := by decide +kernel
theorem dX4_collect_130 : decode cX4_collect 130 = .ok (.goto (-108), 3) := by decide +kernel
theorem dX4_collect_133 : decode cX4_collect 133 = .ok (.return_, 1) := by decide +kernel
theorem dX4_belongs_0 : decode cX4_belongs 0 = .ok (.lload_n 1, 1) := by decide +kernel
theorem dX4_belongs_1 : decode cX4_belongs 1 = .ok (.aload_n 0, 1) := by decide +kernel
theorem dX4_belongs_2 : decode cX4_belongs 2 = .ok (.getfield 123, 3) := by decide +kernel
theorem dX4_belongs_5 : decode cX4_belongs 5 = .ok (.lcmp, 1) := by decide +kernel
theorem dX4_belongs_6 : decode cX4_belongs 6 = .ok (.ifCond .lt 19, 3) := by decide +kernel
theorem dX4_belongs_9 : decode cX4_belongs 9 = .ok (.lload_n 1, 1) := by decide +kernel
theorem dX4_belongs_10 : decode cX4_belongs 10 = .ok (.aload_n 0, 1) := by decide +kernel
theorem dX4_belongs_11 : decode cX4_belongs 11 = .ok (.getfield 123, 3) := by decide +kernel
theorem dX4_belongs_14 : decode cX4_belongs 14 = .ok (.lcmp, 1) := by decide +kernel
theorem dX4_belongs_15 : decode cX4_belongs 15 = .ok (.ifCond .ne 14, 3) := by decide +kernel
theorem dX4_belongs_18 : decode cX4_belongs 18 = .ok (.aload_n 0, 1) := by decide +kernel
theorem dX4_belongs_19 : decode cX4_belongs 19 = .ok (.getfield 130, 3) := by decide +kernel
theorem dX4_belongs_22 : decode cX4_belongs 22 = .ok (.ifCond .le 7, 3) := by decide +kernel
theorem dX4_belongs_25 : decode cX4_belongs 25 = .ok (.iconst 1, 1) := by decide +kernel
theorem dX4_belongs_26 : decode cX4_belongs 26 = .ok (.goto 4, 3) := by decide +kernel
theorem dX4_belongs_29 : decode cX4_belongs 29 = .ok (.iconst 0, 1) := by decide +kernel
theorem dX4_belongs_30 : decode cX4_belongs 30 = .ok (.ireturn, 1) := by decide +kernel
theorem dX4_add_0 : decode cX4_add 0 = .ok (.aload_n 0, 1) := by decide +kernel
theorem dX4_add_1 : decode cX4_add 1 = .ok (.getfield 43, 3) := by decide +kernel
theorem dX4_add_4 : decode cX4_add 4 = .ok (.sipush 200, 3) := by decide +kernel
theorem dX4_add_7 : decode cX4_add 7 = .ok (.if_icmp .lt 4, 3) := by decide +kernel
theorem dX4_add_10 : decode cX4_add 10 = .ok (.return_, 1) := by decide +kernel
theorem dX4_add_11 : decode cX4_add 11 = .ok (.aload_n 0, 1) := by decide +kernel
theorem dX4_add_12 : decode cX4_add 12 = .ok (.getfield 43, 3) := by decide +kernel
theorem dX4_add_15 : decode cX4_add 15 = .ok (.istore 4, 2) := by decide +kernel
theorem dX4_add_17 : decode cX4_add 17 = .ok (.iload 4, 2) := by decide +kernel
theorem dX4_add_19 : decode cX4_add 19 = .ok (.ifCond .le 55, 3) := by decide +kernel
theorem dX4_add_22 : decode cX4_add 22 = .ok (.aload_n 0, 1) := by decide +kernel
theorem dX4_add_23 : decode cX4_add 23 = .ok (.getfield 15, 3) := by decide +kernel
theorem dX4_add_26 : decode cX4_add 26 = .ok (.iload 4, 2) := by decide +kernel
theorem dX4_add_28 : decode cX4_add 28 = .ok (.iconst 1, 1) := by decide +kernel
theorem dX4_add_29 : decode cX4_add 29 = .ok (.isub, 1) := by decide +kernel
theorem dX4_add_30 : decode cX4_add 30 = .ok (.laload, 1) := by decide +kernel
theorem dX4_add_31 : decode cX4_add 31 = .ok (.lload_n 2, 1) := by decide +kernel
theorem dX4_add_32 : decode cX4_add 32 = .ok (.lcmp, 1) := by decide +kernel
theorem dX4_add_33 : decode cX4_add 33 = .ok (.ifCond .le 41, 3) := by decide +kernel
theorem dX4_add_36 : decode cX4_add 36 = .ok (.aload_n 0, 1) := by decide +kernel
theorem dX4_add_37 : decode cX4_add 37 = .ok (.getfield 15, 3) := by decide +kernel
theorem dX4_add_40 : decode cX4_add 40 = .ok (.iload 4, 2) := by decide +kernel
theorem dX4_add_42 : decode cX4_add 42 = .ok (.aload_n 0, 1) := by decide +kernel
theorem dX4_add_43 : decode cX4_add 43 = .ok (.getfield 15, 3) := by decide +kernel
theorem dX4_add_46 : decode cX4_add 46 = .ok (.iload 4, 2) := by decide +kernel
theorem dX4_add_48 : decode cX4_add 48 = .ok (.iconst 1, 1) := by decide +kernel
theorem dX4_add_49 : decode cX4_add 49 = .ok (.isub, 1) := by decide +kernel
theorem dX4_add_50 : decode cX4_add 50 = .ok (.laload, 1) := by decide +kernel
theorem dX4_add_51 : decode cX4_add 51 = .ok (.lastore, 1) := by decide +kernel
theorem dX4_add_52 : decode cX4_add 52 = .ok (.aload_n 0, 1) := by decide +kernel
theorem dX4_add_53 : decode cX4_add 53 = .ok (.getfield 9, 3) := by decide +kernel
theorem dX4_add_56 : decode cX4_add 56 = .ok (.iload 4, 2) := by decide +kernel
theorem dX4_add_58 : decode cX4_add 58 = .ok (.aload_n 0, 1) := by decide +kernel
theorem dX4_add_59 : decode cX4_add 59 = .ok (.getfield 9, 3) := by decide +kernel
theorem dX4_add_62 : decode cX4_add 62 = .ok (.iload 4, 2) := by decide +kernel
theorem dX4_add_64 : decode cX4_add 64 = .ok (.iconst 1, 1) := by decide +kernel
theorem dX4_add_65 : decode cX4_add 65 = .ok (.isub, 1) := by decide +kernel
theorem dX4_add_66 : decode cX4_add 66 = .ok (.iaload, 1) := by decide +kernel
theorem dX4_add_67 : decode cX4_add 67 = .ok (.iastore, 1) := by decide +kernel
theorem dX4_add_68 : decode cX4_add 68 = .ok (.iinc 4 (-1), 3) := by decide +kernel
theorem dX4_add_71 : decode cX4_add 71 = .ok (.goto (-54), 3) := by decide +kernel
theorem dX4_add_74 : decode cX4_add 74 = .ok (.aload_n 0, 1) := by decide +kernel
theorem dX4_add_75 : decode cX4_add 75 = .ok (.getfield 15, 3) := by decide +kernel
theorem dX4_add_78 : decode cX4_add 78 = .ok (.iload 4, 2) := by decide +kernel
theorem dX4_add_80 : decode cX4_add 80 = .ok (.lload_n 2, 1) := by decide +kernel
theorem dX4_add_81 : decode cX4_add 81 = .ok (.lastore, 1) := by decide +kernel
theorem dX4_add_82 : decode cX4_add 82 = .ok (.aload_n 0, 1) := by decide +kernel
theorem dX4_add_83 : decode cX4_add 83 = .ok (.getfield 9, 3) := by decide +kernel
theorem dX4_add_86 : decode cX4_add 86 = .ok (.iload 4, 2) := by decide +kernel
theorem dX4_add_88 : decode cX4_add 88 = .ok (.iload_n 1, 1) := by decide +kernel
theorem dX4_add_89 : decode cX4_add 89 = .ok (.iastore, 1) := by decide +kernel
theorem dX4_add_90 : decode cX4_add 90 = .ok (.aload_n 0, 1) := by decide +kernel
theorem dX4_add_91 : decode cX4_add 91 = .ok (.dup, 1) := by decide +kernel
theorem dX4_add_92 : decode cX4_add 92 = .ok (.getfield 43, 3) := by decide +kernel
theorem dX4_add_95 : decode cX4_add 95 = .ok (.iconst 1, 1) := by decide +kernel
theorem dX4_add_96 : decode cX4_add 96 = .ok (.iadd, 1) := by decide +kernel
theorem dX4_add_97 : decode cX4_add 97 = .ok (.putfield 43, 3) := by decide +kernel
theorem dX4_add_100 : decode cX4_add 100 = .ok (.lload_n 2, 1) := by decide +kernel
theorem dX4_add_101 : decode cX4_add 101 = .ok (.aload_n 0, 1) := by decide +kernel
theorem dX4_add_102 : decode cX4_add 102 = .ok (.getfield 123, 3) := by decide +kernel
theorem dX4_add_105 : decode cX4_add 105 = .ok (.lcmp, 1) := by decide +kernel
theorem dX4_add_106 : decode cX4_add 106 = .ok (.ifCond .ne 13, 3) := by decide +kernel
theorem dX4_add_109 : decode cX4_add 109 = .ok (.aload_n 0, 1) := by decide +kernel
theorem dX4_add_110 : decode cX4_add 110 = .ok (.dup, 1) := by decide +kernel
theorem dX4_add_111 : decode cX4_add 111 = .ok (.getfield 130, 3) := by decide +kernel
theorem dX4_add_114 : decode cX4_add 114 = .ok (.iconst 1, 1) := by decide +kernel
theorem dX4_add_115 : decode cX4_add 115 = .ok (.isub, 1) := by decide +kernel
theorem dX4_add_116 : decode cX4_add 116 = .ok (.putfield 130, 3) := by decide +kernel
theorem dX4_add_119 : decode cX4_add 119 = .ok (.return_, 1) := by decide +kernel
theorem dX5_init_0 : decode cX5_init 0 = .ok (.aload_n 0, 1) := by decide +kernel
theorem dX5_init_1 : decode cX5_init 1 = .ok (.invokespecial 3, 3) := by decide +kernel
theorem dX5_init_4 : decode cX5_init 4 = .ok (.aload_n 0, 1) := by decide +kernel
theorem dX5_init_5 : decode cX5_init 5 = .ok (.sipush 256, 3) := by decide +kernel
theorem dX5_init_8 : decode cX5_init 8 = .ok (.newarray .int, 2) := by decide +kernel
theorem dX5_init_10 : decode cX5_init 10 = .ok (.putfield 9, 3) := by decide +kernel
theorem dX5_init_13 : decode cX5_init 13 = .ok (.aload_n 0, 1) := by decide +kernel
theorem dX5_init_14 : decode cX5_init 14 = .ok (.sipush 256, 3) := by decide +kernel
theorem dX5_init_17 : decode cX5_init 17 = .ok (.newarray .long, 2) := by decide +kernel
theorem dX5_init_19 : decode cX5_init 19 = .ok (.putfield 15, 3) := by decide +kernel
theorem dX5_init_22 : decode cX5_init 22 = .ok (.aload_n 0, 1) := by decide +kernel
theorem dX5_init_23 : decode cX5_init 23 = .ok (.sipush 256, 3) := by decide +kernel
theorem dX5_init_26 : decode cX5_init 26 = .ok (.newarray .long, 2) := by decide +kernel
theorem dX5_init_28 : decode cX5_init 28 = .ok (.putfield 19, 3) := by decide +kernel
theorem dX5_init_31 : decode cX5_init 31 = .ok (.aload_n 0, 1) := by decide +kernel
theorem dX5_init_32 : decode cX5_init 32 = .ok (.aload_n 1, 1) := by decide +kernel
theorem dX5_init_33 : decode cX5_init 33 = .ok (.putfield 22, 3) := by decide +kernel
theorem dX5_init_36 : decode cX5_init 36 = .ok (.return_, 1) := by decide +kernel
theorem dX5_refresh_0 : decode cX5_refresh 0 = .ok (.iconst 1, 1) := by decide +kernel
theorem dX5_refresh_1 : decode cX5_refresh 1 = .ok (.aload_n 0, 1) := by decide +kernel
theorem dX5_refresh_2 : decode cX5_refresh 2 = .ok (.getfield 22, 3) := by decide +kernel
theorem dX5_refresh_5 : decode cX5_refresh 5 = .ok (.getfield 26, 3) := by decide +kernel
theorem dX5_refresh_8 : decode cX5_refresh 8 = .ok (.ishl, 1) := by decide +kernel
theorem dX5_refresh_9 : decode cX5_refresh 9 = .ok (.iconst 1, 1) := by decide +kernel
theorem dX5_refresh_10 : decode cX5_refresh 10 = .ok (.isub, 1) := by decide +kernel
theorem dX5_refresh_11 : decode cX5_refresh 11 = .ok (.istore_n 1, 1) := by decide +kernel
theorem dX5_refresh_12 : decode cX5_refresh 12 = .ok (.iload_n 1, 1) := by decide +kernel
theorem dX5_refresh_13 : decode cX5_refresh 13 = .ok (.ifCond .lt 18, 3) := by decide +kernel
theorem dX5_refresh_16 : decode cX5_refresh 16 = .ok (.aload_n 0, 1) := by decide +kernel
theorem dX5_refresh_17 : decode cX5_refresh 17 = .ok (.iload_n 1, 1) := by decide +kernel
theorem dX5_refresh_18 : decode cX5_refresh 18 = .ok (.iload_n 1, 1) := by decide +kernel
theorem dX5_refresh_19 : decode cX5_refresh 19 = .ok (.invokestatic 32, 3) := by decide +kernel
theorem dX5_refresh_22 : decode cX5_refresh 22 = .ok (.invokevirtual 38, 3) := by decide +kernel
theorem dX5_refresh_25 : decode cX5_refresh 25 = .ok (.iinc 1 (-1), 3) := by decide +kernel
theorem dX5_refresh_28 : decode cX5_refresh 28 = .ok (.goto (-16), 3) := by decide +kernel
theorem dX5_refresh_31 : decode cX5_refresh 31 = .ok (.return_, 1) := by decide +kernel
theorem dX5_settle_0 : decode cX5_settle 0 = .ok (.iload_n 2, 1) := by decide +kernel
theorem dX5_settle_1 : decode cX5_settle 1 = .ok (.aload_n 0, 1) := by decide +kernel
theorem dX5_settle_2 : decode cX5_settle 2 = .ok (.getfield 22, 3) := by decide +kernel
theorem dX5_settle_5 : decode cX5_settle 5 = .ok (.getfield 42, 3) := by decide +kernel
theorem dX5_settle_8 : decode cX5_settle 8 = .ok (.if_icmp .lt 7, 3) := by decide +kernel
theorem dX5_settle_11 : decode cX5_settle 11 = .ok (.iconst 1, 1) := by decide +kernel
theorem dX5_settle_12 : decode cX5_settle 12 = .ok (.goto 4, 3) := by decide +kernel
theorem dX5_settle_15 : decode cX5_settle 15 = .ok (.iconst 0, 1) := by decide +kernel
theorem dX5_settle_16 : decode cX5_settle 16 = .ok (.istore_n 3, 1) := by decide +kernel
theorem dX5_settle_17 : decode cX5_settle 17 = .ok (.iload_n 2, 1) := by decide +kernel
theorem dX5_settle_18 : decode cX5_settle 18 = .ok (.aload_n 0, 1) := by decide +kernel
theorem dX5_settle_19 : decode cX5_settle 19 = .ok (.getfield 22, 3) := by decide +kernel
theorem dX5_settle_22 : decode cX5_settle 22 = .ok (.getfield 42, 3) := by decide +kernel
theorem dX5_settle_25 : decode cX5_settle 25 = .ok (.if_icmp .ne 7, 3) := by decide +kernel
theorem dX5_settle_28 : decode cX5_settle 28 = .ok (.iconst 1, 1) := by decide +kernel
theorem dX5_settle_29 : decode cX5_settle 29 = .ok (.goto 4, 3) := by decide +kernel
theorem dX5_settle_32 : decode cX5_settle 32 = .ok (.iconst 0, 1) := by decide +kernel
theorem dX5_settle_33 : decode cX5_settle 33 = .ok (.istore 4, 2) := by decide +kernel
theorem dX5_settle_35 : decode cX5_settle 35 = .ok (.iload_n 3, 1) := by decide +kernel
theorem dX5_settle_36 : decode cX5_settle 36 = .ok (.ifCond .eq 7, 3) := by decide +kernel
theorem dX5_settle_39 : decode cX5_settle 39 = .ok (.lconst 0, 1) := by decide +kernel
theorem dX5_settle_40 : decode cX5_settle 40 = .ok (.goto 6, 3) := by decide +kernel
theorem dX5_settle_43 : decode cX5_settle 43 = .ok (.ldc2_w 45, 3) := by decide +kernel
theorem dX5_settle_46 : decode cX5_settle 46 = .ok (.lstore 5, 2) := by decide +kernel
theorem dX5_settle_48 : decode cX5_settle 48 = .ok (.iload_n 3, 1) := by decide +kernel
theorem dX5_settle_49 : decode cX5_settle 49 = .ok (.ifCond .eq 7, 3) := by decide +kernel
theorem dX5_settle_52 : decode cX5_settle 52 = .ok (.lconst 0, 1) := by decide +kernel
theorem dX5_settle_53 : decode cX5_settle 53 = .ok (.goto 6, 3) := by decide +kernel
theorem dX5_settle_56 : decode cX5_settle 56 = .ok (.ldc2_w 47, 3) := by decide +kernel
theorem dX5_settle_59 : decode cX5_settle 59 = .ok (.lstore 7, 2) := by decide +kernel
theorem dX5_settle_61 : decode cX5_settle 61 = .ok (.iconst 0, 1) := by decide +kernel
theorem dX5_settle_62 : decode cX5_settle 62 = .ok (.istore 9, 2) := by decide +kernel
theorem dX5_settle_64 : decode cX5_settle 64 = .ok (.iload_n 3, 1) := by decide +kernel
theorem dX5_settle_65 : decode cX5_settle 65 = .ok (.ifCond .ne 112, 3) := by decide +kernel
theorem dX5_settle_68 : decode cX5_settle 68 = .ok (.iload 9, 2) := by decide +kernel
theorem dX5_settle_70 : decode cX5_settle 70 = .ok (.aload_n 0, 1) := by decide +kernel
theorem dX5_settle_71 : decode cX5_settle 71 = .ok (.getfield 22, 3) := by decide +kernel
theorem dX5_settle_74 : decode cX5_settle 74 = .ok (.getfield 26, 3) := by decide +kernel
theorem dX5_settle_77 : decode cX5_settle 77 = .ok (.if_icmp .ge 100, 3) := by decide +kernel
theorem dX5_settle_80 : decode cX5_settle 80 = .ok (.iload_n 1, 1) := by decide +kernel
theorem dX5_settle_81 : decode cX5_settle 81 = .ok (.iconst 1, 1) := by decide +kernel
theorem dX5_settle_82 : decode cX5_settle 82 = .ok (.iload 9, 2) := by decide +kernel
theorem dX5_settle_84 : decode cX5_settle 84 = .ok (.ishl, 1) := by decide +kernel
theorem dX5_settle_85 : decode cX5_settle 85 = .ok (.ior, 1) := by decide +kernel
theorem dX5_settle_86 : decode cX5_settle 86 = .ok (.istore 10, 2) := by decide +kernel
theorem dX5_settle_88 : decode cX5_settle 88 = .ok (.aload_n 0, 1) := by decide +kernel
theorem dX5_settle_89 : decode cX5_settle 89 = .ok (.getfield 22, 3) := by decide +kernel
theorem dX5_settle_92 : decode cX5_settle 92 = .ok (.iload_n 2, 1) := by decide +kernel
theorem dX5_settle_93 : decode cX5_settle 93 = .ok (.iload 9, 2) := by decide +kernel
theorem dX5_settle_95 : decode cX5_settle 95 = .ok (.invokevirtual 49, 3) := by decide +kernel
theorem dX5_settle_98 : decode cX5_settle 98 = .ok (.lstore 11, 2) := by decide +kernel
theorem dX5_settle_100 : decode cX5_settle 100 = .ok (.iload 10, 2) := by decide +kernel
theorem dX5_settle_102 : decode cX5_settle 102 = .ok (.iload_n 1, 1) := by decide +kernel
theorem dX5_settle_103 : decode cX5_settle 103 = .ok (.if_icmp .eq 68, 3) := by decide +kernel
theorem dX5_settle_106 : decode cX5_settle 106 = .ok (.lload 11, 2) := by decide +kernel
theorem dX5_settle_108 : decode cX5_settle 108 = .ok (.ldc2_w 45, 3) := by decide +kernel
theorem dX5_settle_111 : decode cX5_settle 111 = .ok (.lcmp, 1) := by decide +kernel
theorem dX5_settle_112 : decode cX5_settle 112 = .ok (.ifCond .eq 59, 3) := by decide +kernel
theorem dX5_settle_115 : decode cX5_settle 115 = .ok (.aload_n 0, 1) := by decide +kernel
theorem dX5_settle_116 : decode cX5_settle 116 = .ok (.getfield 9, 3) := by decide +kernel
theorem dX5_settle_119 : decode cX5_settle 119 = .ok (.iload 10, 2) := by decide +kernel
theorem dX5_settle_121 : decode cX5_settle 121 = .ok (.iaload, 1) := by decide +kernel
theorem dX5_settle_122 : decode cX5_settle 122 = .ok (.ifCond .le 49, 3) := by decide +kernel
theorem dX5_settle_125 : decode cX5_settle 125 = .ok (.iload 4, 2) := by decide +kernel
theorem dX5_settle_127 : decode cX5_settle 127 = .ok (.aload_n 0, 1) := by decide +kernel
theorem dX5_settle_128 : decode cX5_settle 128 = .ok (.getfield 9, 3) := by decide +kernel
theorem dX5_settle_131 : decode cX5_settle 131 = .ok (.iload 10, 2) := by decide +kernel
theorem dX5_settle_133 : decode cX5_settle 133 = .ok (.iaload, 1) := by decide +kernel
theorem dX5_settle_134 : decode cX5_settle 134 = .ok (.iadd, 1) := by decide +kernel
theorem dX5_settle_135 : decode cX5_settle 135 = .ok (.istore 4, 2) := by decide +kernel
theorem dX5_settle_137 : decode cX5_settle 137 = .ok (.lload 5, 2) := by decide +kernel
theorem dX5_settle_139 : decode cX5_settle 139 = .ok (.lload 11, 2) := by decide +kernel
theorem dX5_settle_141 : decode cX5_settle 141 = .ok (.aload_n 0, 1) := by decide +kernel
theorem dX5_settle_142 : decode cX5_settle 142 = .ok (.getfield 15, 3) := by decide +kernel
theorem dX5_settle_145 : decode cX5_settle 145 = .ok (.iload 10, 2) := by decide +kernel
theorem dX5_settle_147 : decode cX5_settle 147 = .ok (.laload, 1) := by decide +kernel
theorem dX5_settle_148 : decode cX5_settle 148 = .ok (.ladd, 1) := by decide +kernel
theorem dX5_settle_149 : decode cX5_settle 149 = .ok (.invokestatic 53, 3) := by decide +kernel
theorem dX5_settle_152 : decode cX5_settle 152 = .ok (.lstore 5, 2) := by decide +kernel
theorem dX5_settle_154 : decode cX5_settle 154 = .ok (.lload 7, 2) := by decide +kernel
theorem dX5_settle_156 : decode cX5_settle 156 = .ok (.lload 11, 2) := by decide +kernel
theorem dX5_settle_158 : decode cX5_settle 158 = .ok (.aload_n 0, 1) := by decide +kernel
theorem dX5_settle_159 : decode cX5_settle 159 = .ok (.getfield 19, 3) := by decide +kernel
theorem dX5_settle_162 : decode cX5_settle 162 = .ok (.iload 10, 2) := by decide +kernel
theorem dX5_settle_164 : decode cX5_settle 164 = .ok (.laload, 1) := by decide +kernel
theorem dX5_settle_165 : decode cX5_settle 165 = .ok (.ladd, 1) := by decide +kernel
theorem dX5_settle_166 : decode cX5_settle 166 = .ok (.invokestatic 59, 3) := by decide +kernel
theorem dX5_settle_169 : decode cX5_settle 169 = .ok (.lstore 7, 2) := by decide +kernel
theorem dX5_settle_171 : decode cX5_settle 171 = .ok (.iinc 9 1, 3) := by decide +kernel
theorem dX5_settle_174 : decode cX5_settle 174 = .ok (.goto (-110), 3) := by decide +kernel
theorem dX5_settle_177 : decode cX5_settle 177 = .ok (.aload_n 0, 1) := by decide +kernel
theorem dX5_settle_178 : decode cX5_settle 178 = .ok (.getfield 9, 3) := by decide +kernel
theorem dX5_settle_181 : decode cX5_settle 181 = .ok (.iload_n 1, 1) := by decide +kernel
theorem dX5_settle_182 : decode cX5_settle 182 = .ok (.iload 4, 2) := by decide +kernel
theorem dX5_settle_184 : decode cX5_settle 184 = .ok (.iastore, 1) := by decide +kernel
theorem dX5_settle_185 : decode cX5_settle 185 = .ok (.aload_n 0, 1) := by decide +kernel
theorem dX5_settle_186 : decode cX5_settle 186 = .ok (.getfield 15, 3) := by decide +kernel
theorem dX5_settle_189 : decode cX5_settle 189 = .ok (.iload_n 1, 1) := by decide +kernel
theorem dX5_settle_190 : decode cX5_settle 190 = .ok (.lload 5, 2) := by decide +kernel
theorem dX5_settle_192 : decode cX5_settle 192 = .ok (.lastore, 1) := by decide +kernel
theorem dX5_settle_193 : decode cX5_settle 193 = .ok (.aload_n 0, 1) := by decide +kernel
theorem dX5_settle_194 : decode cX5_settle 194 = .ok (.getfield 19, 3) := by decide +kernel
theorem dX5_settle_197 : decode cX5_settle 197 = .ok (.iload_n 1, 1) := by decide +kernel
theorem dX5_settle_198 : decode cX5_settle 198 = .ok (.lload 7, 2) := by decide +kernel
theorem dX5_settle_200 : decode cX5_settle 200 = .ok (.lastore, 1) := by decide +kernel
theorem dX5_settle_201 : decode cX5_settle 201 = .ok (.return_, 1) := by decide +kernel
theorem dX5_all_0 : decode cX5_all 0 = .ok (.aload_n 0, 1) := by decide +kernel
theorem dX5_all_1 : decode cX5_all 1 = .ok (.getfield 9, 3) := by decide +kernel
theorem dX5_all_4 : decode cX5_all 4 = .ok (.iconst 0, 1) := by decide +kernel
theorem dX5_all_5 : decode cX5_all 5 = .ok (.iaload, 1) := by decide +kernel
theorem dX5_all_6 : decode cX5_all 6 = .ok (.ireturn, 1) := by decide +kernel
theorem dX5_leastSum_0 : decode cX5_leastSum 0 = .ok (.aload_n 0, 1) := by decide +kernel
theorem dX5_leastSum_1 : decode cX5_leastSum 1 = .ok (.getfield 9, 3) := by decide +kernel
theorem dX5_leastSum_4 : decode cX5_leastSum 4 = .ok (.iconst 0, 1) := by decide +kernel
theorem dX5_leastSum_5 : decode cX5_leastSum 5 = .ok (.iaload, 1) := by decide +kernel
theorem dX5_leastSum_6 : decode cX5_leastSum 6 = .ok (.ifCond .ne 9, 3) := by decide +kernel
theorem dX5_leastSum_9 : decode cX5_leastSum 9 = .ok (.ldc2_w 47, 3) := by decide +kernel
theorem dX5_leastSum_12 : decode cX5_leastSum 12 = .ok (.goto 9, 3) := by decide +kernel
theorem dX5_leastSum_15 : decode cX5_leastSum 15 = .ok (.aload_n 0, 1) := by decide +kernel
theorem dX5_leastSum_16 : decode cX5_leastSum 16 = .ok (.getfield 15, 3) := by decide +kernel
theorem dX5_leastSum_19 : decode cX5_leastSum 19 = .ok (.iconst 0, 1) := by decide +kernel
theorem dX5_leastSum_20 : decode cX5_leastSum 20 = .ok (.laload, 1) := by decide +kernel
theorem dX5_leastSum_21 : decode cX5_leastSum 21 = .ok (.lreturn, 1) := by decide +kernel
theorem dX5_upTo_0 : decode cX5_upTo 0 = .ok (.aload_n 0, 1) := by decide +kernel
theorem dX5_upTo_1 : decode cX5_upTo 1 = .ok (.iconst 0, 1) := by decide +kernel
theorem dX5_upTo_2 : decode cX5_upTo 2 = .ok (.iconst 0, 1) := by decide +kernel
theorem dX5_upTo_3 : decode cX5_upTo 3 = .ok (.ldc2_w 62, 3) := by decide +kernel
theorem dX5_upTo_6 : decode cX5_upTo 6 = .ok (.lload_n 1, 1) := by decide +kernel
theorem dX5_upTo_7 : decode cX5_upTo 7 = .ok (.invokevirtual 64, 3) := by decide +kernel
theorem dX5_upTo_10 : decode cX5_upTo 10 = .ok (.ireturn, 1) := by decide +kernel
theorem dX5_alike_0 : decode cX5_alike 0 = .ok (.aload_n 0, 1) := by decide +kernel
theorem dX5_alike_1 : decode cX5_alike 1 = .ok (.iconst 0, 1) := by decide +kernel
theorem dX5_alike_2 : decode cX5_alike 2 = .ok (.iconst 0, 1) := by decide +kernel
theorem dX5_alike_3 : decode cX5_alike 3 = .ok (.lload_n 1, 1) := by decide +kernel
theorem dX5_alike_4 : decode cX5_alike 4 = .ok (.lload_n 1, 1) := by decide +kernel
theorem dX5_alike_5 : decode cX5_alike 5 = .ok (.invokevirtual 64, 3) := by decide +kernel
theorem dX5_alike_8 : decode cX5_alike 8 = .ok (.ireturn, 1) := by decide +kernel
theorem dX5_between_0 : decode cX5_between 0 = .ok (.iload_n 1, 1) := by decide +kernel
theorem dX5_between_1 : decode cX5_between 1 = .ok (.ifCond .lt 42, 3) := by decide +kernel
theorem dX5_between_4 : decode cX5_between 4 = .ok (.iload_n 1, 1) := by decide +kernel
theorem dX5_between_5 : decode cX5_between 5 = .ok (.sipush 256, 3) := by decide +kernel
theorem dX5_between_8 : decode cX5_between 8 = .ok (.if_icmp .ge 35, 3) := by decide +kernel
theorem dX5_between_11 : decode cX5_between 11 = .ok (.aload_n 0, 1) := by decide +kernel
theorem dX5_between_12 : decode cX5_between 12 = .ok (.getfield 9, 3) := by decide +kernel
theorem dX5_between_15 : decode cX5_between 15 = .ok (.iload_n 1, 1) := by decide +kernel
theorem dX5_between_16 : decode cX5_between 16 = .ok (.iaload, 1) := by decide +kernel
theorem dX5_between_17 : decode cX5_between 17 = .ok (.ifCond .eq 26, 3) := by decide +kernel
theorem dX5_between_20 : decode cX5_between 20 = .ok (.aload_n 0, 1) := by decide +kernel
theorem dX5_between_21 : decode cX5_between 21 = .ok (.getfield 15, 3) := by decide +kernel
theorem dX5_between_24 : decode cX5_between 24 = .ok (.iload_n 1, 1) := by decide +kernel
theorem dX5_between_25 : decode cX5_between 25 = .ok (.laload, 1) := by decide +kernel
theorem dX5_between_26 : decode cX5_between 26 = .ok (.lload 5, 2) := by decide +kernel
theorem dX5_between_28 : decode cX5_between 28 = .ok (.lcmp, 1) := by decide +kernel
theorem dX5_between_29 : decode cX5_between 29 = .ok (.ifCond .gt 14, 3) := by decide +kernel
theorem dX5_between_32 : decode cX5_between 32 = .ok (.aload_n 0, 1) := by decide +kernel
theorem dX5_between_33 : decode cX5_between 33 = .ok (.getfield 19, 3) := by decide +kernel
theorem dX5_between_36 : decode cX5_between 36 = .ok (.iload_n 1, 1) := by decide +kernel
theorem dX5_between_37 : decode cX5_between 37 = .ok (.laload, 1) := by decide +kernel
theorem dX5_between_38 : decode cX5_between 38 = .ok (.lload_n 3, 1) := by decide +kernel
theorem dX5_between_39 : decode cX5_between 39 = .ok (.lcmp, 1) := by decide +kernel
theorem dX5_between_40 : decode cX5_between 40 = .ok (.ifCond .ge 5, 3) := by decide +kernel
theorem dX5_between_43 : decode cX5_between 43 = .ok (.iconst 0, 1) := by decide +kernel
theorem dX5_between_44 : decode cX5_between 44 = .ok (.ireturn, 1) := by decide +kernel
theorem dX5_between_45 : decode cX5_between 45 = .ok (.aload_n 0, 1) := by decide +kernel
theorem dX5_between_46 : decode cX5_between 46 = .ok (.getfield 15, 3) := by decide +kernel
theorem dX5_between_49 : decode cX5_between 49 = .ok (.iload_n 1, 1) := by decide +kernel
theorem dX5_between_50 : decode cX5_between 50 = .ok (.laload, 1) := by decide +kernel
theorem dX5_between_51 : decode cX5_between 51 = .ok (.lload_n 3, 1) := by decide +kernel
theorem dX5_between_52 : decode cX5_between 52 = .ok (.lcmp, 1) := by decide +kernel
theorem dX5_between_53 : decode cX5_between 53 = .ok (.ifCond .lt 22, 3) := by decide +kernel
theorem dX5_between_56 : decode cX5_between 56 = .ok (.aload_n 0, 1) := by decide +kernel
theorem dX5_between_57 : decode cX5_between 57 = .ok (.getfield 19, 3) := by decide +kernel
theorem dX5_between_60 : decode cX5_between 60 = .ok (.iload_n 1, 1) := by decide +kernel
theorem dX5_between_61 : decode cX5_between 61 = .ok (.laload, 1) := by decide +kernel
theorem dX5_between_62 : decode cX5_between 62 = .ok (.lload 5, 2) := by decide +kernel
theorem dX5_between_64 : decode cX5_between 64 = .ok (.lcmp, 1) := by decide +kernel
theorem dX5_between_65 : decode cX5_between 65 = .ok (.ifCond .gt 10, 3) := by decide +kernel
theorem dX5_between_68 : decode cX5_between 68 = .ok (.aload_n 0, 1) := by decide +kernel
theorem dX5_between_69 : decode cX5_between 69 = .ok (.getfield 9, 3) := by decide +kernel
theorem dX5_between_72 : decode cX5_between 72 = .ok (.iload_n 1, 1) := by decide +kernel
theorem dX5_between_73 : decode cX5_between 73 = .ok (.iaload, 1) := by decide +kernel
theorem dX5_between_74 : decode cX5_between 74 = .ok (.ireturn, 1) := by decide +kernel
theorem dX5_between_75 : decode cX5_between 75 = .ok (.aload_n 0, 1) := by decide +kernel
theorem dX5_between_76 : decode cX5_between 76 = .ok (.iload_n 1, 1) := by decide +kernel
theorem dX5_between_77 : decode cX5_between 77 = .ok (.iload_n 2, 1) := by decide +kernel
theorem dX5_between_78 : decode cX5_between 78 = .ok (.lload_n 3, 1) := by decide +kernel
theorem dX5_between_79 : decode cX5_between 79 = .ok (.lload 5, 2) := by decide +kernel
theorem dX5_between_81 : decode cX5_between 81 = .ok (.invokestatic 68, 3) := by decide +kernel
theorem dX5_between_84 : decode cX5_between 84 = .ok (.ireturn, 1) := by decide +kernel
theorem dX5_search_0 : decode cX5_search 0 = .ok (.iconst 0, 1) := by decide +kernel
theorem dX5_search_1 : decode cX5_search 1 = .ok (.istore 7, 2) := by decide +kernel
theorem dX5_search_3 : decode cX5_search 3 = .ok (.iconst 0, 1) := by decide +kernel
theorem dX5_search_4 : decode cX5_search 4 = .ok (.istore 8, 2) := by decide +kernel
theorem dX5_search_6 : decode cX5_search 6 = .ok (.iload_n 2, 1) := by decide +kernel
theorem dX5_search_7 : decode cX5_search 7 = .ok (.aload_n 0, 1) := by decide +kernel
theorem dX5_search_8 : decode cX5_search 8 = .ok (.getfield 22, 3) := by decide +kernel
theorem dX5_search_11 : decode cX5_search 11 = .ok (.getfield 42, 3) := by decide +kernel
theorem dX5_search_14 : decode cX5_search 14 = .ok (.if_icmp .ge 167, 3) := by decide +kernel
theorem dX5_search_17 : decode cX5_search 17 = .ok (.iload 8, 2) := by decide +kernel
theorem dX5_search_19 : decode cX5_search 19 = .ok (.aload_n 0, 1) := by decide +kernel
theorem dX5_search_20 : decode cX5_search 20 = .ok (.getfield 22, 3) := by decide +kernel
theorem dX5_search_23 : decode cX5_search 23 = .ok (.getfield 26, 3) := by decide +kernel
theorem dX5_search_26 : decode cX5_search 26 = .ok (.if_icmp .ge 155, 3) := by decide +kernel
theorem dX5_search_29 : decode cX5_search 29 = .ok (.iload_n 1, 1) := by decide +kernel
theorem dX5_search_30 : decode cX5_search 30 = .ok (.iconst 1, 1) := by decide +kernel
theorem dX5_search_31 : decode cX5_search 31 = .ok (.iload 8, 2) := by decide +kernel
theorem dX5_search_33 : decode cX5_search 33 = .ok (.ishl, 1) := by decide +kernel
theorem dX5_search_34 : decode cX5_search 34 = .ok (.ior, 1) := by decide +kernel
theorem dX5_search_35 : decode cX5_search 35 = .ok (.istore 9, 2) := by decide +kernel
theorem dX5_search_37 : decode cX5_search 37 = .ok (.aload_n 0, 1) := by decide +kernel
theorem dX5_search_38 : decode cX5_search 38 = .ok (.getfield 22, 3) := by decide +kernel
theorem dX5_search_41 : decode cX5_search 41 = .ok (.iload_n 2, 1) := by decide +kernel
theorem dX5_search_42 : decode cX5_search 42 = .ok (.iload 8, 2) := by decide +kernel
theorem dX5_search_44 : decode cX5_search 44 = .ok (.invokevirtual 49, 3) := by decide +kernel
theorem dX5_search_47 : decode cX5_search 47 = .ok (.lstore 10, 2) := by decide +kernel
theorem dX5_search_49 : decode cX5_search 49 = .ok (.iload 9, 2) := by decide +kernel
theorem dX5_search_51 : decode cX5_search 51 = .ok (.iload_n 1, 1) := by decide +kernel
theorem dX5_search_52 : decode cX5_search 52 = .ok (.if_icmp .eq 123, 3) := by decide +kernel
theorem dX5_search_55 : decode cX5_search 55 = .ok (.lload 10, 2) := by decide +kernel
theorem dX5_search_57 : decode cX5_search 57 = .ok (.ldc2_w 45, 3) := by decide +kernel
theorem dX5_search_60 : decode cX5_search 60 = .ok (.lcmp, 1) := by decide +kernel
theorem dX5_search_61 : decode cX5_search 61 = .ok (.ifCond .eq 114, 3) := by decide +kernel
theorem dX5_search_64 : decode cX5_search 64 = .ok (.aload_n 0, 1) := by decide +kernel
theorem dX5_search_65 : decode cX5_search 65 = .ok (.getfield 9, 3) := by decide +kernel
theorem dX5_search_68 : decode cX5_search 68 = .ok (.iload 9, 2) := by decide +kernel
theorem dX5_search_70 : decode cX5_search 70 = .ok (.iaload, 1) := by decide +kernel
theorem dX5_search_71 : decode cX5_search 71 = .ok (.ifCond .ne 6, 3) := by decide +kernel
theorem dX5_search_74 : decode cX5_search 74 = .ok (.goto 101, 3) := by decide +kernel
theorem dX5_search_77 : decode cX5_search 77 = .ok (.lload_n 3, 1) := by decide +kernel
theorem dX5_search_78 : decode cX5_search 78 = .ok (.lload 10, 2) := by decide +kernel
theorem dX5_search_80 : decode cX5_search 80 = .ok (.lsub, 1) := by decide +kernel
theorem dX5_search_81 : decode cX5_search 81 = .ok (.lstore 12, 2) := by decide +kernel
theorem dX5_search_83 : decode cX5_search 83 = .ok (.lload 5, 2) := by decide +kernel
theorem dX5_search_85 : decode cX5_search 85 = .ok (.lload 10, 2) := by decide +kernel
theorem dX5_search_87 : decode cX5_search 87 = .ok (.lsub, 1) := by decide +kernel
theorem dX5_search_88 : decode cX5_search 88 = .ok (.lstore 14, 2) := by decide +kernel
theorem dX5_search_90 : decode cX5_search 90 = .ok (.aload_n 0, 1) := by decide +kernel
theorem dX5_search_91 : decode cX5_search 91 = .ok (.getfield 15, 3) := by decide +kernel
theorem dX5_search_94 : decode cX5_search 94 = .ok (.iload 9, 2) := by decide +kernel
theorem dX5_search_96 : decode cX5_search 96 = .ok (.laload, 1) := by decide +kernel
theorem dX5_search_97 : decode cX5_search 97 = .ok (.lload 12, 2) := by decide +kernel
theorem dX5_search_99 : decode cX5_search 99 = .ok (.lcmp, 1) := by decide +kernel
theorem dX5_search_100 : decode cX5_search 100 = .ok (.ifCond .lt 31, 3) := by decide +kernel
theorem dX5_search_103 : decode cX5_search 103 = .ok (.aload_n 0, 1) := by decide +kernel
theorem dX5_search_104 : decode cX5_search 104 = .ok (.getfield 19, 3) := by decide +kernel
theorem dX5_search_107 : decode cX5_search 107 = .ok (.iload 9, 2) := by decide +kernel
theorem dX5_search_109 : decode cX5_search 109 = .ok (.laload, 1) := by decide +kernel
theorem dX5_search_110 : decode cX5_search 110 = .ok (.lload 14, 2) := by decide +kernel
theorem dX5_search_112 : decode cX5_search 112 = .ok (.lcmp, 1) := by decide +kernel
theorem dX5_search_113 : decode cX5_search 113 = .ok (.ifCond .gt 18, 3) := by decide +kernel
theorem dX5_search_116 : decode cX5_search 116 = .ok (.iload 7, 2) := by decide +kernel
theorem dX5_search_118 : decode cX5_search 118 = .ok (.aload_n 0, 1) := by decide +kernel
theorem dX5_search_119 : decode cX5_search 119 = .ok (.getfield 9, 3) := by decide +kernel
theorem dX5_search_122 : decode cX5_search 122 = .ok (.iload 9, 2) := by decide +kernel
theorem dX5_search_124 : decode cX5_search 124 = .ok (.iaload, 1) := by decide +kernel
theorem dX5_search_125 : decode cX5_search 125 = .ok (.iadd, 1) := by decide +kernel
theorem dX5_search_126 : decode cX5_search 126 = .ok (.istore 7, 2) := by decide +kernel
theorem dX5_search_128 : decode cX5_search 128 = .ok (.goto 47, 3) := by decide +kernel
theorem dX5_search_131 : decode cX5_search 131 = .ok (.aload_n 0, 1) := by decide +kernel
theorem dX5_search_132 : decode cX5_search 132 = .ok (.getfield 15, 3) := by decide +kernel
theorem dX5_search_135 : decode cX5_search 135 = .ok (.iload 9, 2) := by decide +kernel
theorem dX5_search_137 : decode cX5_search 137 = .ok (.laload, 1) := by decide +kernel
theorem dX5_search_138 : decode cX5_search 138 = .ok (.lload 14, 2) := by decide +kernel
theorem dX5_search_140 : decode cX5_search 140 = .ok (.lcmp, 1) := by decide +kernel
theorem dX5_search_141 : decode cX5_search 141 = .ok (.ifCond .gt 34, 3) := by decide +kernel
theorem dX5_search_144 : decode cX5_search 144 = .ok (.aload_n 0, 1) := by decide +kernel
theorem dX5_search_145 : decode cX5_search 145 = .ok (.getfield 19, 3) := by decide +kernel
theorem dX5_search_148 : decode cX5_search 148 = .ok (.iload 9, 2) := by decide +kernel
theorem dX5_search_150 : decode cX5_search 150 = .ok (.laload, 1) := by decide +kernel
theorem dX5_search_151 : decode cX5_search 151 = .ok (.lload 12, 2) := by decide +kernel
theorem dX5_search_153 : decode cX5_search 153 = .ok (.lcmp, 1) := by decide +kernel
theorem dX5_search_154 : decode cX5_search 154 = .ok (.ifCond .lt 21, 3) := by decide +kernel
theorem dX5_search_157 : decode cX5_search 157 = .ok (.iload 7, 2) := by decide +kernel
theorem dX5_search_159 : decode cX5_search 159 = .ok (.aload_n 0, 1) := by decide +kernel
theorem dX5_search_160 : decode cX5_search 160 = .ok (.iload 9, 2) := by decide +kernel
theorem dX5_search_162 : decode cX5_search 162 = .ok (.iload_n 2, 1) := by decide +kernel
theorem dX5_search_163 : decode cX5_search 163 = .ok (.iconst 1, 1) := by decide +kernel
theorem dX5_search_164 : decode cX5_search 164 = .ok (.iadd, 1) := by decide +kernel
theorem dX5_search_165 : decode cX5_search 165 = .ok (.lload 12, 2) := by decide +kernel
theorem dX5_search_167 : decode cX5_search 167 = .ok (.lload 14, 2) := by decide +kernel
theorem dX5_search_169 : decode cX5_search 169 = .ok (.invokestatic 68, 3) := by decide +kernel
theorem dX5_search_172 : decode cX5_search 172 = .ok (.iadd, 1) := by decide +kernel
theorem dX5_search_173 : decode cX5_search 173 = .ok (.istore 7, 2) := by decide +kernel
theorem dX5_search_175 : decode cX5_search 175 = .ok (.iinc 8 1, 3) := by decide +kernel
theorem dX5_search_178 : decode cX5_search 178 = .ok (.goto (-172), 3) := by decide +kernel
theorem dX5_search_181 : decode cX5_search 181 = .ok (.iload 7, 2) := by decide +kernel
theorem dX5_search_183 : decode cX5_search 183 = .ok (.ireturn, 1) := by decide +kernel
theorem dX5_before_0 : decode cX5_before 0 = .ok (.aload_n 0, 1) := by decide +kernel
theorem dX5_before_1 : decode cX5_before 1 = .ok (.getfield 22, 3) := by decide +kernel
theorem dX5_before_4 : decode cX5_before 4 = .ok (.aload_n 1, 1) := by decide +kernel
theorem dX5_before_5 : decode cX5_before 5 = .ok (.invokevirtual 72, 3) := by decide +kernel
theorem dX5_before_8 : decode cX5_before 8 = .ok (.lstore_n 2, 1) := by decide +kernel
theorem dX5_before_9 : decode cX5_before 9 = .ok (.aload_n 0, 1) := by decide +kernel
theorem dX5_before_10 : decode cX5_before 10 = .ok (.lload_n 2, 1) := by decide +kernel
theorem dX5_before_11 : decode cX5_before 11 = .ok (.lconst 1, 1) := by decide +kernel
theorem dX5_before_12 : decode cX5_before 12 = .ok (.lsub, 1) := by decide +kernel
theorem dX5_before_13 : decode cX5_before 13 = .ok (.invokevirtual 76, 3) := by decide +kernel
theorem dX5_before_16 : decode cX5_before 16 = .ok (.istore 4, 2) := by decide +kernel
theorem dX5_before_18 : decode cX5_before 18 = .ok (.iconst 0, 1) := by decide +kernel
theorem dX5_before_19 : decode cX5_before 19 = .ok (.istore 5, 2) := by decide +kernel
theorem dX5_before_21 : decode cX5_before 21 = .ok (.iconst 0, 1) := by decide +kernel
theorem dX5_before_22 : decode cX5_before 22 = .ok (.istore 6, 2) := by decide +kernel
theorem dX5_before_24 : decode cX5_before 24 = .ok (.iload 6, 2) := by decide +kernel
theorem dX5_before_26 : decode cX5_before 26 = .ok (.aload_n 0, 1) := by decide +kernel
theorem dX5_before_27 : decode cX5_before 27 = .ok (.getfield 22, 3) := by decide +kernel
theorem dX5_before_30 : decode cX5_before 30 = .ok (.getfield 42, 3) := by decide +kernel
theorem dX5_before_33 : decode cX5_before 33 = .ok (.if_icmp .ge 121, 3) := by decide +kernel
theorem dX5_before_36 : decode cX5_before 36 = .ok (.iload 6, 2) := by decide +kernel
theorem dX5_before_38 : decode cX5_before 38 = .ok (.aload_n 1, 1) := by decide +kernel
theorem dX5_before_39 : decode cX5_before 39 = .ok (.arraylength, 1) := by decide +kernel
theorem dX5_before_40 : decode cX5_before 40 = .ok (.if_icmp .ge 114, 3) := by decide +kernel
theorem dX5_before_43 : decode cX5_before 43 = .ok (.iconst 0, 1) := by decide +kernel
theorem dX5_before_44 : decode cX5_before 44 = .ok (.istore 7, 2) := by decide +kernel
theorem dX5_before_46 : decode cX5_before 46 = .ok (.iload 7, 2) := by decide +kernel
theorem dX5_before_48 : decode cX5_before 48 = .ok (.aload_n 1, 1) := by decide +kernel
theorem dX5_before_49 : decode cX5_before 49 = .ok (.iload 6, 2) := by decide +kernel
theorem dX5_before_51 : decode cX5_before 51 = .ok (.iaload, 1) := by decide +kernel
theorem dX5_before_52 : decode cX5_before 52 = .ok (.if_icmp .ge 69, 3) := by decide +kernel
theorem dX5_before_55 : decode cX5_before 55 = .ok (.aload_n 0, 1) := by decide +kernel
theorem dX5_before_56 : decode cX5_before 56 = .ok (.getfield 22, 3) := by decide +kernel
theorem dX5_before_59 : decode cX5_before 59 = .ok (.iload 6, 2) := by decide +kernel
theorem dX5_before_61 : decode cX5_before 61 = .ok (.iload 7, 2) := by decide +kernel
theorem dX5_before_63 : decode cX5_before 63 = .ok (.invokevirtual 49, 3) := by decide +kernel
theorem dX5_before_66 : decode cX5_before 66 = .ok (.lstore 8, 2) := by decide +kernel
theorem dX5_before_68 : decode cX5_before 68 = .ok (.lload 8, 2) := by decide +kernel
theorem dX5_before_70 : decode cX5_before 70 = .ok (.ldc2_w 45, 3) := by decide +kernel
theorem dX5_before_73 : decode cX5_before 73 = .ok (.lcmp, 1) := by decide +kernel
theorem dX5_before_74 : decode cX5_before 74 = .ok (.ifCond .eq 41, 3) := by decide +kernel
theorem dX5_before_77 : decode cX5_before 77 = .ok (.iload 5, 2) := by decide +kernel
theorem dX5_before_79 : decode cX5_before 79 = .ok (.iload 7, 2) := by decide +kernel
theorem dX5_before_81 : decode cX5_before 81 = .ok (.ishr, 1) := by decide +kernel
theorem dX5_before_82 : decode cX5_before 82 = .ok (.iconst 1, 1) := by decide +kernel
theorem dX5_before_83 : decode cX5_before 83 = .ok (.iand, 1) := by decide +kernel
theorem dX5_before_84 : decode cX5_before 84 = .ok (.ifCond .ne 31, 3) := by decide +kernel
theorem dX5_before_87 : decode cX5_before 87 = .ok (.iload 4, 2) := by decide +kernel
theorem dX5_before_89 : decode cX5_before 89 = .ok (.aload_n 0, 1) := by decide +kernel
theorem dX5_before_90 : decode cX5_before 90 = .ok (.iload 5, 2) := by decide +kernel
theorem dX5_before_92 : decode cX5_before 92 = .ok (.iconst 1, 1) := by decide +kernel
theorem dX5_before_93 : decode cX5_before 93 = .ok (.iload 7, 2) := by decide +kernel
theorem dX5_before_95 : decode cX5_before 95 = .ok (.ishl, 1) := by decide +kernel
theorem dX5_before_96 : decode cX5_before 96 = .ok (.ior, 1) := by decide +kernel
theorem dX5_before_97 : decode cX5_before 97 = .ok (.iload 6, 2) := by decide +kernel
theorem dX5_before_99 : decode cX5_before 99 = .ok (.iconst 1, 1) := by decide +kernel
theorem dX5_before_100 : decode cX5_before 100 = .ok (.iadd, 1) := by decide +kernel
theorem dX5_before_101 : decode cX5_before 101 = .ok (.lload_n 2, 1) := by decide +kernel
theorem dX5_before_102 : decode cX5_before 102 = .ok (.lload 8, 2) := by decide +kernel
theorem dX5_before_104 : decode cX5_before 104 = .ok (.lsub, 1) := by decide +kernel
theorem dX5_before_105 : decode cX5_before 105 = .ok (.lload_n 2, 1) := by decide +kernel
theorem dX5_before_106 : decode cX5_before 106 = .ok (.lload 8, 2) := by decide +kernel
theorem dX5_before_108 : decode cX5_before 108 = .ok (.lsub, 1) := by decide +kernel
theorem dX5_before_109 : decode cX5_before 109 = .ok (.invokevirtual 64, 3) := by decide +kernel
theorem dX5_before_112 : decode cX5_before 112 = .ok (.iadd, 1) := by decide +kernel
theorem dX5_before_113 : decode cX5_before 113 = .ok (.istore 4, 2) := by decide +kernel
theorem dX5_before_115 : decode cX5_before 115 = .ok (.iinc 7 1, 3) := by decide +kernel
theorem dX5_before_118 : decode cX5_before 118 = .ok (.goto (-72), 3) := by decide +kernel
theorem dX5_before_121 : decode cX5_before 121 = .ok (.iload 5, 2) := by decide +kernel
theorem dX5_before_123 : decode cX5_before 123 = .ok (.iconst 1, 1) := by decide +kernel
theorem dX5_before_124 : decode cX5_before 124 = .ok (.aload_n 1, 1) := by decide +kernel
theorem dX5_before_125 : decode cX5_before 125 = .ok (.iload 6, 2) := by decide +kernel
theorem dX5_before_127 : decode cX5_before 127 = .ok (.iaload, 1) := by decide +kernel
theorem dX5_before_128 : decode cX5_before 128 = .ok (.ishl, 1) := by decide +kernel
theorem dX5_before_129 : decode cX5_before 129 = .ok (.ior, 1) := by decide +kernel
theorem dX5_before_130 : decode cX5_before 130 = .ok (.istore 5, 2) := by decide +kernel
theorem dX5_before_132 : decode cX5_before 132 = .ok (.lload_n 2, 1) := by decide +kernel
theorem dX5_before_133 : decode cX5_before 133 = .ok (.aload_n 0, 1) := by decide +kernel
theorem dX5_before_134 : decode cX5_before 134 = .ok (.getfield 22, 3) := by decide +kernel
theorem dX5_before_137 : decode cX5_before 137 = .ok (.iload 6, 2) := by decide +kernel
theorem dX5_before_139 : decode cX5_before 139 = .ok (.aload_n 1, 1) := by decide +kernel
theorem dX5_before_140 : decode cX5_before 140 = .ok (.iload 6, 2) := by decide +kernel
theorem dX5_before_142 : decode cX5_before 142 = .ok (.iaload, 1) := by decide +kernel
theorem dX5_before_143 : decode cX5_before 143 = .ok (.invokevirtual 49, 3) := by decide +kernel
theorem dX5_before_146 : decode cX5_before 146 = .ok (.lsub, 1) := by decide +kernel
theorem dX5_before_147 : decode cX5_before 147 = .ok (.lstore_n 2, 1) := by decide +kernel
theorem dX5_before_148 : decode cX5_before 148 = .ok (.iinc 6 1, 3) := by decide +kernel
theorem dX5_before_151 : decode cX5_before 151 = .ok (.goto (-127), 3) := by decide +kernel
theorem dX5_before_154 : decode cX5_before 154 = .ok (.iload 4, 2) := by decide +kernel
theorem dX5_before_156 : decode cX5_before 156 = .ok (.ireturn, 1) := by decide +kernel
theorem dX5_findFirst_0 : decode cX5_findFirst 0 = .ok (.aload_n 0, 1) := by decide +kernel
theorem dX5_findFirst_1 : decode cX5_findFirst 1 = .ok (.getfield 9, 3) := by decide +kernel
theorem dX5_findFirst_4 : decode cX5_findFirst 4 = .ok (.iconst 0, 1) := by decide +kernel
theorem dX5_findFirst_5 : decode cX5_findFirst 5 = .ok (.iaload, 1) := by decide +kernel
theorem dX5_findFirst_6 : decode cX5_findFirst 6 = .ok (.ifCond .eq 15, 3) := by decide +kernel
theorem dX5_findFirst_9 : decode cX5_findFirst 9 = .ok (.aload_n 1, 1) := by decide +kernel
theorem dX5_findFirst_10 : decode cX5_findFirst 10 = .ok (.arraylength, 1) := by decide +kernel
theorem dX5_findFirst_11 : decode cX5_findFirst 11 = .ok (.aload_n 0, 1) := by decide +kernel
theorem dX5_findFirst_12 : decode cX5_findFirst 12 = .ok (.getfield 22, 3) := by decide +kernel
theorem dX5_findFirst_15 : decode cX5_findFirst 15 = .ok (.getfield 42, 3) := by decide +kernel
theorem dX5_findFirst_18 : decode cX5_findFirst 18 = .ok (.if_icmp .ge 5, 3) := by decide +kernel
theorem dX5_findFirst_21 : decode cX5_findFirst 21 = .ok (.iconst 0, 1) := by decide +kernel
theorem dX5_findFirst_22 : decode cX5_findFirst 22 = .ok (.ireturn, 1) := by decide +kernel
theorem dX5_findFirst_23 : decode cX5_findFirst 23 = .ok (.iconst 0, 1) := by decide +kernel
theorem dX5_findFirst_24 : decode cX5_findFirst 24 = .ok (.istore_n 2, 1) := by decide +kernel
theorem dX5_findFirst_25 : decode cX5_findFirst 25 = .ok (.iconst 0, 1) := by decide +kernel
theorem dX5_findFirst_26 : decode cX5_findFirst 26 = .ok (.istore_n 3, 1) := by decide +kernel
theorem dX5_findFirst_27 : decode cX5_findFirst 27 = .ok (.iload_n 3, 1) := by decide +kernel
theorem dX5_findFirst_28 : decode cX5_findFirst 28 = .ok (.aload_n 0, 1) := by decide +kernel
theorem dX5_findFirst_29 : decode cX5_findFirst 29 = .ok (.getfield 22, 3) := by decide +kernel
theorem dX5_findFirst_32 : decode cX5_findFirst 32 = .ok (.getfield 42, 3) := by decide +kernel
theorem dX5_findFirst_35 : decode cX5_findFirst 35 = .ok (.if_icmp .ge 26, 3) := by decide +kernel
theorem dX5_findFirst_38 : decode cX5_findFirst 38 = .ok (.aload_n 1, 1) := by decide +kernel
theorem dX5_findFirst_39 : decode cX5_findFirst 39 = .ok (.iload_n 3, 1) := by decide +kernel
theorem dX5_findFirst_40 : decode cX5_findFirst 40 = .ok (.aload_n 0, 1) := by decide +kernel
theorem dX5_findFirst_41 : decode cX5_findFirst 41 = .ok (.iload_n 2, 1) := by decide +kernel
theorem dX5_findFirst_42 : decode cX5_findFirst 42 = .ok (.iload_n 3, 1) := by decide +kernel
theorem dX5_findFirst_43 : decode cX5_findFirst 43 = .ok (.invokevirtual 80, 3) := by decide +kernel
theorem dX5_findFirst_46 : decode cX5_findFirst 46 = .ok (.iastore, 1) := by decide +kernel
theorem dX5_findFirst_47 : decode cX5_findFirst 47 = .ok (.iload_n 2, 1) := by decide +kernel
theorem dX5_findFirst_48 : decode cX5_findFirst 48 = .ok (.iconst 1, 1) := by decide +kernel
theorem dX5_findFirst_49 : decode cX5_findFirst 49 = .ok (.aload_n 1, 1) := by decide +kernel
theorem dX5_findFirst_50 : decode cX5_findFirst 50 = .ok (.iload_n 3, 1) := by decide +kernel
theorem dX5_findFirst_51 : decode cX5_findFirst 51 = .ok (.iaload, 1) := by decide +kernel
theorem dX5_findFirst_52 : decode cX5_findFirst 52 = .ok (.ishl, 1) := by decide +kernel
theorem dX5_findFirst_53 : decode cX5_findFirst 53 = .ok (.ior, 1) := by decide +kernel
theorem dX5_findFirst_54 : decode cX5_findFirst 54 = .ok (.istore_n 2, 1) := by decide +kernel
theorem dX5_findFirst_55 : decode cX5_findFirst 55 = .ok (.iinc 3 1, 3) := by decide +kernel
theorem dX5_findFirst_58 : decode cX5_findFirst 58 = .ok (.goto (-31), 3) := by decide +kernel
theorem dX5_findFirst_61 : decode cX5_findFirst 61 = .ok (.iconst 1, 1) := by decide +kernel
theorem dX5_findFirst_62 : decode cX5_findFirst 62 = .ok (.ireturn, 1) := by decide +kernel
theorem dX5_leastGoingOn_0 : decode cX5_leastGoingOn 0 = .ok (.iconst 0, 1) := by decide +kernel
theorem dX5_leastGoingOn_1 : decode cX5_leastGoingOn 1 = .ok (.istore_n 3, 1) := by decide +kernel
theorem dX5_leastGoingOn_2 : decode cX5_leastGoingOn 2 = .ok (.iload_n 3, 1) := by decide +kernel
theorem dX5_leastGoingOn_3 : decode cX5_leastGoingOn 3 = .ok (.aload_n 0, 1) := by decide +kernel
theorem dX5_leastGoingOn_4 : decode cX5_leastGoingOn 4 = .ok (.getfield 22, 3) := by decide +kernel
theorem dX5_leastGoingOn_7 : decode cX5_leastGoingOn 7 = .ok (.getfield 26, 3) := by decide +kernel
theorem dX5_leastGoingOn_10 : decode cX5_leastGoingOn 10 = .ok (.if_icmp .ge 74, 3) := by decide +kernel
theorem dX5_leastGoingOn_13 : decode cX5_leastGoingOn 13 = .ok (.iload_n 1, 1) := by decide +kernel
theorem dX5_leastGoingOn_14 : decode cX5_leastGoingOn 14 = .ok (.iconst 1, 1) := by decide +kernel
theorem dX5_leastGoingOn_15 : decode cX5_leastGoingOn 15 = .ok (.iload_n 3, 1) := by decide +kernel
theorem dX5_leastGoingOn_16 : decode cX5_leastGoingOn 16 = .ok (.ishl, 1) := by decide +kernel
theorem dX5_leastGoingOn_17 : decode cX5_leastGoingOn 17 = .ok (.ior, 1) := by decide +kernel
theorem dX5_leastGoingOn_18 : decode cX5_leastGoingOn 18 = .ok (.istore 4, 2) := by decide +kernel
theorem dX5_leastGoingOn_20 : decode cX5_leastGoingOn 20 = .ok (.aload_n 0, 1) := by decide +kernel
theorem dX5_leastGoingOn_21 : decode cX5_leastGoingOn 21 = .ok (.getfield 22, 3) := by decide +kernel
theorem dX5_leastGoingOn_24 : decode cX5_leastGoingOn 24 = .ok (.iload_n 2, 1) := by decide +kernel
theorem dX5_leastGoingOn_25 : decode cX5_leastGoingOn 25 = .ok (.iload_n 3, 1) := by decide +kernel
theorem dX5_leastGoingOn_26 : decode cX5_leastGoingOn 26 = .ok (.invokevirtual 49, 3) := by decide +kernel
theorem dX5_leastGoingOn_29 : decode cX5_leastGoingOn 29 = .ok (.lstore 5, 2) := by decide +kernel
theorem dX5_leastGoingOn_31 : decode cX5_leastGoingOn 31 = .ok (.iload 4, 2) := by decide +kernel
theorem dX5_leastGoingOn_33 : decode cX5_leastGoingOn 33 = .ok (.iload_n 1, 1) := by decide +kernel
theorem dX5_leastGoingOn_34 : decode cX5_leastGoingOn 34 = .ok (.if_icmp .eq 44, 3) := by decide +kernel
theorem dX5_leastGoingOn_37 : decode cX5_leastGoingOn 37 = .ok (.lload 5, 2) := by decide +kernel
theorem dX5_leastGoingOn_39 : decode cX5_leastGoingOn 39 = .ok (.ldc2_w 45, 3) := by decide +kernel
theorem dX5_leastGoingOn_42 : decode cX5_leastGoingOn 42 = .ok (.lcmp, 1) := by decide +kernel
theorem dX5_leastGoingOn_43 : decode cX5_leastGoingOn 43 = .ok (.ifCond .eq 35, 3) := by decide +kernel
theorem dX5_leastGoingOn_46 : decode cX5_leastGoingOn 46 = .ok (.aload_n 0, 1) := by decide +kernel
theorem dX5_leastGoingOn_47 : decode cX5_leastGoingOn 47 = .ok (.getfield 9, 3) := by decide +kernel
theorem dX5_leastGoingOn_50 : decode cX5_leastGoingOn 50 = .ok (.iload 4, 2) := by decide +kernel
theorem dX5_leastGoingOn_52 : decode cX5_leastGoingOn 52 = .ok (.iaload, 1) := by decide +kernel
theorem dX5_leastGoingOn_53 : decode cX5_leastGoingOn 53 = .ok (.ifCond .le 25, 3) := by decide +kernel
theorem dX5_leastGoingOn_56 : decode cX5_leastGoingOn 56 = .ok (.lload 5, 2) := by decide +kernel
theorem dX5_leastGoingOn_58 : decode cX5_leastGoingOn 58 = .ok (.aload_n 0, 1) := by decide +kernel
theorem dX5_leastGoingOn_59 : decode cX5_leastGoingOn 59 = .ok (.getfield 15, 3) := by decide +kernel
theorem dX5_leastGoingOn_62 : decode cX5_leastGoingOn 62 = .ok (.iload 4, 2) := by decide +kernel
theorem dX5_leastGoingOn_64 : decode cX5_leastGoingOn 64 = .ok (.laload, 1) := by decide +kernel
theorem dX5_leastGoingOn_65 : decode cX5_leastGoingOn 65 = .ok (.ladd, 1) := by decide +kernel
theorem dX5_leastGoingOn_66 : decode cX5_leastGoingOn 66 = .ok (.aload_n 0, 1) := by decide +kernel
theorem dX5_leastGoingOn_67 : decode cX5_leastGoingOn 67 = .ok (.getfield 15, 3) := by decide +kernel
theorem dX5_leastGoingOn_70 : decode cX5_leastGoingOn 70 = .ok (.iload_n 1, 1) := by decide +kernel
theorem dX5_leastGoingOn_71 : decode cX5_leastGoingOn 71 = .ok (.laload, 1) := by decide +kernel
theorem dX5_leastGoingOn_72 : decode cX5_leastGoingOn 72 = .ok (.lcmp, 1) := by decide +kernel
theorem dX5_leastGoingOn_73 : decode cX5_leastGoingOn 73 = .ok (.ifCond .ne 5, 3) := by decide +kernel
theorem dX5_leastGoingOn_76 : decode cX5_leastGoingOn 76 = .ok (.iload_n 3, 1) := by decide +kernel
theorem dX5_leastGoingOn_77 : decode cX5_leastGoingOn 77 = .ok (.ireturn, 1) := by decide +kernel
theorem dX5_leastGoingOn_78 : decode cX5_leastGoingOn 78 = .ok (.iinc 3 1, 3) := by decide +kernel
theorem dX5_leastGoingOn_81 : decode cX5_leastGoingOn 81 = .ok (.goto (-79), 3) := by decide +kernel
theorem dX5_leastGoingOn_84 : decode cX5_leastGoingOn 84 = .ok (.iconst 0, 1) := by decide +kernel
theorem dX5_leastGoingOn_85 : decode cX5_leastGoingOn 85 = .ok (.ireturn, 1) := by decide +kernel
theorem dX6_init_0 : decode cX6_init 0 = .ok (.aload_n 0, 1) := by decide +kernel
theorem dX6_init_1 : decode cX6_init 1 = .ok (.invokespecial 3, 3) := by decide +kernel
theorem dX6_init_4 : decode cX6_init 4 = .ok (.aload_n 0, 1) := by decide +kernel
theorem dX6_init_5 : decode cX6_init 5 = .ok (.iconst (-1), 1) := by decide +kernel
theorem dX6_init_6 : decode cX6_init 6 = .ok (.putfield 9, 3) := by decide +kernel
theorem dX6_init_9 : decode cX6_init 9 = .ok (.aload_n 0, 1) := by decide +kernel
theorem dX6_init_10 : decode cX6_init 10 = .ok (.aload_n 1, 1) := by decide +kernel
theorem dX6_init_11 : decode cX6_init 11 = .ok (.putfield 15, 3) := by decide +kernel
theorem dX6_init_14 : decode cX6_init 14 = .ok (.aload_n 0, 1) := by decide +kernel
theorem dX6_init_15 : decode cX6_init 15 = .ok (.aload_n 2, 1) := by decide +kernel
theorem dX6_init_16 : decode cX6_init 16 = .ok (.putfield 19, 3) := by decide +kernel
theorem dX6_init_19 : decode cX6_init 19 = .ok (.return_, 1) := by decide +kernel
theorem dX6_read_0 : decode cX6_read 0 = .ok (.aload_n 0, 1) := by decide +kernel
theorem dX6_read_1 : decode cX6_read 1 = .ok (.getfield 19, 3) := by decide +kernel
theorem dX6_read_4 : decode cX6_read 4 = .ok (.invokevirtual 23, 3) := by decide +kernel
theorem dX6_read_7 : decode cX6_read 7 = .ok (.aload_n 0, 1) := by decide +kernel
theorem dX6_read_8 : decode cX6_read 8 = .ok (.iconst 0, 1) := by decide +kernel
theorem dX6_read_9 : decode cX6_read 9 = .ok (.putfield 28, 3) := by decide +kernel
theorem dX6_read_12 : decode cX6_read 12 = .ok (.aload_n 0, 1) := by decide +kernel
theorem dX6_read_13 : decode cX6_read 13 = .ok (.iconst (-1), 1) := by decide +kernel
theorem dX6_read_14 : decode cX6_read 14 = .ok (.putfield 9, 3) := by decide +kernel
theorem dX6_read_17 : decode cX6_read 17 = .ok (.aload_n 0, 1) := by decide +kernel
theorem dX6_read_18 : decode cX6_read 18 = .ok (.iconst 0, 1) := by decide +kernel
theorem dX6_read_19 : decode cX6_read 19 = .ok (.putfield 31, 3) := by decide +kernel
theorem dX6_read_22 : decode cX6_read 22 = .ok (.aload_n 0, 1) := by decide +kernel
theorem dX6_read_23 : decode cX6_read 23 = .ok (.invokevirtual 34, 3) := by decide +kernel
theorem dX6_read_26 : decode cX6_read 26 = .ok (.aload_n 0, 1) := by decide +kernel
theorem dX6_read_27 : decode cX6_read 27 = .ok (.getfield 37, 3) := by decide +kernel
theorem dX6_read_30 : decode cX6_read 30 = .ok (.ifCond .ne 5, 3) := by decide +kernel
theorem dX6_read_33 : decode cX6_read 33 = .ok (.iconst 1, 1) := by decide +kernel
theorem dX6_read_34 : decode cX6_read 34 = .ok (.ireturn, 1) := by decide +kernel
theorem dX6_read_35 : decode cX6_read 35 = .ok (.aload_n 0, 1) := by decide +kernel
theorem dX6_read_36 : decode cX6_read 36 = .ok (.invokevirtual 40, 3) := by decide +kernel
theorem dX6_read_39 : decode cX6_read 39 = .ok (.istore_n 1, 1) := by decide +kernel
theorem dX6_read_40 : decode cX6_read 40 = .ok (.iconst 0, 1) := by decide +kernel
theorem dX6_read_41 : decode cX6_read 41 = .ok (.istore_n 2, 1) := by decide +kernel
theorem dX6_read_42 : decode cX6_read 42 = .ok (.iload_n 1, 1) := by decide +kernel
theorem dX6_read_43 : decode cX6_read 43 = .ok (.ifCond .eq 28, 3) := by decide +kernel
theorem dX6_read_46 : decode cX6_read 46 = .ok (.aload_n 0, 1) := by decide +kernel
theorem dX6_read_47 : decode cX6_read 47 = .ok (.getfield 37, 3) := by decide +kernel
theorem dX6_read_50 : decode cX6_read 50 = .ok (.ifCond .eq 21, 3) := by decide +kernel
theorem dX6_read_53 : decode cX6_read 53 = .ok (.iload_n 2, 1) := by decide +kernel
theorem dX6_read_54 : decode cX6_read 54 = .ok (.sipush 600, 3) := by decide +kernel
theorem dX6_read_57 : decode cX6_read 57 = .ok (.if_icmp .ge 14, 3) := by decide +kernel
theorem dX6_read_60 : decode cX6_read 60 = .ok (.aload_n 0, 1) := by decide +kernel
theorem dX6_read_61 : decode cX6_read 61 = .ok (.invokevirtual 46, 3) := by decide +kernel
theorem dX6_read_64 : decode cX6_read 64 = .ok (.istore_n 1, 1) := by decide +kernel
theorem dX6_read_65 : decode cX6_read 65 = .ok (.iinc 2 1, 3) := by decide +kernel
theorem dX6_read_68 : decode cX6_read 68 = .ok (.goto (-26), 3) := by decide +kernel
theorem dX6_read_71 : decode cX6_read 71 = .ok (.iload_n 1, 1) := by decide +kernel
theorem dX6_read_72 : decode cX6_read 72 = .ok (.ireturn, 1) := by decide +kernel
theorem dX6_fail_0 : decode cX6_fail 0 = .ok (.aload_n 0, 1) := by decide +kernel
theorem dX6_fail_1 : decode cX6_fail 1 = .ok (.iload_n 1, 1) := by decide +kernel
theorem dX6_fail_2 : decode cX6_fail 2 = .ok (.putfield 28, 3) := by decide +kernel
theorem dX6_fail_5 : decode cX6_fail 5 = .ok (.aload_n 0, 1) := by decide +kernel
theorem dX6_fail_6 : decode cX6_fail 6 = .ok (.aload_n 0, 1) := by decide +kernel
theorem dX6_fail_7 : decode cX6_fail 7 = .ok (.getfield 49, 3) := by decide +kernel
theorem dX6_fail_10 : decode cX6_fail 10 = .ok (.putfield 9, 3) := by decide +kernel
theorem dX6_fail_13 : decode cX6_fail 13 = .ok (.iconst 0, 1) := by decide +kernel
theorem dX6_fail_14 : decode cX6_fail 14 = .ok (.ireturn, 1) := by decide +kernel
theorem dX6_readJobs_0 : decode cX6_readJobs 0 = .ok (.aload_n 0, 1) := by decide +kernel
theorem dX6_readJobs_1 : decode cX6_readJobs 1 = .ok (.getfield 37, 3) := by decide +kernel
theorem dX6_readJobs_4 : decode cX6_readJobs 4 = .ok (.iconst 3, 1) := by decide +kernel
theorem dX6_readJobs_5 : decode cX6_readJobs 5 = .ok (.if_icmp .eq 9, 3) := by decide +kernel
theorem dX6_readJobs_8 : decode cX6_readJobs 8 = .ok (.aload_n 0, 1) := by decide +kernel
theorem dX6_readJobs_9 : decode cX6_readJobs 9 = .ok (.iconst 1, 1) := by decide +kernel
theorem dX6_readJobs_10 : decode cX6_readJobs 10 = .ok (.invokevirtual 52, 3) := by decide +kernel
theorem dX6_readJobs_13 : decode cX6_readJobs 13 = .ok (.ireturn, 1) := by decide +kernel
theorem dX6_readJobs_14 : decode cX6_readJobs 14 = .ok (.aload_n 0, 1) := by decide +kernel
theorem dX6_readJobs_15 : decode cX6_readJobs 15 = .ok (.invokevirtual 34, 3) := by decide +kernel
theorem dX6_readJobs_18 : decode cX6_readJobs 18 = .ok (.aload_n 0, 1) := by decide +kernel
theorem dX6_readJobs_19 : decode cX6_readJobs 19 = .ok (.getfield 37, 3) := by decide +kernel
theorem dX6_readJobs_22 : decode cX6_readJobs 22 = .ok (.iconst 2, 1) := by decide +kernel
theorem dX6_readJobs_23 : decode cX6_readJobs 23 = .ok (.if_icmp .eq 9, 3) := by decide +kernel
theorem dX6_readJobs_26 : decode cX6_readJobs 26 = .ok (.aload_n 0, 1) := by decide +kernel
theorem dX6_readJobs_27 : decode cX6_readJobs 27 = .ok (.iconst 1, 1) := by decide +kernel
theorem dX6_readJobs_28 : decode cX6_readJobs 28 = .ok (.invokevirtual 52, 3) := by decide +kernel
theorem dX6_readJobs_31 : decode cX6_readJobs 31 = .ok (.ireturn, 1) := by decide +kernel
theorem dX6_readJobs_32 : decode cX6_readJobs 32 = .ok (.aload_n 0, 1) := by decide +kernel
theorem dX6_readJobs_33 : decode cX6_readJobs 33 = .ok (.getfield 56, 3) := by decide +kernel
theorem dX6_readJobs_36 : decode cX6_readJobs 36 = .ok (.iconst 1, 1) := by decide +kernel
theorem dX6_readJobs_37 : decode cX6_readJobs 37 = .ok (.if_icmp .lt 12, 3) := by decide +kernel
theorem dX6_readJobs_40 : decode cX6_readJobs 40 = .ok (.aload_n 0, 1) := by decide +kernel
theorem dX6_readJobs_41 : decode cX6_readJobs 41 = .ok (.getfield 56, 3) := by decide +kernel
theorem dX6_readJobs_44 : decode cX6_readJobs 44 = .ok (.bipush 8, 2) := by decide +kernel
theorem dX6_readJobs_46 : decode cX6_readJobs 46 = .ok (.if_icmp .le 9, 3) := by decide +kernel
theorem dX6_readJobs_49 : decode cX6_readJobs 49 = .ok (.aload_n 0, 1) := by decide +kernel
theorem dX6_readJobs_50 : decode cX6_readJobs 50 = .ok (.iconst 2, 1) := by decide +kernel
theorem dX6_readJobs_51 : decode cX6_readJobs 51 = .ok (.invokevirtual 52, 3) := by decide +kernel
theorem dX6_readJobs_54 : decode cX6_readJobs 54 = .ok (.ireturn, 1) := by decide +kernel
theorem dX6_readJobs_55 : decode cX6_readJobs 55 = .ok (.aload_n 0, 1) := by decide +kernel
theorem dX6_readJobs_56 : decode cX6_readJobs 56 = .ok (.getfield 19, 3) := by decide +kernel
theorem dX6_readJobs_59 : decode cX6_readJobs 59 = .ok (.aload_n 0, 1) := by decide +kernel
theorem dX6_readJobs_60 : decode cX6_readJobs 60 = .ok (.getfield 56, 3) := by decide +kernel
theorem dX6_readJobs_63 : decode cX6_readJobs 63 = .ok (.putfield 59, 3) := by decide +kernel
theorem dX6_readJobs_66 : decode cX6_readJobs 66 = .ok (.aload_n 0, 1) := by decide +kernel
theorem dX6_readJobs_67 : decode cX6_readJobs 67 = .ok (.invokevirtual 34, 3) := by decide +kernel
theorem dX6_readJobs_70 : decode cX6_readJobs 70 = .ok (.aload_n 0, 1) := by decide +kernel
theorem dX6_readJobs_71 : decode cX6_readJobs 71 = .ok (.getfield 37, 3) := by decide +kernel
theorem dX6_readJobs_74 : decode cX6_readJobs 74 = .ok (.bipush 6, 2) := by decide +kernel
theorem dX6_readJobs_76 : decode cX6_readJobs 76 = .ok (.if_icmp .eq 9, 3) := by decide +kernel
theorem dX6_readJobs_79 : decode cX6_readJobs 79 = .ok (.aload_n 0, 1) := by decide +kernel
theorem dX6_readJobs_80 : decode cX6_readJobs 80 = .ok (.iconst 1, 1) := by decide +kernel
theorem dX6_readJobs_81 : decode cX6_readJobs 81 = .ok (.invokevirtual 52, 3) := by decide +kernel
theorem dX6_readJobs_84 : decode cX6_readJobs 84 = .ok (.ireturn, 1) := by decide +kernel
theorem dX6_readJobs_85 : decode cX6_readJobs 85 = .ok (.aload_n 0, 1) := by decide +kernel
theorem dX6_readJobs_86 : decode cX6_readJobs 86 = .ok (.invokevirtual 34, 3) := by decide +kernel
theorem dX6_readJobs_89 : decode cX6_readJobs 89 = .ok (.iconst 1, 1) := by decide +kernel
theorem dX6_readJobs_90 : decode cX6_readJobs 90 = .ok (.ireturn, 1) := by decide +kernel
theorem dX6_readWorker_0 : decode cX6_readWorker 0 = .ok (.aload_n 0, 1) := by decide +kernel
theorem dX6_readWorker_1 : decode cX6_readWorker 1 = .ok (.getfield 37, 3) := by decide +kernel
theorem dX6_readWorker_4 : decode cX6_readWorker 4 = .ok (.iconst 4, 1) := by decide +kernel
theorem dX6_readWorker_5 : decode cX6_readWorker 5 = .ok (.if_icmp .eq 9, 3) := by decide +kernel
theorem dX6_readWorker_8 : decode cX6_readWorker 8 = .ok (.aload_n 0, 1) := by decide +kernel
theorem dX6_readWorker_9 : decode cX6_readWorker 9 = .ok (.iconst 1, 1) := by decide +kernel
theorem dX6_readWorker_10 : decode cX6_readWorker 10 = .ok (.invokevirtual 52, 3) := by decide +kernel
theorem dX6_readWorker_13 : decode cX6_readWorker 13 = .ok (.ireturn, 1) := by decide +kernel
theorem dX6_readWorker_14 : decode cX6_readWorker 14 = .ok (.aload_n 0, 1) := by decide +kernel
theorem dX6_readWorker_15 : decode cX6_readWorker 15 = .ok (.getfield 19, 3) := by decide +kernel
theorem dX6_readWorker_18 : decode cX6_readWorker 18 = .ok (.getfield 62, 3) := by decide +kernel
theorem dX6_readWorker_21 : decode cX6_readWorker 21 = .ok (.bipush 7, 2) := by decide +kernel
theorem dX6_readWorker_23 : decode cX6_readWorker 23 = .ok (.if_icmp .lt 9, 3) := by decide +kernel
theorem dX6_readWorker_26 : decode cX6_readWorker 26 = .ok (.aload_n 0, 1) := by decide +kernel
theorem dX6_readWorker_27 : decode cX6_readWorker 27 = .ok (.iconst 3, 1) := by decide +kernel
theorem dX6_readWorker_28 : decode cX6_readWorker 28 = .ok (.invokevirtual 52, 3) := by decide +kernel
theorem dX6_readWorker_31 : decode cX6_readWorker 31 = .ok (.ireturn, 1) := by decide +kernel
theorem dX6_readWorker_32 : decode cX6_readWorker 32 = .ok (.aload_n 0, 1) := by decide +kernel
theorem dX6_readWorker_33 : decode cX6_readWorker 33 = .ok (.getfield 19, 3) := by decide +kernel
theorem dX6_readWorker_36 : decode cX6_readWorker 36 = .ok (.ldc2_w 65, 3) := by decide +kernel
theorem dX6_readWorker_39 : decode cX6_readWorker 39 = .ok (.invokevirtual 67, 3) := by decide +kernel
theorem dX6_readWorker_42 : decode cX6_readWorker 42 = .ok (.iconst 0, 1) := by decide +kernel
theorem dX6_readWorker_43 : decode cX6_readWorker 43 = .ok (.istore_n 1, 1) := by decide +kernel
theorem dX6_readWorker_44 : decode cX6_readWorker 44 = .ok (.aload_n 0, 1) := by decide +kernel
theorem dX6_readWorker_45 : decode cX6_readWorker 45 = .ok (.invokevirtual 34, 3) := by decide +kernel
theorem dX6_readWorker_48 : decode cX6_readWorker 48 = .ok (.aload_n 0, 1) := by decide +kernel
theorem dX6_readWorker_49 : decode cX6_readWorker 49 = .ok (.iload_n 1, 1) := by decide +kernel
theorem dX6_readWorker_50 : decode cX6_readWorker 50 = .ok (.invokevirtual 71, 3) := by decide +kernel
theorem dX6_readWorker_53 : decode cX6_readWorker 53 = .ok (.ifCond .ne 5, 3) := by decide +kernel
theorem dX6_readWorker_56 : decode cX6_readWorker 56 = .ok (.iconst 0, 1) := by decide +kernel
theorem dX6_readWorker_57 : decode cX6_readWorker 57 = .ok (.ireturn, 1) := by decide +kernel
theorem dX6_readWorker_58 : decode cX6_readWorker 58 = .ok (.iinc 1 1, 3) := by decide +kernel
theorem dX6_readWorker_61 : decode cX6_readWorker 61 = .ok (.aload_n 0, 1) := by decide +kernel
theorem dX6_readWorker_62 : decode cX6_readWorker 62 = .ok (.getfield 37, 3) := by decide +kernel
theorem dX6_readWorker_65 : decode cX6_readWorker 65 = .ok (.bipush 7, 2) := by decide +kernel
theorem dX6_readWorker_67 : decode cX6_readWorker 67 = .ok (.if_icmp .ne 9, 3) := by decide +kernel
theorem dX6_readWorker_70 : decode cX6_readWorker 70 = .ok (.iload_n 1, 1) := by decide +kernel
theorem dX6_readWorker_71 : decode cX6_readWorker 71 = .ok (.bipush 8, 2) := by decide +kernel
theorem dX6_readWorker_73 : decode cX6_readWorker 73 = .ok (.if_icmp .le (-29), 3) := by decide +kernel
theorem dX6_readWorker_76 : decode cX6_readWorker 76 = .ok (.aload_n 0, 1) := by decide +kernel
theorem dX6_readWorker_77 : decode cX6_readWorker 77 = .ok (.getfield 37, 3) := by decide +kernel
theorem dX6_readWorker_80 : decode cX6_readWorker 80 = .ok (.bipush 6, 2) := by decide +kernel
theorem dX6_readWorker_82 : decode cX6_readWorker 82 = .ok (.if_icmp .eq 9, 3) := by decide +kernel
theorem dX6_readWorker_85 : decode cX6_readWorker 85 = .ok (.aload_n 0, 1) := by decide +kernel
theorem dX6_readWorker_86 : decode cX6_readWorker 86 = .ok (.iconst 1, 1) := by decide +kernel
theorem dX6_readWorker_87 : decode cX6_readWorker 87 = .ok (.invokevirtual 52, 3) := by decide +kernel
theorem dX6_readWorker_90 : decode cX6_readWorker 90 = .ok (.ireturn, 1) := by decide +kernel
theorem dX6_readWorker_91 : decode cX6_readWorker 91 = .ok (.iload_n 1, 1) := by decide +kernel
theorem dX6_readWorker_92 : decode cX6_readWorker 92 = .ok (.aload_n 0, 1) := by decide +kernel
theorem dX6_readWorker_93 : decode cX6_readWorker 93 = .ok (.getfield 19, 3) := by decide +kernel
theorem dX6_readWorker_96 : decode cX6_readWorker 96 = .ok (.getfield 59, 3) := by decide +kernel
theorem dX6_readWorker_99 : decode cX6_readWorker 99 = .ok (.if_icmp .ge 9, 3) := by decide +kernel
theorem dX6_readWorker_102 : decode cX6_readWorker 102 = .ok (.aload_n 0, 1) := by decide +kernel
theorem dX6_readWorker_103 : decode cX6_readWorker 103 = .ok (.iconst 4, 1) := by decide +kernel
theorem dX6_readWorker_104 : decode cX6_readWorker 104 = .ok (.invokevirtual 52, 3) := by decide +kernel
theorem dX6_readWorker_107 : decode cX6_readWorker 107 = .ok (.ireturn, 1) := by decide +kernel
theorem dX6_readWorker_108 : decode cX6_readWorker 108 = .ok (.aload_n 0, 1) := by decide +kernel
theorem dX6_readWorker_109 : decode cX6_readWorker 109 = .ok (.invokevirtual 34, 3) := by decide +kernel
theorem dX6_readWorker_112 : decode cX6_readWorker 112 = .ok (.iconst 1, 1) := by decide +kernel
theorem dX6_readWorker_113 : decode cX6_readWorker 113 = .ok (.ireturn, 1) := by decide +kernel
theorem dX6_readCost_0 : decode cX6_readCost 0 = .ok (.aload_n 0, 1) := by decide +kernel
theorem dX6_readCost_1 : decode cX6_readCost 1 = .ok (.getfield 37, 3) := by decide +kernel
theorem dX6_readCost_4 : decode cX6_readCost 4 = .ok (.iconst 5, 1) := by decide +kernel
theorem dX6_readCost_5 : decode cX6_readCost 5 = .ok (.if_icmp .eq 26, 3) := by decide +kernel
theorem dX6_readCost_8 : decode cX6_readCost 8 = .ok (.aload_n 0, 1) := by decide +kernel
theorem dX6_readCost_9 : decode cX6_readCost 9 = .ok (.getfield 37, 3) := by decide +kernel
theorem dX6_readCost_12 : decode cX6_readCost 12 = .ok (.bipush 8, 2) := by decide +kernel
theorem dX6_readCost_14 : decode cX6_readCost 14 = .ok (.if_icmp .eq 17, 3) := by decide +kernel
theorem dX6_readCost_17 : decode cX6_readCost 17 = .ok (.aload_n 0, 1) := by decide +kernel
theorem dX6_readCost_18 : decode cX6_readCost 18 = .ok (.getfield 37, 3) := by decide +kernel
theorem dX6_readCost_21 : decode cX6_readCost 21 = .ok (.iconst 2, 1) := by decide +kernel
theorem dX6_readCost_22 : decode cX6_readCost 22 = .ok (.if_icmp .eq 9, 3) := by decide +kernel
theorem dX6_readCost_25 : decode cX6_readCost 25 = .ok (.aload_n 0, 1) := by decide +kernel
theorem dX6_readCost_26 : decode cX6_readCost 26 = .ok (.iconst 1, 1) := by decide +kernel
theorem dX6_readCost_27 : decode cX6_readCost 27 = .ok (.invokevirtual 52, 3) := by decide +kernel
theorem dX6_readCost_30 : decode cX6_readCost 30 = .ok (.ireturn, 1) := by decide +kernel
theorem dX6_readCost_31 : decode cX6_readCost 31 = .ok (.aload_n 0, 1) := by decide +kernel
theorem dX6_readCost_32 : decode cX6_readCost 32 = .ok (.getfield 37, 3) := by decide +kernel
theorem dX6_readCost_35 : decode cX6_readCost 35 = .ok (.iconst 2, 1) := by decide +kernel
theorem dX6_readCost_36 : decode cX6_readCost 36 = .ok (.if_icmp .ne 19, 3) := by decide +kernel
theorem dX6_readCost_39 : decode cX6_readCost 39 = .ok (.aload_n 0, 1) := by decide +kernel
theorem dX6_readCost_40 : decode cX6_readCost 40 = .ok (.getfield 56, 3) := by decide +kernel
theorem dX6_readCost_43 : decode cX6_readCost 43 = .ok (.sipush 9999, 3) := by decide +kernel
theorem dX6_readCost_46 : decode cX6_readCost 46 = .ok (.if_icmp .le 9, 3) := by decide +kernel
theorem dX6_readCost_49 : decode cX6_readCost 49 = .ok (.aload_n 0, 1) := by decide +kernel
theorem dX6_readCost_50 : decode cX6_readCost 50 = .ok (.iconst 2, 1) := by decide +kernel
theorem dX6_readCost_51 : decode cX6_readCost 51 = .ok (.invokevirtual 52, 3) := by decide +kernel
theorem dX6_readCost_54 : decode cX6_readCost 54 = .ok (.ireturn, 1) := by decide +kernel
theorem dX6_readCost_55 : decode cX6_readCost 55 = .ok (.iload_n 1, 1) := by decide +kernel
theorem dX6_readCost_56 : decode cX6_readCost 56 = .ok (.aload_n 0, 1) := by decide +kernel
theorem dX6_readCost_57 : decode cX6_readCost 57 = .ok (.getfield 19, 3) := by decide +kernel
theorem dX6_readCost_60 : decode cX6_readCost 60 = .ok (.getfield 59, 3) := by decide +kernel
theorem dX6_readCost_63 : decode cX6_readCost 63 = .ok (.if_icmp .lt 9, 3) := by decide +kernel
theorem dX6_readCost_66 : decode cX6_readCost 66 = .ok (.aload_n 0, 1) := by decide +kernel
theorem dX6_readCost_67 : decode cX6_readCost 67 = .ok (.iconst 3, 1) := by decide +kernel
theorem dX6_readCost_68 : decode cX6_readCost 68 = .ok (.invokevirtual 52, 3) := by decide +kernel
theorem dX6_readCost_71 : decode cX6_readCost 71 = .ok (.ireturn, 1) := by decide +kernel
theorem dX6_readCost_72 : decode cX6_readCost 72 = .ok (.aload_n 0, 1) := by decide +kernel
theorem dX6_readCost_73 : decode cX6_readCost 73 = .ok (.getfield 37, 3) := by decide +kernel
theorem dX6_readCost_76 : decode cX6_readCost 76 = .ok (.iconst 2, 1) := by decide +kernel
theorem dX6_readCost_77 : decode cX6_readCost 77 = .ok (.if_icmp .ne 11, 3) := by decide +kernel
theorem dX6_readCost_80 : decode cX6_readCost 80 = .ok (.aload_n 0, 1) := by decide +kernel
theorem dX6_readCost_81 : decode cX6_readCost 81 = .ok (.getfield 56, 3) := by decide +kernel
theorem dX6_readCost_84 : decode cX6_readCost 84 = .ok (.i2l, 1) := by decide +kernel
theorem dX6_readCost_85 : decode cX6_readCost 85 = .ok (.goto 6, 3) := by decide +kernel
theorem dX6_readCost_88 : decode cX6_readCost 88 = .ok (.ldc2_w 65, 3) := by decide +kernel
theorem dX6_readCost_91 : decode cX6_readCost 91 = .ok (.lstore_n 2, 1) := by decide +kernel
theorem dX6_readCost_92 : decode cX6_readCost 92 = .ok (.aload_n 0, 1) := by decide +kernel
theorem dX6_readCost_93 : decode cX6_readCost 93 = .ok (.getfield 37, 3) := by decide +kernel
theorem dX6_readCost_96 : decode cX6_readCost 96 = .ok (.bipush 8, 2) := by decide +kernel
theorem dX6_readCost_98 : decode cX6_readCost 98 = .ok (.if_icmp .ne 44, 3) := by decide +kernel
theorem dX6_readCost_101 : decode cX6_readCost 101 = .ok (.aload_n 0, 1) := by decide +kernel
theorem dX6_readCost_102 : decode cX6_readCost 102 = .ok (.invokevirtual 34, 3) := by decide +kernel
theorem dX6_readCost_105 : decode cX6_readCost 105 = .ok (.aload_n 0, 1) := by decide +kernel
theorem dX6_readCost_106 : decode cX6_readCost 106 = .ok (.getfield 37, 3) := by decide +kernel
theorem dX6_readCost_109 : decode cX6_readCost 109 = .ok (.iconst 2, 1) := by decide +kernel
theorem dX6_readCost_110 : decode cX6_readCost 110 = .ok (.if_icmp .eq 9, 3) := by decide +kernel
theorem dX6_readCost_113 : decode cX6_readCost 113 = .ok (.aload_n 0, 1) := by decide +kernel
theorem dX6_readCost_114 : decode cX6_readCost 114 = .ok (.iconst 1, 1) := by decide +kernel
theorem dX6_readCost_115 : decode cX6_readCost 115 = .ok (.invokevirtual 52, 3) := by decide +kernel
theorem dX6_readCost_118 : decode cX6_readCost 118 = .ok (.ireturn, 1) := by decide +kernel
theorem dX6_readCost_119 : decode cX6_readCost 119 = .ok (.aload_n 0, 1) := by decide +kernel
theorem dX6_readCost_120 : decode cX6_readCost 120 = .ok (.getfield 56, 3) := by decide +kernel
theorem dX6_readCost_123 : decode cX6_readCost 123 = .ok (.sipush 9999, 3) := by decide +kernel
theorem dX6_readCost_126 : decode cX6_readCost 126 = .ok (.if_icmp .le 9, 3) := by decide +kernel
theorem dX6_readCost_129 : decode cX6_readCost 129 = .ok (.aload_n 0, 1) := by decide +kernel
theorem dX6_readCost_130 : decode cX6_readCost 130 = .ok (.iconst 2, 1) := by decide +kernel
theorem dX6_readCost_131 : decode cX6_readCost 131 = .ok (.invokevirtual 52, 3) := by decide +kernel
theorem dX6_readCost_134 : decode cX6_readCost 134 = .ok (.ireturn, 1) := by decide +kernel
theorem dX6_readCost_135 : decode cX6_readCost 135 = .ok (.aload_n 0, 1) := by decide +kernel
theorem dX6_readCost_136 : decode cX6_readCost 136 = .ok (.getfield 56, 3) := by decide +kernel
theorem dX6_readCost_139 : decode cX6_readCost 139 = .ok (.ineg, 1) := by decide +kernel
theorem dX6_readCost_140 : decode cX6_readCost 140 = .ok (.i2l, 1) := by decide +kernel
theorem dX6_readCost_141 : decode cX6_readCost 141 = .ok (.lstore_n 2, 1) := by decide +kernel
theorem dX6_readCost_142 : decode cX6_readCost 142 = .ok (.aload_n 0, 1) := by decide +kernel
theorem dX6_readCost_143 : decode cX6_readCost 143 = .ok (.getfield 19, 3) := by decide +kernel
theorem dX6_readCost_146 : decode cX6_readCost 146 = .ok (.aload_n 0, 1) := by decide +kernel
theorem dX6_readCost_147 : decode cX6_readCost 147 = .ok (.getfield 19, 3) := by decide +kernel
theorem dX6_readCost_150 : decode cX6_readCost 150 = .ok (.getfield 62, 3) := by decide +kernel
theorem dX6_readCost_153 : decode cX6_readCost 153 = .ok (.iconst 1, 1) := by decide +kernel
theorem dX6_readCost_154 : decode cX6_readCost 154 = .ok (.isub, 1) := by decide +kernel
theorem dX6_readCost_155 : decode cX6_readCost 155 = .ok (.iload_n 1, 1) := by decide +kernel
theorem dX6_readCost_156 : decode cX6_readCost 156 = .ok (.lload_n 2, 1) := by decide +kernel
theorem dX6_readCost_157 : decode cX6_readCost 157 = .ok (.invokevirtual 74, 3) := by decide +kernel
theorem dX6_readCost_160 : decode cX6_readCost 160 = .ok (.aload_n 0, 1) := by decide +kernel
theorem dX6_readCost_161 : decode cX6_readCost 161 = .ok (.invokevirtual 34, 3) := by decide +kernel
theorem dX6_readCost_164 : decode cX6_readCost 164 = .ok (.iconst 1, 1) := by decide +kernel
theorem dX6_readCost_165 : decode cX6_readCost 165 = .ok (.ireturn, 1) := by decide +kernel
theorem dX6_step_0 : decode cX6_step 0 = .ok (.aload_n 0, 1) := by decide +kernel
theorem dX6_step_1 : decode cX6_step 1 = .ok (.aload_n 0, 1) := by decide +kernel
theorem dX6_step_2 : decode cX6_step 2 = .ok (.getfield 31, 3) := by decide +kernel
theorem dX6_step_5 : decode cX6_step 5 = .ok (.putfield 49, 3) := by decide +kernel
theorem dX6_step_8 : decode cX6_step 8 = .ok (.aload_n 0, 1) := by decide +kernel
theorem dX6_step_9 : decode cX6_step 9 = .ok (.getfield 49, 3) := by decide +kernel
theorem dX6_step_12 : decode cX6_step 12 = .ok (.aload_n 0, 1) := by decide +kernel
theorem dX6_step_13 : decode cX6_step 13 = .ok (.getfield 15, 3) := by decide +kernel
theorem dX6_step_16 : decode cX6_step 16 = .ok (.getfield 78, 3) := by decide +kernel
theorem dX6_step_19 : decode cX6_step 19 = .ok (.if_icmp .ge 33, 3) := by decide +kernel
theorem dX6_step_22 : decode cX6_step 22 = .ok (.aload_n 0, 1) := by decide +kernel
theorem dX6_step_23 : decode cX6_step 23 = .ok (.getfield 15, 3) := by decide +kernel
theorem dX6_step_26 : decode cX6_step 26 = .ok (.aload_n 0, 1) := by decide +kernel
theorem dX6_step_27 : decode cX6_step 27 = .ok (.getfield 49, 3) := by decide +kernel
theorem dX6_step_30 : decode cX6_step 30 = .ok (.invokevirtual 81, 3) := by decide +kernel
theorem dX6_step_33 : decode cX6_step 33 = .ok (.invokestatic 85, 3) := by decide +kernel
theorem dX6_step_36 : decode cX6_step 36 = .ok (.ifCond .eq 16, 3) := by decide +kernel
theorem dX6_step_39 : decode cX6_step 39 = .ok (.aload_n 0, 1) := by decide +kernel
theorem dX6_step_40 : decode cX6_step 40 = .ok (.dup, 1) := by decide +kernel
theorem dX6_step_41 : decode cX6_step 41 = .ok (.getfield 49, 3) := by decide +kernel
theorem dX6_step_44 : decode cX6_step 44 = .ok (.iconst 1, 1) := by decide +kernel
theorem dX6_step_45 : decode cX6_step 45 = .ok (.iadd, 1) := by decide +kernel
theorem dX6_step_46 : decode cX6_step 46 = .ok (.putfield 49, 3) := by decide +kernel
theorem dX6_step_49 : decode cX6_step 49 = .ok (.goto (-41), 3) := by decide +kernel
theorem dX6_step_52 : decode cX6_step 52 = .ok (.aload_n 0, 1) := by decide +kernel
theorem dX6_step_53 : decode cX6_step 53 = .ok (.getfield 15, 3) := by decide +kernel
theorem dX6_step_56 : decode cX6_step 56 = .ok (.aload_n 0, 1) := by decide +kernel
theorem dX6_step_57 : decode cX6_step 57 = .ok (.getfield 49, 3) := by decide +kernel
theorem dX6_step_60 : decode cX6_step 60 = .ok (.invokevirtual 81, 3) := by decide +kernel
theorem dX6_step_63 : decode cX6_step 63 = .ok (.istore_n 1, 1) := by decide +kernel
theorem dX6_step_64 : decode cX6_step 64 = .ok (.aload_n 0, 1) := by decide +kernel
theorem dX6_step_65 : decode cX6_step 65 = .ok (.aload_n 0, 1) := by decide +kernel
theorem dX6_step_66 : decode cX6_step 66 = .ok (.getfield 49, 3) := by decide +kernel
theorem dX6_step_69 : decode cX6_step 69 = .ok (.iconst 1, 1) := by decide +kernel
theorem dX6_step_70 : decode cX6_step 70 = .ok (.iadd, 1) := by decide +kernel
theorem dX6_step_71 : decode cX6_step 71 = .ok (.putfield 31, 3) := by decide +kernel
theorem dX6_step_74 : decode cX6_step 74 = .ok (.iload_n 1, 1) := by decide +kernel
theorem dX6_step_75 : decode cX6_step 75 = .ok (.invokestatic 88, 3) := by decide +kernel
theorem dX6_step_78 : decode cX6_step 78 = .ok (.ifCond .eq 15, 3) := by decide +kernel
theorem dX6_step_81 : decode cX6_step 81 = .ok (.aload_n 0, 1) := by decide +kernel
theorem dX6_step_82 : decode cX6_step 82 = .ok (.iconst 2, 1) := by decide +kernel
theorem dX6_step_83 : decode cX6_step 83 = .ok (.putfield 37, 3) := by decide +kernel
theorem dX6_step_86 : decode cX6_step 86 = .ok (.aload_n 0, 1) := by decide +kernel
theorem dX6_step_87 : decode cX6_step 87 = .ok (.invokevirtual 91, 3) := by decide +kernel
theorem dX6_step_90 : decode cX6_step 90 = .ok (.goto 69, 3) := by decide +kernel
theorem dX6_step_93 : decode cX6_step 93 = .ok (.iload_n 1, 1) := by decide +kernel
theorem dX6_step_94 : decode cX6_step 94 = .ok (.invokestatic 94, 3) := by decide +kernel
theorem dX6_step_97 : decode cX6_step 97 = .ok (.ifCond .eq 54, 3) := by decide +kernel
theorem dX6_step_100 : decode cX6_step 100 = .ok (.aload_n 0, 1) := by decide +kernel
theorem dX6_step_101 : decode cX6_step 101 = .ok (.invokevirtual 97, 3) := by decide +kernel
theorem dX6_step_104 : decode cX6_step 104 = .ok (.aload_n 0, 1) := by decide +kernel
theorem dX6_step_105 : decode cX6_step 105 = .ok (.aload_n 0, 1) := by decide +kernel
theorem dX6_step_106 : decode cX6_step 106 = .ok (.ldc 100, 2) := by decide +kernel
theorem dX6_step_108 : decode cX6_step 108 = .ok (.invokevirtual 101, 3) := by decide +kernel
theorem dX6_step_111 : decode cX6_step 111 = .ok (.ifCond .eq 7, 3) := by decide +kernel
theorem dX6_step_114 : decode cX6_step 114 = .ok (.iconst 3, 1) := by decide +kernel
theorem dX6_step_115 : decode cX6_step 115 = .ok (.goto 30, 3) := by decide +kernel
theorem dX6_step_118 : decode cX6_step 118 = .ok (.aload_n 0, 1) := by decide +kernel
theorem dX6_step_119 : decode cX6_step 119 = .ok (.ldc 105, 2) := by decide +kernel
theorem dX6_step_121 : decode cX6_step 121 = .ok (.invokevirtual 101, 3) := by decide +kernel
theorem dX6_step_124 : decode cX6_step 124 = .ok (.ifCond .eq 7, 3) := by decide +kernel
theorem dX6_step_127 : decode cX6_step 127 = .ok (.iconst 4, 1) := by decide +kernel
theorem dX6_step_128 : decode cX6_step 128 = .ok (.goto 17, 3) := by decide +kernel
theorem dX6_step_131 : decode cX6_step 131 = .ok (.aload_n 0, 1) := by decide +kernel
theorem dX6_step_132 : decode cX6_step 132 = .ok (.ldc 107, 2) := by decide +kernel
theorem dX6_step_134 : decode cX6_step 134 = .ok (.invokevirtual 101, 3) := by decide +kernel
theorem dX6_step_137 : decode cX6_step 137 = .ok (.ifCond .eq 7, 3) := by decide +kernel
theorem dX6_step_140 : decode cX6_step 140 = .ok (.iconst 5, 1) := by decide +kernel
theorem dX6_step_141 : decode cX6_step 141 = .ok (.goto 4, 3) := by decide +kernel
theorem dX6_step_144 : decode cX6_step 144 = .ok (.iconst 1, 1) := by decide +kernel
theorem dX6_step_145 : decode cX6_step 145 = .ok (.putfield 37, 3) := by decide +kernel
theorem dX6_step_148 : decode cX6_step 148 = .ok (.goto 11, 3) := by decide +kernel
theorem dX6_step_151 : decode cX6_step 151 = .ok (.aload_n 0, 1) := by decide +kernel
theorem dX6_step_152 : decode cX6_step 152 = .ok (.iload_n 1, 1) := by decide +kernel
theorem dX6_step_153 : decode cX6_step 153 = .ok (.invokestatic 109, 3) := by decide +kernel
theorem dX6_step_156 : decode cX6_step 156 = .ok (.putfield 37, 3) := by decide +kernel
theorem dX6_step_159 : decode cX6_step 159 = .ok (.return_, 1) := by decide +kernel
theorem dX6_stepOverNumber_0 : decode cX6_stepOverNumber 0 = .ok (.aload_n 0, 1) := by decide +kernel
theorem dX6_stepOverNumber_1 : decode cX6_stepOverNumber 1 = .ok (.iconst 0, 1) := by decide +kernel
theorem dX6_stepOverNumber_2 : decode cX6_stepOverNumber 2 = .ok (.putfield 56, 3) := by decide +kernel
theorem dX6_stepOverNumber_5 : decode cX6_stepOverNumber 5 = .ok (.aload_n 0, 1) := by decide +kernel
theorem dX6_stepOverNumber_6 : decode cX6_stepOverNumber 6 = .ok (.aload_n 0, 1) := by decide +kernel
theorem dX6_stepOverNumber_7 : decode cX6_stepOverNumber 7 = .ok (.getfield 49, 3) := by decide +kernel
theorem dX6_stepOverNumber_10 : decode cX6_stepOverNumber 10 = .ok (.putfield 31, 3) := by decide +kernel
theorem dX6_stepOverNumber_13 : decode cX6_stepOverNumber 13 = .ok (.aload_n 0, 1) := by decide +kernel
theorem dX6_stepOverNumber_14 : decode cX6_stepOverNumber 14 = .ok (.getfield 31, 3) := by decide +kernel
theorem dX6_stepOverNumber_17 : decode cX6_stepOverNumber 17 = .ok (.aload_n 0, 1) := by decide +kernel
theorem dX6_stepOverNumber_18 : decode cX6_stepOverNumber 18 = .ok (.getfield 15, 3) := by decide +kernel
theorem dX6_stepOverNumber_21 : decode cX6_stepOverNumber 21 = .ok (.getfield 78, 3) := by decide +kernel
theorem dX6_stepOverNumber_24 : decode cX6_stepOverNumber 24 = .ok (.if_icmp .ge 65, 3) := by decide +kernel
theorem dX6_stepOverNumber_27 : decode cX6_stepOverNumber 27 = .ok (.aload_n 0, 1) := by decide +kernel
theorem dX6_stepOverNumber_28 : decode cX6_stepOverNumber 28 = .ok (.getfield 15, 3) := by decide +kernel
theorem dX6_stepOverNumber_31 : decode cX6_stepOverNumber 31 = .ok (.aload_n 0, 1) := by decide +kernel
theorem dX6_stepOverNumber_32 : decode cX6_stepOverNumber 32 = .ok (.getfield 31, 3) := by decide +kernel
theorem dX6_stepOverNumber_35 : decode cX6_stepOverNumber 35 = .ok (.invokevirtual 81, 3) := by decide +kernel
theorem dX6_stepOverNumber_38 : decode cX6_stepOverNumber 38 = .ok (.invokestatic 88, 3) := by decide +kernel
theorem dX6_stepOverNumber_41 : decode cX6_stepOverNumber 41 = .ok (.ifCond .eq 48, 3) := by decide +kernel
theorem dX6_stepOverNumber_44 : decode cX6_stepOverNumber 44 = .ok (.aload_n 0, 1) := by decide +kernel
theorem dX6_stepOverNumber_45 : decode cX6_stepOverNumber 45 = .ok (.aload_n 0, 1) := by decide +kernel
theorem dX6_stepOverNumber_46 : decode cX6_stepOverNumber 46 = .ok (.getfield 56, 3) := by decide +kernel
theorem dX6_stepOverNumber_49 : decode cX6_stepOverNumber 49 = .ok (.bipush 10, 2) := by decide +kernel
theorem dX6_stepOverNumber_51 : decode cX6_stepOverNumber 51 = .ok (.imul, 1) := by decide +kernel
theorem dX6_stepOverNumber_52 : decode cX6_stepOverNumber 52 = .ok (.aload_n 0, 1) := by decide +kernel
theorem dX6_stepOverNumber_53 : decode cX6_stepOverNumber 53 = .ok (.getfield 15, 3) := by decide +kernel
theorem dX6_stepOverNumber_56 : decode cX6_stepOverNumber 56 = .ok (.aload_n 0, 1) := by decide +kernel
theorem dX6_stepOverNumber_57 : decode cX6_stepOverNumber 57 = .ok (.getfield 31, 3) := by decide +kernel
theorem dX6_stepOverNumber_60 : decode cX6_stepOverNumber 60 = .ok (.invokevirtual 81, 3) := by decide +kernel
theorem dX6_stepOverNumber_63 : decode cX6_stepOverNumber 63 = .ok (.iadd, 1) := by decide +kernel
theorem dX6_stepOverNumber_64 : decode cX6_stepOverNumber 64 = .ok (.bipush 48, 2) := by decide +kernel
theorem dX6_stepOverNumber_66 : decode cX6_stepOverNumber 66 = .ok (.isub, 1) := by decide +kernel
theorem dX6_stepOverNumber_67 : decode cX6_stepOverNumber 67 = .ok (.sipush 10000, 3) := by decide +kernel
theorem dX6_stepOverNumber_70 : decode cX6_stepOverNumber 70 = .ok (.invokestatic 112, 3) := by decide +kernel
theorem dX6_stepOverNumber_73 : decode cX6_stepOverNumber 73 = .ok (.putfield 56, 3) := by decide +kernel
theorem dX6_stepOverNumber_76 : decode cX6_stepOverNumber 76 = .ok (.aload_n 0, 1) := by decide +kernel
theorem dX6_stepOverNumber_77 : decode cX6_stepOverNumber 77 = .ok (.dup, 1) := by decide +kernel
theorem dX6_stepOverNumber_78 : decode cX6_stepOverNumber 78 = .ok (.getfield 31, 3) := by decide +kernel
theorem dX6_stepOverNumber_81 : decode cX6_stepOverNumber 81 = .ok (.iconst 1, 1) := by decide +kernel
theorem dX6_stepOverNumber_82 : decode cX6_stepOverNumber 82 = .ok (.iadd, 1) := by decide +kernel
theorem dX6_stepOverNumber_83 : decode cX6_stepOverNumber 83 = .ok (.putfield 31, 3) := by decide +kernel
theorem dX6_stepOverNumber_86 : decode cX6_stepOverNumber 86 = .ok (.goto (-73), 3) := by decide +kernel
theorem dX6_stepOverNumber_89 : decode cX6_stepOverNumber 89 = .ok (.return_, 1) := by decide +kernel
theorem dX6_stepOverWord_0 : decode cX6_stepOverWord 0 = .ok (.aload_n 0, 1) := by decide +kernel
theorem dX6_stepOverWord_1 : decode cX6_stepOverWord 1 = .ok (.getfield 31, 3) := by decide +kernel
theorem dX6_stepOverWord_4 : decode cX6_stepOverWord 4 = .ok (.aload_n 0, 1) := by decide +kernel
theorem dX6_stepOverWord_5 : decode cX6_stepOverWord 5 = .ok (.getfield 15, 3) := by decide +kernel
theorem dX6_stepOverWord_8 : decode cX6_stepOverWord 8 = .ok (.getfield 78, 3) := by decide +kernel
theorem dX6_stepOverWord_11 : decode cX6_stepOverWord 11 = .ok (.if_icmp .ge 33, 3) := by decide +kernel
theorem dX6_stepOverWord_14 : decode cX6_stepOverWord 14 = .ok (.aload_n 0, 1) := by decide +kernel
theorem dX6_stepOverWord_15 : decode cX6_stepOverWord 15 = .ok (.getfield 15, 3) := by decide +kernel
theorem dX6_stepOverWord_18 : decode cX6_stepOverWord 18 = .ok (.aload_n 0, 1) := by decide +kernel
theorem dX6_stepOverWord_19 : decode cX6_stepOverWord 19 = .ok (.getfield 31, 3) := by decide +kernel
theorem dX6_stepOverWord_22 : decode cX6_stepOverWord 22 = .ok (.invokevirtual 81, 3) := by decide +kernel
theorem dX6_stepOverWord_25 : decode cX6_stepOverWord 25 = .ok (.invokestatic 94, 3) := by decide +kernel
theorem dX6_stepOverWord_28 : decode cX6_stepOverWord 28 = .ok (.ifCond .eq 16, 3) := by decide +kernel
theorem dX6_stepOverWord_31 : decode cX6_stepOverWord 31 = .ok (.aload_n 0, 1) := by decide +kernel
theorem dX6_stepOverWord_32 : decode cX6_stepOverWord 32 = .ok (.dup, 1) := by decide +kernel
theorem dX6_stepOverWord_33 : decode cX6_stepOverWord 33 = .ok (.getfield 31, 3) := by decide +kernel
theorem dX6_stepOverWord_36 : decode cX6_stepOverWord 36 = .ok (.iconst 1, 1) := by decide +kernel
theorem dX6_stepOverWord_37 : decode cX6_stepOverWord 37 = .ok (.iadd, 1) := by decide +kernel
theorem dX6_stepOverWord_38 : decode cX6_stepOverWord 38 = .ok (.putfield 31, 3) := by decide +kernel
theorem dX6_stepOverWord_41 : decode cX6_stepOverWord 41 = .ok (.goto (-41), 3) := by decide +kernel
theorem dX6_stepOverWord_44 : decode cX6_stepOverWord 44 = .ok (.return_, 1) := by decide +kernel
theorem dX6_spells_0 : decode cX6_spells 0 = .ok (.aload_n 0, 1) := by decide +kernel
theorem dX6_spells_1 : decode cX6_spells 1 = .ok (.getfield 31, 3) := by decide +kernel
theorem dX6_spells_4 : decode cX6_spells 4 = .ok (.aload_n 0, 1) := by decide +kernel
theorem dX6_spells_5 : decode cX6_spells 5 = .ok (.getfield 49, 3) := by decide +kernel
theorem dX6_spells_8 : decode cX6_spells 8 = .ok (.isub, 1) := by decide +kernel
theorem dX6_spells_9 : decode cX6_spells 9 = .ok (.aload_n 1, 1) := by decide +kernel
theorem dX6_spells_10 : decode cX6_spells 10 = .ok (.invokevirtual 118, 3) := by decide +kernel
theorem dX6_spells_13 : decode cX6_spells 13 = .ok (.if_icmp .eq 5, 3) := by decide +kernel
theorem dX6_spells_16 : decode cX6_spells 16 = .ok (.iconst 0, 1) := by decide +kernel
theorem dX6_spells_17 : decode cX6_spells 17 = .ok (.ireturn, 1) := by decide +kernel
theorem dX6_spells_18 : decode cX6_spells 18 = .ok (.iconst 0, 1) := by decide +kernel
theorem dX6_spells_19 : decode cX6_spells 19 = .ok (.istore_n 2, 1) := by decide +kernel
theorem dX6_spells_20 : decode cX6_spells 20 = .ok (.iload_n 2, 1) := by decide +kernel
theorem dX6_spells_21 : decode cX6_spells 21 = .ok (.aload_n 1, 1) := by decide +kernel
theorem dX6_spells_22 : decode cX6_spells 22 = .ok (.invokevirtual 118, 3) := by decide +kernel
theorem dX6_spells_25 : decode cX6_spells 25 = .ok (.if_icmp .ge 32, 3) := by decide +kernel
theorem dX6_spells_28 : decode cX6_spells 28 = .ok (.aload_n 0, 1) := by decide +kernel
theorem dX6_spells_29 : decode cX6_spells 29 = .ok (.getfield 15, 3) := by decide +kernel
theorem dX6_spells_32 : decode cX6_spells 32 = .ok (.aload_n 0, 1) := by decide +kernel
theorem dX6_spells_33 : decode cX6_spells 33 = .ok (.getfield 49, 3) := by decide +kernel
theorem dX6_spells_36 : decode cX6_spells 36 = .ok (.iload_n 2, 1) := by decide +kernel
theorem dX6_spells_37 : decode cX6_spells 37 = .ok (.iadd, 1) := by decide +kernel
theorem dX6_spells_38 : decode cX6_spells 38 = .ok (.invokevirtual 81, 3) := by decide +kernel
theorem dX6_spells_41 : decode cX6_spells 41 = .ok (.aload_n 1, 1) := by decide +kernel
theorem dX6_spells_42 : decode cX6_spells 42 = .ok (.iload_n 2, 1) := by decide +kernel
theorem dX6_spells_43 : decode cX6_spells 43 = .ok (.invokevirtual 123, 3) := by decide +kernel
theorem dX6_spells_46 : decode cX6_spells 46 = .ok (.if_icmp .eq 5, 3) := by decide +kernel
theorem dX6_spells_49 : decode cX6_spells 49 = .ok (.iconst 0, 1) := by decide +kernel
theorem dX6_spells_50 : decode cX6_spells 50 = .ok (.ireturn, 1) := by decide +kernel
theorem dX6_spells_51 : decode cX6_spells 51 = .ok (.iinc 2 1, 3) := by decide +kernel
theorem dX6_spells_54 : decode cX6_spells 54 = .ok (.goto (-34), 3) := by decide +kernel
theorem dX6_spells_57 : decode cX6_spells 57 = .ok (.iconst 1, 1) := by decide +kernel
theorem dX6_spells_58 : decode cX6_spells 58 = .ok (.ireturn, 1) := by decide +kernel
theorem dX6_kindOfSign_0 : decode cX6_kindOfSign 0 = .ok (.iload_n 0, 1) := by decide +kernel
theorem dX6_kindOfSign_1 : decode cX6_kindOfSign 1 = .ok (.lookupswitch 54 #[(-1, 43), (44, 48), (45, 51), (59, 45)], 43) := by decide +kernel
theorem dX6_kindOfSign_44 : decode cX6_kindOfSign 44 = .ok (.iconst 0, 1) := by decide +kernel
theorem dX6_kindOfSign_45 : decode cX6_kindOfSign 45 = .ok (.ireturn, 1) := by decide +kernel
theorem dX6_kindOfSign_46 : decode cX6_kindOfSign 46 = .ok (.bipush 6, 2) := by decide +kernel
theorem dX6_kindOfSign_48 : decode cX6_kindOfSign 48 = .ok (.ireturn, 1) := by decide +kernel
theorem dX6_kindOfSign_49 : decode cX6_kindOfSign 49 = .ok (.bipush 7, 2) := by decide +kernel
theorem dX6_kindOfSign_51 : decode cX6_kindOfSign 51 = .ok (.ireturn, 1) := by decide +kernel
theorem dX6_kindOfSign_52 : decode cX6_kindOfSign 52 = .ok (.bipush 8, 2) := by decide +kernel
theorem dX6_kindOfSign_54 : decode cX6_kindOfSign 54 = .ok (.ireturn, 1) := by decide +kernel
theorem dX6_kindOfSign_55 : decode cX6_kindOfSign 55 = .ok (.iconst 1, 1) := by decide +kernel
theorem dX6_kindOfSign_56 : decode cX6_kindOfSign 56 = .ok (.ireturn, 1) := by decide +kernel
theorem dX6_isBlank_0 : decode cX6_isBlank 0 = .ok (.iload_n 0, 1) := by decide +kernel
theorem dX6_isBlank_1 : decode cX6_isBlank 1 = .ok (.bipush 32, 2) := by decide +kernel
theorem dX6_isBlank_3 : decode cX6_isBlank 3 = .ok (.if_icmp .eq 9, 3) := by decide +kernel
theorem dX6_isBlank_6 : decode cX6_isBlank 6 = .ok (.iload_n 0, 1) := by decide +kernel
theorem dX6_isBlank_7 : decode cX6_isBlank 7 = .ok (.bipush 10, 2) := by decide +kernel
theorem dX6_isBlank_9 : decode cX6_isBlank 9 = .ok (.if_icmp .ne 7, 3) := by decide +kernel
theorem dX6_isBlank_12 : decode cX6_isBlank 12 = .ok (.iconst 1, 1) := by decide +kernel
theorem dX6_isBlank_13 : decode cX6_isBlank 13 = .ok (.goto 4, 3) := by decide +kernel
theorem dX6_isBlank_16 : decode cX6_isBlank 16 = .ok (.iconst 0, 1) := by decide +kernel
theorem dX6_isBlank_17 : decode cX6_isBlank 17 = .ok (.ireturn, 1) := by decide +kernel
theorem dX6_isDigit_0 : decode cX6_isDigit 0 = .ok (.iload_n 0, 1) := by decide +kernel
theorem dX6_isDigit_1 : decode cX6_isDigit 1 = .ok (.bipush 48, 2) := by decide +kernel
theorem dX6_isDigit_3 : decode cX6_isDigit 3 = .ok (.if_icmp .lt 13, 3) := by decide +kernel
theorem dX6_isDigit_6 : decode cX6_isDigit 6 = .ok (.iload_n 0, 1) := by decide +kernel
theorem dX6_isDigit_7 : decode cX6_isDigit 7 = .ok (.bipush 57, 2) := by decide +kernel
theorem dX6_isDigit_9 : decode cX6_isDigit 9 = .ok (.if_icmp .gt 7, 3) := by decide +kernel
theorem dX6_isDigit_12 : decode cX6_isDigit 12 = .ok (.iconst 1, 1) := by decide +kernel
theorem dX6_isDigit_13 : decode cX6_isDigit 13 = .ok (.goto 4, 3) := by decide +kernel
theorem dX6_isDigit_16 : decode cX6_isDigit 16 = .ok (.iconst 0, 1) := by decide +kernel
theorem dX6_isDigit_17 : decode cX6_isDigit 17 = .ok (.ireturn, 1) := by decide +kernel
theorem dX6_isLetter_0 : decode cX6_isLetter 0 = .ok (.iload_n 0, 1) := by decide +kernel
theorem dX6_isLetter_1 : decode cX6_isLetter 1 = .ok (.bipush 97, 2) := by decide +kernel
theorem dX6_isLetter_3 : decode cX6_isLetter 3 = .ok (.if_icmp .lt 13, 3) := by decide +kernel
theorem dX6_isLetter_6 : decode cX6_isLetter 6 = .ok (.iload_n 0, 1) := by decide +kernel
theorem dX6_isLetter_7 : decode cX6_isLetter 7 = .ok (.bipush 122, 2) := by decide +kernel
theorem dX6_isLetter_9 : decode cX6_isLetter 9 = .ok (.if_icmp .gt 7, 3) := by decide +kernel
theorem dX6_isLetter_12 : decode cX6_isLetter 12 = .ok (.iconst 1, 1) := by decide +kernel
theorem dX6_isLetter_13 : decode cX6_isLetter 13 = .ok (.goto 4, 3) := by decide +kernel
theorem dX6_isLetter_16 : decode cX6_isLetter 16 = .ok (.iconst 0, 1) := by decide +kernel
theorem dX6_isLetter_17 : decode cX6_isLetter 17 = .ok (.ireturn, 1) := by decide +kernel
theorem dX7_init_0 : decode cX7_init 0 = .ok (.aload_n 0, 1) := by decide +kernel
theorem dX7_init_1 : decode cX7_init 1 = .ok (.invokespecial 3, 3) := by decide +kernel
theorem dX7_init_4 : decode cX7_init 4 = .ok (.aload_n 0, 1) := by decide +kernel
theorem dX7_init_5 : decode cX7_init 5 = .ok (.sipush 256, 3) := by decide +kernel
theorem dX7_init_8 : decode cX7_init 8 = .ok (.newarray .long, 2) := by decide +kernel
theorem dX7_init_10 : decode cX7_init 10 = .ok (.putfield 9, 3) := by decide +kernel
theorem dX7_init_13 : decode cX7_init 13 = .ok (.aload_n 0, 1) := by decide +kernel
theorem dX7_init_14 : decode cX7_init 14 = .ok (.bipush 7, 2) := by decide +kernel
theorem dX7_init_16 : decode cX7_init 16 = .ok (.newarray .int, 2) := by decide +kernel
theorem dX7_init_18 : decode cX7_init 18 = .ok (.putfield 15, 3) := by decide +kernel
theorem dX7_init_21 : decode cX7_init 21 = .ok (.aload_n 0, 1) := by decide +kernel
theorem dX7_init_22 : decode cX7_init 22 = .ok (.bipush 7, 2) := by decide +kernel
theorem dX7_init_24 : decode cX7_init 24 = .ok (.newarray .int, 2) := by decide +kernel
theorem dX7_init_26 : decode cX7_init 26 = .ok (.putfield 19, 3) := by decide +kernel
theorem dX7_init_29 : decode cX7_init 29 = .ok (.aload_n 0, 1) := by decide +kernel
theorem dX7_init_30 : decode cX7_init 30 = .ok (.aload_n 1, 1) := by decide +kernel
theorem dX7_init_31 : decode cX7_init 31 = .ok (.putfield 22, 3) := by decide +kernel
theorem dX7_init_34 : decode cX7_init 34 = .ok (.aload_n 0, 1) := by decide +kernel
theorem dX7_init_35 : decode cX7_init 35 = .ok (.aload_n 2, 1) := by decide +kernel
theorem dX7_init_36 : decode cX7_init 36 = .ok (.putfield 26, 3) := by decide +kernel
theorem dX7_init_39 : decode cX7_init 39 = .ok (.aload_n 0, 1) := by decide +kernel
theorem dX7_init_40 : decode cX7_init 40 = .ok (.aload_n 3, 1) := by decide +kernel
theorem dX7_init_41 : decode cX7_init 41 = .ok (.putfield 29, 3) := by decide +kernel
theorem dX7_init_44 : decode cX7_init 44 = .ok (.return_, 1) := by decide +kernel
theorem dX7_choose_0 : decode cX7_choose 0 = .ok (.iload_n 1, 1) := by decide +kernel
theorem dX7_choose_1 : decode cX7_choose 1 = .ok (.tableswitch 81 0 2 #[27, 41, 58], 27) := by decide +kernel
theorem dX7_choose_28 : decode cX7_choose 28 = .ok (.aload_n 0, 1) := by decide +kernel
theorem dX7_choose_29 : decode cX7_choose 29 = .ok (.getfield 26, 3) := by decide +kernel
theorem dX7_choose_32 : decode cX7_choose 32 = .ok (.aload_n 0, 1) := by decide +kernel
theorem dX7_choose_33 : decode cX7_choose 33 = .ok (.getfield 22, 3) := by decide +kernel
theorem dX7_choose_36 : decode cX7_choose 36 = .ok (.invokevirtual 33, 3) := by decide +kernel
theorem dX7_choose_39 : decode cX7_choose 39 = .ok (.goto 48, 3) := by decide +kernel
theorem dX7_choose_42 : decode cX7_choose 42 = .ok (.aload_n 0, 1) := by decide +kernel
theorem dX7_choose_43 : decode cX7_choose 43 = .ok (.ldc2_w 39, 3) := by decide +kernel
theorem dX7_choose_46 : decode cX7_choose 46 = .ok (.aload_n 0, 1) := by decide +kernel
theorem dX7_choose_47 : decode cX7_choose 47 = .ok (.ldc2_w 39, 3) := by decide +kernel
theorem dX7_choose_50 : decode cX7_choose 50 = .ok (.invokevirtual 41, 3) := by decide +kernel
theorem dX7_choose_53 : decode cX7_choose 53 = .ok (.invokevirtual 45, 3) := by decide +kernel
theorem dX7_choose_56 : decode cX7_choose 56 = .ok (.goto 31, 3) := by decide +kernel
theorem dX7_choose_59 : decode cX7_choose 59 = .ok (.aload_n 0, 1) := by decide +kernel
theorem dX7_choose_60 : decode cX7_choose 60 = .ok (.getfield 22, 3) := by decide +kernel
theorem dX7_choose_63 : decode cX7_choose 63 = .ok (.getfield 49, 3) := by decide +kernel
theorem dX7_choose_66 : decode cX7_choose 66 = .ok (.ifCond .eq 10, 3) := by decide +kernel
theorem dX7_choose_69 : decode cX7_choose 69 = .ok (.aload_n 0, 1) := by decide +kernel
theorem dX7_choose_70 : decode cX7_choose 70 = .ok (.invokevirtual 53, 3) := by decide +kernel
theorem dX7_choose_73 : decode cX7_choose 73 = .ok (.ifCond .eq 7, 3) := by decide +kernel
theorem dX7_choose_76 : decode cX7_choose 76 = .ok (.iconst 1, 1) := by decide +kernel
theorem dX7_choose_77 : decode cX7_choose 77 = .ok (.goto 4, 3) := by decide +kernel
theorem dX7_choose_80 : decode cX7_choose 80 = .ok (.iconst 0, 1) := by decide +kernel
theorem dX7_choose_81 : decode cX7_choose 81 = .ok (.ireturn, 1) := by decide +kernel
theorem dX7_choose_82 : decode cX7_choose 82 = .ok (.aload_n 0, 1) := by decide +kernel
theorem dX7_choose_83 : decode cX7_choose 83 = .ok (.iload_n 2, 1) := by decide +kernel
theorem dX7_choose_84 : decode cX7_choose 84 = .ok (.invokevirtual 57, 3) := by decide +kernel
theorem dX7_choose_87 : decode cX7_choose 87 = .ok (.aload_n 0, 1) := by decide +kernel
theorem dX7_choose_88 : decode cX7_choose 88 = .ok (.getfield 29, 3) := by decide +kernel
theorem dX7_choose_91 : decode cX7_choose 91 = .ok (.invokevirtual 61, 3) := by decide +kernel
theorem dX7_choose_94 : decode cX7_choose 94 = .ok (.aload_n 0, 1) := by decide +kernel
theorem dX7_choose_95 : decode cX7_choose 95 = .ok (.getfield 29, 3) := by decide +kernel
theorem dX7_choose_98 : decode cX7_choose 98 = .ok (.aload_n 0, 1) := by decide +kernel
theorem dX7_choose_99 : decode cX7_choose 99 = .ok (.getfield 15, 3) := by decide +kernel
theorem dX7_choose_102 : decode cX7_choose 102 = .ok (.invokevirtual 66, 3) := by decide +kernel
theorem dX7_choose_105 : decode cX7_choose 105 = .ok (.ireturn, 1) := by decide +kernel
theorem dX7_measure_0 : decode cX7_measure 0 = .ok (.aload_n 0, 1) := by decide +kernel
theorem dX7_measure_1 : decode cX7_measure 1 = .ok (.getfield 22, 3) := by decide +kernel
theorem dX7_measure_4 : decode cX7_measure 4 = .ok (.getfield 49, 3) := by decide +kernel
theorem dX7_measure_7 : decode cX7_measure 7 = .ok (.ifCond .ne 5, 3) := by decide +kernel
theorem dX7_measure_10 : decode cX7_measure 10 = .ok (.lconst 0, 1) := by decide +kernel
theorem dX7_measure_11 : decode cX7_measure 11 = .ok (.lreturn, 1) := by decide +kernel
theorem dX7_measure_12 : decode cX7_measure 12 = .ok (.iload_n 1, 1) := by decide +kernel
theorem dX7_measure_13 : decode cX7_measure 13 = .ok (.tableswitch 75 0 2 #[27, 39, 51], 27) := by decide +kernel
theorem dX7_measure_40 : decode cX7_measure 40 = .ok (.aload_n 0, 1) := by decide +kernel
theorem dX7_measure_41 : decode cX7_measure 41 = .ok (.getfield 22, 3) := by decide +kernel
theorem dX7_measure_44 : decode cX7_measure 44 = .ok (.aload_n 0, 1) := by decide +kernel
theorem dX7_measure_45 : decode cX7_measure 45 = .ok (.getfield 15, 3) := by decide +kernel
theorem dX7_measure_48 : decode cX7_measure 48 = .ok (.invokevirtual 70, 3) := by decide +kernel
theorem dX7_measure_51 : decode cX7_measure 51 = .ok (.lreturn, 1) := by decide +kernel
theorem dX7_measure_52 : decode cX7_measure 52 = .ok (.aload_n 0, 1) := by decide +kernel
theorem dX7_measure_53 : decode cX7_measure 53 = .ok (.getfield 22, 3) := by decide +kernel
theorem dX7_measure_56 : decode cX7_measure 56 = .ok (.aload_n 0, 1) := by decide +kernel
theorem dX7_measure_57 : decode cX7_measure 57 = .ok (.getfield 15, 3) := by decide +kernel
theorem dX7_measure_60 : decode cX7_measure 60 = .ok (.invokevirtual 74, 3) := by decide +kernel
theorem dX7_measure_63 : decode cX7_measure 63 = .ok (.lreturn, 1) := by decide +kernel
theorem dX7_measure_64 : decode cX7_measure 64 = .ok (.aload_n 0, 1) := by decide +kernel
theorem dX7_measure_65 : decode cX7_measure 65 = .ok (.getfield 22, 3) := by decide +kernel
theorem dX7_measure_68 : decode cX7_measure 68 = .ok (.aload_n 0, 1) := by decide +kernel
theorem dX7_measure_69 : decode cX7_measure 69 = .ok (.getfield 15, 3) := by decide +kernel
theorem dX7_measure_72 : decode cX7_measure 72 = .ok (.invokevirtual 74, 3) := by decide +kernel
theorem dX7_measure_75 : decode cX7_measure 75 = .ok (.aload_n 0, 1) := by decide +kernel
theorem dX7_measure_76 : decode cX7_measure 76 = .ok (.getfield 22, 3) := by decide +kernel
theorem dX7_measure_79 : decode cX7_measure 79 = .ok (.aload_n 0, 1) := by decide +kernel
theorem dX7_measure_80 : decode cX7_measure 80 = .ok (.getfield 15, 3) := by decide +kernel
theorem dX7_measure_83 : decode cX7_measure 83 = .ok (.invokevirtual 77, 3) := by decide +kernel
theorem dX7_measure_86 : decode cX7_measure 86 = .ok (.lsub, 1) := by decide +kernel
theorem dX7_measure_87 : decode cX7_measure 87 = .ok (.lreturn, 1) := by decide +kernel
theorem dX7_measure_88 : decode cX7_measure 88 = .ok (.aload_n 0, 1) := by decide +kernel
theorem dX7_measure_89 : decode cX7_measure 89 = .ok (.iload_n 2, 1) := by decide +kernel
theorem dX7_measure_90 : decode cX7_measure 90 = .ok (.invokevirtual 80, 3) := by decide +kernel
theorem dX7_measure_93 : decode cX7_measure 93 = .ok (.lreturn, 1) := by decide +kernel
theorem dX7_howManyAbove_0 : decode cX7_howManyAbove 0 = .ok (.iconst 0, 1) := by decide +kernel
theorem dX7_howManyAbove_1 : decode cX7_howManyAbove 1 = .ok (.istore_n 2, 1) := by decide +kernel
theorem dX7_howManyAbove_2 : decode cX7_howManyAbove 2 = .ok (.iconst 0, 1) := by decide +kernel
theorem dX7_howManyAbove_3 : decode cX7_howManyAbove 3 = .ok (.istore_n 3, 1) := by decide +kernel
theorem dX7_howManyAbove_4 : decode cX7_howManyAbove 4 = .ok (.iload_n 3, 1) := by decide +kernel
theorem dX7_howManyAbove_5 : decode cX7_howManyAbove 5 = .ok (.aload_n 0, 1) := by decide +kernel
theorem dX7_howManyAbove_6 : decode cX7_howManyAbove 6 = .ok (.getfield 22, 3) := by decide +kernel
theorem dX7_howManyAbove_9 : decode cX7_howManyAbove 9 = .ok (.getfield 49, 3) := by decide +kernel
theorem dX7_howManyAbove_12 : decode cX7_howManyAbove 12 = .ok (.if_icmp .ge 32, 3) := by decide +kernel
theorem dX7_howManyAbove_15 : decode cX7_howManyAbove 15 = .ok (.aload_n 0, 1) := by decide +kernel
theorem dX7_howManyAbove_16 : decode cX7_howManyAbove 16 = .ok (.getfield 22, 3) := by decide +kernel
theorem dX7_howManyAbove_19 : decode cX7_howManyAbove 19 = .ok (.iload_n 3, 1) := by decide +kernel
theorem dX7_howManyAbove_20 : decode cX7_howManyAbove 20 = .ok (.aload_n 0, 1) := by decide +kernel
theorem dX7_howManyAbove_21 : decode cX7_howManyAbove 21 = .ok (.getfield 15, 3) := by decide +kernel
theorem dX7_howManyAbove_24 : decode cX7_howManyAbove 24 = .ok (.iload_n 3, 1) := by decide +kernel
theorem dX7_howManyAbove_25 : decode cX7_howManyAbove 25 = .ok (.iaload, 1) := by decide +kernel
theorem dX7_howManyAbove_26 : decode cX7_howManyAbove 26 = .ok (.invokevirtual 84, 3) := by decide +kernel
theorem dX7_howManyAbove_29 : decode cX7_howManyAbove 29 = .ok (.iload_n 1, 1) := by decide +kernel
theorem dX7_howManyAbove_30 : decode cX7_howManyAbove 30 = .ok (.i2l, 1) := by decide +kernel
theorem dX7_howManyAbove_31 : decode cX7_howManyAbove 31 = .ok (.lcmp, 1) := by decide +kernel
theorem dX7_howManyAbove_32 : decode cX7_howManyAbove 32 = .ok (.ifCond .le 6, 3) := by decide +kernel
theorem dX7_howManyAbove_35 : decode cX7_howManyAbove 35 = .ok (.iinc 2 1, 3) := by decide +kernel
theorem dX7_howManyAbove_38 : decode cX7_howManyAbove 38 = .ok (.iinc 3 1, 3) := by decide +kernel
theorem dX7_howManyAbove_41 : decode cX7_howManyAbove 41 = .ok (.goto (-37), 3) := by decide +kernel
theorem dX7_howManyAbove_44 : decode cX7_howManyAbove 44 = .ok (.iload_n 2, 1) := by decide +kernel
theorem dX7_howManyAbove_45 : decode cX7_howManyAbove 45 = .ok (.i2l, 1) := by decide +kernel
theorem dX7_howManyAbove_46 : decode cX7_howManyAbove 46 = .ok (.lreturn, 1) := by decide +kernel
theorem dX7_supposeWithin_0 : decode cX7_supposeWithin 0 = .ok (.aload_n 0, 1) := by decide +kernel
theorem dX7_supposeWithin_1 : decode cX7_supposeWithin 1 = .ok (.getfield 26, 3) := by decide +kernel
theorem dX7_supposeWithin_4 : decode cX7_supposeWithin 4 = .ok (.aload_n 0, 1) := by decide +kernel
theorem dX7_supposeWithin_5 : decode cX7_supposeWithin 5 = .ok (.getfield 22, 3) := by decide +kernel
theorem dX7_supposeWithin_8 : decode cX7_supposeWithin 8 = .ok (.invokevirtual 33, 3) := by decide +kernel
theorem dX7_supposeWithin_11 : decode cX7_supposeWithin 11 = .ok (.iconst 0, 1) := by decide +kernel
theorem dX7_supposeWithin_12 : decode cX7_supposeWithin 12 = .ok (.istore 5, 2) := by decide +kernel
theorem dX7_supposeWithin_14 : decode cX7_supposeWithin 14 = .ok (.iload 5, 2) := by decide +kernel
theorem dX7_supposeWithin_16 : decode cX7_supposeWithin 16 = .ok (.aload_n 0, 1) := by decide +kernel
theorem dX7_supposeWithin_17 : decode cX7_supposeWithin 17 = .ok (.getfield 22, 3) := by decide +kernel
theorem dX7_supposeWithin_20 : decode cX7_supposeWithin 20 = .ok (.getfield 49, 3) := by decide +kernel
theorem dX7_supposeWithin_23 : decode cX7_supposeWithin 23 = .ok (.if_icmp .ge 71, 3) := by decide +kernel
theorem dX7_supposeWithin_26 : decode cX7_supposeWithin 26 = .ok (.iconst 0, 1) := by decide +kernel
theorem dX7_supposeWithin_27 : decode cX7_supposeWithin 27 = .ok (.istore 6, 2) := by decide +kernel
theorem dX7_supposeWithin_29 : decode cX7_supposeWithin 29 = .ok (.iload 6, 2) := by decide +kernel
theorem dX7_supposeWithin_31 : decode cX7_supposeWithin 31 = .ok (.aload_n 0, 1) := by decide +kernel
theorem dX7_supposeWithin_32 : decode cX7_supposeWithin 32 = .ok (.getfield 22, 3) := by decide +kernel
theorem dX7_supposeWithin_35 : decode cX7_supposeWithin 35 = .ok (.getfield 88, 3) := by decide +kernel
theorem dX7_supposeWithin_38 : decode cX7_supposeWithin 38 = .ok (.if_icmp .ge 50, 3) := by decide +kernel
theorem dX7_supposeWithin_41 : decode cX7_supposeWithin 41 = .ok (.aload_n 0, 1) := by decide +kernel
theorem dX7_supposeWithin_42 : decode cX7_supposeWithin 42 = .ok (.getfield 22, 3) := by decide +kernel
theorem dX7_supposeWithin_45 : decode cX7_supposeWithin 45 = .ok (.iload 5, 2) := by decide +kernel
theorem dX7_supposeWithin_47 : decode cX7_supposeWithin 47 = .ok (.iload 6, 2) := by decide +kernel
theorem dX7_supposeWithin_49 : decode cX7_supposeWithin 49 = .ok (.invokevirtual 84, 3) := by decide +kernel
theorem dX7_supposeWithin_52 : decode cX7_supposeWithin 52 = .ok (.lstore 7, 2) := by decide +kernel
theorem dX7_supposeWithin_54 : decode cX7_supposeWithin 54 = .ok (.lload 7, 2) := by decide +kernel
theorem dX7_supposeWithin_56 : decode cX7_supposeWithin 56 = .ok (.lload_n 1, 1) := by decide +kernel
theorem dX7_supposeWithin_57 : decode cX7_supposeWithin 57 = .ok (.lcmp, 1) := by decide +kernel
theorem dX7_supposeWithin_58 : decode cX7_supposeWithin 58 = .ok (.ifCond .lt 10, 3) := by decide +kernel
theorem dX7_supposeWithin_61 : decode cX7_supposeWithin 61 = .ok (.lload 7, 2) := by decide +kernel
theorem dX7_supposeWithin_63 : decode cX7_supposeWithin 63 = .ok (.lload_n 3, 1) := by decide +kernel
theorem dX7_supposeWithin_64 : decode cX7_supposeWithin 64 = .ok (.lcmp, 1) := by decide +kernel
theorem dX7_supposeWithin_65 : decode cX7_supposeWithin 65 = .ok (.ifCond .le 17, 3) := by decide +kernel
theorem dX7_supposeWithin_68 : decode cX7_supposeWithin 68 = .ok (.aload_n 0, 1) := by decide +kernel
theorem dX7_supposeWithin_69 : decode cX7_supposeWithin 69 = .ok (.getfield 26, 3) := by decide +kernel
theorem dX7_supposeWithin_72 : decode cX7_supposeWithin 72 = .ok (.iload 5, 2) := by decide +kernel
theorem dX7_supposeWithin_74 : decode cX7_supposeWithin 74 = .ok (.iload 6, 2) := by decide +kernel
theorem dX7_supposeWithin_76 : decode cX7_supposeWithin 76 = .ok (.ldc2_w 91, 3) := by decide +kernel
theorem dX7_supposeWithin_79 : decode cX7_supposeWithin 79 = .ok (.invokevirtual 93, 3) := by decide +kernel
theorem dX7_supposeWithin_82 : decode cX7_supposeWithin 82 = .ok (.iinc 6 1, 3) := by decide +kernel
theorem dX7_supposeWithin_85 : decode cX7_supposeWithin 85 = .ok (.goto (-56), 3) := by decide +kernel
theorem dX7_supposeWithin_88 : decode cX7_supposeWithin 88 = .ok (.iinc 5 1, 3) := by decide +kernel
theorem dX7_supposeWithin_91 : decode cX7_supposeWithin 91 = .ok (.goto (-77), 3) := by decide +kernel
theorem dX7_supposeWithin_94 : decode cX7_supposeWithin 94 = .ok (.return_, 1) := by decide +kernel
theorem dX7_supposeWeighted_0 : decode cX7_supposeWeighted 0 = .ok (.aload_n 0, 1) := by decide +kernel
theorem dX7_supposeWeighted_1 : decode cX7_supposeWeighted 1 = .ok (.getfield 26, 3) := by decide +kernel
theorem dX7_supposeWeighted_4 : decode cX7_supposeWeighted 4 = .ok (.aload_n 0, 1) := by decide +kernel
theorem dX7_supposeWeighted_5 : decode cX7_supposeWeighted 5 = .ok (.getfield 22, 3) := by decide +kernel
theorem dX7_supposeWeighted_8 : decode cX7_supposeWeighted 8 = .ok (.invokevirtual 33, 3) := by decide +kernel
theorem dX7_supposeWeighted_11 : decode cX7_supposeWeighted 11 = .ok (.iconst 0, 1) := by decide +kernel
theorem dX7_supposeWeighted_12 : decode cX7_supposeWeighted 12 = .ok (.istore_n 2, 1) := by decide +kernel
theorem dX7_supposeWeighted_13 : decode cX7_supposeWeighted 13 = .ok (.iload_n 2, 1) := by decide +kernel
theorem dX7_supposeWeighted_14 : decode cX7_supposeWeighted 14 = .ok (.aload_n 0, 1) := by decide +kernel
theorem dX7_supposeWeighted_15 : decode cX7_supposeWeighted 15 = .ok (.getfield 22, 3) := by decide +kernel
theorem dX7_supposeWeighted_18 : decode cX7_supposeWeighted 18 = .ok (.getfield 49, 3) := by decide +kernel
theorem dX7_supposeWeighted_21 : decode cX7_supposeWeighted 21 = .ok (.if_icmp .ge 71, 3) := by decide +kernel
theorem dX7_supposeWeighted_24 : decode cX7_supposeWeighted 24 = .ok (.iconst 0, 1) := by decide +kernel
theorem dX7_supposeWeighted_25 : decode cX7_supposeWeighted 25 = .ok (.istore_n 3, 1) := by decide +kernel
theorem dX7_supposeWeighted_26 : decode cX7_supposeWeighted 26 = .ok (.iload_n 3, 1) := by decide +kernel
theorem dX7_supposeWeighted_27 : decode cX7_supposeWeighted 27 = .ok (.aload_n 0, 1) := by decide +kernel
theorem dX7_supposeWeighted_28 : decode cX7_supposeWeighted 28 = .ok (.getfield 22, 3) := by decide +kernel
theorem dX7_supposeWeighted_31 : decode cX7_supposeWeighted 31 = .ok (.getfield 88, 3) := by decide +kernel
theorem dX7_supposeWeighted_34 : decode cX7_supposeWeighted 34 = .ok (.if_icmp .ge 52, 3) := by decide +kernel
theorem dX7_supposeWeighted_37 : decode cX7_supposeWeighted 37 = .ok (.aload_n 0, 1) := by decide +kernel
theorem dX7_supposeWeighted_38 : decode cX7_supposeWeighted 38 = .ok (.getfield 22, 3) := by decide +kernel
theorem dX7_supposeWeighted_41 : decode cX7_supposeWeighted 41 = .ok (.iload_n 2, 1) := by decide +kernel
theorem dX7_supposeWeighted_42 : decode cX7_supposeWeighted 42 = .ok (.iload_n 3, 1) := by decide +kernel
theorem dX7_supposeWeighted_43 : decode cX7_supposeWeighted 43 = .ok (.invokevirtual 84, 3) := by decide +kernel
theorem dX7_supposeWeighted_46 : decode cX7_supposeWeighted 46 = .ok (.lstore 4, 2) := by decide +kernel
theorem dX7_supposeWeighted_48 : decode cX7_supposeWeighted 48 = .ok (.lload 4, 2) := by decide +kernel
theorem dX7_supposeWeighted_50 : decode cX7_supposeWeighted 50 = .ok (.ldc2_w 91, 3) := by decide +kernel
theorem dX7_supposeWeighted_53 : decode cX7_supposeWeighted 53 = .ok (.lcmp, 1) := by decide +kernel
theorem dX7_supposeWeighted_54 : decode cX7_supposeWeighted 54 = .ok (.ifCond .eq 26, 3) := by decide +kernel
theorem dX7_supposeWeighted_57 : decode cX7_supposeWeighted 57 = .ok (.lload 4, 2) := by decide +kernel
theorem dX7_supposeWeighted_59 : decode cX7_supposeWeighted 59 = .ok (.iload_n 1, 1) := by decide +kernel
theorem dX7_supposeWeighted_60 : decode cX7_supposeWeighted 60 = .ok (.i2l, 1) := by decide +kernel
theorem dX7_supposeWeighted_61 : decode cX7_supposeWeighted 61 = .ok (.lcmp, 1) := by decide +kernel
theorem dX7_supposeWeighted_62 : decode cX7_supposeWeighted 62 = .ok (.ifCond .le 18, 3) := by decide +kernel
theorem dX7_supposeWeighted_65 : decode cX7_supposeWeighted 65 = .ok (.aload_n 0, 1) := by decide +kernel
theorem dX7_supposeWeighted_66 : decode cX7_supposeWeighted 66 = .ok (.getfield 26, 3) := by decide +kernel
theorem dX7_supposeWeighted_69 : decode cX7_supposeWeighted 69 = .ok (.iload_n 2, 1) := by decide +kernel
theorem dX7_supposeWeighted_70 : decode cX7_supposeWeighted 70 = .ok (.iload_n 3, 1) := by decide +kernel
theorem dX7_supposeWeighted_71 : decode cX7_supposeWeighted 71 = .ok (.lload 4, 2) := by decide +kernel
theorem dX7_supposeWeighted_73 : decode cX7_supposeWeighted 73 = .ok (.ldc2_w 97, 3) := by decide +kernel
theorem dX7_supposeWeighted_76 : decode cX7_supposeWeighted 76 = .ok (.ladd, 1) := by decide +kernel
theorem dX7_supposeWeighted_77 : decode cX7_supposeWeighted 77 = .ok (.invokevirtual 93, 3) := by decide +kernel
theorem dX7_supposeWeighted_80 : decode cX7_supposeWeighted 80 = .ok (.iinc 3 1, 3) := by decide +kernel
theorem dX7_supposeWeighted_83 : decode cX7_supposeWeighted 83 = .ok (.goto (-57), 3) := by decide +kernel
theorem dX7_supposeWeighted_86 : decode cX7_supposeWeighted 86 = .ok (.iinc 2 1, 3) := by decide +kernel
theorem dX7_supposeWeighted_89 : decode cX7_supposeWeighted 89 = .ok (.goto (-76), 3) := by decide +kernel
theorem dX7_supposeWeighted_92 : decode cX7_supposeWeighted 92 = .ok (.return_, 1) := by decide +kernel
theorem dX7_chooseEven_0 : decode cX7_chooseEven 0 = .ok (.aload_n 0, 1) := by decide +kernel
theorem dX7_chooseEven_1 : decode cX7_chooseEven 1 = .ok (.ldc2_w 91, 3) := by decide +kernel
theorem dX7_chooseEven_4 : decode cX7_chooseEven 4 = .ok (.putfield 99, 3) := by decide +kernel
theorem dX7_chooseEven_7 : decode cX7_chooseEven 7 = .ok (.aload_n 0, 1) := by decide +kernel
theorem dX7_chooseEven_8 : decode cX7_chooseEven 8 = .ok (.ldc2_w 91, 3) := by decide +kernel
theorem dX7_chooseEven_11 : decode cX7_chooseEven 11 = .ok (.putfield 103, 3) := by decide +kernel
theorem dX7_chooseEven_14 : decode cX7_chooseEven 14 = .ok (.iconst 0, 1) := by decide +kernel
theorem dX7_chooseEven_15 : decode cX7_chooseEven 15 = .ok (.istore_n 1, 1) := by decide +kernel
theorem dX7_chooseEven_16 : decode cX7_chooseEven 16 = .ok (.iload_n 1, 1) := by decide +kernel
theorem dX7_chooseEven_17 : decode cX7_chooseEven 17 = .ok (.aload_n 0, 1) := by decide +kernel
theorem dX7_chooseEven_18 : decode cX7_chooseEven 18 = .ok (.getfield 22, 3) := by decide +kernel
theorem dX7_chooseEven_21 : decode cX7_chooseEven 21 = .ok (.getfield 49, 3) := by decide +kernel
theorem dX7_chooseEven_24 : decode cX7_chooseEven 24 = .ok (.if_icmp .ge 57, 3) := by decide +kernel
theorem dX7_chooseEven_27 : decode cX7_chooseEven 27 = .ok (.iconst 0, 1) := by decide +kernel
theorem dX7_chooseEven_28 : decode cX7_chooseEven 28 = .ok (.istore_n 2, 1) := by decide +kernel
theorem dX7_chooseEven_29 : decode cX7_chooseEven 29 = .ok (.iload_n 2, 1) := by decide +kernel
theorem dX7_chooseEven_30 : decode cX7_chooseEven 30 = .ok (.aload_n 0, 1) := by decide +kernel
theorem dX7_chooseEven_31 : decode cX7_chooseEven 31 = .ok (.getfield 22, 3) := by decide +kernel
theorem dX7_chooseEven_34 : decode cX7_chooseEven 34 = .ok (.getfield 88, 3) := by decide +kernel
theorem dX7_chooseEven_37 : decode cX7_chooseEven 37 = .ok (.if_icmp .ge 38, 3) := by decide +kernel
theorem dX7_chooseEven_40 : decode cX7_chooseEven 40 = .ok (.aload_n 0, 1) := by decide +kernel
theorem dX7_chooseEven_41 : decode cX7_chooseEven 41 = .ok (.getfield 22, 3) := by decide +kernel
theorem dX7_chooseEven_44 : decode cX7_chooseEven 44 = .ok (.iload_n 1, 1) := by decide +kernel
theorem dX7_chooseEven_45 : decode cX7_chooseEven 45 = .ok (.iload_n 2, 1) := by decide +kernel
theorem dX7_chooseEven_46 : decode cX7_chooseEven 46 = .ok (.invokevirtual 84, 3) := by decide +kernel
theorem dX7_chooseEven_49 : decode cX7_chooseEven 49 = .ok (.ldc2_w 91, 3) := by decide +kernel
theorem dX7_chooseEven_52 : decode cX7_chooseEven 52 = .ok (.lcmp, 1) := by decide +kernel
theorem dX7_chooseEven_53 : decode cX7_chooseEven 53 = .ok (.ifCond .eq 16, 3) := by decide +kernel
theorem dX7_chooseEven_56 : decode cX7_chooseEven 56 = .ok (.aload_n 0, 1) := by decide +kernel
theorem dX7_chooseEven_57 : decode cX7_chooseEven 57 = .ok (.aload_n 0, 1) := by decide +kernel
theorem dX7_chooseEven_58 : decode cX7_chooseEven 58 = .ok (.getfield 22, 3) := by decide +kernel
theorem dX7_chooseEven_61 : decode cX7_chooseEven 61 = .ok (.iload_n 1, 1) := by decide +kernel
theorem dX7_chooseEven_62 : decode cX7_chooseEven 62 = .ok (.iload_n 2, 1) := by decide +kernel
theorem dX7_chooseEven_63 : decode cX7_chooseEven 63 = .ok (.invokevirtual 84, 3) := by decide +kernel
theorem dX7_chooseEven_66 : decode cX7_chooseEven 66 = .ok (.invokevirtual 106, 3) := by decide +kernel
theorem dX7_chooseEven_69 : decode cX7_chooseEven 69 = .ok (.iinc 2 1, 3) := by decide +kernel
theorem dX7_chooseEven_72 : decode cX7_chooseEven 72 = .ok (.goto (-43), 3) := by decide +kernel
theorem dX7_chooseEven_75 : decode cX7_chooseEven 75 = .ok (.iinc 1 1, 3) := by decide +kernel
theorem dX7_chooseEven_78 : decode cX7_chooseEven 78 = .ok (.goto (-62), 3) := by decide +kernel
theorem dX7_chooseEven_81 : decode cX7_chooseEven 81 = .ok (.aload_n 0, 1) := by decide +kernel
theorem dX7_chooseEven_82 : decode cX7_chooseEven 82 = .ok (.getfield 99, 3) := by decide +kernel
theorem dX7_chooseEven_85 : decode cX7_chooseEven 85 = .ok (.ldc2_w 91, 3) := by decide +kernel
theorem dX7_chooseEven_88 : decode cX7_chooseEven 88 = .ok (.lcmp, 1) := by decide +kernel
theorem dX7_chooseEven_89 : decode cX7_chooseEven 89 = .ok (.ifCond .eq 7, 3) := by decide +kernel
theorem dX7_chooseEven_92 : decode cX7_chooseEven 92 = .ok (.iconst 1, 1) := by decide +kernel
theorem dX7_chooseEven_93 : decode cX7_chooseEven 93 = .ok (.goto 4, 3) := by decide +kernel
theorem dX7_chooseEven_96 : decode cX7_chooseEven 96 = .ok (.iconst 0, 1) := by decide +kernel
theorem dX7_chooseEven_97 : decode cX7_chooseEven 97 = .ok (.ireturn, 1) := by decide +kernel
theorem dX7_tryBottom_0 : decode cX7_tryBottom 0 = .ok (.aload_n 0, 1) := by decide +kernel
theorem dX7_tryBottom_1 : decode cX7_tryBottom 1 = .ok (.lload_n 1, 1) := by decide +kernel
theorem dX7_tryBottom_2 : decode cX7_tryBottom 2 = .ok (.invokevirtual 41, 3) := by decide +kernel
theorem dX7_tryBottom_5 : decode cX7_tryBottom 5 = .ok (.lstore_n 3, 1) := by decide +kernel
theorem dX7_tryBottom_6 : decode cX7_tryBottom 6 = .ok (.lload_n 3, 1) := by decide +kernel
theorem dX7_tryBottom_7 : decode cX7_tryBottom 7 = .ok (.ldc2_w 91, 3) := by decide +kernel
theorem dX7_tryBottom_10 : decode cX7_tryBottom 10 = .ok (.lcmp, 1) := by decide +kernel
theorem dX7_tryBottom_11 : decode cX7_tryBottom 11 = .ok (.ifCond .eq 14, 3) := by decide +kernel
theorem dX7_tryBottom_14 : decode cX7_tryBottom 14 = .ok (.lload_n 3, 1) := by decide +kernel
theorem dX7_tryBottom_15 : decode cX7_tryBottom 15 = .ok (.lload_n 1, 1) := by decide +kernel
theorem dX7_tryBottom_16 : decode cX7_tryBottom 16 = .ok (.lsub, 1) := by decide +kernel
theorem dX7_tryBottom_17 : decode cX7_tryBottom 17 = .ok (.aload_n 0, 1) := by decide +kernel
theorem dX7_tryBottom_18 : decode cX7_tryBottom 18 = .ok (.getfield 99, 3) := by decide +kernel
theorem dX7_tryBottom_21 : decode cX7_tryBottom 21 = .ok (.lcmp, 1) := by decide +kernel
theorem dX7_tryBottom_22 : decode cX7_tryBottom 22 = .ok (.ifCond .le 4, 3) := by decide +kernel
theorem dX7_tryBottom_25 : decode cX7_tryBottom 25 = .ok (.return_, 1) := by decide +kernel
theorem dX7_tryBottom_26 : decode cX7_tryBottom 26 = .ok (.aload_n 0, 1) := by decide +kernel
theorem dX7_tryBottom_27 : decode cX7_tryBottom 27 = .ok (.lload_n 1, 1) := by decide +kernel
theorem dX7_tryBottom_28 : decode cX7_tryBottom 28 = .ok (.lload_n 3, 1) := by decide +kernel
theorem dX7_tryBottom_29 : decode cX7_tryBottom 29 = .ok (.invokevirtual 45, 3) := by decide +kernel
theorem dX7_tryBottom_32 : decode cX7_tryBottom 32 = .ok (.aload_n 0, 1) := by decide +kernel
theorem dX7_tryBottom_33 : decode cX7_tryBottom 33 = .ok (.getfield 29, 3) := by decide +kernel
theorem dX7_tryBottom_36 : decode cX7_tryBottom 36 = .ok (.invokevirtual 61, 3) := by decide +kernel
theorem dX7_tryBottom_39 : decode cX7_tryBottom 39 = .ok (.aload_n 0, 1) := by decide +kernel
theorem dX7_tryBottom_40 : decode cX7_tryBottom 40 = .ok (.getfield 29, 3) := by decide +kernel
theorem dX7_tryBottom_43 : decode cX7_tryBottom 43 = .ok (.aload_n 0, 1) := by decide +kernel
theorem dX7_tryBottom_44 : decode cX7_tryBottom 44 = .ok (.getfield 19, 3) := by decide +kernel
theorem dX7_tryBottom_47 : decode cX7_tryBottom 47 = .ok (.invokevirtual 66, 3) := by decide +kernel
theorem dX7_tryBottom_50 : decode cX7_tryBottom 50 = .ok (.ifCond .ne 4, 3) := by decide +kernel
theorem dX7_tryBottom_53 : decode cX7_tryBottom 53 = .ok (.return_, 1) := by decide +kernel
theorem dX7_tryBottom_54 : decode cX7_tryBottom 54 = .ok (.aload_n 0, 1) := by decide +kernel
theorem dX7_tryBottom_55 : decode cX7_tryBottom 55 = .ok (.getfield 22, 3) := by decide +kernel
theorem dX7_tryBottom_58 : decode cX7_tryBottom 58 = .ok (.aload_n 0, 1) := by decide +kernel
theorem dX7_tryBottom_59 : decode cX7_tryBottom 59 = .ok (.getfield 19, 3) := by decide +kernel
theorem dX7_tryBottom_62 : decode cX7_tryBottom 62 = .ok (.invokevirtual 70, 3) := by decide +kernel
theorem dX7_tryBottom_65 : decode cX7_tryBottom 65 = .ok (.lstore 5, 2) := by decide +kernel
theorem dX7_tryBottom_67 : decode cX7_tryBottom 67 = .ok (.lload_n 3, 1) := by decide +kernel
theorem dX7_tryBottom_68 : decode cX7_tryBottom 68 = .ok (.lload_n 1, 1) := by decide +kernel
theorem dX7_tryBottom_69 : decode cX7_tryBottom 69 = .ok (.lsub, 1) := by decide +kernel
theorem dX7_tryBottom_70 : decode cX7_tryBottom 70 = .ok (.aload_n 0, 1) := by decide +kernel
theorem dX7_tryBottom_71 : decode cX7_tryBottom 71 = .ok (.getfield 99, 3) := by decide +kernel
theorem dX7_tryBottom_74 : decode cX7_tryBottom 74 = .ok (.lcmp, 1) := by decide +kernel
theorem dX7_tryBottom_75 : decode cX7_tryBottom 75 = .ok (.ifCond .lt 30, 3) := by decide +kernel
theorem dX7_tryBottom_78 : decode cX7_tryBottom 78 = .ok (.lload 5, 2) := by decide +kernel
theorem dX7_tryBottom_80 : decode cX7_tryBottom 80 = .ok (.aload_n 0, 1) := by decide +kernel
theorem dX7_tryBottom_81 : decode cX7_tryBottom 81 = .ok (.getfield 103, 3) := by decide +kernel
theorem dX7_tryBottom_84 : decode cX7_tryBottom 84 = .ok (.lcmp, 1) := by decide +kernel
theorem dX7_tryBottom_85 : decode cX7_tryBottom 85 = .ok (.ifCond .lt 20, 3) := by decide +kernel
theorem dX7_tryBottom_88 : decode cX7_tryBottom 88 = .ok (.lload 5, 2) := by decide +kernel
theorem dX7_tryBottom_90 : decode cX7_tryBottom 90 = .ok (.aload_n 0, 1) := by decide +kernel
theorem dX7_tryBottom_91 : decode cX7_tryBottom 91 = .ok (.getfield 103, 3) := by decide +kernel
theorem dX7_tryBottom_94 : decode cX7_tryBottom 94 = .ok (.lcmp, 1) := by decide +kernel
theorem dX7_tryBottom_95 : decode cX7_tryBottom 95 = .ok (.ifCond .ne 58, 3) := by decide +kernel
theorem dX7_tryBottom_98 : decode cX7_tryBottom 98 = .ok (.aload_n 0, 1) := by decide +kernel
theorem dX7_tryBottom_99 : decode cX7_tryBottom 99 = .ok (.invokevirtual 110, 3) := by decide +kernel
theorem dX7_tryBottom_102 : decode cX7_tryBottom 102 = .ok (.ifCond .eq 51, 3) := by decide +kernel
theorem dX7_tryBottom_105 : decode cX7_tryBottom 105 = .ok (.aload_n 0, 1) := by decide +kernel
theorem dX7_tryBottom_106 : decode cX7_tryBottom 106 = .ok (.lload_n 3, 1) := by decide +kernel
theorem dX7_tryBottom_107 : decode cX7_tryBottom 107 = .ok (.lload_n 1, 1) := by decide +kernel
theorem dX7_tryBottom_108 : decode cX7_tryBottom 108 = .ok (.lsub, 1) := by decide +kernel
theorem dX7_tryBottom_109 : decode cX7_tryBottom 109 = .ok (.putfield 99, 3) := by decide +kernel
theorem dX7_tryBottom_112 : decode cX7_tryBottom 112 = .ok (.aload_n 0, 1) := by decide +kernel
theorem dX7_tryBottom_113 : decode cX7_tryBottom 113 = .ok (.lload 5, 2) := by decide +kernel
theorem dX7_tryBottom_115 : decode cX7_tryBottom 115 = .ok (.putfield 103, 3) := by decide +kernel
theorem dX7_tryBottom_118 : decode cX7_tryBottom 118 = .ok (.iconst 0, 1) := by decide +kernel
theorem dX7_tryBottom_119 : decode cX7_tryBottom 119 = .ok (.istore 7, 2) := by decide +kernel
theorem dX7_tryBottom_121 : decode cX7_tryBottom 121 = .ok (.iload 7, 2) := by decide +kernel
theorem dX7_tryBottom_123 : decode cX7_tryBottom 123 = .ok (.aload_n 0, 1) := by decide +kernel
theorem dX7_tryBottom_124 : decode cX7_tryBottom 124 = .ok (.getfield 22, 3) := by decide +kernel
theorem dX7_tryBottom_127 : decode cX7_tryBottom 127 = .ok (.getfield 49, 3) := by decide +kernel
theorem dX7_tryBottom_130 : decode cX7_tryBottom 130 = .ok (.if_icmp .ge 23, 3) := by decide +kernel
theorem dX7_tryBottom_133 : decode cX7_tryBottom 133 = .ok (.aload_n 0, 1) := by decide +kernel
theorem dX7_tryBottom_134 : decode cX7_tryBottom 134 = .ok (.getfield 15, 3) := by decide +kernel
theorem dX7_tryBottom_137 : decode cX7_tryBottom 137 = .ok (.iload 7, 2) := by decide +kernel
theorem dX7_tryBottom_139 : decode cX7_tryBottom 139 = .ok (.aload_n 0, 1) := by decide +kernel
theorem dX7_tryBottom_140 : decode cX7_tryBottom 140 = .ok (.getfield 19, 3) := by decide +kernel
theorem dX7_tryBottom_143 : decode cX7_tryBottom 143 = .ok (.iload 7, 2) := by decide +kernel
theorem dX7_tryBottom_145 : decode cX7_tryBottom 145 = .ok (.iaload, 1) := by decide +kernel
theorem dX7_tryBottom_146 : decode cX7_tryBottom 146 = .ok (.iastore, 1) := by decide +kernel
theorem dX7_tryBottom_147 : decode cX7_tryBottom 147 = .ok (.iinc 7 1, 3) := by decide +kernel
theorem dX7_tryBottom_150 : decode cX7_tryBottom 150 = .ok (.goto (-29), 3) := by decide +kernel
theorem dX7_tryBottom_153 : decode cX7_tryBottom 153 = .ok (.return_, 1) := by decide +kernel
theorem dX7_triedComesFirst_0 : decode cX7_triedComesFirst 0 = .ok (.iconst 0, 1) := by decide +kernel
theorem dX7_triedComesFirst_1 : decode cX7_triedComesFirst 1 = .ok (.istore_n 1, 1) := by decide +kernel
theorem dX7_triedComesFirst_2 : decode cX7_triedComesFirst 2 = .ok (.iload_n 1, 1) := by decide +kernel
theorem dX7_triedComesFirst_3 : decode cX7_triedComesFirst 3 = .ok (.aload_n 0, 1) := by decide +kernel
theorem dX7_triedComesFirst_4 : decode cX7_triedComesFirst 4 = .ok (.getfield 22, 3) := by decide +kernel
theorem dX7_triedComesFirst_7 : decode cX7_triedComesFirst 7 = .ok (.getfield 49, 3) := by decide +kernel
theorem dX7_triedComesFirst_10 : decode cX7_triedComesFirst 10 = .ok (.if_icmp .ge 45, 3) := by decide +kernel
theorem dX7_triedComesFirst_13 : decode cX7_triedComesFirst 13 = .ok (.aload_n 0, 1) := by decide +kernel
theorem dX7_triedComesFirst_14 : decode cX7_triedComesFirst 14 = .ok (.getfield 19, 3) := by decide +kernel
theorem dX7_triedComesFirst_17 : decode cX7_triedComesFirst 17 = .ok (.iload_n 1, 1) := by decide +kernel
theorem dX7_triedComesFirst_18 : decode cX7_triedComesFirst 18 = .ok (.iaload, 1) := by decide +kernel
theorem dX7_triedComesFirst_19 : decode cX7_triedComesFirst 19 = .ok (.aload_n 0, 1) := by decide +kernel
theorem dX7_triedComesFirst_20 : decode cX7_triedComesFirst 20 = .ok (.getfield 15, 3) := by decide +kernel
theorem dX7_triedComesFirst_23 : decode cX7_triedComesFirst 23 = .ok (.iload_n 1, 1) := by decide +kernel
theorem dX7_triedComesFirst_24 : decode cX7_triedComesFirst 24 = .ok (.iaload, 1) := by decide +kernel
theorem dX7_triedComesFirst_25 : decode cX7_triedComesFirst 25 = .ok (.if_icmp .eq 24, 3) := by decide +kernel
theorem dX7_triedComesFirst_28 : decode cX7_triedComesFirst 28 = .ok (.aload_n 0, 1) := by decide +kernel
theorem dX7_triedComesFirst_29 : decode cX7_triedComesFirst 29 = .ok (.getfield 19, 3) := by decide +kernel
theorem dX7_triedComesFirst_32 : decode cX7_triedComesFirst 32 = .ok (.iload_n 1, 1) := by decide +kernel
theorem dX7_triedComesFirst_33 : decode cX7_triedComesFirst 33 = .ok (.iaload, 1) := by decide +kernel
theorem dX7_triedComesFirst_34 : decode cX7_triedComesFirst 34 = .ok (.aload_n 0, 1) := by decide +kernel
theorem dX7_triedComesFirst_35 : decode cX7_triedComesFirst 35 = .ok (.getfield 15, 3) := by decide +kernel
theorem dX7_triedComesFirst_38 : decode cX7_triedComesFirst 38 = .ok (.iload_n 1, 1) := by decide +kernel
theorem dX7_triedComesFirst_39 : decode cX7_triedComesFirst 39 = .ok (.iaload, 1) := by decide +kernel
theorem dX7_triedComesFirst_40 : decode cX7_triedComesFirst 40 = .ok (.if_icmp .ge 7, 3) := by decide +kernel
theorem dX7_triedComesFirst_43 : decode cX7_triedComesFirst 43 = .ok (.iconst 1, 1) := by decide +kernel
theorem dX7_triedComesFirst_44 : decode cX7_triedComesFirst 44 = .ok (.goto 4, 3) := by decide +kernel
theorem dX7_triedComesFirst_47 : decode cX7_triedComesFirst 47 = .ok (.iconst 0, 1) := by decide +kernel
theorem dX7_triedComesFirst_48 : decode cX7_triedComesFirst 48 = .ok (.ireturn, 1) := by decide +kernel
theorem dX7_triedComesFirst_49 : decode cX7_triedComesFirst 49 = .ok (.iinc 1 1, 3) := by decide +kernel
theorem dX7_triedComesFirst_52 : decode cX7_triedComesFirst 52 = .ok (.goto (-50), 3) := by decide +kernel
theorem dX7_triedComesFirst_55 : decode cX7_triedComesFirst 55 = .ok (.iconst 0, 1) := by decide +kernel
theorem dX7_triedComesFirst_56 : decode cX7_triedComesFirst 56 = .ok (.ireturn, 1) := by decide +kernel
theorem dX7_lowestTop_0 : decode cX7_lowestTop 0 = .ok (.iconst 1, 1) := by decide +kernel
theorem dX7_lowestTop_1 : decode cX7_lowestTop 1 = .ok (.aload_n 0, 1) := by decide +kernel
theorem dX7_lowestTop_2 : decode cX7_lowestTop 2 = .ok (.getfield 22, 3) := by decide +kernel
theorem dX7_lowestTop_5 : decode cX7_lowestTop 5 = .ok (.getfield 88, 3) := by decide +kernel
theorem dX7_lowestTop_8 : decode cX7_lowestTop 8 = .ok (.ishl, 1) := by decide +kernel
theorem dX7_lowestTop_9 : decode cX7_lowestTop 9 = .ok (.iconst 1, 1) := by decide +kernel
theorem dX7_lowestTop_10 : decode cX7_lowestTop 10 = .ok (.isub, 1) := by decide +kernel
theorem dX7_lowestTop_11 : decode cX7_lowestTop 11 = .ok (.istore_n 3, 1) := by decide +kernel
theorem dX7_lowestTop_12 : decode cX7_lowestTop 12 = .ok (.iload_n 3, 1) := by decide +kernel
theorem dX7_lowestTop_13 : decode cX7_lowestTop 13 = .ok (.ifCond .lt 133, 3) := by decide +kernel
theorem dX7_lowestTop_16 : decode cX7_lowestTop 16 = .ok (.iload_n 3, 1) := by decide +kernel
theorem dX7_lowestTop_17 : decode cX7_lowestTop 17 = .ok (.invokestatic 113, 3) := by decide +kernel
theorem dX7_lowestTop_20 : decode cX7_lowestTop 20 = .ok (.istore 4, 2) := by decide +kernel
theorem dX7_lowestTop_22 : decode cX7_lowestTop 22 = .ok (.aload_n 0, 1) := by decide +kernel
theorem dX7_lowestTop_23 : decode cX7_lowestTop 23 = .ok (.getfield 9, 3) := by decide +kernel
theorem dX7_lowestTop_26 : decode cX7_lowestTop 26 = .ok (.iload_n 3, 1) := by decide +kernel
theorem dX7_lowestTop_27 : decode cX7_lowestTop 27 = .ok (.iload 4, 2) := by decide +kernel
theorem dX7_lowestTop_29 : decode cX7_lowestTop 29 = .ok (.aload_n 0, 1) := by decide +kernel
theorem dX7_lowestTop_30 : decode cX7_lowestTop 30 = .ok (.getfield 22, 3) := by decide +kernel
theorem dX7_lowestTop_33 : decode cX7_lowestTop 33 = .ok (.getfield 49, 3) := by decide +kernel
theorem dX7_lowestTop_36 : decode cX7_lowestTop 36 = .ok (.if_icmp .lt 7, 3) := by decide +kernel
theorem dX7_lowestTop_39 : decode cX7_lowestTop 39 = .ok (.lload_n 1, 1) := by decide +kernel
theorem dX7_lowestTop_40 : decode cX7_lowestTop 40 = .ok (.goto 6, 3) := by decide +kernel
theorem dX7_lowestTop_43 : decode cX7_lowestTop 43 = .ok (.ldc2_w 91, 3) := by decide +kernel
theorem dX7_lowestTop_46 : decode cX7_lowestTop 46 = .ok (.lastore, 1) := by decide +kernel
theorem dX7_lowestTop_47 : decode cX7_lowestTop 47 = .ok (.iconst 0, 1) := by decide +kernel
theorem dX7_lowestTop_48 : decode cX7_lowestTop 48 = .ok (.istore 5, 2) := by decide +kernel
theorem dX7_lowestTop_50 : decode cX7_lowestTop 50 = .ok (.iload 4, 2) := by decide +kernel
theorem dX7_lowestTop_52 : decode cX7_lowestTop 52 = .ok (.aload_n 0, 1) := by decide +kernel
theorem dX7_lowestTop_53 : decode cX7_lowestTop 53 = .ok (.getfield 22, 3) := by decide +kernel
theorem dX7_lowestTop_56 : decode cX7_lowestTop 56 = .ok (.getfield 49, 3) := by decide +kernel
theorem dX7_lowestTop_59 : decode cX7_lowestTop 59 = .ok (.if_icmp .ge 81, 3) := by decide +kernel
theorem dX7_lowestTop_62 : decode cX7_lowestTop 62 = .ok (.iload 5, 2) := by decide +kernel
theorem dX7_lowestTop_64 : decode cX7_lowestTop 64 = .ok (.aload_n 0, 1) := by decide +kernel
theorem dX7_lowestTop_65 : decode cX7_lowestTop 65 = .ok (.getfield 22, 3) := by decide +kernel
theorem dX7_lowestTop_68 : decode cX7_lowestTop 68 = .ok (.getfield 88, 3) := by decide +kernel
theorem dX7_lowestTop_71 : decode cX7_lowestTop 71 = .ok (.if_icmp .ge 69, 3) := by decide +kernel
theorem dX7_lowestTop_74 : decode cX7_lowestTop 74 = .ok (.aload_n 0, 1) := by decide +kernel
theorem dX7_lowestTop_75 : decode cX7_lowestTop 75 = .ok (.getfield 22, 3) := by decide +kernel
theorem dX7_lowestTop_78 : decode cX7_lowestTop 78 = .ok (.iload 4, 2) := by decide +kernel
theorem dX7_lowestTop_80 : decode cX7_lowestTop 80 = .ok (.iload 5, 2) := by decide +kernel
theorem dX7_lowestTop_82 : decode cX7_lowestTop 82 = .ok (.invokevirtual 84, 3) := by decide +kernel
theorem dX7_lowestTop_85 : decode cX7_lowestTop 85 = .ok (.lstore 6, 2) := by decide +kernel
theorem dX7_lowestTop_87 : decode cX7_lowestTop 87 = .ok (.iload_n 3, 1) := by decide +kernel
theorem dX7_lowestTop_88 : decode cX7_lowestTop 88 = .ok (.iload 5, 2) := by decide +kernel
theorem dX7_lowestTop_90 : decode cX7_lowestTop 90 = .ok (.ishr, 1) := by decide +kernel
theorem dX7_lowestTop_91 : decode cX7_lowestTop 91 = .ok (.iconst 1, 1) := by decide +kernel
theorem dX7_lowestTop_92 : decode cX7_lowestTop 92 = .ok (.iand, 1) := by decide +kernel
theorem dX7_lowestTop_93 : decode cX7_lowestTop 93 = .ok (.ifCond .ne 41, 3) := by decide +kernel
theorem dX7_lowestTop_96 : decode cX7_lowestTop 96 = .ok (.lload 6, 2) := by decide +kernel
theorem dX7_lowestTop_98 : decode cX7_lowestTop 98 = .ok (.lload_n 1, 1) := by decide +kernel
theorem dX7_lowestTop_99 : decode cX7_lowestTop 99 = .ok (.lcmp, 1) := by decide +kernel
theorem dX7_lowestTop_100 : decode cX7_lowestTop 100 = .ok (.ifCond .lt 34, 3) := by decide +kernel
theorem dX7_lowestTop_103 : decode cX7_lowestTop 103 = .ok (.aload_n 0, 1) := by decide +kernel
theorem dX7_lowestTop_104 : decode cX7_lowestTop 104 = .ok (.getfield 9, 3) := by decide +kernel
theorem dX7_lowestTop_107 : decode cX7_lowestTop 107 = .ok (.iload_n 3, 1) := by decide +kernel
theorem dX7_lowestTop_108 : decode cX7_lowestTop 108 = .ok (.aload_n 0, 1) := by decide +kernel
theorem dX7_lowestTop_109 : decode cX7_lowestTop 109 = .ok (.getfield 9, 3) := by decide +kernel
theorem dX7_lowestTop_112 : decode cX7_lowestTop 112 = .ok (.iload_n 3, 1) := by decide +kernel
theorem dX7_lowestTop_113 : decode cX7_lowestTop 113 = .ok (.laload, 1) := by decide +kernel
theorem dX7_lowestTop_114 : decode cX7_lowestTop 114 = .ok (.lload 6, 2) := by decide +kernel
theorem dX7_lowestTop_116 : decode cX7_lowestTop 116 = .ok (.aload_n 0, 1) := by decide +kernel
theorem dX7_lowestTop_117 : decode cX7_lowestTop 117 = .ok (.getfield 9, 3) := by decide +kernel
theorem dX7_lowestTop_120 : decode cX7_lowestTop 120 = .ok (.iload_n 3, 1) := by decide +kernel
theorem dX7_lowestTop_121 : decode cX7_lowestTop 121 = .ok (.iconst 1, 1) := by decide +kernel
theorem dX7_lowestTop_122 : decode cX7_lowestTop 122 = .ok (.iload 5, 2) := by decide +kernel
theorem dX7_lowestTop_124 : decode cX7_lowestTop 124 = .ok (.ishl, 1) := by decide +kernel
theorem dX7_lowestTop_125 : decode cX7_lowestTop 125 = .ok (.ior, 1) := by decide +kernel
theorem dX7_lowestTop_126 : decode cX7_lowestTop 126 = .ok (.laload, 1) := by decide +kernel
theorem dX7_lowestTop_127 : decode cX7_lowestTop 127 = .ok (.invokestatic 119, 3) := by decide +kernel
theorem dX7_lowestTop_130 : decode cX7_lowestTop 130 = .ok (.invokestatic 125, 3) := by decide +kernel
theorem dX7_lowestTop_133 : decode cX7_lowestTop 133 = .ok (.lastore, 1) := by decide +kernel
theorem dX7_lowestTop_134 : decode cX7_lowestTop 134 = .ok (.iinc 5 1, 3) := by decide +kernel
theorem dX7_lowestTop_137 : decode cX7_lowestTop 137 = .ok (.goto (-87), 3) := by decide +kernel
theorem dX7_lowestTop_140 : decode cX7_lowestTop 140 = .ok (.iinc 3 (-1), 3) := by decide +kernel
theorem dX7_lowestTop_143 : decode cX7_lowestTop 143 = .ok (.goto (-131), 3) := by decide +kernel
theorem dX7_lowestTop_146 : decode cX7_lowestTop 146 = .ok (.aload_n 0, 1) := by decide +kernel
theorem dX7_lowestTop_147 : decode cX7_lowestTop 147 = .ok (.getfield 9, 3) := by decide +kernel
theorem dX7_lowestTop_150 : decode cX7_lowestTop 150 = .ok (.iconst 0, 1) := by decide +kernel
theorem dX7_lowestTop_151 : decode cX7_lowestTop 151 = .ok (.laload, 1) := by decide +kernel
theorem dX7_lowestTop_152 : decode cX7_lowestTop 152 = .ok (.lreturn, 1) := by decide +kernel
theorem dX8_init_0 : decode cX8_init 0 = .ok (.aload_n 0, 1) := by decide +kernel
theorem dX8_init_1 : decode cX8_init 1 = .ok (.invokespecial 3, 3) := by decide +kernel
theorem dX8_init_4 : decode cX8_init 4 = .ok (.aload_n 0, 1) := by decide +kernel
theorem dX8_init_5 : decode cX8_init 5 = .ok (.bipush 8, 2) := by decide +kernel
theorem dX8_init_7 : decode cX8_init 7 = .ok (.newarray .long, 2) := by decide +kernel
theorem dX8_init_9 : decode cX8_init 9 = .ok (.putfield 9, 3) := by decide +kernel
theorem dX8_init_12 : decode cX8_init 12 = .ok (.aload_n 0, 1) := by decide +kernel
theorem dX8_init_13 : decode cX8_init 13 = .ok (.bipush 7, 2) := by decide +kernel
theorem dX8_init_15 : decode cX8_init 15 = .ok (.newarray .int, 2) := by decide +kernel
theorem dX8_init_17 : decode cX8_init 17 = .ok (.putfield 15, 3) := by decide +kernel
theorem dX8_init_20 : decode cX8_init 20 = .ok (.aload_n 0, 1) := by decide +kernel
theorem dX8_init_21 : decode cX8_init 21 = .ok (.bipush 7, 2) := by decide +kernel
theorem dX8_init_23 : decode cX8_init 23 = .ok (.newarray .int, 2) := by decide +kernel
theorem dX8_init_25 : decode cX8_init 25 = .ok (.putfield 19, 3) := by decide +kernel
theorem dX8_init_28 : decode cX8_init 28 = .ok (.aload_n 0, 1) := by decide +kernel
theorem dX8_init_29 : decode cX8_init 29 = .ok (.aload_n 1, 1) := by decide +kernel
theorem dX8_init_30 : decode cX8_init 30 = .ok (.putfield 22, 3) := by decide +kernel
theorem dX8_init_33 : decode cX8_init 33 = .ok (.return_, 1) := by decide +kernel
theorem dX8_hold_0 : decode cX8_hold 0 = .ok (.aload_n 0, 1) := by decide +kernel
theorem dX8_hold_1 : decode cX8_hold 1 = .ok (.invokevirtual 26, 3) := by decide +kernel
theorem dX8_hold_4 : decode cX8_hold 4 = .ok (.aload_n 0, 1) := by decide +kernel
theorem dX8_hold_5 : decode cX8_hold 5 = .ok (.getfield 29, 3) := by decide +kernel
theorem dX8_hold_8 : decode cX8_hold 8 = .ok (.sipush 500, 3) := by decide +kernel
theorem dX8_hold_11 : decode cX8_hold 11 = .ok (.if_icmp .ge 37, 3) := by decide +kernel
theorem dX8_hold_14 : decode cX8_hold 14 = .ok (.aload_n 0, 1) := by decide +kernel
theorem dX8_hold_15 : decode cX8_hold 15 = .ok (.getfield 33, 3) := by decide +kernel
theorem dX8_hold_18 : decode cX8_hold 18 = .ok (.ifCond .le 30, 3) := by decide +kernel
theorem dX8_hold_21 : decode cX8_hold 21 = .ok (.aload_n 0, 1) := by decide +kernel
theorem dX8_hold_22 : decode cX8_hold 22 = .ok (.aload_n 0, 1) := by decide +kernel
theorem dX8_hold_23 : decode cX8_hold 23 = .ok (.getfield 19, 3) := by decide +kernel
theorem dX8_hold_26 : decode cX8_hold 26 = .ok (.iconst 0, 1) := by decide +kernel
theorem dX8_hold_27 : decode cX8_hold 27 = .ok (.iaload, 1) := by decide +kernel
theorem dX8_hold_28 : decode cX8_hold 28 = .ok (.iload_n 1, 1) := by decide +kernel
theorem dX8_hold_29 : decode cX8_hold 29 = .ok (.invokevirtual 36, 3) := by decide +kernel
theorem dX8_hold_32 : decode cX8_hold 32 = .ok (.ifCond .eq 16, 3) := by decide +kernel
theorem dX8_hold_35 : decode cX8_hold 35 = .ok (.aload_n 0, 1) := by decide +kernel
theorem dX8_hold_36 : decode cX8_hold 36 = .ok (.dup, 1) := by decide +kernel
theorem dX8_hold_37 : decode cX8_hold 37 = .ok (.getfield 29, 3) := by decide +kernel
theorem dX8_hold_40 : decode cX8_hold 40 = .ok (.iconst 1, 1) := by decide +kernel
theorem dX8_hold_41 : decode cX8_hold 41 = .ok (.iadd, 1) := by decide +kernel
theorem dX8_hold_42 : decode cX8_hold 42 = .ok (.putfield 29, 3) := by decide +kernel
theorem dX8_hold_45 : decode cX8_hold 45 = .ok (.goto (-41), 3) := by decide +kernel
theorem dX8_hold_48 : decode cX8_hold 48 = .ok (.return_, 1) := by decide +kernel
theorem dX8_open_0 : decode cX8_open 0 = .ok (.aload_n 0, 1) := by decide +kernel
theorem dX8_open_1 : decode cX8_open 1 = .ok (.iconst 0, 1) := by decide +kernel
theorem dX8_open_2 : decode cX8_open 2 = .ok (.putfield 29, 3) := by decide +kernel
theorem dX8_open_5 : decode cX8_open 5 = .ok (.aload_n 0, 1) := by decide +kernel
theorem dX8_open_6 : decode cX8_open 6 = .ok (.aload_n 0, 1) := by decide +kernel
theorem dX8_open_7 : decode cX8_open 7 = .ok (.getfield 22, 3) := by decide +kernel
theorem dX8_open_10 : decode cX8_open 10 = .ok (.getfield 40, 3) := by decide +kernel
theorem dX8_open_13 : decode cX8_open 13 = .ok (.putfield 33, 3) := by decide +kernel
theorem dX8_open_16 : decode cX8_open 16 = .ok (.iconst 0, 1) := by decide +kernel
theorem dX8_open_17 : decode cX8_open 17 = .ok (.istore_n 1, 1) := by decide +kernel
theorem dX8_open_18 : decode cX8_open 18 = .ok (.iload_n 1, 1) := by decide +kernel
theorem dX8_open_19 : decode cX8_open 19 = .ok (.bipush 8, 2) := by decide +kernel
theorem dX8_open_21 : decode cX8_open 21 = .ok (.if_icmp .ge 16, 3) := by decide +kernel
theorem dX8_open_24 : decode cX8_open 24 = .ok (.aload_n 0, 1) := by decide +kernel
theorem dX8_open_25 : decode cX8_open 25 = .ok (.getfield 9, 3) := by decide +kernel
theorem dX8_open_28 : decode cX8_open 28 = .ok (.iload_n 1, 1) := by decide +kernel
theorem dX8_open_29 : decode cX8_open 29 = .ok (.lconst 0, 1) := by decide +kernel
theorem dX8_open_30 : decode cX8_open 30 = .ok (.lastore, 1) := by decide +kernel
theorem dX8_open_31 : decode cX8_open 31 = .ok (.iinc 1 1, 3) := by decide +kernel
theorem dX8_open_34 : decode cX8_open 34 = .ok (.goto (-16), 3) := by decide +kernel
theorem dX8_open_37 : decode cX8_open 37 = .ok (.iconst 0, 1) := by decide +kernel
theorem dX8_open_38 : decode cX8_open 38 = .ok (.istore_n 1, 1) := by decide +kernel
theorem dX8_open_39 : decode cX8_open 39 = .ok (.iload_n 1, 1) := by decide +kernel
theorem dX8_open_40 : decode cX8_open 40 = .ok (.bipush 7, 2) := by decide +kernel
theorem dX8_open_42 : decode cX8_open 42 = .ok (.if_icmp .ge 23, 3) := by decide +kernel
theorem dX8_open_45 : decode cX8_open 45 = .ok (.aload_n 0, 1) := by decide +kernel
theorem dX8_open_46 : decode cX8_open 46 = .ok (.getfield 15, 3) := by decide +kernel
theorem dX8_open_49 : decode cX8_open 49 = .ok (.iload_n 1, 1) := by decide +kernel
theorem dX8_open_50 : decode cX8_open 50 = .ok (.iconst (-1), 1) := by decide +kernel
theorem dX8_open_51 : decode cX8_open 51 = .ok (.iastore, 1) := by decide +kernel
theorem dX8_open_52 : decode cX8_open 52 = .ok (.aload_n 0, 1) := by decide +kernel
theorem dX8_open_53 : decode cX8_open 53 = .ok (.getfield 19, 3) := by decide +kernel
theorem dX8_open_56 : decode cX8_open 56 = .ok (.iload_n 1, 1) := by decide +kernel
theorem dX8_open_57 : decode cX8_open 57 = .ok (.iload_n 1, 1) := by decide +kernel
theorem dX8_open_58 : decode cX8_open 58 = .ok (.iastore, 1) := by decide +kernel
theorem dX8_open_59 : decode cX8_open 59 = .ok (.iinc 1 1, 3) := by decide +kernel
theorem dX8_open_62 : decode cX8_open 62 = .ok (.goto (-23), 3) := by decide +kernel
theorem dX8_open_65 : decode cX8_open 65 = .ok (.return_, 1) := by decide +kernel
theorem dX8_bid_0 : decode cX8_bid 0 = .ok (.aload_n 0, 1) := by decide +kernel
theorem dX8_bid_1 : decode cX8_bid 1 = .ok (.iload_n 1, 1) := by decide +kernel
theorem dX8_bid_2 : decode cX8_bid 2 = .ok (.iconst (-1), 1) := by decide +kernel
theorem dX8_bid_3 : decode cX8_bid 3 = .ok (.invokevirtual 45, 3) := by decide +kernel
theorem dX8_bid_6 : decode cX8_bid 6 = .ok (.istore_n 3, 1) := by decide +kernel
theorem dX8_bid_7 : decode cX8_bid 7 = .ok (.iload_n 3, 1) := by decide +kernel
theorem dX8_bid_8 : decode cX8_bid 8 = .ok (.iconst (-1), 1) := by decide +kernel
theorem dX8_bid_9 : decode cX8_bid 9 = .ok (.if_icmp .ne 5, 3) := by decide +kernel
theorem dX8_bid_12 : decode cX8_bid 12 = .ok (.iconst 0, 1) := by decide +kernel
theorem dX8_bid_13 : decode cX8_bid 13 = .ok (.ireturn, 1) := by decide +kernel
theorem dX8_bid_14 : decode cX8_bid 14 = .ok (.aload_n 0, 1) := by decide +kernel
theorem dX8_bid_15 : decode cX8_bid 15 = .ok (.iload_n 1, 1) := by decide +kernel
theorem dX8_bid_16 : decode cX8_bid 16 = .ok (.iload_n 3, 1) := by decide +kernel
theorem dX8_bid_17 : decode cX8_bid 17 = .ok (.invokevirtual 45, 3) := by decide +kernel
theorem dX8_bid_20 : decode cX8_bid 20 = .ok (.istore 4, 2) := by decide +kernel
theorem dX8_bid_22 : decode cX8_bid 22 = .ok (.iload 4, 2) := by decide +kernel
theorem dX8_bid_24 : decode cX8_bid 24 = .ok (.iconst (-1), 1) := by decide +kernel
theorem dX8_bid_25 : decode cX8_bid 25 = .ok (.if_icmp .ne 9, 3) := by decide +kernel
theorem dX8_bid_28 : decode cX8_bid 28 = .ok (.ldc2_w 49, 3) := by decide +kernel
theorem dX8_bid_31 : decode cX8_bid 31 = .ok (.goto 17, 3) := by decide +kernel
theorem dX8_bid_34 : decode cX8_bid 34 = .ok (.aload_n 0, 1) := by decide +kernel
theorem dX8_bid_35 : decode cX8_bid 35 = .ok (.iload_n 1, 1) := by decide +kernel
theorem dX8_bid_36 : decode cX8_bid 36 = .ok (.iload 4, 2) := by decide +kernel
theorem dX8_bid_38 : decode cX8_bid 38 = .ok (.invokevirtual 51, 3) := by decide +kernel
theorem dX8_bid_41 : decode cX8_bid 41 = .ok (.aload_n 0, 1) := by decide +kernel
theorem dX8_bid_42 : decode cX8_bid 42 = .ok (.iload_n 1, 1) := by decide +kernel
theorem dX8_bid_43 : decode cX8_bid 43 = .ok (.iload_n 3, 1) := by decide +kernel
theorem dX8_bid_44 : decode cX8_bid 44 = .ok (.invokevirtual 51, 3) := by decide +kernel
theorem dX8_bid_47 : decode cX8_bid 47 = .ok (.lsub, 1) := by decide +kernel
theorem dX8_bid_48 : decode cX8_bid 48 = .ok (.lstore 5, 2) := by decide +kernel
theorem dX8_bid_50 : decode cX8_bid 50 = .ok (.aload_n 0, 1) := by decide +kernel
theorem dX8_bid_51 : decode cX8_bid 51 = .ok (.getfield 9, 3) := by decide +kernel
theorem dX8_bid_54 : decode cX8_bid 54 = .ok (.iload_n 3, 1) := by decide +kernel
theorem dX8_bid_55 : decode cX8_bid 55 = .ok (.dup2, 1) := by decide +kernel
theorem dX8_bid_56 : decode cX8_bid 56 = .ok (.laload, 1) := by decide +kernel
theorem dX8_bid_57 : decode cX8_bid 57 = .ok (.lload 5, 2) := by decide +kernel
theorem dX8_bid_59 : decode cX8_bid 59 = .ok (.iload_n 2, 1) := by decide +kernel
theorem dX8_bid_60 : decode cX8_bid 60 = .ok (.i2l, 1) := by decide +kernel
theorem dX8_bid_61 : decode cX8_bid 61 = .ok (.ladd, 1) := by decide +kernel
theorem dX8_bid_62 : decode cX8_bid 62 = .ok (.ladd, 1) := by decide +kernel
theorem dX8_bid_63 : decode cX8_bid 63 = .ok (.lastore, 1) := by decide +kernel
theorem dX8_bid_64 : decode cX8_bid 64 = .ok (.aload_n 0, 1) := by decide +kernel
theorem dX8_bid_65 : decode cX8_bid 65 = .ok (.invokevirtual 55, 3) := by decide +kernel
theorem dX8_bid_68 : decode cX8_bid 68 = .ok (.aload_n 0, 1) := by decide +kernel
theorem dX8_bid_69 : decode cX8_bid 69 = .ok (.iload_n 3, 1) := by decide +kernel
theorem dX8_bid_70 : decode cX8_bid 70 = .ok (.invokevirtual 58, 3) := by decide +kernel
theorem dX8_bid_73 : decode cX8_bid 73 = .ok (.aload_n 0, 1) := by decide +kernel
theorem dX8_bid_74 : decode cX8_bid 74 = .ok (.getfield 15, 3) := by decide +kernel
theorem dX8_bid_77 : decode cX8_bid 77 = .ok (.iload_n 1, 1) := by decide +kernel
theorem dX8_bid_78 : decode cX8_bid 78 = .ok (.iload_n 3, 1) := by decide +kernel
theorem dX8_bid_79 : decode cX8_bid 79 = .ok (.iastore, 1) := by decide +kernel
theorem dX8_bid_80 : decode cX8_bid 80 = .ok (.iconst 1, 1) := by decide +kernel
theorem dX8_bid_81 : decode cX8_bid 81 = .ok (.ireturn, 1) := by decide +kernel
theorem dX8_net_0 : decode cX8_net 0 = .ok (.aload_n 0, 1) := by decide +kernel
theorem dX8_net_1 : decode cX8_net 1 = .ok (.getfield 22, 3) := by decide +kernel
theorem dX8_net_4 : decode cX8_net 4 = .ok (.iload_n 1, 1) := by decide +kernel
theorem dX8_net_5 : decode cX8_net 5 = .ok (.iload_n 2, 1) := by decide +kernel
theorem dX8_net_6 : decode cX8_net 6 = .ok (.invokevirtual 62, 3) := by decide +kernel
theorem dX8_net_9 : decode cX8_net 9 = .ok (.aload_n 0, 1) := by decide +kernel
theorem dX8_net_10 : decode cX8_net 10 = .ok (.getfield 9, 3) := by decide +kernel
theorem dX8_net_13 : decode cX8_net 13 = .ok (.iload_n 2, 1) := by decide +kernel
theorem dX8_net_14 : decode cX8_net 14 = .ok (.laload, 1) := by decide +kernel
theorem dX8_net_15 : decode cX8_net 15 = .ok (.ladd, 1) := by decide +kernel
theorem dX8_net_16 : decode cX8_net 16 = .ok (.lreturn, 1) := by decide +kernel
theorem dX8_leastNet_0 : decode cX8_leastNet 0 = .ok (.iconst (-1), 1) := by decide +kernel
theorem dX8_leastNet_1 : decode cX8_leastNet 1 = .ok (.istore_n 3, 1) := by decide +kernel
theorem dX8_leastNet_2 : decode cX8_leastNet 2 = .ok (.iconst 0, 1) := by decide +kernel
theorem dX8_leastNet_3 : decode cX8_leastNet 3 = .ok (.istore 4, 2) := by decide +kernel
theorem dX8_leastNet_5 : decode cX8_leastNet 5 = .ok (.iload 4, 2) := by decide +kernel
theorem dX8_leastNet_7 : decode cX8_leastNet 7 = .ok (.aload_n 0, 1) := by decide +kernel
theorem dX8_leastNet_8 : decode cX8_leastNet 8 = .ok (.getfield 22, 3) := by decide +kernel
theorem dX8_leastNet_11 : decode cX8_leastNet 11 = .ok (.getfield 65, 3) := by decide +kernel
theorem dX8_leastNet_14 : decode cX8_leastNet 14 = .ok (.if_icmp .ge 69, 3) := by decide +kernel
theorem dX8_leastNet_17 : decode cX8_leastNet 17 = .ok (.iload 4, 2) := by decide +kernel
theorem dX8_leastNet_19 : decode cX8_leastNet 19 = .ok (.iload_n 2, 1) := by decide +kernel
theorem dX8_leastNet_20 : decode cX8_leastNet 20 = .ok (.if_icmp .eq 24, 3) := by decide +kernel
theorem dX8_leastNet_23 : decode cX8_leastNet 23 = .ok (.aload_n 0, 1) := by decide +kernel
theorem dX8_leastNet_24 : decode cX8_leastNet 24 = .ok (.getfield 22, 3) := by decide +kernel
theorem dX8_leastNet_27 : decode cX8_leastNet 27 = .ok (.iload_n 1, 1) := by decide +kernel
theorem dX8_leastNet_28 : decode cX8_leastNet 28 = .ok (.iload 4, 2) := by decide +kernel
theorem dX8_leastNet_30 : decode cX8_leastNet 30 = .ok (.invokevirtual 62, 3) := by decide +kernel
theorem dX8_leastNet_33 : decode cX8_leastNet 33 = .ok (.ldc2_w 68, 3) := by decide +kernel
theorem dX8_leastNet_36 : decode cX8_leastNet 36 = .ok (.lcmp, 1) := by decide +kernel
theorem dX8_leastNet_37 : decode cX8_leastNet 37 = .ok (.ifCond .eq 7, 3) := by decide +kernel
theorem dX8_leastNet_40 : decode cX8_leastNet 40 = .ok (.iconst 1, 1) := by decide +kernel
theorem dX8_leastNet_41 : decode cX8_leastNet 41 = .ok (.goto 4, 3) := by decide +kernel
theorem dX8_leastNet_44 : decode cX8_leastNet 44 = .ok (.iconst 0, 1) := by decide +kernel
theorem dX8_leastNet_45 : decode cX8_leastNet 45 = .ok (.istore 5, 2) := by decide +kernel
theorem dX8_leastNet_47 : decode cX8_leastNet 47 = .ok (.iload 5, 2) := by decide +kernel
theorem dX8_leastNet_49 : decode cX8_leastNet 49 = .ok (.ifCond .eq 28, 3) := by decide +kernel
theorem dX8_leastNet_52 : decode cX8_leastNet 52 = .ok (.iload_n 3, 1) := by decide +kernel
theorem dX8_leastNet_53 : decode cX8_leastNet 53 = .ok (.iconst (-1), 1) := by decide +kernel
theorem dX8_leastNet_54 : decode cX8_leastNet 54 = .ok (.if_icmp .eq 20, 3) := by decide +kernel
theorem dX8_leastNet_57 : decode cX8_leastNet 57 = .ok (.aload_n 0, 1) := by decide +kernel
theorem dX8_leastNet_58 : decode cX8_leastNet 58 = .ok (.iload_n 1, 1) := by decide +kernel
theorem dX8_leastNet_59 : decode cX8_leastNet 59 = .ok (.iload 4, 2) := by decide +kernel
theorem dX8_leastNet_61 : decode cX8_leastNet 61 = .ok (.invokevirtual 51, 3) := by decide +kernel
theorem dX8_leastNet_64 : decode cX8_leastNet 64 = .ok (.aload_n 0, 1) := by decide +kernel
theorem dX8_leastNet_65 : decode cX8_leastNet 65 = .ok (.iload_n 1, 1) := by decide +kernel
theorem dX8_leastNet_66 : decode cX8_leastNet 66 = .ok (.iload_n 3, 1) := by decide +kernel
theorem dX8_leastNet_67 : decode cX8_leastNet 67 = .ok (.invokevirtual 51, 3) := by decide +kernel
theorem dX8_leastNet_70 : decode cX8_leastNet 70 = .ok (.lcmp, 1) := by decide +kernel
theorem dX8_leastNet_71 : decode cX8_leastNet 71 = .ok (.ifCond .ge 6, 3) := by decide +kernel
theorem dX8_leastNet_74 : decode cX8_leastNet 74 = .ok (.iload 4, 2) := by decide +kernel
theorem dX8_leastNet_76 : decode cX8_leastNet 76 = .ok (.istore_n 3, 1) := by decide +kernel
theorem dX8_leastNet_77 : decode cX8_leastNet 77 = .ok (.iinc 4 1, 3) := by decide +kernel
theorem dX8_leastNet_80 : decode cX8_leastNet 80 = .ok (.goto (-75), 3) := by decide +kernel
theorem dX8_leastNet_83 : decode cX8_leastNet 83 = .ok (.iload_n 3, 1) := by decide +kernel
theorem dX8_leastNet_84 : decode cX8_leastNet 84 = .ok (.ireturn, 1) := by decide +kernel
theorem dX8_leaveQueue_0 : decode cX8_leaveQueue 0 = .ok (.iconst 1, 1) := by decide +kernel
theorem dX8_leaveQueue_1 : decode cX8_leaveQueue 1 = .ok (.istore_n 1, 1) := by decide +kernel
theorem dX8_leaveQueue_2 : decode cX8_leaveQueue 2 = .ok (.iload_n 1, 1) := by decide +kernel
theorem dX8_leaveQueue_3 : decode cX8_leaveQueue 3 = .ok (.aload_n 0, 1) := by decide +kernel
theorem dX8_leaveQueue_4 : decode cX8_leaveQueue 4 = .ok (.getfield 33, 3) := by decide +kernel
theorem dX8_leaveQueue_7 : decode cX8_leaveQueue 7 = .ok (.if_icmp .ge 23, 3) := by decide +kernel
theorem dX8_leaveQueue_10 : decode cX8_leaveQueue 10 = .ok (.aload_n 0, 1) := by decide +kernel
theorem dX8_leaveQueue_11 : decode cX8_leaveQueue 11 = .ok (.getfield 19, 3) := by decide +kernel
theorem dX8_leaveQueue_14 : decode cX8_leaveQueue 14 = .ok (.iload_n 1, 1) := by decide +kernel
theorem dX8_leaveQueue_15 : decode cX8_leaveQueue 15 = .ok (.iconst 1, 1) := by decide +kernel
theorem dX8_leaveQueue_16 : decode cX8_leaveQueue 16 = .ok (.isub, 1) := by decide +kernel
theorem dX8_leaveQueue_17 : decode cX8_leaveQueue 17 = .ok (.aload_n 0, 1) := by decide +kernel
theorem dX8_leaveQueue_18 : decode cX8_leaveQueue 18 = .ok (.getfield 19, 3) := by decide +kernel
theorem dX8_leaveQueue_21 : decode cX8_leaveQueue 21 = .ok (.iload_n 1, 1) := by decide +kernel
theorem dX8_leaveQueue_22 : decode cX8_leaveQueue 22 = .ok (.iaload, 1) := by decide +kernel
theorem dX8_leaveQueue_23 : decode cX8_leaveQueue 23 = .ok (.iastore, 1) := by decide +kernel
theorem dX8_leaveQueue_24 : decode cX8_leaveQueue 24 = .ok (.iinc 1 1, 3) := by decide +kernel
theorem dX8_leaveQueue_27 : decode cX8_leaveQueue 27 = .ok (.goto (-25), 3) := by decide +kernel
theorem dX8_leaveQueue_30 : decode cX8_leaveQueue 30 = .ok (.aload_n 0, 1) := by decide +kernel
theorem dX8_leaveQueue_31 : decode cX8_leaveQueue 31 = .ok (.dup, 1) := by decide +kernel
theorem dX8_leaveQueue_32 : decode cX8_leaveQueue 32 = .ok (.getfield 33, 3) := by decide +kernel
theorem dX8_leaveQueue_35 : decode cX8_leaveQueue 35 = .ok (.iconst 1, 1) := by decide +kernel
theorem dX8_leaveQueue_36 : decode cX8_leaveQueue 36 = .ok (.isub, 1) := by decide +kernel
theorem dX8_leaveQueue_37 : decode cX8_leaveQueue 37 = .ok (.putfield 33, 3) := by decide +kernel
theorem dX8_leaveQueue_40 : decode cX8_leaveQueue 40 = .ok (.return_, 1) := by decide +kernel
theorem dX8_ousted_0 : decode cX8_ousted 0 = .ok (.iconst 0, 1) := by decide +kernel
theorem dX8_ousted_1 : decode cX8_ousted 1 = .ok (.istore_n 2, 1) := by decide +kernel
theorem dX8_ousted_2 : decode cX8_ousted 2 = .ok (.iload_n 2, 1) := by decide +kernel
theorem dX8_ousted_3 : decode cX8_ousted 3 = .ok (.aload_n 0, 1) := by decide +kernel
theorem dX8_ousted_4 : decode cX8_ousted 4 = .ok (.getfield 22, 3) := by decide +kernel
theorem dX8_ousted_7 : decode cX8_ousted 7 = .ok (.getfield 40, 3) := by decide +kernel
theorem dX8_ousted_10 : decode cX8_ousted 10 = .ok (.if_icmp .ge 55, 3) := by decide +kernel
theorem dX8_ousted_13 : decode cX8_ousted 13 = .ok (.aload_n 0, 1) := by decide +kernel
theorem dX8_ousted_14 : decode cX8_ousted 14 = .ok (.getfield 15, 3) := by decide +kernel
theorem dX8_ousted_17 : decode cX8_ousted 17 = .ok (.iload_n 2, 1) := by decide +kernel
theorem dX8_ousted_18 : decode cX8_ousted 18 = .ok (.iaload, 1) := by decide +kernel
theorem dX8_ousted_19 : decode cX8_ousted 19 = .ok (.iload_n 1, 1) := by decide +kernel
theorem dX8_ousted_20 : decode cX8_ousted 20 = .ok (.if_icmp .ne 39, 3) := by decide +kernel
theorem dX8_ousted_23 : decode cX8_ousted 23 = .ok (.aload_n 0, 1) := by decide +kernel
theorem dX8_ousted_24 : decode cX8_ousted 24 = .ok (.getfield 33, 3) := by decide +kernel
theorem dX8_ousted_27 : decode cX8_ousted 27 = .ok (.bipush 7, 2) := by decide +kernel
theorem dX8_ousted_29 : decode cX8_ousted 29 = .ok (.if_icmp .ge 30, 3) := by decide +kernel
theorem dX8_ousted_32 : decode cX8_ousted 32 = .ok (.aload_n 0, 1) := by decide +kernel
theorem dX8_ousted_33 : decode cX8_ousted 33 = .ok (.getfield 15, 3) := by decide +kernel
theorem dX8_ousted_36 : decode cX8_ousted 36 = .ok (.iload_n 2, 1) := by decide +kernel
theorem dX8_ousted_37 : decode cX8_ousted 37 = .ok (.iconst (-1), 1) := by decide +kernel
theorem dX8_ousted_38 : decode cX8_ousted 38 = .ok (.iastore, 1) := by decide +kernel
theorem dX8_ousted_39 : decode cX8_ousted 39 = .ok (.aload_n 0, 1) := by decide +kernel
theorem dX8_ousted_40 : decode cX8_ousted 40 = .ok (.getfield 19, 3) := by decide +kernel
theorem dX8_ousted_43 : decode cX8_ousted 43 = .ok (.aload_n 0, 1) := by decide +kernel
theorem dX8_ousted_44 : decode cX8_ousted 44 = .ok (.getfield 33, 3) := by decide +kernel
theorem dX8_ousted_47 : decode cX8_ousted 47 = .ok (.iload_n 2, 1) := by decide +kernel
theorem dX8_ousted_48 : decode cX8_ousted 48 = .ok (.iastore, 1) := by decide +kernel
theorem dX8_ousted_49 : decode cX8_ousted 49 = .ok (.aload_n 0, 1) := by decide +kernel
theorem dX8_ousted_50 : decode cX8_ousted 50 = .ok (.dup, 1) := by decide +kernel
theorem dX8_ousted_51 : decode cX8_ousted 51 = .ok (.getfield 33, 3) := by decide +kernel
theorem dX8_ousted_54 : decode cX8_ousted 54 = .ok (.iconst 1, 1) := by decide +kernel
theorem dX8_ousted_55 : decode cX8_ousted 55 = .ok (.iadd, 1) := by decide +kernel
theorem dX8_ousted_56 : decode cX8_ousted 56 = .ok (.putfield 33, 3) := by decide +kernel
theorem dX8_ousted_59 : decode cX8_ousted 59 = .ok (.iinc 2 1, 3) := by decide +kernel
theorem dX8_ousted_62 : decode cX8_ousted 62 = .ok (.goto (-60), 3) := by decide +kernel
theorem dX8_ousted_65 : decode cX8_ousted 65 = .ok (.return_, 1) := by decide +kernel
theorem dX8_total_0 : decode cX8_total 0 = .ok (.lconst 0, 1) := by decide +kernel
theorem dX8_total_1 : decode cX8_total 1 = .ok (.lstore_n 1, 1) := by decide +kernel
theorem dX8_total_2 : decode cX8_total 2 = .ok (.iconst 0, 1) := by decide +kernel
theorem dX8_total_3 : decode cX8_total 3 = .ok (.istore_n 3, 1) := by decide +kernel
theorem dX8_total_4 : decode cX8_total 4 = .ok (.iload_n 3, 1) := by decide +kernel
theorem dX8_total_5 : decode cX8_total 5 = .ok (.aload_n 0, 1) := by decide +kernel
theorem dX8_total_6 : decode cX8_total 6 = .ok (.getfield 22, 3) := by decide +kernel
theorem dX8_total_9 : decode cX8_total 9 = .ok (.getfield 40, 3) := by decide +kernel
theorem dX8_total_12 : decode cX8_total 12 = .ok (.if_icmp .ge 36, 3) := by decide +kernel
theorem dX8_total_15 : decode cX8_total 15 = .ok (.aload_n 0, 1) := by decide +kernel
theorem dX8_total_16 : decode cX8_total 16 = .ok (.getfield 15, 3) := by decide +kernel
theorem dX8_total_19 : decode cX8_total 19 = .ok (.iload_n 3, 1) := by decide +kernel
theorem dX8_total_20 : decode cX8_total 20 = .ok (.iaload, 1) := by decide +kernel
theorem dX8_total_21 : decode cX8_total 21 = .ok (.iconst (-1), 1) := by decide +kernel
theorem dX8_total_22 : decode cX8_total 22 = .ok (.if_icmp .eq 20, 3) := by decide +kernel
theorem dX8_total_25 : decode cX8_total 25 = .ok (.lload_n 1, 1) := by decide +kernel
theorem dX8_total_26 : decode cX8_total 26 = .ok (.aload_n 0, 1) := by decide +kernel
theorem dX8_total_27 : decode cX8_total 27 = .ok (.getfield 22, 3) := by decide +kernel
theorem dX8_total_30 : decode cX8_total 30 = .ok (.iload_n 3, 1) := by decide +kernel
theorem dX8_total_31 : decode cX8_total 31 = .ok (.aload_n 0, 1) := by decide +kernel
theorem dX8_total_32 : decode cX8_total 32 = .ok (.getfield 15, 3) := by decide +kernel
theorem dX8_total_35 : decode cX8_total 35 = .ok (.iload_n 3, 1) := by decide +kernel
theorem dX8_total_36 : decode cX8_total 36 = .ok (.iaload, 1) := by decide +kernel
theorem dX8_total_37 : decode cX8_total 37 = .ok (.invokevirtual 62, 3) := by decide +kernel
theorem dX8_total_40 : decode cX8_total 40 = .ok (.ladd, 1) := by decide +kernel
theorem dX8_total_41 : decode cX8_total 41 = .ok (.lstore_n 1, 1) := by decide +kernel
theorem dX8_total_42 : decode cX8_total 42 = .ok (.iinc 3 1, 3) := by decide +kernel
theorem dX8_total_45 : decode cX8_total 45 = .ok (.goto (-41), 3) := by decide +kernel
theorem dX8_total_48 : decode cX8_total 48 = .ok (.lload_n 1, 1) := by decide +kernel
theorem dX8_total_49 : decode cX8_total 49 = .ok (.lreturn, 1) := by decide +kernel
theorem dX9_init_0 : decode cX9_init 0 = .ok (.aload_n 0, 1) := by decide +kernel
theorem dX9_init_1 : decode cX9_init 1 = .ok (.invokespecial 3, 3) := by decide +kernel
theorem dX9_init_4 : decode cX9_init 4 = .ok (.aload_n 0, 1) := by decide +kernel
theorem dX9_init_5 : decode cX9_init 5 = .ok (.sipush 600, 3) := by decide +kernel
theorem dX9_init_8 : decode cX9_init 8 = .ok (.newarray .byte, 2) := by decide +kernel
theorem dX9_init_10 : decode cX9_init 10 = .ok (.putfield 11, 3) := by decide +kernel
theorem dX9_init_13 : decode cX9_init 13 = .ok (.return_, 1) := by decide +kernel
theorem dX9_hasRoom_0 : decode cX9_hasRoom 0 = .ok (.aload_n 0, 1) := by decide +kernel
theorem dX9_hasRoom_1 : decode cX9_hasRoom 1 = .ok (.getfield 15, 3) := by decide +kernel
theorem dX9_hasRoom_4 : decode cX9_hasRoom 4 = .ok (.iload_n 1, 1) := by decide +kernel
theorem dX9_hasRoom_5 : decode cX9_hasRoom 5 = .ok (.iadd, 1) := by decide +kernel
theorem dX9_hasRoom_6 : decode cX9_hasRoom 6 = .ok (.sipush 600, 3) := by decide +kernel
theorem dX9_hasRoom_9 : decode cX9_hasRoom 9 = .ok (.if_icmp .gt 7, 3) := by decide +kernel
theorem dX9_hasRoom_12 : decode cX9_hasRoom 12 = .ok (.iconst 1, 1) := by decide +kernel
theorem dX9_hasRoom_13 : decode cX9_hasRoom 13 = .ok (.goto 4, 3) := by decide +kernel
theorem dX9_hasRoom_16 : decode cX9_hasRoom 16 = .ok (.iconst 0, 1) := by decide +kernel
theorem dX9_hasRoom_17 : decode cX9_hasRoom 17 = .ok (.ireturn, 1) := by decide +kernel
theorem dX9_addNumber_0 : decode cX9_addNumber 0 = .ok (.bipush 24, 2) := by decide +kernel
theorem dX9_addNumber_2 : decode cX9_addNumber 2 = .ok (.istore_n 2, 1) := by decide +kernel
theorem dX9_addNumber_3 : decode cX9_addNumber 3 = .ok (.iload_n 2, 1) := by decide +kernel
theorem dX9_addNumber_4 : decode cX9_addNumber 4 = .ok (.ifCond .lt 42, 3) := by decide +kernel
theorem dX9_addNumber_7 : decode cX9_addNumber 7 = .ok (.aload_n 0, 1) := by decide +kernel
theorem dX9_addNumber_8 : decode cX9_addNumber 8 = .ok (.getfield 15, 3) := by decide +kernel
theorem dX9_addNumber_11 : decode cX9_addNumber 11 = .ok (.sipush 600, 3) := by decide +kernel
theorem dX9_addNumber_14 : decode cX9_addNumber 14 = .ok (.if_icmp .ge 32, 3) := by decide +kernel
theorem dX9_addNumber_17 : decode cX9_addNumber 17 = .ok (.aload_n 0, 1) := by decide +kernel
theorem dX9_addNumber_18 : decode cX9_addNumber 18 = .ok (.getfield 11, 3) := by decide +kernel
theorem dX9_addNumber_21 : decode cX9_addNumber 21 = .ok (.aload_n 0, 1) := by decide +kernel
theorem dX9_addNumber_22 : decode cX9_addNumber 22 = .ok (.getfield 15, 3) := by decide +kernel
theorem dX9_addNumber_25 : decode cX9_addNumber 25 = .ok (.iload_n 1, 1) := by decide +kernel
theorem dX9_addNumber_26 : decode cX9_addNumber 26 = .ok (.iload_n 2, 1) := by decide +kernel
theorem dX9_addNumber_27 : decode cX9_addNumber 27 = .ok (.ishr, 1) := by decide +kernel
theorem dX9_addNumber_28 : decode cX9_addNumber 28 = .ok (.i2b, 1) := by decide +kernel
theorem dX9_addNumber_29 : decode cX9_addNumber 29 = .ok (.bastore, 1) := by decide +kernel
theorem dX9_addNumber_30 : decode cX9_addNumber 30 = .ok (.aload_n 0, 1) := by decide +kernel
theorem dX9_addNumber_31 : decode cX9_addNumber 31 = .ok (.dup, 1) := by decide +kernel
theorem dX9_addNumber_32 : decode cX9_addNumber 32 = .ok (.getfield 15, 3) := by decide +kernel
theorem dX9_addNumber_35 : decode cX9_addNumber 35 = .ok (.iconst 1, 1) := by decide +kernel
theorem dX9_addNumber_36 : decode cX9_addNumber 36 = .ok (.iadd, 1) := by decide +kernel
theorem dX9_addNumber_37 : decode cX9_addNumber 37 = .ok (.putfield 15, 3) := by decide +kernel
theorem dX9_addNumber_40 : decode cX9_addNumber 40 = .ok (.iinc 2 (-8), 3) := by decide +kernel
theorem dX9_addNumber_43 : decode cX9_addNumber 43 = .ok (.goto (-40), 3) := by decide +kernel
theorem dX9_addNumber_46 : decode cX9_addNumber 46 = .ok (.return_, 1) := by decide +kernel
theorem dX9_cut_0 : decode cX9_cut 0 = .ok (.iload_n 1, 1) := by decide +kernel
theorem dX9_cut_1 : decode cX9_cut 1 = .ok (.ifCond .lt 11, 3) := by decide +kernel
theorem dX9_cut_4 : decode cX9_cut 4 = .ok (.iload_n 1, 1) := by decide +kernel
theorem dX9_cut_5 : decode cX9_cut 5 = .ok (.aload_n 0, 1) := by decide +kernel
theorem dX9_cut_6 : decode cX9_cut 6 = .ok (.getfield 15, 3) := by decide +kernel
theorem dX9_cut_9 : decode cX9_cut 9 = .ok (.if_icmp .le 5, 3) := by decide +kernel
theorem dX9_cut_12 : decode cX9_cut 12 = .ok (.iconst 0, 1) := by decide +kernel
theorem dX9_cut_13 : decode cX9_cut 13 = .ok (.ireturn, 1) := by decide +kernel
theorem dX9_cut_14 : decode cX9_cut 14 = .ok (.aload_n 0, 1) := by decide +kernel
theorem dX9_cut_15 : decode cX9_cut 15 = .ok (.iload_n 1, 1) := by decide +kernel
theorem dX9_cut_16 : decode cX9_cut 16 = .ok (.putfield 15, 3) := by decide +kernel
theorem dX9_cut_19 : decode cX9_cut 19 = .ok (.iconst 1, 1) := by decide +kernel
theorem dX9_cut_20 : decode cX9_cut 20 = .ok (.ireturn, 1) := by decide +kernel
theorem dX9_at_0 : decode cX9_at 0 = .ok (.iload_n 1, 1) := by decide +kernel
theorem dX9_at_1 : decode cX9_at 1 = .ok (.ifCond .lt 24, 3) := by decide +kernel
theorem dX9_at_4 : decode cX9_at 4 = .ok (.iload_n 1, 1) := by decide +kernel
theorem dX9_at_5 : decode cX9_at 5 = .ok (.aload_n 0, 1) := by decide +kernel
theorem dX9_at_6 : decode cX9_at 6 = .ok (.getfield 15, 3) := by decide +kernel
theorem dX9_at_9 : decode cX9_at 9 = .ok (.if_icmp .ge 16, 3) := by decide +kernel
theorem dX9_at_12 : decode cX9_at 12 = .ok (.aload_n 0, 1) := by decide +kernel
theorem dX9_at_13 : decode cX9_at 13 = .ok (.getfield 11, 3) := by decide +kernel
theorem dX9_at_16 : decode cX9_at 16 = .ok (.iload_n 1, 1) := by decide +kernel
theorem dX9_at_17 : decode cX9_at 17 = .ok (.baload, 1) := by decide +kernel
theorem dX9_at_18 : decode cX9_at 18 = .ok (.sipush 255, 3) := by decide +kernel
theorem dX9_at_21 : decode cX9_at 21 = .ok (.iand, 1) := by decide +kernel
theorem dX9_at_22 : decode cX9_at 22 = .ok (.goto 4, 3) := by decide +kernel
theorem dX9_at_25 : decode cX9_at 25 = .ok (.iconst (-1), 1) := by decide +kernel
theorem dX9_at_26 : decode cX9_at 26 = .ok (.ireturn, 1) := by decide +kernel
theorem dX10_init_0 : decode cX10_init 0 = .ok (.aload_n 0, 1) := by decide +kernel
theorem dX10_init_1 : decode cX10_init 1 = .ok (.invokespecial 3, 3) := by decide +kernel
theorem dX10_init_4 : decode cX10_init 4 = .ok (.return_, 1) := by decide +kernel
theorem dX10_trace_0 : decode cX10_trace 0 = .ok (.aload_n 0, 1) := by decide +kernel
theorem dX10_trace_1 : decode cX10_trace 1 = .ok (.iconst 0, 1) := by decide +kernel
theorem dX10_trace_2 : decode cX10_trace 2 = .ok (.putfield 9, 3) := by decide +kernel
theorem dX10_trace_5 : decode cX10_trace 5 = .ok (.aload_n 0, 1) := by decide +kernel
theorem dX10_trace_6 : decode cX10_trace 6 = .ok (.iconst 0, 1) := by decide +kernel
theorem dX10_trace_7 : decode cX10_trace 7 = .ok (.putfield 15, 3) := by decide +kernel
theorem dX10_trace_10 : decode cX10_trace 10 = .ok (.aload_n 0, 1) := by decide +kernel
theorem dX10_trace_11 : decode cX10_trace 11 = .ok (.iconst 0, 1) := by decide +kernel
theorem dX10_trace_12 : decode cX10_trace 12 = .ok (.putfield 18, 3) := by decide +kernel
theorem dX10_trace_15 : decode cX10_trace 15 = .ok (.aload_n 0, 1) := by decide +kernel
theorem dX10_trace_16 : decode cX10_trace 16 = .ok (.iconst 0, 1) := by decide +kernel
theorem dX10_trace_17 : decode cX10_trace 17 = .ok (.putfield 21, 3) := by decide +kernel
theorem dX10_trace_20 : decode cX10_trace 20 = .ok (.aload_n 0, 1) := by decide +kernel
theorem dX10_trace_21 : decode cX10_trace 21 = .ok (.iconst 0, 1) := by decide +kernel
theorem dX10_trace_22 : decode cX10_trace 22 = .ok (.putfield 24, 3) := by decide +kernel
theorem dX10_trace_25 : decode cX10_trace 25 = .ok (.iload_n 3, 1) := by decide +kernel
theorem dX10_trace_26 : decode cX10_trace 26 = .ok (.aload_n 1, 1) := by decide +kernel
theorem dX10_trace_27 : decode cX10_trace 27 = .ok (.arraylength, 1) := by decide +kernel
theorem dX10_trace_28 : decode cX10_trace 28 = .ok (.aload_n 2, 1) := by decide +kernel
theorem dX10_trace_29 : decode cX10_trace 29 = .ok (.arraylength, 1) := by decide +kernel
theorem dX10_trace_30 : decode cX10_trace 30 = .ok (.invokestatic 27, 3) := by decide +kernel
theorem dX10_trace_33 : decode cX10_trace 33 = .ok (.invokestatic 27, 3) := by decide +kernel
theorem dX10_trace_36 : decode cX10_trace 36 = .ok (.istore 4, 2) := by decide +kernel
theorem dX10_trace_38 : decode cX10_trace 38 = .ok (.iconst 0, 1) := by decide +kernel
theorem dX10_trace_39 : decode cX10_trace 39 = .ok (.istore 5, 2) := by decide +kernel
theorem dX10_trace_41 : decode cX10_trace 41 = .ok (.iload 5, 2) := by decide +kernel
theorem dX10_trace_43 : decode cX10_trace 43 = .ok (.iload 4, 2) := by decide +kernel
theorem dX10_trace_45 : decode cX10_trace 45 = .ok (.if_icmp .ge 67, 3) := by decide +kernel
theorem dX10_trace_48 : decode cX10_trace 48 = .ok (.aload_n 1, 1) := by decide +kernel
theorem dX10_trace_49 : decode cX10_trace 49 = .ok (.iload 5, 2) := by decide +kernel
theorem dX10_trace_51 : decode cX10_trace 51 = .ok (.iaload, 1) := by decide +kernel
theorem dX10_trace_52 : decode cX10_trace 52 = .ok (.aload_n 2, 1) := by decide +kernel
theorem dX10_trace_53 : decode cX10_trace 53 = .ok (.iload 5, 2) := by decide +kernel
theorem dX10_trace_55 : decode cX10_trace 55 = .ok (.iaload, 1) := by decide +kernel
theorem dX10_trace_56 : decode cX10_trace 56 = .ok (.if_icmp .eq 50, 3) := by decide +kernel
theorem dX10_trace_59 : decode cX10_trace 59 = .ok (.aload_n 2, 1) := by decide +kernel
theorem dX10_trace_60 : decode cX10_trace 60 = .ok (.aload_n 1, 1) := by decide +kernel
theorem dX10_trace_61 : decode cX10_trace 61 = .ok (.iload 5, 2) := by decide +kernel
theorem dX10_trace_63 : decode cX10_trace 63 = .ok (.iaload, 1) := by decide +kernel
theorem dX10_trace_64 : decode cX10_trace 64 = .ok (.iload 4, 2) := by decide +kernel
theorem dX10_trace_66 : decode cX10_trace 66 = .ok (.invokestatic 33, 3) := by decide +kernel
theorem dX10_trace_69 : decode cX10_trace 69 = .ok (.iconst (-1), 1) := by decide +kernel
theorem dX10_trace_70 : decode cX10_trace 70 = .ok (.if_icmp .ne 36, 3) := by decide +kernel
theorem dX10_trace_73 : decode cX10_trace 73 = .ok (.aload_n 0, 1) := by decide +kernel
theorem dX10_trace_74 : decode cX10_trace 74 = .ok (.iload 5, 2) := by decide +kernel
theorem dX10_trace_76 : decode cX10_trace 76 = .ok (.aload_n 1, 1) := by decide +kernel
theorem dX10_trace_77 : decode cX10_trace 77 = .ok (.aload_n 2, 1) := by decide +kernel
theorem dX10_trace_78 : decode cX10_trace 78 = .ok (.iload 4, 2) := by decide +kernel
theorem dX10_trace_80 : decode cX10_trace 80 = .ok (.invokevirtual 37, 3) := by decide +kernel
theorem dX10_trace_83 : decode cX10_trace 83 = .ok (.istore 6, 2) := by decide +kernel
theorem dX10_trace_85 : decode cX10_trace 85 = .ok (.aload_n 0, 1) := by decide +kernel
theorem dX10_trace_86 : decode cX10_trace 86 = .ok (.dup, 1) := by decide +kernel
theorem dX10_trace_87 : decode cX10_trace 87 = .ok (.getfield 15, 3) := by decide +kernel
theorem dX10_trace_90 : decode cX10_trace 90 = .ok (.iconst 1, 1) := by decide +kernel
theorem dX10_trace_91 : decode cX10_trace 91 = .ok (.iadd, 1) := by decide +kernel
theorem dX10_trace_92 : decode cX10_trace 92 = .ok (.putfield 15, 3) := by decide +kernel
theorem dX10_trace_95 : decode cX10_trace 95 = .ok (.aload_n 0, 1) := by decide +kernel
theorem dX10_trace_96 : decode cX10_trace 96 = .ok (.dup, 1) := by decide +kernel
theorem dX10_trace_97 : decode cX10_trace 97 = .ok (.getfield 21, 3) := by decide +kernel
theorem dX10_trace_100 : decode cX10_trace 100 = .ok (.iload 6, 2) := by decide +kernel
theorem dX10_trace_102 : decode cX10_trace 102 = .ok (.iadd, 1) := by decide +kernel
theorem dX10_trace_103 : decode cX10_trace 103 = .ok (.putfield 21, 3) := by decide +kernel
theorem dX10_trace_106 : decode cX10_trace 106 = .ok (.iinc 5 1, 3) := by decide +kernel
theorem dX10_trace_109 : decode cX10_trace 109 = .ok (.goto (-68), 3) := by decide +kernel
theorem dX10_trace_112 : decode cX10_trace 112 = .ok (.iconst 0, 1) := by decide +kernel
theorem dX10_trace_113 : decode cX10_trace 113 = .ok (.istore 5, 2) := by decide +kernel
theorem dX10_trace_115 : decode cX10_trace 115 = .ok (.iload 5, 2) := by decide +kernel
theorem dX10_trace_117 : decode cX10_trace 117 = .ok (.iload 4, 2) := by decide +kernel
theorem dX10_trace_119 : decode cX10_trace 119 = .ok (.if_icmp .ge 67, 3) := by decide +kernel
theorem dX10_trace_122 : decode cX10_trace 122 = .ok (.aload_n 1, 1) := by decide +kernel
theorem dX10_trace_123 : decode cX10_trace 123 = .ok (.iload 5, 2) := by decide +kernel
theorem dX10_trace_125 : decode cX10_trace 125 = .ok (.iaload, 1) := by decide +kernel
theorem dX10_trace_126 : decode cX10_trace 126 = .ok (.aload_n 2, 1) := by decide +kernel
theorem dX10_trace_127 : decode cX10_trace 127 = .ok (.iload 5, 2) := by decide +kernel
theorem dX10_trace_129 : decode cX10_trace 129 = .ok (.iaload, 1) := by decide +kernel
theorem dX10_trace_130 : decode cX10_trace 130 = .ok (.if_icmp .eq 50, 3) := by decide +kernel
theorem dX10_trace_133 : decode cX10_trace 133 = .ok (.aload_n 0, 1) := by decide +kernel
theorem dX10_trace_134 : decode cX10_trace 134 = .ok (.getfield 24, 3) := by decide +kernel
theorem dX10_trace_137 : decode cX10_trace 137 = .ok (.iload 5, 2) := by decide +kernel
theorem dX10_trace_139 : decode cX10_trace 139 = .ok (.ishr, 1) := by decide +kernel
theorem dX10_trace_140 : decode cX10_trace 140 = .ok (.iconst 1, 1) := by decide +kernel
theorem dX10_trace_141 : decode cX10_trace 141 = .ok (.iand, 1) := by decide +kernel
theorem dX10_trace_142 : decode cX10_trace 142 = .ok (.ifCond .ne 38, 3) := by decide +kernel
theorem dX10_trace_145 : decode cX10_trace 145 = .ok (.aload_n 0, 1) := by decide +kernel
theorem dX10_trace_146 : decode cX10_trace 146 = .ok (.iload 5, 2) := by decide +kernel
theorem dX10_trace_148 : decode cX10_trace 148 = .ok (.aload_n 1, 1) := by decide +kernel
theorem dX10_trace_149 : decode cX10_trace 149 = .ok (.aload_n 2, 1) := by decide +kernel
theorem dX10_trace_150 : decode cX10_trace 150 = .ok (.iload 4, 2) := by decide +kernel
theorem dX10_trace_152 : decode cX10_trace 152 = .ok (.invokevirtual 37, 3) := by decide +kernel
theorem dX10_trace_155 : decode cX10_trace 155 = .ok (.istore 6, 2) := by decide +kernel
theorem dX10_trace_157 : decode cX10_trace 157 = .ok (.aload_n 0, 1) := by decide +kernel
theorem dX10_trace_158 : decode cX10_trace 158 = .ok (.dup, 1) := by decide +kernel
theorem dX10_trace_159 : decode cX10_trace 159 = .ok (.getfield 9, 3) := by decide +kernel
theorem dX10_trace_162 : decode cX10_trace 162 = .ok (.iconst 1, 1) := by decide +kernel
theorem dX10_trace_163 : decode cX10_trace 163 = .ok (.iadd, 1) := by decide +kernel
theorem dX10_trace_164 : decode cX10_trace 164 = .ok (.putfield 9, 3) := by decide +kernel
theorem dX10_trace_167 : decode cX10_trace 167 = .ok (.aload_n 0, 1) := by decide +kernel
theorem dX10_trace_168 : decode cX10_trace 168 = .ok (.dup, 1) := by decide +kernel
theorem dX10_trace_169 : decode cX10_trace 169 = .ok (.getfield 21, 3) := by decide +kernel
theorem dX10_trace_172 : decode cX10_trace 172 = .ok (.iload 6, 2) := by decide +kernel
theorem dX10_trace_174 : decode cX10_trace 174 = .ok (.iconst 1, 1) := by decide +kernel
theorem dX10_trace_175 : decode cX10_trace 175 = .ok (.isub, 1) := by decide +kernel
theorem dX10_trace_176 : decode cX10_trace 176 = .ok (.iadd, 1) := by decide +kernel
theorem dX10_trace_177 : decode cX10_trace 177 = .ok (.putfield 21, 3) := by decide +kernel
theorem dX10_trace_180 : decode cX10_trace 180 = .ok (.iinc 5 1, 3) := by decide +kernel
theorem dX10_trace_183 : decode cX10_trace 183 = .ok (.goto (-68), 3) := by decide +kernel
theorem dX10_trace_186 : decode cX10_trace 186 = .ok (.return_, 1) := by decide +kernel
theorem dX10_follow_0 : decode cX10_follow 0 = .ok (.iconst 0, 1) := by decide +kernel
theorem dX10_follow_1 : decode cX10_follow 1 = .ok (.istore 5, 2) := by decide +kernel
theorem dX10_follow_3 : decode cX10_follow 3 = .ok (.iload_n 1, 1) := by decide +kernel
theorem dX10_follow_4 : decode cX10_follow 4 = .ok (.istore 6, 2) := by decide +kernel
theorem dX10_follow_6 : decode cX10_follow 6 = .ok (.iload 6, 2) := by decide +kernel
theorem dX10_follow_8 : decode cX10_follow 8 = .ok (.iconst (-1), 1) := by decide +kernel
theorem dX10_follow_9 : decode cX10_follow 9 = .ok (.if_icmp .eq 53, 3) := by decide +kernel
theorem dX10_follow_12 : decode cX10_follow 12 = .ok (.aload_n 0, 1) := by decide +kernel
theorem dX10_follow_13 : decode cX10_follow 13 = .ok (.getfield 24, 3) := by decide +kernel
theorem dX10_follow_16 : decode cX10_follow 16 = .ok (.iload 6, 2) := by decide +kernel
theorem dX10_follow_18 : decode cX10_follow 18 = .ok (.ishr, 1) := by decide +kernel
theorem dX10_follow_19 : decode cX10_follow 19 = .ok (.iconst 1, 1) := by decide +kernel
theorem dX10_follow_20 : decode cX10_follow 20 = .ok (.iand, 1) := by decide +kernel
theorem dX10_follow_21 : decode cX10_follow 21 = .ok (.ifCond .ne 41, 3) := by decide +kernel
theorem dX10_follow_24 : decode cX10_follow 24 = .ok (.iload 5, 2) := by decide +kernel
theorem dX10_follow_26 : decode cX10_follow 26 = .ok (.iload 4, 2) := by decide +kernel
theorem dX10_follow_28 : decode cX10_follow 28 = .ok (.if_icmp .ge 34, 3) := by decide +kernel
theorem dX10_follow_31 : decode cX10_follow 31 = .ok (.aload_n 0, 1) := by decide +kernel
theorem dX10_follow_32 : decode cX10_follow 32 = .ok (.dup, 1) := by decide +kernel
theorem dX10_follow_33 : decode cX10_follow 33 = .ok (.getfield 24, 3) := by decide +kernel
theorem dX10_follow_36 : decode cX10_follow 36 = .ok (.iconst 1, 1) := by decide +kernel
theorem dX10_follow_37 : decode cX10_follow 37 = .ok (.iload 6, 2) := by decide +kernel
theorem dX10_follow_39 : decode cX10_follow 39 = .ok (.ishl, 1) := by decide +kernel
theorem dX10_follow_40 : decode cX10_follow 40 = .ok (.ior, 1) := by decide +kernel
theorem dX10_follow_41 : decode cX10_follow 41 = .ok (.putfield 24, 3) := by decide +kernel
theorem dX10_follow_44 : decode cX10_follow 44 = .ok (.iinc 5 1, 3) := by decide +kernel
theorem dX10_follow_47 : decode cX10_follow 47 = .ok (.aload_n 2, 1) := by decide +kernel
theorem dX10_follow_48 : decode cX10_follow 48 = .ok (.aload_n 3, 1) := by decide +kernel
theorem dX10_follow_49 : decode cX10_follow 49 = .ok (.iload 6, 2) := by decide +kernel
theorem dX10_follow_51 : decode cX10_follow 51 = .ok (.iaload, 1) := by decide +kernel
theorem dX10_follow_52 : decode cX10_follow 52 = .ok (.iload 4, 2) := by decide +kernel
theorem dX10_follow_54 : decode cX10_follow 54 = .ok (.invokestatic 33, 3) := by decide +kernel
theorem dX10_follow_57 : decode cX10_follow 57 = .ok (.istore 6, 2) := by decide +kernel
theorem dX10_follow_59 : decode cX10_follow 59 = .ok (.goto (-53), 3) := by decide +kernel
theorem dX10_follow_62 : decode cX10_follow 62 = .ok (.aload_n 0, 1) := by decide +kernel
theorem dX10_follow_63 : decode cX10_follow 63 = .ok (.aload_n 0, 1) := by decide +kernel
theorem dX10_follow_64 : decode cX10_follow 64 = .ok (.getfield 18, 3) := by decide +kernel
theorem dX10_follow_67 : decode cX10_follow 67 = .ok (.iload 5, 2) := by decide +kernel
theorem dX10_follow_69 : decode cX10_follow 69 = .ok (.invokestatic 41, 3) := by decide +kernel
theorem dX10_follow_72 : decode cX10_follow 72 = .ok (.putfield 18, 3) := by decide +kernel
theorem dX10_follow_75 : decode cX10_follow 75 = .ok (.iload 5, 2) := by decide +kernel
theorem dX10_follow_77 : decode cX10_follow 77 = .ok (.ireturn, 1) := by decide +kernel
theorem dX10_holder_0 : decode cX10_holder 0 = .ok (.iconst 0, 1) := by decide +kernel
theorem dX10_holder_1 : decode cX10_holder 1 = .ok (.istore_n 3, 1) := by decide +kernel
theorem dX10_holder_2 : decode cX10_holder 2 = .ok (.iload_n 3, 1) := by decide +kernel
theorem dX10_holder_3 : decode cX10_holder 3 = .ok (.iload_n 2, 1) := by decide +kernel
theorem dX10_holder_4 : decode cX10_holder 4 = .ok (.if_icmp .ge 24, 3) := by decide +kernel
theorem dX10_holder_7 : decode cX10_holder 7 = .ok (.iload_n 3, 1) := by decide +kernel
theorem dX10_holder_8 : decode cX10_holder 8 = .ok (.aload_n 0, 1) := by decide +kernel
theorem dX10_holder_9 : decode cX10_holder 9 = .ok (.arraylength, 1) := by decide +kernel
theorem dX10_holder_10 : decode cX10_holder 10 = .ok (.if_icmp .ge 18, 3) := by decide +kernel
theorem dX10_holder_13 : decode cX10_holder 13 = .ok (.aload_n 0, 1) := by decide +kernel
theorem dX10_holder_14 : decode cX10_holder 14 = .ok (.iload_n 3, 1) := by decide +kernel
theorem dX10_holder_15 : decode cX10_holder 15 = .ok (.iaload, 1) := by decide +kernel
theorem dX10_holder_16 : decode cX10_holder 16 = .ok (.iload_n 1, 1) := by decide +kernel
theorem dX10_holder_17 : decode cX10_holder 17 = .ok (.if_icmp .ne 5, 3) := by decide +kernel
theorem dX10_holder_20 : decode cX10_holder 20 = .ok (.iload_n 3, 1) := by decide +kernel
theorem dX10_holder_21 : decode cX10_holder 21 = .ok (.ireturn, 1) := by decide +kernel
theorem dX10_holder_22 : decode cX10_holder 22 = .ok (.iinc 3 1, 3) := by decide +kernel
theorem dX10_holder_25 : decode cX10_holder 25 = .ok (.goto (-23), 3) := by decide +kernel
theorem dX10_holder_28 : decode cX10_holder 28 = .ok (.iconst (-1), 1) := by decide +kernel
theorem dX10_holder_29 : decode cX10_holder 29 = .ok (.ireturn, 1) := by decide +kernel
theorem dJ6_bitCount_0f7a4_0 : decode cJ6_bitCount_0f7a4 0 = .ok (.iload_n 0, 1) := by decide +kernel
theorem dJ6_bitCount_0f7a4_1 : decode cJ6_bitCount_0f7a4 1 = .ok (.iload_n 0, 1) := by decide +kernel
theorem dJ6_bitCount_0f7a4_2 : decode cJ6_bitCount_0f7a4 2 = .ok (.iconst 1, 1) := by decide +kernel
theorem dJ6_bitCount_0f7a4_3 : decode cJ6_bitCount_0f7a4 3 = .ok (.iushr, 1) := by decide +kernel
theorem dJ6_bitCount_0f7a4_4 : decode cJ6_bitCount_0f7a4 4 = .ok (.ldc_w 265, 3) := by decide +kernel
theorem dJ6_bitCount_0f7a4_7 : decode cJ6_bitCount_0f7a4 7 = .ok (.iand, 1) := by decide +kernel
theorem dJ6_bitCount_0f7a4_8 : decode cJ6_bitCount_0f7a4 8 = .ok (.isub, 1) := by decide +kernel
theorem dJ6_bitCount_0f7a4_9 : decode cJ6_bitCount_0f7a4 9 = .ok (.istore_n 0, 1) := by decide +kernel
theorem dJ6_bitCount_0f7a4_10 : decode cJ6_bitCount_0f7a4 10 = .ok (.iload_n 0, 1) := by decide +kernel
theorem dJ6_bitCount_0f7a4_11 : decode cJ6_bitCount_0f7a4 11 = .ok (.ldc_w 266, 3) := by decide +kernel
theorem dJ6_bitCount_0f7a4_14 : decode cJ6_bitCount_0f7a4 14 = .ok (.iand, 1) := by decide +kernel
theorem dJ6_bitCount_0f7a4_15 : decode cJ6_bitCount_0f7a4 15 = .ok (.iload_n 0, 1) := by decide +kernel
theorem dJ6_bitCount_0f7a4_16 : decode cJ6_bitCount_0f7a4 16 = .ok (.iconst 2, 1) := by decide +kernel
theorem dJ6_bitCount_0f7a4_17 : decode cJ6_bitCount_0f7a4 17 = .ok (.iushr, 1) := by decide +kernel
theorem dJ6_bitCount_0f7a4_18 : decode cJ6_bitCount_0f7a4 18 = .ok (.ldc_w 266, 3) := by decide +kernel
theorem dJ6_bitCount_0f7a4_21 : decode cJ6_bitCount_0f7a4 21 = .ok (.iand, 1) := by decide +kernel
theorem dJ6_bitCount_0f7a4_22 : decode cJ6_bitCount_0f7a4 22 = .ok (.iadd, 1) := by decide +kernel
theorem dJ6_bitCount_0f7a4_23 : decode cJ6_bitCount_0f7a4 23 = .ok (.istore_n 0, 1) := by decide +kernel
theorem dJ6_bitCount_0f7a4_24 : decode cJ6_bitCount_0f7a4 24 = .ok (.iload_n 0, 1) := by decide +kernel
theorem dJ6_bitCount_0f7a4_25 : decode cJ6_bitCount_0f7a4 25 = .ok (.iload_n 0, 1) := by decide +kernel
theorem dJ6_bitCount_0f7a4_26 : decode cJ6_bitCount_0f7a4 26 = .ok (.iconst 4, 1) := by decide +kernel
theorem dJ6_bitCount_0f7a4_27 : decode cJ6_bitCount_0f7a4 27 = .ok (.iushr, 1) := by decide +kernel
theorem dJ6_bitCount_0f7a4_28 : decode cJ6_bitCount_0f7a4 28 = .ok (.iadd, 1) := by decide +kernel
theorem dJ6_bitCount_0f7a4_29 : decode cJ6_bitCount_0f7a4 29 = .ok (.ldc_w 267, 3) := by decide +kernel
theorem dJ6_bitCount_0f7a4_32 : decode cJ6_bitCount_0f7a4 32 = .ok (.iand, 1) := by decide +kernel
theorem dJ6_bitCount_0f7a4_33 : decode cJ6_bitCount_0f7a4 33 = .ok (.istore_n 0, 1) := by decide +kernel
theorem dJ6_bitCount_0f7a4_34 : decode cJ6_bitCount_0f7a4 34 = .ok (.iload_n 0, 1) := by decide +kernel
theorem dJ6_bitCount_0f7a4_35 : decode cJ6_bitCount_0f7a4 35 = .ok (.iload_n 0, 1) := by decide +kernel
theorem dJ6_bitCount_0f7a4_36 : decode cJ6_bitCount_0f7a4 36 = .ok (.bipush 8, 2) := by decide +kernel
theorem dJ6_bitCount_0f7a4_38 : decode cJ6_bitCount_0f7a4 38 = .ok (.iushr, 1) := by decide +kernel
theorem dJ6_bitCount_0f7a4_39 : decode cJ6_bitCount_0f7a4 39 = .ok (.iadd, 1) := by decide +kernel
theorem dJ6_bitCount_0f7a4_40 : decode cJ6_bitCount_0f7a4 40 = .ok (.istore_n 0, 1) := by decide +kernel
theorem dJ6_bitCount_0f7a4_41 : decode cJ6_bitCount_0f7a4 41 = .ok (.iload_n 0, 1) := by decide +kernel
theorem dJ6_bitCount_0f7a4_42 : decode cJ6_bitCount_0f7a4 42 = .ok (.iload_n 0, 1) := by decide +kernel
theorem dJ6_bitCount_0f7a4_43 : decode cJ6_bitCount_0f7a4 43 = .ok (.bipush 16, 2) := by decide +kernel
theorem dJ6_bitCount_0f7a4_45 : decode cJ6_bitCount_0f7a4 45 = .ok (.iushr, 1) := by decide +kernel
theorem dJ6_bitCount_0f7a4_46 : decode cJ6_bitCount_0f7a4 46 = .ok (.iadd, 1) := by decide +kernel
theorem dJ6_bitCount_0f7a4_47 : decode cJ6_bitCount_0f7a4 47 = .ok (.istore_n 0, 1) := by decide +kernel
theorem dJ6_bitCount_0f7a4_48 : decode cJ6_bitCount_0f7a4 48 = .ok (.iload_n 0, 1) := by decide +kernel
theorem dJ6_bitCount_0f7a4_49 : decode cJ6_bitCount_0f7a4 49 = .ok (.bipush 63, 2) := by decide +kernel
theorem dJ6_bitCount_0f7a4_51 : decode cJ6_bitCount_0f7a4 51 = .ok (.iand, 1) := by decide +kernel
theorem dJ6_bitCount_0f7a4_52 : decode cJ6_bitCount_0f7a4 52 = .ok (.ireturn, 1) := by decide +kernel
theorem dJ9_floorDiv_7cf53_0 : decode cJ9_floorDiv_7cf53 0 = .ok (.iload_n 0, 1) := by decide +kernel
theorem dJ9_floorDiv_7cf53_1 : decode cJ9_floorDiv_7cf53 1 = .ok (.iload_n 1, 1) := by decide +kernel
theorem dJ9_floorDiv_7cf53_2 : decode cJ9_floorDiv_7cf53 2 = .ok (.idiv, 1) := by decide +kernel
theorem dJ9_floorDiv_7cf53_3 : decode cJ9_floorDiv_7cf53 3 = .ok (.istore_n 2, 1) := by decide +kernel
theorem dJ9_floorDiv_7cf53_4 : decode cJ9_floorDiv_7cf53 4 = .ok (.iload_n 0, 1) := by decide +kernel
theorem dJ9_floorDiv_7cf53_5 : decode cJ9_floorDiv_7cf53 5 = .ok (.iload_n 1, 1) := by decide +kernel
theorem dJ9_floorDiv_7cf53_6 : decode cJ9_floorDiv_7cf53 6 = .ok (.ixor, 1) := by decide +kernel
theorem dJ9_floorDiv_7cf53_7 : decode cJ9_floorDiv_7cf53 7 = .ok (.ifCond .ge 14, 3) := by decide +kernel
theorem dJ9_floorDiv_7cf53_10 : decode cJ9_floorDiv_7cf53 10 = .ok (.iload_n 2, 1) := by decide +kernel
theorem dJ9_floorDiv_7cf53_11 : decode cJ9_floorDiv_7cf53 11 = .ok (.iload_n 1, 1) := by decide +kernel
theorem dJ9_floorDiv_7cf53_12 : decode cJ9_floorDiv_7cf53 12 = .ok (.imul, 1) := by decide +kernel
theorem dJ9_floorDiv_7cf53_13 : decode cJ9_floorDiv_7cf53 13 = .ok (.iload_n 0, 1) := by decide +kernel
theorem dJ9_floorDiv_7cf53_14 : decode cJ9_floorDiv_7cf53 14 = .ok (.if_icmp .eq 7, 3) := by decide +kernel
theorem dJ9_floorDiv_7cf53_17 : decode cJ9_floorDiv_7cf53 17 = .ok (.iload_n 2, 1) := by decide +kernel
theorem dJ9_floorDiv_7cf53_18 : decode cJ9_floorDiv_7cf53 18 = .ok (.iconst 1, 1) := by decide +kernel
theorem dJ9_floorDiv_7cf53_19 : decode cJ9_floorDiv_7cf53 19 = .ok (.isub, 1) := by decide +kernel
theorem dJ9_floorDiv_7cf53_20 : decode cJ9_floorDiv_7cf53 20 = .ok (.ireturn, 1) := by decide +kernel
theorem dJ9_floorDiv_7cf53_21 : decode cJ9_floorDiv_7cf53 21 = .ok (.iload_n 2, 1) := by decide +kernel
theorem dJ9_floorDiv_7cf53_22 : decode cJ9_floorDiv_7cf53 22 = .ok (.ireturn, 1) := by decide +kernel
theorem dJ9_max_7cf53_0 : decode cJ9_max_7cf53 0 = .ok (.iload_n 0, 1) := by decide +kernel
theorem dJ9_max_7cf53_1 : decode cJ9_max_7cf53 1 = .ok (.iload_n 1, 1) := by decide +kernel
theorem dJ9_max_7cf53_2 : decode cJ9_max_7cf53 2 = .ok (.if_icmp .lt 7, 3) := by decide +kernel
theorem dJ9_max_7cf53_5 : decode cJ9_max_7cf53 5 = .ok (.iload_n 0, 1) := by decide +kernel
theorem dJ9_max_7cf53_6 : decode cJ9_max_7cf53 6 = .ok (.goto 4, 3) := by decide +kernel
theorem dJ9_max_7cf53_9 : decode cJ9_max_7cf53 9 = .ok (.iload_n 1, 1) := by decide +kernel
theorem dJ9_max_7cf53_10 : decode cJ9_max_7cf53 10 = .ok (.ireturn, 1) := by decide +kernel
theorem dJ9_max_f86c9_0 : decode cJ9_max_f86c9 0 = .ok (.lload_n 0, 1) := by decide +kernel
theorem dJ9_max_f86c9_1 : decode cJ9_max_f86c9 1 = .ok (.lload_n 2, 1) := by decide +kernel
theorem dJ9_max_f86c9_2 : decode cJ9_max_f86c9 2 = .ok (.lcmp, 1) := by decide +kernel
theorem dJ9_max_f86c9_3 : decode cJ9_max_f86c9 3 = .ok (.ifCond .lt 7, 3) := by decide +kernel
theorem dJ9_max_f86c9_6 : decode cJ9_max_f86c9 6 = .ok (.lload_n 0, 1) := by decide +kernel
theorem dJ9_max_f86c9_7 : decode cJ9_max_f86c9 7 = .ok (.goto 4, 3) := by decide +kernel
theorem dJ9_max_f86c9_10 : decode cJ9_max_f86c9 10 = .ok (.lload_n 2, 1) := by decide +kernel
theorem dJ9_max_f86c9_11 : decode cJ9_max_f86c9 11 = .ok (.lreturn, 1) := by decide +kernel
theorem dJ9_min_7cf53_0 : decode cJ9_min_7cf53 0 = .ok (.iload_n 0, 1) := by decide +kernel
theorem dJ9_min_7cf53_1 : decode cJ9_min_7cf53 1 = .ok (.iload_n 1, 1) := by decide +kernel
theorem dJ9_min_7cf53_2 : decode cJ9_min_7cf53 2 = .ok (.if_icmp .gt 7, 3) := by decide +kernel
theorem dJ9_min_7cf53_5 : decode cJ9_min_7cf53 5 = .ok (.iload_n 0, 1) := by decide +kernel
theorem dJ9_min_7cf53_6 : decode cJ9_min_7cf53 6 = .ok (.goto 4, 3) := by decide +kernel
theorem dJ9_min_7cf53_9 : decode cJ9_min_7cf53 9 = .ok (.iload_n 1, 1) := by decide +kernel
theorem dJ9_min_7cf53_10 : decode cJ9_min_7cf53 10 = .ok (.ireturn, 1) := by decide +kernel
theorem dJ9_min_f86c9_0 : decode cJ9_min_f86c9 0 = .ok (.lload_n 0, 1) := by decide +kernel
theorem dJ9_min_f86c9_1 : decode cJ9_min_f86c9 1 = .ok (.lload_n 2, 1) := by decide +kernel
theorem dJ9_min_f86c9_2 : decode cJ9_min_f86c9 2 = .ok (.lcmp, 1) := by decide +kernel
theorem dJ9_min_f86c9_3 : decode cJ9_min_f86c9 3 = .ok (.ifCond .gt 7, 3) := by decide +kernel
theorem dJ9_min_f86c9_6 : decode cJ9_min_f86c9 6 = .ok (.lload_n 0, 1) := by decide +kernel
theorem dJ9_min_f86c9_7 : decode cJ9_min_f86c9 7 = .ok (.goto 4, 3) := by decide +kernel
theorem dJ9_min_f86c9_10 : decode cJ9_min_f86c9 10 = .ok (.lload_n 2, 1) := by decide +kernel
theorem dJ9_min_f86c9_11 : decode cJ9_min_f86c9 11 = .ok (.lreturn, 1) := by decide +kernel
theorem dJ0_length_8abf5_0 : decode cJ0_length_8abf5 0 = .ok (.aload_n 0, 1) := by decide +kernel
theorem dJ0_length_8abf5_1 : decode cJ0_length_8abf5 1 = .ok (.getfield 9, 3) := by decide +kernel
theorem dJ0_length_8abf5_4 : decode cJ0_length_8abf5 4 = .ok (.arraylength, 1) := by decide +kernel
theorem dJ0_length_8abf5_5 : decode cJ0_length_8abf5 5 = .ok (.aload_n 0, 1) := by decide +kernel
theorem dJ0_length_8abf5_6 : decode cJ0_length_8abf5 6 = .ok (.invokevirtual 335, 3) := by decide +kernel
theorem dJ0_length_8abf5_9 : decode cJ0_length_8abf5 9 = .ok (.ishr, 1) := by decide +kernel
theorem dJ0_length_8abf5_10 : decode cJ0_length_8abf5 10 = .ok (.ireturn, 1) := by decide +kernel
theorem dJ0_charAt_5068e_0 : decode cJ0_charAt_5068e 0 = .ok (.aload_n 0, 1) := by decide +kernel
theorem dJ0_charAt_5068e_1 : decode cJ0_charAt_5068e 1 = .ok (.invokevirtual 492, 3) := by decide +kernel
theorem dJ0_charAt_5068e_4 : decode cJ0_charAt_5068e 4 = .ok (.ifCond .eq 12, 3) := by decide +kernel
theorem dJ0_charAt_5068e_7 : decode cJ0_charAt_5068e 7 = .ok (.aload_n 0, 1) := by decide +kernel
theorem dJ0_charAt_5068e_8 : decode cJ0_charAt_5068e 8 = .ok (.getfield 9, 3) := by decide +kernel
theorem dJ0_charAt_5068e_11 : decode cJ0_charAt_5068e 11 = .ok (.iload_n 1, 1) := by decide +kernel
theorem dJ0_charAt_5068e_12 : decode cJ0_charAt_5068e 12 = .ok (.invokestatic 495, 3) := by decide +kernel
theorem dJ0_charAt_5068e_15 : decode cJ0_charAt_5068e 15 = .ok (.ireturn, 1) := by decide +kernel
theorem dJ0_charAt_5068e_16 : decode cJ0_charAt_5068e 16 = .ok (.aload_n 0, 1) := by decide +kernel
theorem dJ0_charAt_5068e_17 : decode cJ0_charAt_5068e 17 = .ok (.getfield 9, 3) := by decide +kernel
theorem dJ0_charAt_5068e_20 : decode cJ0_charAt_5068e 20 = .ok (.iload_n 1, 1) := by decide +kernel
theorem dJ0_charAt_5068e_21 : decode cJ0_charAt_5068e 21 = .ok (.invokestatic 498, 3) := by decide +kernel
theorem dJ0_charAt_5068e_24 : decode cJ0_charAt_5068e 24 = .ok (.ireturn, 1) := by decide +kernel
theorem dJ0_coder_7d493_0 : decode cJ0_coder_7d493 0 = .ok (.getstatic 38, 3) := by decide +kernel
theorem dJ0_coder_7d493_3 : decode cJ0_coder_7d493 3 = .ok (.ifCond .eq 10, 3) := by decide +kernel
theorem dJ0_coder_7d493_6 : decode cJ0_coder_7d493 6 = .ok (.aload_n 0, 1) := by decide +kernel
theorem dJ0_coder_7d493_7 : decode cJ0_coder_7d493 7 = .ok (.getfield 15, 3) := by decide +kernel
theorem dJ0_coder_7d493_10 : decode cJ0_coder_7d493 10 = .ok (.goto 4, 3) := by decide +kernel
theorem dJ0_coder_7d493_13 : decode cJ0_coder_7d493 13 = .ok (.iconst 1, 1) := by decide +kernel
theorem dJ0_coder_7d493_14 : decode cJ0_coder_7d493 14 = .ok (.ireturn, 1) := by decide +kernel
theorem dJ0_isLatin1_aae02_0 : decode cJ0_isLatin1_aae02 0 = .ok (.getstatic 38, 3) := by decide +kernel
theorem dJ0_isLatin1_aae02_3 : decode cJ0_isLatin1_aae02 3 = .ok (.ifCond .eq 14, 3) := by decide +kernel
theorem dJ0_isLatin1_aae02_6 : decode cJ0_isLatin1_aae02 6 = .ok (.aload_n 0, 1) := by decide +kernel
theorem dJ0_isLatin1_aae02_7 : decode cJ0_isLatin1_aae02 7 = .ok (.getfield 15, 3) := by decide +kernel
theorem dJ0_isLatin1_aae02_10 : decode cJ0_isLatin1_aae02 10 = .ok (.ifCond .ne 7, 3) := by decide +kernel
theorem dJ0_isLatin1_aae02_13 : decode cJ0_isLatin1_aae02 13 = .ok (.iconst 1, 1) := by decide +kernel
theorem dJ0_isLatin1_aae02_14 : decode cJ0_isLatin1_aae02 14 = .ok (.goto 4, 3) := by decide +kernel
theorem dJ0_isLatin1_aae02_17 : decode cJ0_isLatin1_aae02 17 = .ok (.iconst 0, 1) := by decide +kernel
theorem dJ0_isLatin1_aae02_18 : decode cJ0_isLatin1_aae02 18 = .ok (.ireturn, 1) := by decide +kernel
theorem dJ0_checkIndex_df160_0 : decode cJ0_checkIndex_df160 0 = .ok (.iload_n 0, 1) := by decide +kernel
theorem dJ0_checkIndex_df160_1 : decode cJ0_checkIndex_df160 1 = .ok (.iload_n 1, 1) := by decide +kernel
theorem dJ0_checkIndex_df160_2 : decode cJ0_checkIndex_df160 2 = .ok (.getstatic 1053, 3) := by decide +kernel
theorem dJ0_checkIndex_df160_5 : decode cJ0_checkIndex_df160 5 = .ok (.invokestatic 1059, 3) := by decide +kernel
theorem dJ0_checkIndex_df160_8 : decode cJ0_checkIndex_df160 8 = .ok (.pop, 1) := by decide +kernel
theorem dJ0_checkIndex_df160_9 : decode cJ0_checkIndex_df160 9 = .ok (.return_, 1) := by decide +kernel
theorem dJ1_charAt_3b067_0 : decode cJ1_charAt_3b067 0 = .ok (.iload_n 1, 1) := by decide +kernel
theorem dJ1_charAt_3b067_1 : decode cJ1_charAt_3b067 1 = .ok (.aload_n 0, 1) := by decide +kernel
theorem dJ1_charAt_3b067_2 : decode cJ1_charAt_3b067 2 = .ok (.arraylength, 1) := by decide +kernel
theorem dJ1_charAt_3b067_3 : decode cJ1_charAt_3b067 3 = .ok (.invokestatic 9, 3) := by decide +kernel
theorem dJ1_charAt_3b067_6 : decode cJ1_charAt_3b067 6 = .ok (.aload_n 0, 1) := by decide +kernel
theorem dJ1_charAt_3b067_7 : decode cJ1_charAt_3b067 7 = .ok (.iload_n 1, 1) := by decide +kernel
theorem dJ1_charAt_3b067_8 : decode cJ1_charAt_3b067 8 = .ok (.baload, 1) := by decide +kernel
theorem dJ1_charAt_3b067_9 : decode cJ1_charAt_3b067 9 = .ok (.sipush 255, 3) := by decide +kernel
theorem dJ1_charAt_3b067_12 : decode cJ1_charAt_3b067 12 = .ok (.iand, 1) := by decide +kernel
theorem dJ1_charAt_3b067_13 : decode cJ1_charAt_3b067 13 = .ok (.i2c, 1) := by decide +kernel
theorem dJ1_charAt_3b067_14 : decode cJ1_charAt_3b067 14 = .ok (.ireturn, 1) := by decide +kernel
theorem dJ3_checkIndex_8e157_0 : decode cJ3_checkIndex_8e157 0 = .ok (.iload_n 0, 1) := by decide +kernel
theorem dJ3_checkIndex_8e157_1 : decode cJ3_checkIndex_8e157 1 = .ok (.ifCond .lt 8, 3) := by decide +kernel
theorem dJ3_checkIndex_8e157_4 : decode cJ3_checkIndex_8e157 4 = .ok (.iload_n 0, 1) := by decide +kernel
theorem dJ3_checkIndex_8e157_5 : decode cJ3_checkIndex_8e157 5 = .ok (.iload_n 1, 1) := by decide +kernel
theorem dJ3_checkIndex_8e157_6 : decode cJ3_checkIndex_8e157 6 = .ok (.if_icmp .lt 10, 3) := by decide +kernel
theorem dJ3_checkIndex_8e157_9 : decode cJ3_checkIndex_8e157 9 = .ok (.aload_n 2, 1) := by decide +kernel
theorem dJ3_checkIndex_8e157_10 : decode cJ3_checkIndex_8e157 10 = .ok (.iload_n 0, 1) := by decide +kernel
theorem dJ3_checkIndex_8e157_11 : decode cJ3_checkIndex_8e157 11 = .ok (.iload_n 1, 1) := by decide +kernel
theorem dJ3_checkIndex_8e157_12 : decode cJ3_checkIndex_8e157 12 = .ok (.invokestatic 95, 3) := by decide +kernel
theorem dJ3_checkIndex_8e157_15 : decode cJ3_checkIndex_8e157 15 = .ok (.athrow, 1) := by decide +kernel
theorem dJ3_checkIndex_8e157_16 : decode cJ3_checkIndex_8e157 16 = .ok (.iload_n 0, 1) := by decide +kernel
theorem dJ3_checkIndex_8e157_17 : decode cJ3_checkIndex_8e157 17 = .ok (.ireturn, 1) := by decide +kernel
