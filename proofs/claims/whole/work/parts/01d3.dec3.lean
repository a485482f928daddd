theorem dX12_in_0 : decode cX12_in 0 = .ok (.lload_n 0, 1) := by decide +kernel
theorem dX12_in_1 : decode cX12_in 1 = .ok (.lload_n 2, 1) := by decide +kernel
theorem dX12_in_2 : decode cX12_in 2 = .ok (.lcmp, 1) := by decide +kernel
theorem dX12_in_3 : decode cX12_in 3 = .ok (.ifCond .lt 14, 3) := by decide +kernel
theorem dX12_in_6 : decode cX12_in 6 = .ok (.lload_n 0, 1) := by decide +kernel
theorem dX12_in_7 : decode cX12_in 7 = .ok (.lload 4, 2) := by decide +kernel
theorem dX12_in_9 : decode cX12_in 9 = .ok (.lcmp, 1) := by decide +kernel
theorem dX12_in_10 : decode cX12_in 10 = .ok (.ifCond .gt 7, 3) := by decide +kernel
theorem dX12_in_13 : decode cX12_in 13 = .ok (.iconst 1, 1) := by decide +kernel
theorem dX12_in_14 : decode cX12_in 14 = .ok (.goto 4, 3) := by decide +kernel
theorem dX12_in_17 : decode cX12_in 17 = .ok (.iconst 0, 1) := by decide +kernel
theorem dX12_in_18 : decode cX12_in 18 = .ok (.ireturn, 1) := by decide +kernel
theorem dX12_has_0 : decode cX12_has 0 = .ok (.iload_n 0, 1) := by decide +kernel
theorem dX12_has_1 : decode cX12_has 1 = .ok (.iload_n 1, 1) := by decide +kernel
theorem dX12_has_2 : decode cX12_has 2 = .ok (.ishr, 1) := by decide +kernel
theorem dX12_has_3 : decode cX12_has 3 = .ok (.iconst 1, 1) := by decide +kernel
theorem dX12_has_4 : decode cX12_has 4 = .ok (.iand, 1) := by decide +kernel
theorem dX12_has_5 : decode cX12_has 5 = .ok (.iconst 1, 1) := by decide +kernel
theorem dX12_has_6 : decode cX12_has 6 = .ok (.if_icmp .ne 7, 3) := by decide +kernel
theorem dX12_has_9 : decode cX12_has 9 = .ok (.iconst 1, 1) := by decide +kernel
theorem dX12_has_10 : decode cX12_has 10 = .ok (.goto 4, 3) := by decide +kernel
theorem dX12_has_13 : decode cX12_has 13 = .ok (.iconst 0, 1) := by decide +kernel
theorem dX12_has_14 : decode cX12_has 14 = .ok (.ireturn, 1) := by decide +kernel
theorem dX12_init_0 : decode cX12_init 0 = .ok (.aload_n 0, 1) := by decide +kernel
theorem dX12_init_1 : decode cX12_init 1 = .ok (.invokespecial 5, 3) := by decide +kernel
theorem dX12_init_4 : decode cX12_init 4 = .ok (.aload_n 0, 1) := by decide +kernel
theorem dX12_init_5 : decode cX12_init 5 = .ok (.bipush 58, 2) := by decide +kernel
theorem dX12_init_7 : decode cX12_init 7 = .ok (.newarray .int, 2) := by decide +kernel
theorem dX12_init_9 : decode cX12_init 9 = .ok (.putfield 11, 3) := by decide +kernel
theorem dX12_init_12 : decode cX12_init 12 = .ok (.aload_n 0, 1) := by decide +kernel
theorem dX12_init_13 : decode cX12_init 13 = .ok (.sipush 580, 3) := by decide +kernel
theorem dX12_init_16 : decode cX12_init 16 = .ok (.newarray .int, 2) := by decide +kernel
theorem dX12_init_18 : decode cX12_init 18 = .ok (.putfield 17, 3) := by decide +kernel
theorem dX12_init_21 : decode cX12_init 21 = .ok (.aload_n 0, 1) := by decide +kernel
theorem dX12_init_22 : decode cX12_init 22 = .ok (.sipush 600, 3) := by decide +kernel
theorem dX12_init_25 : decode cX12_init 25 = .ok (.newarray .int, 2) := by decide +kernel
theorem dX12_init_27 : decode cX12_init 27 = .ok (.putfield 20, 3) := by decide +kernel
theorem dX12_init_30 : decode cX12_init 30 = .ok (.aload_n 0, 1) := by decide +kernel
theorem dX12_init_31 : decode cX12_init 31 = .ok (.iconst (-1), 1) := by decide +kernel
theorem dX12_init_32 : decode cX12_init 32 = .ok (.putfield 23, 3) := by decide +kernel
theorem dX12_init_35 : decode cX12_init 35 = .ok (.aload_n 0, 1) := by decide +kernel
theorem dX12_init_36 : decode cX12_init 36 = .ok (.bipush 58, 2) := by decide +kernel
theorem dX12_init_38 : decode cX12_init 38 = .ok (.newarray .int, 2) := by decide +kernel
theorem dX12_init_40 : decode cX12_init 40 = .ok (.putfield 27, 3) := by decide +kernel
theorem dX12_init_43 : decode cX12_init 43 = .ok (.aload_n 0, 1) := by decide +kernel
theorem dX12_init_44 : decode cX12_init 44 = .ok (.ldc 30, 2) := by decide +kernel
theorem dX12_init_46 : decode cX12_init 46 = .ok (.newarray .int, 2) := by decide +kernel
theorem dX12_init_48 : decode cX12_init 48 = .ok (.putfield 31, 3) := by decide +kernel
theorem dX12_init_51 : decode cX12_init 51 = .ok (.aload_n 0, 1) := by decide +kernel
theorem dX12_init_52 : decode cX12_init 52 = .ok (.ldc 30, 2) := by decide +kernel
theorem dX12_init_54 : decode cX12_init 54 = .ok (.newarray .int, 2) := by decide +kernel
theorem dX12_init_56 : decode cX12_init 56 = .ok (.putfield 34, 3) := by decide +kernel
theorem dX12_init_59 : decode cX12_init 59 = .ok (.aload_n 0, 1) := by decide +kernel
theorem dX12_init_60 : decode cX12_init 60 = .ok (.bipush 7, 2) := by decide +kernel
theorem dX12_init_62 : decode cX12_init 62 = .ok (.newarray .int, 2) := by decide +kernel
theorem dX12_init_64 : decode cX12_init 64 = .ok (.putfield 37, 3) := by decide +kernel
theorem dX12_init_67 : decode cX12_init 67 = .ok (.aload_n 0, 1) := by decide +kernel
theorem dX12_init_68 : decode cX12_init 68 = .ok (.sipush 200, 3) := by decide +kernel
theorem dX12_init_71 : decode cX12_init 71 = .ok (.newarray .int, 2) := by decide +kernel
theorem dX12_init_73 : decode cX12_init 73 = .ok (.putfield 40, 3) := by decide +kernel
theorem dX12_init_76 : decode cX12_init 76 = .ok (.aload_n 0, 1) := by decide +kernel
theorem dX12_init_77 : decode cX12_init 77 = .ok (.bipush 7, 2) := by decide +kernel
theorem dX12_init_79 : decode cX12_init 79 = .ok (.newarray .int, 2) := by decide +kernel
theorem dX12_init_81 : decode cX12_init 81 = .ok (.putfield 43, 3) := by decide +kernel
theorem dX12_init_84 : decode cX12_init 84 = .ok (.aload_n 0, 1) := by decide +kernel
theorem dX12_init_85 : decode cX12_init 85 = .ok (.bipush 8, 2) := by decide +kernel
theorem dX12_init_87 : decode cX12_init 87 = .ok (.newarray .long, 2) := by decide +kernel
theorem dX12_init_89 : decode cX12_init 89 = .ok (.putfield 46, 3) := by decide +kernel
theorem dX12_init_92 : decode cX12_init 92 = .ok (.aload_n 0, 1) := by decide +kernel
theorem dX12_init_93 : decode cX12_init 93 = .ok (.sipush 600, 3) := by decide +kernel
theorem dX12_init_96 : decode cX12_init 96 = .ok (.newarray .int, 2) := by decide +kernel
theorem dX12_init_98 : decode cX12_init 98 = .ok (.putfield 50, 3) := by decide +kernel
theorem dX12_init_101 : decode cX12_init 101 = .ok (.aload_n 0, 1) := by decide +kernel
theorem dX12_init_102 : decode cX12_init 102 = .ok (.bipush 58, 2) := by decide +kernel
theorem dX12_init_104 : decode cX12_init 104 = .ok (.newarray .int, 2) := by decide +kernel
theorem dX12_init_106 : decode cX12_init 106 = .ok (.putfield 53, 3) := by decide +kernel
theorem dX12_init_109 : decode cX12_init 109 = .ok (.return_, 1) := by decide +kernel
theorem dX12_workers_0 : decode cX12_workers 0 = .ok (.aload_n 0, 1) := by decide +kernel
theorem dX12_workers_1 : decode cX12_workers 1 = .ok (.getfield 11, 3) := by decide +kernel
theorem dX12_workers_4 : decode cX12_workers 4 = .ok (.iconst 0, 1) := by decide +kernel
theorem dX12_workers_5 : decode cX12_workers 5 = .ok (.iaload, 1) := by decide +kernel
theorem dX12_workers_6 : decode cX12_workers 6 = .ok (.ireturn, 1) := by decide +kernel
theorem dX12_jobs_0 : decode cX12_jobs 0 = .ok (.aload_n 0, 1) := by decide +kernel
theorem dX12_jobs_1 : decode cX12_jobs 1 = .ok (.getfield 11, 3) := by decide +kernel
theorem dX12_jobs_4 : decode cX12_jobs 4 = .ok (.iconst 1, 1) := by decide +kernel
theorem dX12_jobs_5 : decode cX12_jobs 5 = .ok (.iaload, 1) := by decide +kernel
theorem dX12_jobs_6 : decode cX12_jobs 6 = .ok (.ireturn, 1) := by decide +kernel
theorem dX12_placeOf_0 : decode cX12_placeOf 0 = .ok (.iconst 2, 1) := by decide +kernel
theorem dX12_placeOf_1 : decode cX12_placeOf 1 = .ok (.bipush 8, 2) := by decide +kernel
theorem dX12_placeOf_3 : decode cX12_placeOf 3 = .ok (.iload_n 0, 1) := by decide +kernel
theorem dX12_placeOf_4 : decode cX12_placeOf 4 = .ok (.imul, 1) := by decide +kernel
theorem dX12_placeOf_5 : decode cX12_placeOf 5 = .ok (.iadd, 1) := by decide +kernel
theorem dX12_placeOf_6 : decode cX12_placeOf 6 = .ok (.iload_n 1, 1) := by decide +kernel
theorem dX12_placeOf_7 : decode cX12_placeOf 7 = .ok (.iadd, 1) := by decide +kernel
theorem dX12_placeOf_8 : decode cX12_placeOf 8 = .ok (.ireturn, 1) := by decide +kernel
theorem dX12_costOf_0 : decode cX12_costOf 0 = .ok (.aload_n 0, 1) := by decide +kernel
theorem dX12_costOf_1 : decode cX12_costOf 1 = .ok (.getfield 11, 3) := by decide +kernel
theorem dX12_costOf_4 : decode cX12_costOf 4 = .ok (.iload_n 1, 1) := by decide +kernel
theorem dX12_costOf_5 : decode cX12_costOf 5 = .ok (.iload_n 2, 1) := by decide +kernel
theorem dX12_costOf_6 : decode cX12_costOf 6 = .ok (.invokestatic 56, 3) := by decide +kernel
theorem dX12_costOf_9 : decode cX12_costOf 9 = .ok (.iaload, 1) := by decide +kernel
theorem dX12_costOf_10 : decode cX12_costOf 10 = .ok (.ireturn, 1) := by decide +kernel
theorem dX12_isWorker_0 : decode cX12_isWorker 0 = .ok (.iload_n 1, 1) := by decide +kernel
theorem dX12_isWorker_1 : decode cX12_isWorker 1 = .ok (.i2l, 1) := by decide +kernel
theorem dX12_isWorker_2 : decode cX12_isWorker 2 = .ok (.lconst 0, 1) := by decide +kernel
theorem dX12_isWorker_3 : decode cX12_isWorker 3 = .ok (.aload_n 0, 1) := by decide +kernel
theorem dX12_isWorker_4 : decode cX12_isWorker 4 = .ok (.invokevirtual 60, 3) := by decide +kernel
theorem dX12_isWorker_7 : decode cX12_isWorker 7 = .ok (.iconst 1, 1) := by decide +kernel
theorem dX12_isWorker_8 : decode cX12_isWorker 8 = .ok (.isub, 1) := by decide +kernel
theorem dX12_isWorker_9 : decode cX12_isWorker 9 = .ok (.i2l, 1) := by decide +kernel
theorem dX12_isWorker_10 : decode cX12_isWorker 10 = .ok (.invokestatic 64, 3) := by decide +kernel
theorem dX12_isWorker_13 : decode cX12_isWorker 13 = .ok (.ireturn, 1) := by decide +kernel
theorem dX12_isJob_0 : decode cX12_isJob 0 = .ok (.iload_n 1, 1) := by decide +kernel
theorem dX12_isJob_1 : decode cX12_isJob 1 = .ok (.i2l, 1) := by decide +kernel
theorem dX12_isJob_2 : decode cX12_isJob 2 = .ok (.lconst 0, 1) := by decide +kernel
theorem dX12_isJob_3 : decode cX12_isJob 3 = .ok (.aload_n 0, 1) := by decide +kernel
theorem dX12_isJob_4 : decode cX12_isJob 4 = .ok (.invokevirtual 68, 3) := by decide +kernel
theorem dX12_isJob_7 : decode cX12_isJob 7 = .ok (.iconst 1, 1) := by decide +kernel
theorem dX12_isJob_8 : decode cX12_isJob 8 = .ok (.isub, 1) := by decide +kernel
theorem dX12_isJob_9 : decode cX12_isJob 9 = .ok (.i2l, 1) := by decide +kernel
theorem dX12_isJob_10 : decode cX12_isJob 10 = .ok (.invokestatic 64, 3) := by decide +kernel
theorem dX12_isJob_13 : decode cX12_isJob 13 = .ok (.ireturn, 1) := by decide +kernel
theorem dX12_isCost_0 : decode cX12_isCost 0 = .ok (.lload_n 0, 1) := by decide +kernel
theorem dX12_isCost_1 : decode cX12_isCost 1 = .ok (.ldc2_w 71, 3) := by decide +kernel
theorem dX12_isCost_4 : decode cX12_isCost 4 = .ok (.ldc2_w 73, 3) := by decide +kernel
theorem dX12_isCost_7 : decode cX12_isCost 7 = .ok (.invokestatic 64, 3) := by decide +kernel
theorem dX12_isCost_10 : decode cX12_isCost 10 = .ok (.ireturn, 1) := by decide +kernel
theorem dX12_feed_0 : decode cX12_feed 0 = .ok (.aload_n 0, 1) := by decide +kernel
theorem dX12_feed_1 : decode cX12_feed 1 = .ok (.getfield 75, 3) := by decide +kernel
theorem dX12_feed_4 : decode cX12_feed 4 = .ok (.sipush 580, 3) := by decide +kernel
theorem dX12_feed_7 : decode cX12_feed 7 = .ok (.if_icmp .le 5, 3) := by decide +kernel
theorem dX12_feed_10 : decode cX12_feed 10 = .ok (.iconst (-1), 1) := by decide +kernel
theorem dX12_feed_11 : decode cX12_feed 11 = .ok (.ireturn, 1) := by decide +kernel
theorem dX12_feed_12 : decode cX12_feed 12 = .ok (.iconst 5, 1) := by decide +kernel
theorem dX12_feed_13 : decode cX12_feed 13 = .ok (.newarray .int, 2) := by decide +kernel
theorem dX12_feed_15 : decode cX12_feed 15 = .ok (.dup, 1) := by decide +kernel
theorem dX12_feed_16 : decode cX12_feed 16 = .ok (.iconst 0, 1) := by decide +kernel
theorem dX12_feed_17 : decode cX12_feed 17 = .ok (.iload_n 1, 1) := by decide +kernel
theorem dX12_feed_18 : decode cX12_feed 18 = .ok (.iastore, 1) := by decide +kernel
theorem dX12_feed_19 : decode cX12_feed 19 = .ok (.dup, 1) := by decide +kernel
theorem dX12_feed_20 : decode cX12_feed 20 = .ok (.iconst 1, 1) := by decide +kernel
theorem dX12_feed_21 : decode cX12_feed 21 = .ok (.iload_n 2, 1) := by decide +kernel
theorem dX12_feed_22 : decode cX12_feed 22 = .ok (.iastore, 1) := by decide +kernel
theorem dX12_feed_23 : decode cX12_feed 23 = .ok (.dup, 1) := by decide +kernel
theorem dX12_feed_24 : decode cX12_feed 24 = .ok (.iconst 2, 1) := by decide +kernel
theorem dX12_feed_25 : decode cX12_feed 25 = .ok (.iload_n 3, 1) := by decide +kernel
theorem dX12_feed_26 : decode cX12_feed 26 = .ok (.iastore, 1) := by decide +kernel
theorem dX12_feed_27 : decode cX12_feed 27 = .ok (.dup, 1) := by decide +kernel
theorem dX12_feed_28 : decode cX12_feed 28 = .ok (.iconst 3, 1) := by decide +kernel
theorem dX12_feed_29 : decode cX12_feed 29 = .ok (.iload 4, 2) := by decide +kernel
theorem dX12_feed_31 : decode cX12_feed 31 = .ok (.iastore, 1) := by decide +kernel
theorem dX12_feed_32 : decode cX12_feed 32 = .ok (.dup, 1) := by decide +kernel
theorem dX12_feed_33 : decode cX12_feed 33 = .ok (.iconst 4, 1) := by decide +kernel
theorem dX12_feed_34 : decode cX12_feed 34 = .ok (.iload 5, 2) := by decide +kernel
theorem dX12_feed_36 : decode cX12_feed 36 = .ok (.iastore, 1) := by decide +kernel
theorem dX12_feed_37 : decode cX12_feed 37 = .ok (.astore 6, 2) := by decide +kernel
theorem dX12_feed_39 : decode cX12_feed 39 = .ok (.iconst 0, 1) := by decide +kernel
theorem dX12_feed_40 : decode cX12_feed 40 = .ok (.istore 7, 2) := by decide +kernel
theorem dX12_feed_42 : decode cX12_feed 42 = .ok (.iload 7, 2) := by decide +kernel
theorem dX12_feed_44 : decode cX12_feed 44 = .ok (.bipush 20, 2) := by decide +kernel
theorem dX12_feed_46 : decode cX12_feed 46 = .ok (.if_icmp .ge 43, 3) := by decide +kernel
theorem dX12_feed_49 : decode cX12_feed 49 = .ok (.aload_n 0, 1) := by decide +kernel
theorem dX12_feed_50 : decode cX12_feed 50 = .ok (.getfield 20, 3) := by decide +kernel
theorem dX12_feed_53 : decode cX12_feed 53 = .ok (.aload_n 0, 1) := by decide +kernel
theorem dX12_feed_54 : decode cX12_feed 54 = .ok (.getfield 75, 3) := by decide +kernel
theorem dX12_feed_57 : decode cX12_feed 57 = .ok (.iload 7, 2) := by decide +kernel
theorem dX12_feed_59 : decode cX12_feed 59 = .ok (.iadd, 1) := by decide +kernel
theorem dX12_feed_60 : decode cX12_feed 60 = .ok (.aload 6, 2) := by decide +kernel
theorem dX12_feed_62 : decode cX12_feed 62 = .ok (.iload 7, 2) := by decide +kernel
theorem dX12_feed_64 : decode cX12_feed 64 = .ok (.iconst 4, 1) := by decide +kernel
theorem dX12_feed_65 : decode cX12_feed 65 = .ok (.idiv, 1) := by decide +kernel
theorem dX12_feed_66 : decode cX12_feed 66 = .ok (.iaload, 1) := by decide +kernel
theorem dX12_feed_67 : decode cX12_feed 67 = .ok (.bipush 24, 2) := by decide +kernel
theorem dX12_feed_69 : decode cX12_feed 69 = .ok (.bipush 8, 2) := by decide +kernel
theorem dX12_feed_71 : decode cX12_feed 71 = .ok (.iload 7, 2) := by decide +kernel
theorem dX12_feed_73 : decode cX12_feed 73 = .ok (.iconst 4, 1) := by decide +kernel
theorem dX12_feed_74 : decode cX12_feed 74 = .ok (.irem, 1) := by decide +kernel
theorem dX12_feed_75 : decode cX12_feed 75 = .ok (.imul, 1) := by decide +kernel
theorem dX12_feed_76 : decode cX12_feed 76 = .ok (.isub, 1) := by decide +kernel
theorem dX12_feed_77 : decode cX12_feed 77 = .ok (.iushr, 1) := by decide +kernel
theorem dX12_feed_78 : decode cX12_feed 78 = .ok (.sipush 255, 3) := by decide +kernel
theorem dX12_feed_81 : decode cX12_feed 81 = .ok (.iand, 1) := by decide +kernel
theorem dX12_feed_82 : decode cX12_feed 82 = .ok (.iastore, 1) := by decide +kernel
theorem dX12_feed_83 : decode cX12_feed 83 = .ok (.iinc 7 1, 3) := by decide +kernel
theorem dX12_feed_86 : decode cX12_feed 86 = .ok (.goto (-44), 3) := by decide +kernel
theorem dX12_feed_89 : decode cX12_feed 89 = .ok (.aload_n 0, 1) := by decide +kernel
theorem dX12_feed_90 : decode cX12_feed 90 = .ok (.dup, 1) := by decide +kernel
theorem dX12_feed_91 : decode cX12_feed 91 = .ok (.getfield 75, 3) := by decide +kernel
theorem dX12_feed_94 : decode cX12_feed 94 = .ok (.bipush 20, 2) := by decide +kernel
theorem dX12_feed_96 : decode cX12_feed 96 = .ok (.iadd, 1) := by decide +kernel
theorem dX12_feed_97 : decode cX12_feed 97 = .ok (.putfield 75, 3) := by decide +kernel
theorem dX12_feed_100 : decode cX12_feed 100 = .ok (.aload_n 0, 1) := by decide +kernel
theorem dX12_feed_101 : decode cX12_feed 101 = .ok (.getfield 75, 3) := by decide +kernel
theorem dX12_feed_104 : decode cX12_feed 104 = .ok (.ireturn, 1) := by decide +kernel
theorem dX12_end_0 : decode cX12_end 0 = .ok (.iload_n 1, 1) := by decide +kernel
theorem dX12_end_1 : decode cX12_end 1 = .ok (.i2l, 1) := by decide +kernel
theorem dX12_end_2 : decode cX12_end 2 = .ok (.lconst 0, 1) := by decide +kernel
theorem dX12_end_3 : decode cX12_end 3 = .ok (.aload_n 0, 1) := by decide +kernel
theorem dX12_end_4 : decode cX12_end 4 = .ok (.getfield 75, 3) := by decide +kernel
theorem dX12_end_7 : decode cX12_end 7 = .ok (.i2l, 1) := by decide +kernel
theorem dX12_end_8 : decode cX12_end 8 = .ok (.invokestatic 64, 3) := by decide +kernel
theorem dX12_end_11 : decode cX12_end 11 = .ok (.ifCond .ne 5, 3) := by decide +kernel
theorem dX12_end_14 : decode cX12_end 14 = .ok (.iconst (-1), 1) := by decide +kernel
theorem dX12_end_15 : decode cX12_end 15 = .ok (.ireturn, 1) := by decide +kernel
theorem dX12_end_16 : decode cX12_end 16 = .ok (.aload_n 0, 1) := by decide +kernel
theorem dX12_end_17 : decode cX12_end 17 = .ok (.iload_n 1, 1) := by decide +kernel
theorem dX12_end_18 : decode cX12_end 18 = .ok (.putfield 75, 3) := by decide +kernel
theorem dX12_end_21 : decode cX12_end 21 = .ok (.iload_n 1, 1) := by decide +kernel
theorem dX12_end_22 : decode cX12_end 22 = .ok (.ireturn, 1) := by decide +kernel
theorem dX12_isAt_0 : decode cX12_isAt 0 = .ok (.aload_n 0, 1) := by decide +kernel
theorem dX12_isAt_1 : decode cX12_isAt 1 = .ok (.getfield 78, 3) := by decide +kernel
theorem dX12_isAt_4 : decode cX12_isAt 4 = .ok (.aload_n 0, 1) := by decide +kernel
theorem dX12_isAt_5 : decode cX12_isAt 5 = .ok (.getfield 75, 3) := by decide +kernel
theorem dX12_isAt_8 : decode cX12_isAt 8 = .ok (.if_icmp .ge 27, 3) := by decide +kernel
theorem dX12_isAt_11 : decode cX12_isAt 11 = .ok (.aload_n 0, 1) := by decide +kernel
theorem dX12_isAt_12 : decode cX12_isAt 12 = .ok (.getfield 20, 3) := by decide +kernel
theorem dX12_isAt_15 : decode cX12_isAt 15 = .ok (.aload_n 0, 1) := by decide +kernel
theorem dX12_isAt_16 : decode cX12_isAt 16 = .ok (.getfield 78, 3) := by decide +kernel
theorem dX12_isAt_19 : decode cX12_isAt 19 = .ok (.iaload, 1) := by decide +kernel
theorem dX12_isAt_20 : decode cX12_isAt 20 = .ok (.i2l, 1) := by decide +kernel
theorem dX12_isAt_21 : decode cX12_isAt 21 = .ok (.iload_n 1, 1) := by decide +kernel
theorem dX12_isAt_22 : decode cX12_isAt 22 = .ok (.i2l, 1) := by decide +kernel
theorem dX12_isAt_23 : decode cX12_isAt 23 = .ok (.iload_n 2, 1) := by decide +kernel
theorem dX12_isAt_24 : decode cX12_isAt 24 = .ok (.i2l, 1) := by decide +kernel
theorem dX12_isAt_25 : decode cX12_isAt 25 = .ok (.invokestatic 64, 3) := by decide +kernel
theorem dX12_isAt_28 : decode cX12_isAt 28 = .ok (.ifCond .eq 7, 3) := by decide +kernel
theorem dX12_isAt_31 : decode cX12_isAt 31 = .ok (.iconst 1, 1) := by decide +kernel
theorem dX12_isAt_32 : decode cX12_isAt 32 = .ok (.goto 4, 3) := by decide +kernel
theorem dX12_isAt_35 : decode cX12_isAt 35 = .ok (.iconst 0, 1) := by decide +kernel
theorem dX12_isAt_36 : decode cX12_isAt 36 = .ok (.ireturn, 1) := by decide +kernel
theorem dX12_next_0 : decode cX12_next 0 = .ok (.aload_n 0, 1) := by decide +kernel
theorem dX12_next_1 : decode cX12_next 1 = .ok (.bipush 32, 2) := by decide +kernel
theorem dX12_next_3 : decode cX12_next 3 = .ok (.bipush 32, 2) := by decide +kernel
theorem dX12_next_5 : decode cX12_next 5 = .ok (.invokevirtual 81, 3) := by decide +kernel
theorem dX12_next_8 : decode cX12_next 8 = .ok (.ifCond .ne 14, 3) := by decide +kernel
theorem dX12_next_11 : decode cX12_next 11 = .ok (.aload_n 0, 1) := by decide +kernel
theorem dX12_next_12 : decode cX12_next 12 = .ok (.bipush 10, 2) := by decide +kernel
theorem dX12_next_14 : decode cX12_next 14 = .ok (.bipush 10, 2) := by decide +kernel
theorem dX12_next_16 : decode cX12_next 16 = .ok (.invokevirtual 81, 3) := by decide +kernel
theorem dX12_next_19 : decode cX12_next 19 = .ok (.ifCond .eq 16, 3) := by decide +kernel
theorem dX12_next_22 : decode cX12_next 22 = .ok (.aload_n 0, 1) := by decide +kernel
theorem dX12_next_23 : decode cX12_next 23 = .ok (.dup, 1) := by decide +kernel
theorem dX12_next_24 : decode cX12_next 24 = .ok (.getfield 78, 3) := by decide +kernel
theorem dX12_next_27 : decode cX12_next 27 = .ok (.iconst 1, 1) := by decide +kernel
theorem dX12_next_28 : decode cX12_next 28 = .ok (.iadd, 1) := by decide +kernel
theorem dX12_next_29 : decode cX12_next 29 = .ok (.putfield 78, 3) := by decide +kernel
theorem dX12_next_32 : decode cX12_next 32 = .ok (.goto (-32), 3) := by decide +kernel
theorem dX12_next_35 : decode cX12_next 35 = .ok (.aload_n 0, 1) := by decide +kernel
theorem dX12_next_36 : decode cX12_next 36 = .ok (.aload_n 0, 1) := by decide +kernel
theorem dX12_next_37 : decode cX12_next 37 = .ok (.getfield 78, 3) := by decide +kernel
theorem dX12_next_40 : decode cX12_next 40 = .ok (.putfield 85, 3) := by decide +kernel
theorem dX12_next_43 : decode cX12_next 43 = .ok (.aload_n 0, 1) := by decide +kernel
theorem dX12_next_44 : decode cX12_next 44 = .ok (.iconst 0, 1) := by decide +kernel
theorem dX12_next_45 : decode cX12_next 45 = .ok (.putfield 88, 3) := by decide +kernel
theorem dX12_next_48 : decode cX12_next 48 = .ok (.aload_n 0, 1) := by decide +kernel
theorem dX12_next_49 : decode cX12_next 49 = .ok (.getfield 78, 3) := by decide +kernel
theorem dX12_next_52 : decode cX12_next 52 = .ok (.aload_n 0, 1) := by decide +kernel
theorem dX12_next_53 : decode cX12_next 53 = .ok (.getfield 75, 3) := by decide +kernel
theorem dX12_next_56 : decode cX12_next 56 = .ok (.if_icmp .ne 11, 3) := by decide +kernel
theorem dX12_next_59 : decode cX12_next 59 = .ok (.aload_n 0, 1) := by decide +kernel
theorem dX12_next_60 : decode cX12_next 60 = .ok (.iconst 0, 1) := by decide +kernel
theorem dX12_next_61 : decode cX12_next 61 = .ok (.putfield 91, 3) := by decide +kernel
theorem dX12_next_64 : decode cX12_next 64 = .ok (.goto 174, 3) := by decide +kernel
theorem dX12_next_67 : decode cX12_next 67 = .ok (.aload_n 0, 1) := by decide +kernel
theorem dX12_next_68 : decode cX12_next 68 = .ok (.bipush 97, 2) := by decide +kernel
theorem dX12_next_70 : decode cX12_next 70 = .ok (.bipush 122, 2) := by decide +kernel
theorem dX12_next_72 : decode cX12_next 72 = .ok (.invokevirtual 81, 3) := by decide +kernel
theorem dX12_next_75 : decode cX12_next 75 = .ok (.ifCond .eq 32, 3) := by decide +kernel
theorem dX12_next_78 : decode cX12_next 78 = .ok (.aload_n 0, 1) := by decide +kernel
theorem dX12_next_79 : decode cX12_next 79 = .ok (.iconst 1, 1) := by decide +kernel
theorem dX12_next_80 : decode cX12_next 80 = .ok (.putfield 91, 3) := by decide +kernel
theorem dX12_next_83 : decode cX12_next 83 = .ok (.aload_n 0, 1) := by decide +kernel
theorem dX12_next_84 : decode cX12_next 84 = .ok (.bipush 97, 2) := by decide +kernel
theorem dX12_next_86 : decode cX12_next 86 = .ok (.bipush 122, 2) := by decide +kernel
theorem dX12_next_88 : decode cX12_next 88 = .ok (.invokevirtual 81, 3) := by decide +kernel
theorem dX12_next_91 : decode cX12_next 91 = .ok (.ifCond .eq 147, 3) := by decide +kernel
theorem dX12_next_94 : decode cX12_next 94 = .ok (.aload_n 0, 1) := by decide +kernel
theorem dX12_next_95 : decode cX12_next 95 = .ok (.dup, 1) := by decide +kernel
theorem dX12_next_96 : decode cX12_next 96 = .ok (.getfield 78, 3) := by decide +kernel
theorem dX12_next_99 : decode cX12_next 99 = .ok (.iconst 1, 1) := by decide +kernel
theorem dX12_next_100 : decode cX12_next 100 = .ok (.iadd, 1) := by decide +kernel
theorem dX12_next_101 : decode cX12_next 101 = .ok (.putfield 78, 3) := by decide +kernel
theorem dX12_next_104 : decode cX12_next 104 = .ok (.goto (-21), 3) := by decide +kernel
theorem dX12_next_107 : decode cX12_next 107 = .ok (.aload_n 0, 1) := by decide +kernel
theorem dX12_next_108 : decode cX12_next 108 = .ok (.bipush 48, 2) := by decide +kernel
theorem dX12_next_110 : decode cX12_next 110 = .ok (.bipush 57, 2) := by decide +kernel
theorem dX12_next_112 : decode cX12_next 112 = .ok (.invokevirtual 81, 3) := by decide +kernel
theorem dX12_next_115 : decode cX12_next 115 = .ok (.ifCond .eq 62, 3) := by decide +kernel
theorem dX12_next_118 : decode cX12_next 118 = .ok (.aload_n 0, 1) := by decide +kernel
theorem dX12_next_119 : decode cX12_next 119 = .ok (.iconst 2, 1) := by decide +kernel
theorem dX12_next_120 : decode cX12_next 120 = .ok (.putfield 91, 3) := by decide +kernel
theorem dX12_next_123 : decode cX12_next 123 = .ok (.aload_n 0, 1) := by decide +kernel
theorem dX12_next_124 : decode cX12_next 124 = .ok (.bipush 48, 2) := by decide +kernel
theorem dX12_next_126 : decode cX12_next 126 = .ok (.bipush 57, 2) := by decide +kernel
theorem dX12_next_128 : decode cX12_next 128 = .ok (.invokevirtual 81, 3) := by decide +kernel
theorem dX12_next_131 : decode cX12_next 131 = .ok (.ifCond .eq 107, 3) := by decide +kernel
theorem dX12_next_134 : decode cX12_next 134 = .ok (.aload_n 0, 1) := by decide +kernel
theorem dX12_next_135 : decode cX12_next 135 = .ok (.sipush 10000, 3) := by decide +kernel
theorem dX12_next_138 : decode cX12_next 138 = .ok (.bipush 10, 2) := by decide +kernel
theorem dX12_next_140 : decode cX12_next 140 = .ok (.aload_n 0, 1) := by decide +kernel
theorem dX12_next_141 : decode cX12_next 141 = .ok (.getfield 88, 3) := by decide +kernel
theorem dX12_next_144 : decode cX12_next 144 = .ok (.imul, 1) := by decide +kernel
theorem dX12_next_145 : decode cX12_next 145 = .ok (.aload_n 0, 1) := by decide +kernel
theorem dX12_next_146 : decode cX12_next 146 = .ok (.getfield 20, 3) := by decide +kernel
theorem dX12_next_149 : decode cX12_next 149 = .ok (.aload_n 0, 1) := by decide +kernel
theorem dX12_next_150 : decode cX12_next 150 = .ok (.getfield 78, 3) := by decide +kernel
theorem dX12_next_153 : decode cX12_next 153 = .ok (.iaload, 1) := by decide +kernel
theorem dX12_next_154 : decode cX12_next 154 = .ok (.iadd, 1) := by decide +kernel
theorem dX12_next_155 : decode cX12_next 155 = .ok (.bipush 48, 2) := by decide +kernel
theorem dX12_next_157 : decode cX12_next 157 = .ok (.isub, 1) := by decide +kernel
theorem dX12_next_158 : decode cX12_next 158 = .ok (.invokestatic 94, 3) := by decide +kernel
theorem dX12_next_161 : decode cX12_next 161 = .ok (.putfield 88, 3) := by decide +kernel
theorem dX12_next_164 : decode cX12_next 164 = .ok (.aload_n 0, 1) := by decide +kernel
theorem dX12_next_165 : decode cX12_next 165 = .ok (.dup, 1) := by decide +kernel
theorem dX12_next_166 : decode cX12_next 166 = .ok (.getfield 78, 3) := by decide +kernel
theorem dX12_next_169 : decode cX12_next 169 = .ok (.iconst 1, 1) := by decide +kernel
theorem dX12_next_170 : decode cX12_next 170 = .ok (.iadd, 1) := by decide +kernel
theorem dX12_next_171 : decode cX12_next 171 = .ok (.putfield 78, 3) := by decide +kernel
theorem dX12_next_174 : decode cX12_next 174 = .ok (.goto (-51), 3) := by decide +kernel
theorem dX12_next_177 : decode cX12_next 177 = .ok (.aload_n 0, 1) := by decide +kernel
theorem dX12_next_178 : decode cX12_next 178 = .ok (.aload_n 0, 1) := by decide +kernel
theorem dX12_next_179 : decode cX12_next 179 = .ok (.bipush 59, 2) := by decide +kernel
theorem dX12_next_181 : decode cX12_next 181 = .ok (.bipush 59, 2) := by decide +kernel
theorem dX12_next_183 : decode cX12_next 183 = .ok (.invokevirtual 81, 3) := by decide +kernel
theorem dX12_next_186 : decode cX12_next 186 = .ok (.ifCond .eq 7, 3) := by decide +kernel
theorem dX12_next_189 : decode cX12_next 189 = .ok (.iconst 3, 1) := by decide +kernel
theorem dX12_next_190 : decode cX12_next 190 = .ok (.goto 35, 3) := by decide +kernel
theorem dX12_next_193 : decode cX12_next 193 = .ok (.aload_n 0, 1) := by decide +kernel
theorem dX12_next_194 : decode cX12_next 194 = .ok (.bipush 44, 2) := by decide +kernel
theorem dX12_next_196 : decode cX12_next 196 = .ok (.bipush 44, 2) := by decide +kernel
theorem dX12_next_198 : decode cX12_next 198 = .ok (.invokevirtual 81, 3) := by decide +kernel
theorem dX12_next_201 : decode cX12_next 201 = .ok (.ifCond .eq 7, 3) := by decide +kernel
theorem dX12_next_204 : decode cX12_next 204 = .ok (.iconst 4, 1) := by decide +kernel
theorem dX12_next_205 : decode cX12_next 205 = .ok (.goto 20, 3) := by decide +kernel
theorem dX12_next_208 : decode cX12_next 208 = .ok (.aload_n 0, 1) := by decide +kernel
theorem dX12_next_209 : decode cX12_next 209 = .ok (.bipush 45, 2) := by decide +kernel
theorem dX12_next_211 : decode cX12_next 211 = .ok (.bipush 45, 2) := by decide +kernel
theorem dX12_next_213 : decode cX12_next 213 = .ok (.invokevirtual 81, 3) := by decide +kernel
theorem dX12_next_216 : decode cX12_next 216 = .ok (.ifCond .eq 7, 3) := by decide +kernel
theorem dX12_next_219 : decode cX12_next 219 = .ok (.iconst 5, 1) := by decide +kernel
theorem dX12_next_220 : decode cX12_next 220 = .ok (.goto 5, 3) := by decide +kernel
theorem dX12_next_223 : decode cX12_next 223 = .ok (.bipush 6, 2) := by decide +kernel
theorem dX12_next_225 : decode cX12_next 225 = .ok (.putfield 91, 3) := by decide +kernel
theorem dX12_next_228 : decode cX12_next 228 = .ok (.aload_n 0, 1) := by decide +kernel
theorem dX12_next_229 : decode cX12_next 229 = .ok (.dup, 1) := by decide +kernel
theorem dX12_next_230 : decode cX12_next 230 = .ok (.getfield 78, 3) := by decide +kernel
theorem dX12_next_233 : decode cX12_next 233 = .ok (.iconst 1, 1) := by decide +kernel
theorem dX12_next_234 : decode cX12_next 234 = .ok (.iadd, 1) := by decide +kernel
theorem dX12_next_235 : decode cX12_next 235 = .ok (.putfield 78, 3) := by decide +kernel
theorem dX12_next_238 : decode cX12_next 238 = .ok (.return_, 1) := by decide +kernel
theorem dX12_faults_0 : decode cX12_faults 0 = .ok (.aload_n 0, 1) := by decide +kernel
theorem dX12_faults_1 : decode cX12_faults 1 = .ok (.getfield 99, 3) := by decide +kernel
theorem dX12_faults_4 : decode cX12_faults 4 = .ok (.ifCond .ne 21, 3) := by decide +kernel
theorem dX12_faults_7 : decode cX12_faults 7 = .ok (.aload_n 0, 1) := by decide +kernel
theorem dX12_faults_8 : decode cX12_faults 8 = .ok (.iconst 1, 1) := by decide +kernel
theorem dX12_faults_9 : decode cX12_faults 9 = .ok (.putfield 99, 3) := by decide +kernel
theorem dX12_faults_12 : decode cX12_faults 12 = .ok (.aload_n 0, 1) := by decide +kernel
theorem dX12_faults_13 : decode cX12_faults 13 = .ok (.iload_n 1, 1) := by decide +kernel
theorem dX12_faults_14 : decode cX12_faults 14 = .ok (.putfield 103, 3) := by decide +kernel
theorem dX12_faults_17 : decode cX12_faults 17 = .ok (.aload_n 0, 1) := by decide +kernel
theorem dX12_faults_18 : decode cX12_faults 18 = .ok (.aload_n 0, 1) := by decide +kernel
theorem dX12_faults_19 : decode cX12_faults 19 = .ok (.getfield 85, 3) := by decide +kernel
theorem dX12_faults_22 : decode cX12_faults 22 = .ok (.putfield 23, 3) := by decide +kernel
theorem dX12_faults_25 : decode cX12_faults 25 = .ok (.return_, 1) := by decide +kernel
theorem dX12_passes_0 : decode cX12_passes 0 = .ok (.aload_n 0, 1) := by decide +kernel
theorem dX12_passes_1 : decode cX12_passes 1 = .ok (.getfield 99, 3) := by decide +kernel
theorem dX12_passes_4 : decode cX12_passes 4 = .ok (.ifCond .ne 7, 3) := by decide +kernel
theorem dX12_passes_7 : decode cX12_passes 7 = .ok (.aload_n 0, 1) := by decide +kernel
theorem dX12_passes_8 : decode cX12_passes 8 = .ok (.invokevirtual 106, 3) := by decide +kernel
theorem dX12_passes_11 : decode cX12_passes 11 = .ok (.return_, 1) := by decide +kernel
theorem dX12_isWord_0 : decode cX12_isWord 0 = .ok (.aload_n 0, 1) := by decide +kernel
theorem dX12_isWord_1 : decode cX12_isWord 1 = .ok (.getfield 91, 3) := by decide +kernel
theorem dX12_isWord_4 : decode cX12_isWord 4 = .ok (.iconst 1, 1) := by decide +kernel
theorem dX12_isWord_5 : decode cX12_isWord 5 = .ok (.if_icmp .ne 23, 3) := by decide +kernel
theorem dX12_isWord_8 : decode cX12_isWord 8 = .ok (.aload_n 0, 1) := by decide +kernel
theorem dX12_isWord_9 : decode cX12_isWord 9 = .ok (.getfield 78, 3) := by decide +kernel
theorem dX12_isWord_12 : decode cX12_isWord 12 = .ok (.aload_n 0, 1) := by decide +kernel
theorem dX12_isWord_13 : decode cX12_isWord 13 = .ok (.getfield 85, 3) := by decide +kernel
theorem dX12_isWord_16 : decode cX12_isWord 16 = .ok (.isub, 1) := by decide +kernel
theorem dX12_isWord_17 : decode cX12_isWord 17 = .ok (.aload_n 1, 1) := by decide +kernel
theorem dX12_isWord_18 : decode cX12_isWord 18 = .ok (.invokevirtual 109, 3) := by decide +kernel
theorem dX12_isWord_21 : decode cX12_isWord 21 = .ok (.if_icmp .ne 7, 3) := by decide +kernel
theorem dX12_isWord_24 : decode cX12_isWord 24 = .ok (.iconst 1, 1) := by decide +kernel
theorem dX12_isWord_25 : decode cX12_isWord 25 = .ok (.goto 4, 3) := by decide +kernel
theorem dX12_isWord_28 : decode cX12_isWord 28 = .ok (.iconst 0, 1) := by decide +kernel
theorem dX12_isWord_29 : decode cX12_isWord 29 = .ok (.istore_n 2, 1) := by decide +kernel
theorem dX12_isWord_30 : decode cX12_isWord 30 = .ok (.iconst 0, 1) := by decide +kernel
theorem dX12_isWord_31 : decode cX12_isWord 31 = .ok (.istore_n 3, 1) := by decide +kernel
theorem dX12_isWord_32 : decode cX12_isWord 32 = .ok (.iload_n 3, 1) := by decide +kernel
theorem dX12_isWord_33 : decode cX12_isWord 33 = .ok (.aload_n 1, 1) := by decide +kernel
theorem dX12_isWord_34 : decode cX12_isWord 34 = .ok (.invokevirtual 109, 3) := by decide +kernel
theorem dX12_isWord_37 : decode cX12_isWord 37 = .ok (.if_icmp .ge 38, 3) := by decide +kernel
theorem dX12_isWord_40 : decode cX12_isWord 40 = .ok (.iload_n 2, 1) := by decide +kernel
theorem dX12_isWord_41 : decode cX12_isWord 41 = .ok (.ifCond .eq 34, 3) := by decide +kernel
theorem dX12_isWord_44 : decode cX12_isWord 44 = .ok (.aload_n 0, 1) := by decide +kernel
theorem dX12_isWord_45 : decode cX12_isWord 45 = .ok (.getfield 20, 3) := by decide +kernel
theorem dX12_isWord_48 : decode cX12_isWord 48 = .ok (.aload_n 0, 1) := by decide +kernel
theorem dX12_isWord_49 : decode cX12_isWord 49 = .ok (.getfield 85, 3) := by decide +kernel
theorem dX12_isWord_52 : decode cX12_isWord 52 = .ok (.iload_n 3, 1) := by decide +kernel
theorem dX12_isWord_53 : decode cX12_isWord 53 = .ok (.iadd, 1) := by decide +kernel
theorem dX12_isWord_54 : decode cX12_isWord 54 = .ok (.iaload, 1) := by decide +kernel
theorem dX12_isWord_55 : decode cX12_isWord 55 = .ok (.aload_n 1, 1) := by decide +kernel
theorem dX12_isWord_56 : decode cX12_isWord 56 = .ok (.iload_n 3, 1) := by decide +kernel
theorem dX12_isWord_57 : decode cX12_isWord 57 = .ok (.invokevirtual 114, 3) := by decide +kernel
theorem dX12_isWord_60 : decode cX12_isWord 60 = .ok (.if_icmp .ne 7, 3) := by decide +kernel
theorem dX12_isWord_63 : decode cX12_isWord 63 = .ok (.iconst 1, 1) := by decide +kernel
theorem dX12_isWord_64 : decode cX12_isWord 64 = .ok (.goto 4, 3) := by decide +kernel
theorem dX12_isWord_67 : decode cX12_isWord 67 = .ok (.iconst 0, 1) := by decide +kernel
theorem dX12_isWord_68 : decode cX12_isWord 68 = .ok (.istore_n 2, 1) := by decide +kernel
theorem dX12_isWord_69 : decode cX12_isWord 69 = .ok (.iinc 3 1, 3) := by decide +kernel
theorem dX12_isWord_72 : decode cX12_isWord 72 = .ok (.goto (-40), 3) := by decide +kernel
theorem dX12_isWord_75 : decode cX12_isWord 75 = .ok (.iload_n 2, 1) := by decide +kernel
theorem dX12_isWord_76 : decode cX12_isWord 76 = .ok (.ireturn, 1) := by decide +kernel
theorem dX12_number_0 : decode cX12_number 0 = .ok (.aload_n 0, 1) := by decide +kernel
theorem dX12_number_1 : decode cX12_number 1 = .ok (.getfield 88, 3) := by decide +kernel
theorem dX12_number_4 : decode cX12_number 4 = .ok (.istore_n 3, 1) := by decide +kernel
theorem dX12_number_5 : decode cX12_number 5 = .ok (.aload_n 0, 1) := by decide +kernel
theorem dX12_number_6 : decode cX12_number 6 = .ok (.getfield 99, 3) := by decide +kernel
theorem dX12_number_9 : decode cX12_number 9 = .ok (.ifCond .ne 16, 3) := by decide +kernel
theorem dX12_number_12 : decode cX12_number 12 = .ok (.aload_n 0, 1) := by decide +kernel
theorem dX12_number_13 : decode cX12_number 13 = .ok (.getfield 91, 3) := by decide +kernel
theorem dX12_number_16 : decode cX12_number 16 = .ok (.iconst 2, 1) := by decide +kernel
theorem dX12_number_17 : decode cX12_number 17 = .ok (.if_icmp .eq 8, 3) := by decide +kernel
theorem dX12_number_20 : decode cX12_number 20 = .ok (.aload_n 0, 1) := by decide +kernel
theorem dX12_number_21 : decode cX12_number 21 = .ok (.iconst 1, 1) := by decide +kernel
theorem dX12_number_22 : decode cX12_number 22 = .ok (.invokevirtual 118, 3) := by decide +kernel
theorem dX12_number_25 : decode cX12_number 25 = .ok (.iload_n 3, 1) := by decide +kernel
theorem dX12_number_26 : decode cX12_number 26 = .ok (.i2l, 1) := by decide +kernel
theorem dX12_number_27 : decode cX12_number 27 = .ok (.iload_n 1, 1) := by decide +kernel
theorem dX12_number_28 : decode cX12_number 28 = .ok (.i2l, 1) := by decide +kernel
theorem dX12_number_29 : decode cX12_number 29 = .ok (.iload_n 2, 1) := by decide +kernel
theorem dX12_number_30 : decode cX12_number 30 = .ok (.i2l, 1) := by decide +kernel
theorem dX12_number_31 : decode cX12_number 31 = .ok (.invokestatic 64, 3) := by decide +kernel
theorem dX12_number_34 : decode cX12_number 34 = .ok (.ifCond .ne 8, 3) := by decide +kernel
theorem dX12_number_37 : decode cX12_number 37 = .ok (.aload_n 0, 1) := by decide +kernel
theorem dX12_number_38 : decode cX12_number 38 = .ok (.iconst 2, 1) := by decide +kernel
theorem dX12_number_39 : decode cX12_number 39 = .ok (.invokevirtual 118, 3) := by decide +kernel
theorem dX12_number_42 : decode cX12_number 42 = .ok (.aload_n 0, 1) := by decide +kernel
theorem dX12_number_43 : decode cX12_number 43 = .ok (.invokevirtual 122, 3) := by decide +kernel
theorem dX12_number_46 : decode cX12_number 46 = .ok (.iload_n 3, 1) := by decide +kernel
theorem dX12_number_47 : decode cX12_number 47 = .ok (.ireturn, 1) := by decide +kernel
theorem dX12_readsCost_0 : decode cX12_readsCost 0 = .ok (.aload_n 0, 1) := by decide +kernel
theorem dX12_readsCost_1 : decode cX12_readsCost 1 = .ok (.ldc 125, 2) := by decide +kernel
theorem dX12_readsCost_3 : decode cX12_readsCost 3 = .ok (.invokevirtual 127, 3) := by decide +kernel
theorem dX12_readsCost_6 : decode cX12_readsCost 6 = .ok (.istore_n 2, 1) := by decide +kernel
theorem dX12_readsCost_7 : decode cX12_readsCost 7 = .ok (.aload_n 0, 1) := by decide +kernel
theorem dX12_readsCost_8 : decode cX12_readsCost 8 = .ok (.getfield 91, 3) := by decide +kernel
theorem dX12_readsCost_11 : decode cX12_readsCost 11 = .ok (.iconst 5, 1) := by decide +kernel
theorem dX12_readsCost_12 : decode cX12_readsCost 12 = .ok (.if_icmp .ne 7, 3) := by decide +kernel
theorem dX12_readsCost_15 : decode cX12_readsCost 15 = .ok (.iconst 1, 1) := by decide +kernel
theorem dX12_readsCost_16 : decode cX12_readsCost 16 = .ok (.goto 4, 3) := by decide +kernel
theorem dX12_readsCost_19 : decode cX12_readsCost 19 = .ok (.iconst 0, 1) := by decide +kernel
theorem dX12_readsCost_20 : decode cX12_readsCost 20 = .ok (.istore_n 3, 1) := by decide +kernel
theorem dX12_readsCost_21 : decode cX12_readsCost 21 = .ok (.iload_n 2, 1) := by decide +kernel
theorem dX12_readsCost_22 : decode cX12_readsCost 22 = .ok (.ifCond .ne 23, 3) := by decide +kernel
theorem dX12_readsCost_25 : decode cX12_readsCost 25 = .ok (.iload_n 3, 1) := by decide +kernel
theorem dX12_readsCost_26 : decode cX12_readsCost 26 = .ok (.ifCond .ne 19, 3) := by decide +kernel
theorem dX12_readsCost_29 : decode cX12_readsCost 29 = .ok (.aload_n 0, 1) := by decide +kernel
theorem dX12_readsCost_30 : decode cX12_readsCost 30 = .ok (.getfield 91, 3) := by decide +kernel
theorem dX12_readsCost_33 : decode cX12_readsCost 33 = .ok (.iconst 2, 1) := by decide +kernel
theorem dX12_readsCost_34 : decode cX12_readsCost 34 = .ok (.if_icmp .eq 11, 3) := by decide +kernel
theorem dX12_readsCost_37 : decode cX12_readsCost 37 = .ok (.aload_n 0, 1) := by decide +kernel
theorem dX12_readsCost_38 : decode cX12_readsCost 38 = .ok (.iconst 1, 1) := by decide +kernel
theorem dX12_readsCost_39 : decode cX12_readsCost 39 = .ok (.invokevirtual 118, 3) := by decide +kernel
theorem dX12_readsCost_42 : decode cX12_readsCost 42 = .ok (.goto 40, 3) := by decide +kernel
theorem dX12_readsCost_45 : decode cX12_readsCost 45 = .ok (.iload_n 1, 1) := by decide +kernel
theorem dX12_readsCost_46 : decode cX12_readsCost 46 = .ok (.aload_n 0, 1) := by decide +kernel
theorem dX12_readsCost_47 : decode cX12_readsCost 47 = .ok (.getfield 27, 3) := by decide +kernel
theorem dX12_readsCost_50 : decode cX12_readsCost 50 = .ok (.iconst 1, 1) := by decide +kernel
theorem dX12_readsCost_51 : decode cX12_readsCost 51 = .ok (.iaload, 1) := by decide +kernel
theorem dX12_readsCost_52 : decode cX12_readsCost 52 = .ok (.if_icmp .ne 30, 3) := by decide +kernel
theorem dX12_readsCost_55 : decode cX12_readsCost 55 = .ok (.aload_n 0, 1) := by decide +kernel
theorem dX12_readsCost_56 : decode cX12_readsCost 56 = .ok (.aload_n 0, 1) := by decide +kernel
theorem dX12_readsCost_57 : decode cX12_readsCost 57 = .ok (.getfield 91, 3) := by decide +kernel
theorem dX12_readsCost_60 : decode cX12_readsCost 60 = .ok (.iconst 2, 1) := by decide +kernel
theorem dX12_readsCost_61 : decode cX12_readsCost 61 = .ok (.if_icmp .ne 17, 3) := by decide +kernel
theorem dX12_readsCost_64 : decode cX12_readsCost 64 = .ok (.aload_n 0, 1) := by decide +kernel
theorem dX12_readsCost_65 : decode cX12_readsCost 65 = .ok (.getfield 88, 3) := by decide +kernel
theorem dX12_readsCost_68 : decode cX12_readsCost 68 = .ok (.sipush 9999, 3) := by decide +kernel
theorem dX12_readsCost_71 : decode cX12_readsCost 71 = .ok (.if_icmp .le 7, 3) := by decide +kernel
theorem dX12_readsCost_74 : decode cX12_readsCost 74 = .ok (.iconst 2, 1) := by decide +kernel
theorem dX12_readsCost_75 : decode cX12_readsCost 75 = .ok (.goto 4, 3) := by decide +kernel
theorem dX12_readsCost_78 : decode cX12_readsCost 78 = .ok (.iconst 3, 1) := by decide +kernel
theorem dX12_readsCost_79 : decode cX12_readsCost 79 = .ok (.invokevirtual 118, 3) := by decide +kernel
theorem dX12_readsCost_82 : decode cX12_readsCost 82 = .ok (.aload_n 0, 1) := by decide +kernel
theorem dX12_readsCost_83 : decode cX12_readsCost 83 = .ok (.getfield 99, 3) := by decide +kernel
theorem dX12_readsCost_86 : decode cX12_readsCost 86 = .ok (.ifCond .eq 4, 3) := by decide +kernel
theorem dX12_readsCost_89 : decode cX12_readsCost 89 = .ok (.return_, 1) := by decide +kernel
theorem dX12_readsCost_90 : decode cX12_readsCost 90 = .ok (.aload_n 0, 1) := by decide +kernel
theorem dX12_readsCost_91 : decode cX12_readsCost 91 = .ok (.getfield 27, 3) := by decide +kernel
theorem dX12_readsCost_94 : decode cX12_readsCost 94 = .ok (.iconst 0, 1) := by decide +kernel
theorem dX12_readsCost_95 : decode cX12_readsCost 95 = .ok (.iaload, 1) := by decide +kernel
theorem dX12_readsCost_96 : decode cX12_readsCost 96 = .ok (.iload_n 1, 1) := by decide +kernel
theorem dX12_readsCost_97 : decode cX12_readsCost 97 = .ok (.invokestatic 56, 3) := by decide +kernel
theorem dX12_readsCost_100 : decode cX12_readsCost 100 = .ok (.istore 4, 2) := by decide +kernel
theorem dX12_readsCost_102 : decode cX12_readsCost 102 = .ok (.iload_n 2, 1) := by decide +kernel
theorem dX12_readsCost_103 : decode cX12_readsCost 103 = .ok (.ifCond .eq 17, 3) := by decide +kernel
theorem dX12_readsCost_106 : decode cX12_readsCost 106 = .ok (.aload_n 0, 1) := by decide +kernel
theorem dX12_readsCost_107 : decode cX12_readsCost 107 = .ok (.getfield 27, 3) := by decide +kernel
theorem dX12_readsCost_110 : decode cX12_readsCost 110 = .ok (.iload 4, 2) := by decide +kernel
theorem dX12_readsCost_112 : decode cX12_readsCost 112 = .ok (.ldc 131, 2) := by decide +kernel
theorem dX12_readsCost_114 : decode cX12_readsCost 114 = .ok (.iastore, 1) := by decide +kernel
theorem dX12_readsCost_115 : decode cX12_readsCost 115 = .ok (.aload_n 0, 1) := by decide +kernel
theorem dX12_readsCost_116 : decode cX12_readsCost 116 = .ok (.invokevirtual 106, 3) := by decide +kernel
theorem dX12_readsCost_119 : decode cX12_readsCost 119 = .ok (.return_, 1) := by decide +kernel
theorem dX12_readsCost_120 : decode cX12_readsCost 120 = .ok (.iload_n 3, 1) := by decide +kernel
theorem dX12_readsCost_121 : decode cX12_readsCost 121 = .ok (.ifCond .eq 7, 3) := by decide +kernel
theorem dX12_readsCost_124 : decode cX12_readsCost 124 = .ok (.aload_n 0, 1) := by decide +kernel
theorem dX12_readsCost_125 : decode cX12_readsCost 125 = .ok (.invokevirtual 106, 3) := by decide +kernel
theorem dX12_readsCost_128 : decode cX12_readsCost 128 = .ok (.aload_n 0, 1) := by decide +kernel
theorem dX12_readsCost_129 : decode cX12_readsCost 129 = .ok (.iconst 0, 1) := by decide +kernel
theorem dX12_readsCost_130 : decode cX12_readsCost 130 = .ok (.sipush 9999, 3) := by decide +kernel
theorem dX12_readsCost_133 : decode cX12_readsCost 133 = .ok (.invokevirtual 132, 3) := by decide +kernel
theorem dX12_readsCost_136 : decode cX12_readsCost 136 = .ok (.istore 5, 2) := by decide +kernel
theorem dX12_readsCost_138 : decode cX12_readsCost 138 = .ok (.aload_n 0, 1) := by decide +kernel
theorem dX12_readsCost_139 : decode cX12_readsCost 139 = .ok (.getfield 27, 3) := by decide +kernel
theorem dX12_readsCost_142 : decode cX12_readsCost 142 = .ok (.iload 4, 2) := by decide +kernel
theorem dX12_readsCost_144 : decode cX12_readsCost 144 = .ok (.iload_n 3, 1) := by decide +kernel
theorem dX12_readsCost_145 : decode cX12_readsCost 145 = .ok (.ifCond .eq 9, 3) := by decide +kernel
theorem dX12_readsCost_148 : decode cX12_readsCost 148 = .ok (.iload 5, 2) := by decide +kernel
theorem dX12_readsCost_150 : decode cX12_readsCost 150 = .ok (.ineg, 1) := by decide +kernel
theorem dX12_readsCost_151 : decode cX12_readsCost 151 = .ok (.goto 5, 3) := by decide +kernel
theorem dX12_readsCost_154 : decode cX12_readsCost 154 = .ok (.iload 5, 2) := by decide +kernel
theorem dX12_readsCost_156 : decode cX12_readsCost 156 = .ok (.iastore, 1) := by decide +kernel
theorem dX12_readsCost_157 : decode cX12_readsCost 157 = .ok (.return_, 1) := by decide +kernel
theorem dX12_readsWorker_0 : decode cX12_readsWorker 0 = .ok (.aload_n 0, 1) := by decide +kernel
theorem dX12_readsWorker_1 : decode cX12_readsWorker 1 = .ok (.ldc 135, 2) := by decide +kernel
theorem dX12_readsWorker_3 : decode cX12_readsWorker 3 = .ok (.invokevirtual 127, 3) := by decide +kernel
theorem dX12_readsWorker_6 : decode cX12_readsWorker 6 = .ok (.ifCond .ne 11, 3) := by decide +kernel
theorem dX12_readsWorker_9 : decode cX12_readsWorker 9 = .ok (.aload_n 0, 1) := by decide +kernel
theorem dX12_readsWorker_10 : decode cX12_readsWorker 10 = .ok (.iconst 1, 1) := by decide +kernel
theorem dX12_readsWorker_11 : decode cX12_readsWorker 11 = .ok (.invokevirtual 118, 3) := by decide +kernel
theorem dX12_readsWorker_14 : decode cX12_readsWorker 14 = .ok (.goto 19, 3) := by decide +kernel
theorem dX12_readsWorker_17 : decode cX12_readsWorker 17 = .ok (.aload_n 0, 1) := by decide +kernel
theorem dX12_readsWorker_18 : decode cX12_readsWorker 18 = .ok (.getfield 27, 3) := by decide +kernel
theorem dX12_readsWorker_21 : decode cX12_readsWorker 21 = .ok (.iconst 0, 1) := by decide +kernel
theorem dX12_readsWorker_22 : decode cX12_readsWorker 22 = .ok (.iaload, 1) := by decide +kernel
theorem dX12_readsWorker_23 : decode cX12_readsWorker 23 = .ok (.bipush 7, 2) := by decide +kernel
theorem dX12_readsWorker_25 : decode cX12_readsWorker 25 = .ok (.if_icmp .ne 8, 3) := by decide +kernel
theorem dX12_readsWorker_28 : decode cX12_readsWorker 28 = .ok (.aload_n 0, 1) := by decide +kernel
theorem dX12_readsWorker_29 : decode cX12_readsWorker 29 = .ok (.iconst 3, 1) := by decide +kernel
theorem dX12_readsWorker_30 : decode cX12_readsWorker 30 = .ok (.invokevirtual 118, 3) := by decide +kernel
theorem dX12_readsWorker_33 : decode cX12_readsWorker 33 = .ok (.aload_n 0, 1) := by decide +kernel
theorem dX12_readsWorker_34 : decode cX12_readsWorker 34 = .ok (.invokevirtual 122, 3) := by decide +kernel
theorem dX12_readsWorker_37 : decode cX12_readsWorker 37 = .ok (.iconst 0, 1) := by decide +kernel
theorem dX12_readsWorker_38 : decode cX12_readsWorker 38 = .ok (.istore_n 1, 1) := by decide +kernel
theorem dX12_readsWorker_39 : decode cX12_readsWorker 39 = .ok (.iconst 1, 1) := by decide +kernel
theorem dX12_readsWorker_40 : decode cX12_readsWorker 40 = .ok (.istore_n 2, 1) := by decide +kernel
theorem dX12_readsWorker_41 : decode cX12_readsWorker 41 = .ok (.iload_n 2, 1) := by decide +kernel
theorem dX12_readsWorker_42 : decode cX12_readsWorker 42 = .ok (.ifCond .eq 50, 3) := by decide +kernel
theorem dX12_readsWorker_45 : decode cX12_readsWorker 45 = .ok (.aload_n 0, 1) := by decide +kernel
theorem dX12_readsWorker_46 : decode cX12_readsWorker 46 = .ok (.getfield 99, 3) := by decide +kernel
theorem dX12_readsWorker_49 : decode cX12_readsWorker 49 = .ok (.ifCond .ne 43, 3) := by decide +kernel
theorem dX12_readsWorker_52 : decode cX12_readsWorker 52 = .ok (.aload_n 0, 1) := by decide +kernel
theorem dX12_readsWorker_53 : decode cX12_readsWorker 53 = .ok (.iload_n 1, 1) := by decide +kernel
theorem dX12_readsWorker_54 : decode cX12_readsWorker 54 = .ok (.invokevirtual 137, 3) := by decide +kernel
theorem dX12_readsWorker_57 : decode cX12_readsWorker 57 = .ok (.iinc 1 1, 3) := by decide +kernel
theorem dX12_readsWorker_60 : decode cX12_readsWorker 60 = .ok (.aload_n 0, 1) := by decide +kernel
theorem dX12_readsWorker_61 : decode cX12_readsWorker 61 = .ok (.getfield 99, 3) := by decide +kernel
theorem dX12_readsWorker_64 : decode cX12_readsWorker 64 = .ok (.ifCond .ne 15, 3) := by decide +kernel
theorem dX12_readsWorker_67 : decode cX12_readsWorker 67 = .ok (.aload_n 0, 1) := by decide +kernel
theorem dX12_readsWorker_68 : decode cX12_readsWorker 68 = .ok (.getfield 91, 3) := by decide +kernel
theorem dX12_readsWorker_71 : decode cX12_readsWorker 71 = .ok (.iconst 4, 1) := by decide +kernel
theorem dX12_readsWorker_72 : decode cX12_readsWorker 72 = .ok (.if_icmp .ne 7, 3) := by decide +kernel
theorem dX12_readsWorker_75 : decode cX12_readsWorker 75 = .ok (.iconst 1, 1) := by decide +kernel
theorem dX12_readsWorker_76 : decode cX12_readsWorker 76 = .ok (.goto 4, 3) := by decide +kernel
theorem dX12_readsWorker_79 : decode cX12_readsWorker 79 = .ok (.iconst 0, 1) := by decide +kernel
theorem dX12_readsWorker_80 : decode cX12_readsWorker 80 = .ok (.istore_n 2, 1) := by decide +kernel
theorem dX12_readsWorker_81 : decode cX12_readsWorker 81 = .ok (.iload_n 2, 1) := by decide +kernel
theorem dX12_readsWorker_82 : decode cX12_readsWorker 82 = .ok (.ifCond .eq (-41), 3) := by decide +kernel
theorem dX12_readsWorker_85 : decode cX12_readsWorker 85 = .ok (.aload_n 0, 1) := by decide +kernel
theorem dX12_readsWorker_86 : decode cX12_readsWorker 86 = .ok (.invokevirtual 106, 3) := by decide +kernel
theorem dX12_readsWorker_89 : decode cX12_readsWorker 89 = .ok (.goto (-48), 3) := by decide +kernel
theorem dX12_readsWorker_92 : decode cX12_readsWorker 92 = .ok (.aload_n 0, 1) := by decide +kernel
theorem dX12_readsWorker_93 : decode cX12_readsWorker 93 = .ok (.getfield 99, 3) := by decide +kernel
theorem dX12_readsWorker_96 : decode cX12_readsWorker 96 = .ok (.ifCond .ne 16, 3) := by decide +kernel
theorem dX12_readsWorker_99 : decode cX12_readsWorker 99 = .ok (.aload_n 0, 1) := by decide +kernel
theorem dX12_readsWorker_100 : decode cX12_readsWorker 100 = .ok (.getfield 91, 3) := by decide +kernel
theorem dX12_readsWorker_103 : decode cX12_readsWorker 103 = .ok (.iconst 3, 1) := by decide +kernel
theorem dX12_readsWorker_104 : decode cX12_readsWorker 104 = .ok (.if_icmp .eq 8, 3) := by decide +kernel
theorem dX12_readsWorker_107 : decode cX12_readsWorker 107 = .ok (.aload_n 0, 1) := by decide +kernel
theorem dX12_readsWorker_108 : decode cX12_readsWorker 108 = .ok (.iconst 1, 1) := by decide +kernel
theorem dX12_readsWorker_109 : decode cX12_readsWorker 109 = .ok (.invokevirtual 118, 3) := by decide +kernel
theorem dX12_readsWorker_112 : decode cX12_readsWorker 112 = .ok (.aload_n 0, 1) := by decide +kernel
theorem dX12_readsWorker_113 : decode cX12_readsWorker 113 = .ok (.getfield 99, 3) := by decide +kernel
theorem dX12_readsWorker_116 : decode cX12_readsWorker 116 = .ok (.ifCond .ne 18, 3) := by decide +kernel
theorem dX12_readsWorker_119 : decode cX12_readsWorker 119 = .ok (.iload_n 1, 1) := by decide +kernel
theorem dX12_readsWorker_120 : decode cX12_readsWorker 120 = .ok (.aload_n 0, 1) := by decide +kernel
theorem dX12_readsWorker_121 : decode cX12_readsWorker 121 = .ok (.getfield 27, 3) := by decide +kernel
theorem dX12_readsWorker_124 : decode cX12_readsWorker 124 = .ok (.iconst 1, 1) := by decide +kernel
theorem dX12_readsWorker_125 : decode cX12_readsWorker 125 = .ok (.iaload, 1) := by decide +kernel
theorem dX12_readsWorker_126 : decode cX12_readsWorker 126 = .ok (.if_icmp .ge 8, 3) := by decide +kernel
theorem dX12_readsWorker_129 : decode cX12_readsWorker 129 = .ok (.aload_n 0, 1) := by decide +kernel
theorem dX12_readsWorker_130 : decode cX12_readsWorker 130 = .ok (.iconst 4, 1) := by decide +kernel
theorem dX12_readsWorker_131 : decode cX12_readsWorker 131 = .ok (.invokevirtual 118, 3) := by decide +kernel
theorem dX12_readsWorker_134 : decode cX12_readsWorker 134 = .ok (.aload_n 0, 1) := by decide +kernel
theorem dX12_readsWorker_135 : decode cX12_readsWorker 135 = .ok (.invokevirtual 122, 3) := by decide +kernel
theorem dX12_readsWorker_138 : decode cX12_readsWorker 138 = .ok (.aload_n 0, 1) := by decide +kernel
theorem dX12_readsWorker_139 : decode cX12_readsWorker 139 = .ok (.getfield 27, 3) := by decide +kernel
theorem dX12_readsWorker_142 : decode cX12_readsWorker 142 = .ok (.iconst 0, 1) := by decide +kernel
theorem dX12_readsWorker_143 : decode cX12_readsWorker 143 = .ok (.dup2, 1) := by decide +kernel
theorem dX12_readsWorker_144 : decode cX12_readsWorker 144 = .ok (.iaload, 1) := by decide +kernel
theorem dX12_readsWorker_145 : decode cX12_readsWorker 145 = .ok (.iconst 1, 1) := by decide +kernel
theorem dX12_readsWorker_146 : decode cX12_readsWorker 146 = .ok (.iadd, 1) := by decide +kernel
theorem dX12_readsWorker_147 : decode cX12_readsWorker 147 = .ok (.iastore, 1) := by decide +kernel
theorem dX12_readsWorker_148 : decode cX12_readsWorker 148 = .ok (.return_, 1) := by decide +kernel
theorem dX12_readsJobs_0 : decode cX12_readsJobs 0 = .ok (.aload_n 0, 1) := by decide +kernel
theorem dX12_readsJobs_1 : decode cX12_readsJobs 1 = .ok (.ldc 140, 2) := by decide +kernel
theorem dX12_readsJobs_3 : decode cX12_readsJobs 3 = .ok (.invokevirtual 127, 3) := by decide +kernel
theorem dX12_readsJobs_6 : decode cX12_readsJobs 6 = .ok (.ifCond .ne 8, 3) := by decide +kernel
theorem dX12_readsJobs_9 : decode cX12_readsJobs 9 = .ok (.aload_n 0, 1) := by decide +kernel
theorem dX12_readsJobs_10 : decode cX12_readsJobs 10 = .ok (.iconst 1, 1) := by decide +kernel
theorem dX12_readsJobs_11 : decode cX12_readsJobs 11 = .ok (.invokevirtual 118, 3) := by decide +kernel
theorem dX12_readsJobs_14 : decode cX12_readsJobs 14 = .ok (.aload_n 0, 1) := by decide +kernel
theorem dX12_readsJobs_15 : decode cX12_readsJobs 15 = .ok (.invokevirtual 122, 3) := by decide +kernel
theorem dX12_readsJobs_18 : decode cX12_readsJobs 18 = .ok (.aload_n 0, 1) := by decide +kernel
theorem dX12_readsJobs_19 : decode cX12_readsJobs 19 = .ok (.getfield 27, 3) := by decide +kernel
theorem dX12_readsJobs_22 : decode cX12_readsJobs 22 = .ok (.iconst 1, 1) := by decide +kernel
theorem dX12_readsJobs_23 : decode cX12_readsJobs 23 = .ok (.aload_n 0, 1) := by decide +kernel
theorem dX12_readsJobs_24 : decode cX12_readsJobs 24 = .ok (.iconst 1, 1) := by decide +kernel
theorem dX12_readsJobs_25 : decode cX12_readsJobs 25 = .ok (.bipush 8, 2) := by decide +kernel
theorem dX12_readsJobs_27 : decode cX12_readsJobs 27 = .ok (.invokevirtual 132, 3) := by decide +kernel
theorem dX12_readsJobs_30 : decode cX12_readsJobs 30 = .ok (.iastore, 1) := by decide +kernel
theorem dX12_readsJobs_31 : decode cX12_readsJobs 31 = .ok (.aload_n 0, 1) := by decide +kernel
theorem dX12_readsJobs_32 : decode cX12_readsJobs 32 = .ok (.getfield 99, 3) := by decide +kernel
theorem dX12_readsJobs_35 : decode cX12_readsJobs 35 = .ok (.ifCond .ne 16, 3) := by decide +kernel
theorem dX12_readsJobs_38 : decode cX12_readsJobs 38 = .ok (.aload_n 0, 1) := by decide +kernel
theorem dX12_readsJobs_39 : decode cX12_readsJobs 39 = .ok (.getfield 91, 3) := by decide +kernel
theorem dX12_readsJobs_42 : decode cX12_readsJobs 42 = .ok (.iconst 3, 1) := by decide +kernel
theorem dX12_readsJobs_43 : decode cX12_readsJobs 43 = .ok (.if_icmp .eq 8, 3) := by decide +kernel
theorem dX12_readsJobs_46 : decode cX12_readsJobs 46 = .ok (.aload_n 0, 1) := by decide +kernel
theorem dX12_readsJobs_47 : decode cX12_readsJobs 47 = .ok (.iconst 1, 1) := by decide +kernel
theorem dX12_readsJobs_48 : decode cX12_readsJobs 48 = .ok (.invokevirtual 118, 3) := by decide +kernel
theorem dX12_readsJobs_51 : decode cX12_readsJobs 51 = .ok (.aload_n 0, 1) := by decide +kernel
theorem dX12_readsJobs_52 : decode cX12_readsJobs 52 = .ok (.invokevirtual 122, 3) := by decide +kernel
theorem dX12_readsJobs_55 : decode cX12_readsJobs 55 = .ok (.return_, 1) := by decide +kernel
theorem dX12_table_0 : decode cX12_table 0 = .ok (.iconst 0, 1) := by decide +kernel
theorem dX12_table_1 : decode cX12_table 1 = .ok (.istore_n 1, 1) := by decide +kernel
theorem dX12_table_2 : decode cX12_table 2 = .ok (.iload_n 1, 1) := by decide +kernel
theorem dX12_table_3 : decode cX12_table 3 = .ok (.bipush 58, 2) := by decide +kernel
theorem dX12_table_5 : decode cX12_table 5 = .ok (.if_icmp .ge 16, 3) := by decide +kernel
theorem dX12_table_8 : decode cX12_table 8 = .ok (.aload_n 0, 1) := by decide +kernel
theorem dX12_table_9 : decode cX12_table 9 = .ok (.getfield 27, 3) := by decide +kernel
theorem dX12_table_12 : decode cX12_table 12 = .ok (.iload_n 1, 1) := by decide +kernel
theorem dX12_table_13 : decode cX12_table 13 = .ok (.iconst 0, 1) := by decide +kernel
theorem dX12_table_14 : decode cX12_table 14 = .ok (.iastore, 1) := by decide +kernel
theorem dX12_table_15 : decode cX12_table 15 = .ok (.iinc 1 1, 3) := by decide +kernel
theorem dX12_table_18 : decode cX12_table 18 = .ok (.goto (-16), 3) := by decide +kernel
theorem dX12_table_21 : decode cX12_table 21 = .ok (.aload_n 0, 1) := by decide +kernel
theorem dX12_table_22 : decode cX12_table 22 = .ok (.iconst 0, 1) := by decide +kernel
theorem dX12_table_23 : decode cX12_table 23 = .ok (.putfield 78, 3) := by decide +kernel
theorem dX12_table_26 : decode cX12_table 26 = .ok (.aload_n 0, 1) := by decide +kernel
theorem dX12_table_27 : decode cX12_table 27 = .ok (.iconst 0, 1) := by decide +kernel
theorem dX12_table_28 : decode cX12_table 28 = .ok (.putfield 99, 3) := by decide +kernel
theorem dX12_table_31 : decode cX12_table 31 = .ok (.aload_n 0, 1) := by decide +kernel
theorem dX12_table_32 : decode cX12_table 32 = .ok (.iconst 0, 1) := by decide +kernel
theorem dX12_table_33 : decode cX12_table 33 = .ok (.putfield 103, 3) := by decide +kernel
theorem dX12_table_36 : decode cX12_table 36 = .ok (.aload_n 0, 1) := by decide +kernel
theorem dX12_table_37 : decode cX12_table 37 = .ok (.iconst (-1), 1) := by decide +kernel
theorem dX12_table_38 : decode cX12_table 38 = .ok (.putfield 23, 3) := by decide +kernel
theorem dX12_table_41 : decode cX12_table 41 = .ok (.aload_n 0, 1) := by decide +kernel
theorem dX12_table_42 : decode cX12_table 42 = .ok (.invokevirtual 106, 3) := by decide +kernel
theorem dX12_table_45 : decode cX12_table 45 = .ok (.aload_n 0, 1) := by decide +kernel
theorem dX12_table_46 : decode cX12_table 46 = .ok (.getfield 91, 3) := by decide +kernel
theorem dX12_table_49 : decode cX12_table 49 = .ok (.ifCond .eq 7, 3) := by decide +kernel
theorem dX12_table_52 : decode cX12_table 52 = .ok (.aload_n 0, 1) := by decide +kernel
theorem dX12_table_53 : decode cX12_table 53 = .ok (.invokevirtual 141, 3) := by decide +kernel
theorem dX12_table_56 : decode cX12_table 56 = .ok (.aload_n 0, 1) := by decide +kernel
theorem dX12_table_57 : decode cX12_table 57 = .ok (.getfield 99, 3) := by decide +kernel
theorem dX12_table_60 : decode cX12_table 60 = .ok (.ifCond .ne 17, 3) := by decide +kernel
theorem dX12_table_63 : decode cX12_table 63 = .ok (.aload_n 0, 1) := by decide +kernel
theorem dX12_table_64 : decode cX12_table 64 = .ok (.getfield 91, 3) := by decide +kernel
theorem dX12_table_67 : decode cX12_table 67 = .ok (.ifCond .eq 10, 3) := by decide +kernel
theorem dX12_table_70 : decode cX12_table 70 = .ok (.aload_n 0, 1) := by decide +kernel
theorem dX12_table_71 : decode cX12_table 71 = .ok (.invokevirtual 144, 3) := by decide +kernel
theorem dX12_table_74 : decode cX12_table 74 = .ok (.goto (-18), 3) := by decide +kernel
theorem dX12_table_77 : decode cX12_table 77 = .ok (.aload_n 0, 1) := by decide +kernel
theorem dX12_table_78 : decode cX12_table 78 = .ok (.iconst 0, 1) := by decide +kernel
theorem dX12_table_79 : decode cX12_table 79 = .ok (.putfield 75, 3) := by decide +kernel
theorem dX12_table_82 : decode cX12_table 82 = .ok (.aload_n 0, 1) := by decide +kernel
theorem dX12_table_83 : decode cX12_table 83 = .ok (.getfield 99, 3) := by decide +kernel
theorem dX12_table_86 : decode cX12_table 86 = .ok (.ifCond .eq 6, 3) := by decide +kernel
theorem dX12_table_89 : decode cX12_table 89 = .ok (.bipush (-4), 2) := by decide +kernel
theorem dX12_table_91 : decode cX12_table 91 = .ok (.ireturn, 1) := by decide +kernel
theorem dX12_table_92 : decode cX12_table 92 = .ok (.iconst 0, 1) := by decide +kernel
theorem dX12_table_93 : decode cX12_table 93 = .ok (.istore_n 1, 1) := by decide +kernel
theorem dX12_table_94 : decode cX12_table 94 = .ok (.iload_n 1, 1) := by decide +kernel
theorem dX12_table_95 : decode cX12_table 95 = .ok (.bipush 58, 2) := by decide +kernel
theorem dX12_table_97 : decode cX12_table 97 = .ok (.if_icmp .ge 21, 3) := by decide +kernel
theorem dX12_table_100 : decode cX12_table 100 = .ok (.aload_n 0, 1) := by decide +kernel
theorem dX12_table_101 : decode cX12_table 101 = .ok (.getfield 11, 3) := by decide +kernel
theorem dX12_table_104 : decode cX12_table 104 = .ok (.iload_n 1, 1) := by decide +kernel
theorem dX12_table_105 : decode cX12_table 105 = .ok (.aload_n 0, 1) := by decide +kernel
theorem dX12_table_106 : decode cX12_table 106 = .ok (.getfield 27, 3) := by decide +kernel
theorem dX12_table_109 : decode cX12_table 109 = .ok (.iload_n 1, 1) := by decide +kernel
theorem dX12_table_110 : decode cX12_table 110 = .ok (.iaload, 1) := by decide +kernel
theorem dX12_table_111 : decode cX12_table 111 = .ok (.iastore, 1) := by decide +kernel
theorem dX12_table_112 : decode cX12_table 112 = .ok (.iinc 1 1, 3) := by decide +kernel
theorem dX12_table_115 : decode cX12_table 115 = .ok (.goto (-21), 3) := by decide +kernel
theorem dX12_table_118 : decode cX12_table 118 = .ok (.aload_n 0, 1) := by decide +kernel
theorem dX12_table_119 : decode cX12_table 119 = .ok (.iconst 0, 1) := by decide +kernel
theorem dX12_table_120 : decode cX12_table 120 = .ok (.putfield 147, 3) := by decide +kernel
theorem dX12_table_123 : decode cX12_table 123 = .ok (.aload_n 0, 1) := by decide +kernel
theorem dX12_table_124 : decode cX12_table 124 = .ok (.invokevirtual 60, 3) := by decide +kernel
theorem dX12_table_127 : decode cX12_table 127 = .ok (.ireturn, 1) := by decide +kernel
theorem dX12_fault_0 : decode cX12_fault 0 = .ok (.iload_n 1, 1) := by decide +kernel
theorem dX12_fault_1 : decode cX12_fault 1 = .ok (.ifCond .ne 10, 3) := by decide +kernel
theorem dX12_fault_4 : decode cX12_fault 4 = .ok (.aload_n 0, 1) := by decide +kernel
theorem dX12_fault_5 : decode cX12_fault 5 = .ok (.getfield 103, 3) := by decide +kernel
theorem dX12_fault_8 : decode cX12_fault 8 = .ok (.goto 16, 3) := by decide +kernel
theorem dX12_fault_11 : decode cX12_fault 11 = .ok (.iload_n 1, 1) := by decide +kernel
theorem dX12_fault_12 : decode cX12_fault 12 = .ok (.iconst 1, 1) := by decide +kernel
theorem dX12_fault_13 : decode cX12_fault 13 = .ok (.if_icmp .ne 10, 3) := by decide +kernel
theorem dX12_fault_16 : decode cX12_fault 16 = .ok (.aload_n 0, 1) := by decide +kernel
theorem dX12_fault_17 : decode cX12_fault 17 = .ok (.getfield 23, 3) := by decide +kernel
theorem dX12_fault_20 : decode cX12_fault 20 = .ok (.goto 4, 3) := by decide +kernel
theorem dX12_fault_23 : decode cX12_fault 23 = .ok (.iconst (-1), 1) := by decide +kernel
theorem dX12_fault_24 : decode cX12_fault 24 = .ok (.ireturn, 1) := by decide +kernel
theorem dX12_digit_0 : decode cX12_digit 0 = .ok (.iload_n 0, 1) := by decide +kernel
theorem dX12_digit_1 : decode cX12_digit 1 = .ok (.iconst 3, 1) := by decide +kernel
theorem dX12_digit_2 : decode cX12_digit 2 = .ok (.iload_n 2, 1) := by decide +kernel
theorem dX12_digit_3 : decode cX12_digit 3 = .ok (.iconst 1, 1) := by decide +kernel
theorem dX12_digit_4 : decode cX12_digit 4 = .ok (.isub, 1) := by decide +kernel
theorem dX12_digit_5 : decode cX12_digit 5 = .ok (.iload_n 1, 1) := by decide +kernel
theorem dX12_digit_6 : decode cX12_digit 6 = .ok (.isub, 1) := by decide +kernel
theorem dX12_digit_7 : decode cX12_digit 7 = .ok (.imul, 1) := by decide +kernel
theorem dX12_digit_8 : decode cX12_digit 8 = .ok (.ishr, 1) := by decide +kernel
theorem dX12_digit_9 : decode cX12_digit 9 = .ok (.bipush 7, 2) := by decide +kernel
theorem dX12_digit_11 : decode cX12_digit 11 = .ok (.iand, 1) := by decide +kernel
theorem dX12_digit_12 : decode cX12_digit 12 = .ok (.ireturn, 1) := by decide +kernel
theorem dX12_jobOf_0 : decode cX12_jobOf 0 = .ok (.aload_n 0, 1) := by decide +kernel
theorem dX12_jobOf_1 : decode cX12_jobOf 1 = .ok (.getfield 31, 3) := by decide +kernel
theorem dX12_jobOf_4 : decode cX12_jobOf 4 = .ok (.iload_n 1, 1) := by decide +kernel
theorem dX12_jobOf_5 : decode cX12_jobOf 5 = .ok (.iaload, 1) := by decide +kernel
theorem dX12_jobOf_6 : decode cX12_jobOf 6 = .ok (.iload_n 2, 1) := by decide +kernel
theorem dX12_jobOf_7 : decode cX12_jobOf 7 = .ok (.aload_n 0, 1) := by decide +kernel
theorem dX12_jobOf_8 : decode cX12_jobOf 8 = .ok (.invokevirtual 60, 3) := by decide +kernel
theorem dX12_jobOf_11 : decode cX12_jobOf 11 = .ok (.invokestatic 150, 3) := by decide +kernel
theorem dX12_jobOf_14 : decode cX12_jobOf 14 = .ok (.ireturn, 1) := by decide +kernel
theorem dX12_goesThrough_0 : decode cX12_goesThrough 0 = .ok (.aload_n 0, 1) := by decide +kernel
theorem dX12_goesThrough_1 : decode cX12_goesThrough 1 = .ok (.iconst 0, 1) := by decide +kernel
theorem dX12_goesThrough_2 : decode cX12_goesThrough 2 = .ok (.putfield 154, 3) := by decide +kernel
theorem dX12_goesThrough_5 : decode cX12_goesThrough 5 = .ok (.iconst 0, 1) := by decide +kernel
theorem dX12_goesThrough_6 : decode cX12_goesThrough 6 = .ok (.istore_n 3, 1) := by decide +kernel
theorem dX12_goesThrough_7 : decode cX12_goesThrough 7 = .ok (.iconst 0, 1) := by decide +kernel
theorem dX12_goesThrough_8 : decode cX12_goesThrough 8 = .ok (.istore 4, 2) := by decide +kernel
theorem dX12_goesThrough_10 : decode cX12_goesThrough 10 = .ok (.iconst 0, 1) := by decide +kernel
theorem dX12_goesThrough_11 : decode cX12_goesThrough 11 = .ok (.istore 5, 2) := by decide +kernel
theorem dX12_goesThrough_13 : decode cX12_goesThrough 13 = .ok (.iconst 0, 1) := by decide +kernel
theorem dX12_goesThrough_14 : decode cX12_goesThrough 14 = .ok (.istore 6, 2) := by decide +kernel
theorem dX12_goesThrough_16 : decode cX12_goesThrough 16 = .ok (.aload_n 0, 1) := by decide +kernel
theorem dX12_goesThrough_17 : decode cX12_goesThrough 17 = .ok (.getfield 37, 3) := by decide +kernel
theorem dX12_goesThrough_20 : decode cX12_goesThrough 20 = .ok (.iconst 0, 1) := by decide +kernel
theorem dX12_goesThrough_21 : decode cX12_goesThrough 21 = .ok (.iconst (-1), 1) := by decide +kernel
theorem dX12_goesThrough_22 : decode cX12_goesThrough 22 = .ok (.iastore, 1) := by decide +kernel
theorem dX12_goesThrough_23 : decode cX12_goesThrough 23 = .ok (.aload_n 0, 1) := by decide +kernel
theorem dX12_goesThrough_24 : decode cX12_goesThrough 24 = .ok (.invokevirtual 60, 3) := by decide +kernel
theorem dX12_goesThrough_27 : decode cX12_goesThrough 27 = .ok (.ifCond .ne 23, 3) := by decide +kernel
theorem dX12_goesThrough_30 : decode cX12_goesThrough 30 = .ok (.aload_n 0, 1) := by decide +kernel
theorem dX12_goesThrough_31 : decode cX12_goesThrough 31 = .ok (.getfield 31, 3) := by decide +kernel
theorem dX12_goesThrough_34 : decode cX12_goesThrough 34 = .ok (.iconst 0, 1) := by decide +kernel
theorem dX12_goesThrough_35 : decode cX12_goesThrough 35 = .ok (.iconst 0, 1) := by decide +kernel
theorem dX12_goesThrough_36 : decode cX12_goesThrough 36 = .ok (.iastore, 1) := by decide +kernel
theorem dX12_goesThrough_37 : decode cX12_goesThrough 37 = .ok (.aload_n 0, 1) := by decide +kernel
theorem dX12_goesThrough_38 : decode cX12_goesThrough 38 = .ok (.getfield 34, 3) := by decide +kernel
theorem dX12_goesThrough_41 : decode cX12_goesThrough 41 = .ok (.iconst 0, 1) := by decide +kernel
theorem dX12_goesThrough_42 : decode cX12_goesThrough 42 = .ok (.iconst 0, 1) := by decide +kernel
theorem dX12_goesThrough_43 : decode cX12_goesThrough 43 = .ok (.iastore, 1) := by decide +kernel
theorem dX12_goesThrough_44 : decode cX12_goesThrough 44 = .ok (.aload_n 0, 1) := by decide +kernel
theorem dX12_goesThrough_45 : decode cX12_goesThrough 45 = .ok (.iconst 1, 1) := by decide +kernel
theorem dX12_goesThrough_46 : decode cX12_goesThrough 46 = .ok (.putfield 154, 3) := by decide +kernel
theorem dX12_goesThrough_49 : decode cX12_goesThrough 49 = .ok (.return_, 1) := by decide +kernel
theorem dX12_goesThrough_50 : decode cX12_goesThrough 50 = .ok (.iload_n 3, 1) := by decide +kernel
theorem dX12_goesThrough_51 : decode cX12_goesThrough 51 = .ok (.ifCond .lt 234, 3) := by decide +kernel
theorem dX12_goesThrough_54 : decode cX12_goesThrough 54 = .ok (.aload_n 0, 1) := by decide +kernel
theorem dX12_goesThrough_55 : decode cX12_goesThrough 55 = .ok (.getfield 37, 3) := by decide +kernel
theorem dX12_goesThrough_58 : decode cX12_goesThrough 58 = .ok (.iload_n 3, 1) := by decide +kernel
theorem dX12_goesThrough_59 : decode cX12_goesThrough 59 = .ok (.iaload, 1) := by decide +kernel
theorem dX12_goesThrough_60 : decode cX12_goesThrough 60 = .ok (.iconst (-1), 1) := by decide +kernel
theorem dX12_goesThrough_61 : decode cX12_goesThrough 61 = .ok (.if_icmp .eq 39, 3) := by decide +kernel
theorem dX12_goesThrough_64 : decode cX12_goesThrough 64 = .ok (.iload_n 3, 1) := by decide +kernel
theorem dX12_goesThrough_65 : decode cX12_goesThrough 65 = .ok (.iload_n 2, 1) := by decide +kernel
theorem dX12_goesThrough_66 : decode cX12_goesThrough 66 = .ok (.if_icmp .eq 34, 3) := by decide +kernel
theorem dX12_goesThrough_69 : decode cX12_goesThrough 69 = .ok (.iload 4, 2) := by decide +kernel
theorem dX12_goesThrough_71 : decode cX12_goesThrough 71 = .ok (.iconst 1, 1) := by decide +kernel
theorem dX12_goesThrough_72 : decode cX12_goesThrough 72 = .ok (.aload_n 0, 1) := by decide +kernel
theorem dX12_goesThrough_73 : decode cX12_goesThrough 73 = .ok (.getfield 37, 3) := by decide +kernel
theorem dX12_goesThrough_76 : decode cX12_goesThrough 76 = .ok (.iload_n 3, 1) := by decide +kernel
theorem dX12_goesThrough_77 : decode cX12_goesThrough 77 = .ok (.iaload, 1) := by decide +kernel
theorem dX12_goesThrough_78 : decode cX12_goesThrough 78 = .ok (.ishl, 1) := by decide +kernel
theorem dX12_goesThrough_79 : decode cX12_goesThrough 79 = .ok (.iconst (-1), 1) := by decide +kernel
theorem dX12_goesThrough_80 : decode cX12_goesThrough 80 = .ok (.ixor, 1) := by decide +kernel
theorem dX12_goesThrough_81 : decode cX12_goesThrough 81 = .ok (.iand, 1) := by decide +kernel
theorem dX12_goesThrough_82 : decode cX12_goesThrough 82 = .ok (.istore 4, 2) := by decide +kernel
theorem dX12_goesThrough_84 : decode cX12_goesThrough 84 = .ok (.iload 5, 2) := by decide +kernel
theorem dX12_goesThrough_86 : decode cX12_goesThrough 86 = .ok (.aload_n 0, 1) := by decide +kernel
theorem dX12_goesThrough_87 : decode cX12_goesThrough 87 = .ok (.iload_n 3, 1) := by decide +kernel
theorem dX12_goesThrough_88 : decode cX12_goesThrough 88 = .ok (.aload_n 0, 1) := by decide +kernel
theorem dX12_goesThrough_89 : decode cX12_goesThrough 89 = .ok (.getfield 37, 3) := by decide +kernel
theorem dX12_goesThrough_92 : decode cX12_goesThrough 92 = .ok (.iload_n 3, 1) := by decide +kernel
theorem dX12_goesThrough_93 : decode cX12_goesThrough 93 = .ok (.iaload, 1) := by decide +kernel
theorem dX12_goesThrough_94 : decode cX12_goesThrough 94 = .ok (.invokevirtual 157, 3) := by decide +kernel
theorem dX12_goesThrough_97 : decode cX12_goesThrough 97 = .ok (.isub, 1) := by decide +kernel
theorem dX12_goesThrough_98 : decode cX12_goesThrough 98 = .ok (.istore 5, 2) := by decide +kernel
theorem dX12_goesThrough_100 : decode cX12_goesThrough 100 = .ok (.iload 6, 2) := by decide +kernel
theorem dX12_goesThrough_102 : decode cX12_goesThrough 102 = .ok (.iconst 3, 1) := by decide +kernel
theorem dX12_goesThrough_103 : decode cX12_goesThrough 103 = .ok (.aload_n 0, 1) := by decide +kernel
theorem dX12_goesThrough_104 : decode cX12_goesThrough 104 = .ok (.invokevirtual 60, 3) := by decide +kernel
theorem dX12_goesThrough_107 : decode cX12_goesThrough 107 = .ok (.iload_n 3, 1) := by decide +kernel
theorem dX12_goesThrough_108 : decode cX12_goesThrough 108 = .ok (.isub, 1) := by decide +kernel
theorem dX12_goesThrough_109 : decode cX12_goesThrough 109 = .ok (.imul, 1) := by decide +kernel
theorem dX12_goesThrough_110 : decode cX12_goesThrough 110 = .ok (.ishr, 1) := by decide +kernel
theorem dX12_goesThrough_111 : decode cX12_goesThrough 111 = .ok (.iconst 3, 1) := by decide +kernel
theorem dX12_goesThrough_112 : decode cX12_goesThrough 112 = .ok (.aload_n 0, 1) := by decide +kernel
theorem dX12_goesThrough_113 : decode cX12_goesThrough 113 = .ok (.invokevirtual 60, 3) := by decide +kernel
theorem dX12_goesThrough_116 : decode cX12_goesThrough 116 = .ok (.iload_n 3, 1) := by decide +kernel
theorem dX12_goesThrough_117 : decode cX12_goesThrough 117 = .ok (.isub, 1) := by decide +kernel
theorem dX12_goesThrough_118 : decode cX12_goesThrough 118 = .ok (.imul, 1) := by decide +kernel
theorem dX12_goesThrough_119 : decode cX12_goesThrough 119 = .ok (.ishl, 1) := by decide +kernel
theorem dX12_goesThrough_120 : decode cX12_goesThrough 120 = .ok (.istore 6, 2) := by decide +kernel
theorem dX12_goesThrough_122 : decode cX12_goesThrough 122 = .ok (.aload_n 0, 1) := by decide +kernel
theorem dX12_goesThrough_123 : decode cX12_goesThrough 123 = .ok (.getfield 37, 3) := by decide +kernel
theorem dX12_goesThrough_126 : decode cX12_goesThrough 126 = .ok (.iload_n 3, 1) := by decide +kernel
theorem dX12_goesThrough_127 : decode cX12_goesThrough 127 = .ok (.iaload, 1) := by decide +kernel
theorem dX12_goesThrough_128 : decode cX12_goesThrough 128 = .ok (.iconst 1, 1) := by decide +kernel
theorem dX12_goesThrough_129 : decode cX12_goesThrough 129 = .ok (.iadd, 1) := by decide +kernel
theorem dX12_goesThrough_130 : decode cX12_goesThrough 130 = .ok (.istore 7, 2) := by decide +kernel
theorem dX12_goesThrough_132 : decode cX12_goesThrough 132 = .ok (.iload 7, 2) := by decide +kernel
theorem dX12_goesThrough_134 : decode cX12_goesThrough 134 = .ok (.bipush 8, 2) := by decide +kernel
theorem dX12_goesThrough_136 : decode cX12_goesThrough 136 = .ok (.if_icmp .ge 26, 3) := by decide +kernel
theorem dX12_goesThrough_139 : decode cX12_goesThrough 139 = .ok (.aload_n 0, 1) := by decide +kernel
theorem dX12_goesThrough_140 : decode cX12_goesThrough 140 = .ok (.iload_n 3, 1) := by decide +kernel
theorem dX12_goesThrough_141 : decode cX12_goesThrough 141 = .ok (.iload 7, 2) := by decide +kernel
theorem dX12_goesThrough_143 : decode cX12_goesThrough 143 = .ok (.iload_n 1, 1) := by decide +kernel
theorem dX12_goesThrough_144 : decode cX12_goesThrough 144 = .ok (.iload 4, 2) := by decide +kernel
theorem dX12_goesThrough_146 : decode cX12_goesThrough 146 = .ok (.iconst (-1), 1) := by decide +kernel
theorem dX12_goesThrough_147 : decode cX12_goesThrough 147 = .ok (.ixor, 1) := by decide +kernel
theorem dX12_goesThrough_148 : decode cX12_goesThrough 148 = .ok (.iand, 1) := by decide +kernel
theorem dX12_goesThrough_149 : decode cX12_goesThrough 149 = .ok (.iload_n 2, 1) := by decide +kernel
theorem dX12_goesThrough_150 : decode cX12_goesThrough 150 = .ok (.invokevirtual 160, 3) := by decide +kernel
theorem dX12_goesThrough_153 : decode cX12_goesThrough 153 = .ok (.ifCond .ne 9, 3) := by decide +kernel
theorem dX12_goesThrough_156 : decode cX12_goesThrough 156 = .ok (.iinc 7 1, 3) := by decide +kernel
theorem dX12_goesThrough_159 : decode cX12_goesThrough 159 = .ok (.goto (-27), 3) := by decide +kernel
theorem dX12_goesThrough_162 : decode cX12_goesThrough 162 = .ok (.aload_n 0, 1) := by decide +kernel
theorem dX12_goesThrough_163 : decode cX12_goesThrough 163 = .ok (.getfield 37, 3) := by decide +kernel
theorem dX12_goesThrough_166 : decode cX12_goesThrough 166 = .ok (.iload_n 3, 1) := by decide +kernel
theorem dX12_goesThrough_167 : decode cX12_goesThrough 167 = .ok (.iload 7, 2) := by decide +kernel
theorem dX12_goesThrough_169 : decode cX12_goesThrough 169 = .ok (.iastore, 1) := by decide +kernel
theorem dX12_goesThrough_170 : decode cX12_goesThrough 170 = .ok (.iload 7, 2) := by decide +kernel
theorem dX12_goesThrough_172 : decode cX12_goesThrough 172 = .ok (.bipush 8, 2) := by decide +kernel
theorem dX12_goesThrough_174 : decode cX12_goesThrough 174 = .ok (.if_icmp .ne 9, 3) := by decide +kernel
theorem dX12_goesThrough_177 : decode cX12_goesThrough 177 = .ok (.iinc 3 (-1), 3) := by decide +kernel
theorem dX12_goesThrough_180 : decode cX12_goesThrough 180 = .ok (.goto (-130), 3) := by decide +kernel
theorem dX12_goesThrough_183 : decode cX12_goesThrough 183 = .ok (.iload_n 3, 1) := by decide +kernel
theorem dX12_goesThrough_184 : decode cX12_goesThrough 184 = .ok (.iload_n 2, 1) := by decide +kernel
theorem dX12_goesThrough_185 : decode cX12_goesThrough 185 = .ok (.if_icmp .eq 24, 3) := by decide +kernel
theorem dX12_goesThrough_188 : decode cX12_goesThrough 188 = .ok (.iload 4, 2) := by decide +kernel
theorem dX12_goesThrough_190 : decode cX12_goesThrough 190 = .ok (.iconst 1, 1) := by decide +kernel
theorem dX12_goesThrough_191 : decode cX12_goesThrough 191 = .ok (.iload 7, 2) := by decide +kernel
theorem dX12_goesThrough_193 : decode cX12_goesThrough 193 = .ok (.ishl, 1) := by decide +kernel
theorem dX12_goesThrough_194 : decode cX12_goesThrough 194 = .ok (.ior, 1) := by decide +kernel
theorem dX12_goesThrough_195 : decode cX12_goesThrough 195 = .ok (.istore 4, 2) := by decide +kernel
theorem dX12_goesThrough_197 : decode cX12_goesThrough 197 = .ok (.iload 5, 2) := by decide +kernel
theorem dX12_goesThrough_199 : decode cX12_goesThrough 199 = .ok (.aload_n 0, 1) := by decide +kernel
theorem dX12_goesThrough_200 : decode cX12_goesThrough 200 = .ok (.iload_n 3, 1) := by decide +kernel
theorem dX12_goesThrough_201 : decode cX12_goesThrough 201 = .ok (.iload 7, 2) := by decide +kernel
theorem dX12_goesThrough_203 : decode cX12_goesThrough 203 = .ok (.invokevirtual 157, 3) := by decide +kernel
theorem dX12_goesThrough_206 : decode cX12_goesThrough 206 = .ok (.iadd, 1) := by decide +kernel
theorem dX12_goesThrough_207 : decode cX12_goesThrough 207 = .ok (.istore 5, 2) := by decide +kernel
theorem dX12_goesThrough_209 : decode cX12_goesThrough 209 = .ok (.iload 6, 2) := by decide +kernel
theorem dX12_goesThrough_211 : decode cX12_goesThrough 211 = .ok (.iload 7, 2) := by decide +kernel
theorem dX12_goesThrough_213 : decode cX12_goesThrough 213 = .ok (.iconst 3, 1) := by decide +kernel
theorem dX12_goesThrough_214 : decode cX12_goesThrough 214 = .ok (.aload_n 0, 1) := by decide +kernel
theorem dX12_goesThrough_215 : decode cX12_goesThrough 215 = .ok (.invokevirtual 60, 3) := by decide +kernel
theorem dX12_goesThrough_218 : decode cX12_goesThrough 218 = .ok (.iconst 1, 1) := by decide +kernel
theorem dX12_goesThrough_219 : decode cX12_goesThrough 219 = .ok (.isub, 1) := by decide +kernel
theorem dX12_goesThrough_220 : decode cX12_goesThrough 220 = .ok (.iload_n 3, 1) := by decide +kernel
theorem dX12_goesThrough_221 : decode cX12_goesThrough 221 = .ok (.isub, 1) := by decide +kernel
theorem dX12_goesThrough_222 : decode cX12_goesThrough 222 = .ok (.imul, 1) := by decide +kernel
theorem dX12_goesThrough_223 : decode cX12_goesThrough 223 = .ok (.ishl, 1) := by decide +kernel
theorem dX12_goesThrough_224 : decode cX12_goesThrough 224 = .ok (.ior, 1) := by decide +kernel
theorem dX12_goesThrough_225 : decode cX12_goesThrough 225 = .ok (.istore 6, 2) := by decide +kernel
theorem dX12_goesThrough_227 : decode cX12_goesThrough 227 = .ok (.iload_n 3, 1) := by decide +kernel
theorem dX12_goesThrough_228 : decode cX12_goesThrough 228 = .ok (.aload_n 0, 1) := by decide +kernel
theorem dX12_goesThrough_229 : decode cX12_goesThrough 229 = .ok (.invokevirtual 60, 3) := by decide +kernel
theorem dX12_goesThrough_232 : decode cX12_goesThrough 232 = .ok (.iconst 1, 1) := by decide +kernel
theorem dX12_goesThrough_233 : decode cX12_goesThrough 233 = .ok (.isub, 1) := by decide +kernel
theorem dX12_goesThrough_234 : decode cX12_goesThrough 234 = .ok (.if_icmp .ne 38, 3) := by decide +kernel
theorem dX12_goesThrough_237 : decode cX12_goesThrough 237 = .ok (.aload_n 0, 1) := by decide +kernel
theorem dX12_goesThrough_238 : decode cX12_goesThrough 238 = .ok (.getfield 31, 3) := by decide +kernel
theorem dX12_goesThrough_241 : decode cX12_goesThrough 241 = .ok (.aload_n 0, 1) := by decide +kernel
theorem dX12_goesThrough_242 : decode cX12_goesThrough 242 = .ok (.getfield 154, 3) := by decide +kernel
theorem dX12_goesThrough_245 : decode cX12_goesThrough 245 = .ok (.iload 6, 2) := by decide +kernel
theorem dX12_goesThrough_247 : decode cX12_goesThrough 247 = .ok (.iastore, 1) := by decide +kernel
theorem dX12_goesThrough_248 : decode cX12_goesThrough 248 = .ok (.aload_n 0, 1) := by decide +kernel
theorem dX12_goesThrough_249 : decode cX12_goesThrough 249 = .ok (.getfield 34, 3) := by decide +kernel
theorem dX12_goesThrough_252 : decode cX12_goesThrough 252 = .ok (.aload_n 0, 1) := by decide +kernel
theorem dX12_goesThrough_253 : decode cX12_goesThrough 253 = .ok (.getfield 154, 3) := by decide +kernel
theorem dX12_goesThrough_256 : decode cX12_goesThrough 256 = .ok (.iload 5, 2) := by decide +kernel
theorem dX12_goesThrough_258 : decode cX12_goesThrough 258 = .ok (.iastore, 1) := by decide +kernel
theorem dX12_goesThrough_259 : decode cX12_goesThrough 259 = .ok (.aload_n 0, 1) := by decide +kernel
theorem dX12_goesThrough_260 : decode cX12_goesThrough 260 = .ok (.dup, 1) := by decide +kernel
theorem dX12_goesThrough_261 : decode cX12_goesThrough 261 = .ok (.getfield 154, 3) := by decide +kernel
theorem dX12_goesThrough_264 : decode cX12_goesThrough 264 = .ok (.iconst 1, 1) := by decide +kernel
theorem dX12_goesThrough_265 : decode cX12_goesThrough 265 = .ok (.iadd, 1) := by decide +kernel
theorem dX12_goesThrough_266 : decode cX12_goesThrough 266 = .ok (.putfield 154, 3) := by decide +kernel
theorem dX12_goesThrough_269 : decode cX12_goesThrough 269 = .ok (.goto 13, 3) := by decide +kernel
theorem dX12_goesThrough_272 : decode cX12_goesThrough 272 = .ok (.iinc 3 1, 3) := by decide +kernel
theorem dX12_goesThrough_275 : decode cX12_goesThrough 275 = .ok (.aload_n 0, 1) := by decide +kernel
theorem dX12_goesThrough_276 : decode cX12_goesThrough 276 = .ok (.getfield 37, 3) := by decide +kernel
theorem dX12_goesThrough_279 : decode cX12_goesThrough 279 = .ok (.iload_n 3, 1) := by decide +kernel
theorem dX12_goesThrough_280 : decode cX12_goesThrough 280 = .ok (.iconst (-1), 1) := by decide +kernel
theorem dX12_goesThrough_281 : decode cX12_goesThrough 281 = .ok (.iastore, 1) := by decide +kernel
theorem dX12_goesThrough_282 : decode cX12_goesThrough 282 = .ok (.goto (-232), 3) := by decide +kernel
theorem dX12_goesThrough_285 : decode cX12_goesThrough 285 = .ok (.return_, 1) := by decide +kernel
theorem dX12_canTake_0 : decode cX12_canTake 0 = .ok (.iload_n 1, 1) := by decide +kernel
theorem dX12_canTake_1 : decode cX12_canTake 1 = .ok (.iload 4, 2) := by decide +kernel
theorem dX12_canTake_3 : decode cX12_canTake 3 = .ok (.if_icmp .ne 13, 3) := by decide +kernel
theorem dX12_canTake_6 : decode cX12_canTake 6 = .ok (.iload_n 2, 1) := by decide +kernel
theorem dX12_canTake_7 : decode cX12_canTake 7 = .ok (.ifCond .ne 7, 3) := by decide +kernel
theorem dX12_canTake_10 : decode cX12_canTake 10 = .ok (.iconst 1, 1) := by decide +kernel
theorem dX12_canTake_11 : decode cX12_canTake 11 = .ok (.goto 4, 3) := by decide +kernel
theorem dX12_canTake_14 : decode cX12_canTake 14 = .ok (.iconst 0, 1) := by decide +kernel
theorem dX12_canTake_15 : decode cX12_canTake 15 = .ok (.ireturn, 1) := by decide +kernel
theorem dX12_canTake_16 : decode cX12_canTake 16 = .ok (.iload_n 3, 1) := by decide +kernel
theorem dX12_canTake_17 : decode cX12_canTake 17 = .ok (.iload_n 2, 1) := by decide +kernel
theorem dX12_canTake_18 : decode cX12_canTake 18 = .ok (.invokestatic 164, 3) := by decide +kernel
theorem dX12_canTake_21 : decode cX12_canTake 21 = .ok (.ifCond .eq 18, 3) := by decide +kernel
theorem dX12_canTake_24 : decode cX12_canTake 24 = .ok (.aload_n 0, 1) := by decide +kernel
theorem dX12_canTake_25 : decode cX12_canTake 25 = .ok (.iload_n 1, 1) := by decide +kernel
theorem dX12_canTake_26 : decode cX12_canTake 26 = .ok (.iload_n 2, 1) := by decide +kernel
theorem dX12_canTake_27 : decode cX12_canTake 27 = .ok (.invokevirtual 157, 3) := by decide +kernel
theorem dX12_canTake_30 : decode cX12_canTake 30 = .ok (.ldc 131, 2) := by decide +kernel
theorem dX12_canTake_32 : decode cX12_canTake 32 = .ok (.if_icmp .eq 7, 3) := by decide +kernel
theorem dX12_canTake_35 : decode cX12_canTake 35 = .ok (.iconst 1, 1) := by decide +kernel
theorem dX12_canTake_36 : decode cX12_canTake 36 = .ok (.goto 4, 3) := by decide +kernel
theorem dX12_canTake_39 : decode cX12_canTake 39 = .ok (.iconst 0, 1) := by decide +kernel
theorem dX12_canTake_40 : decode cX12_canTake 40 = .ok (.ireturn, 1) := by decide +kernel
theorem dX12_allJobs_0 : decode cX12_allJobs 0 = .ok (.iconst 1, 1) := by decide +kernel
theorem dX12_allJobs_1 : decode cX12_allJobs 1 = .ok (.aload_n 0, 1) := by decide +kernel
theorem dX12_allJobs_2 : decode cX12_allJobs 2 = .ok (.invokevirtual 68, 3) := by decide +kernel
theorem dX12_allJobs_5 : decode cX12_allJobs 5 = .ok (.ishl, 1) := by decide +kernel
theorem dX12_allJobs_6 : decode cX12_allJobs 6 = .ok (.iconst 1, 1) := by decide +kernel
theorem dX12_allJobs_7 : decode cX12_allJobs 7 = .ok (.isub, 1) := by decide +kernel
theorem dX12_allJobs_8 : decode cX12_allJobs 8 = .ok (.ireturn, 1) := by decide +kernel
theorem dX12_goesAll_0 : decode cX12_goesAll 0 = .ok (.aload_n 0, 1) := by decide +kernel
theorem dX12_goesAll_1 : decode cX12_goesAll 1 = .ok (.aload_n 0, 1) := by decide +kernel
theorem dX12_goesAll_2 : decode cX12_goesAll 2 = .ok (.invokevirtual 166, 3) := by decide +kernel
theorem dX12_goesAll_5 : decode cX12_goesAll 5 = .ok (.iconst (-1), 1) := by decide +kernel
theorem dX12_goesAll_6 : decode cX12_goesAll 6 = .ok (.invokevirtual 169, 3) := by decide +kernel
theorem dX12_goesAll_9 : decode cX12_goesAll 9 = .ok (.return_, 1) := by decide +kernel
theorem dX12_least_0 : decode cX12_least 0 = .ok (.iconst (-1), 1) := by decide +kernel
theorem dX12_least_1 : decode cX12_least 1 = .ok (.istore_n 1, 1) := by decide +kernel
theorem dX12_least_2 : decode cX12_least 2 = .ok (.iconst 0, 1) := by decide +kernel
theorem dX12_least_3 : decode cX12_least 3 = .ok (.istore_n 2, 1) := by decide +kernel
theorem dX12_least_4 : decode cX12_least 4 = .ok (.iload_n 2, 1) := by decide +kernel
theorem dX12_least_5 : decode cX12_least 5 = .ok (.aload_n 0, 1) := by decide +kernel
theorem dX12_least_6 : decode cX12_least 6 = .ok (.getfield 154, 3) := by decide +kernel
theorem dX12_least_9 : decode cX12_least 9 = .ok (.if_icmp .ge 35, 3) := by decide +kernel
theorem dX12_least_12 : decode cX12_least 12 = .ok (.iload_n 1, 1) := by decide +kernel
theorem dX12_least_13 : decode cX12_least 13 = .ok (.iconst (-1), 1) := by decide +kernel
theorem dX12_least_14 : decode cX12_least 14 = .ok (.if_icmp .eq 18, 3) := by decide +kernel
theorem dX12_least_17 : decode cX12_least 17 = .ok (.aload_n 0, 1) := by decide +kernel
theorem dX12_least_18 : decode cX12_least 18 = .ok (.getfield 34, 3) := by decide +kernel
theorem dX12_least_21 : decode cX12_least 21 = .ok (.iload_n 2, 1) := by decide +kernel
theorem dX12_least_22 : decode cX12_least 22 = .ok (.iaload, 1) := by decide +kernel
theorem dX12_least_23 : decode cX12_least 23 = .ok (.aload_n 0, 1) := by decide +kernel
theorem dX12_least_24 : decode cX12_least 24 = .ok (.getfield 34, 3) := by decide +kernel
theorem dX12_least_27 : decode cX12_least 27 = .ok (.iload_n 1, 1) := by decide +kernel
theorem dX12_least_28 : decode cX12_least 28 = .ok (.iaload, 1) := by decide +kernel
theorem dX12_least_29 : decode cX12_least 29 = .ok (.if_icmp .ge 7, 3) := by decide +kernel
theorem dX12_least_32 : decode cX12_least 32 = .ok (.iload_n 2, 1) := by decide +kernel
theorem dX12_least_33 : decode cX12_least 33 = .ok (.goto 4, 3) := by decide +kernel
theorem dX12_least_36 : decode cX12_least 36 = .ok (.iload_n 1, 1) := by decide +kernel
theorem dX12_least_37 : decode cX12_least 37 = .ok (.istore_n 1, 1) := by decide +kernel
theorem dX12_least_38 : decode cX12_least 38 = .ok (.iinc 2 1, 3) := by decide +kernel
theorem dX12_least_41 : decode cX12_least 41 = .ok (.goto (-37), 3) := by decide +kernel
theorem dX12_least_44 : decode cX12_least 44 = .ok (.iload_n 1, 1) := by decide +kernel
theorem dX12_least_45 : decode cX12_least 45 = .ok (.ireturn, 1) := by decide +kernel
theorem dX12_laysFirst_0 : decode cX12_laysFirst 0 = .ok (.aload_n 0, 1) := by decide +kernel
theorem dX12_laysFirst_1 : decode cX12_laysFirst 1 = .ok (.invokevirtual 173, 3) := by decide +kernel
theorem dX12_laysFirst_4 : decode cX12_laysFirst 4 = .ok (.aload_n 0, 1) := by decide +kernel
theorem dX12_laysFirst_5 : decode cX12_laysFirst 5 = .ok (.iconst 0, 1) := by decide +kernel
theorem dX12_laysFirst_6 : decode cX12_laysFirst 6 = .ok (.putfield 176, 3) := by decide +kernel
theorem dX12_laysFirst_9 : decode cX12_laysFirst 9 = .ok (.iconst 0, 1) := by decide +kernel
theorem dX12_laysFirst_10 : decode cX12_laysFirst 10 = .ok (.istore_n 1, 1) := by decide +kernel
theorem dX12_laysFirst_11 : decode cX12_laysFirst 11 = .ok (.iload_n 1, 1) := by decide +kernel
theorem dX12_laysFirst_12 : decode cX12_laysFirst 12 = .ok (.aload_n 0, 1) := by decide +kernel
theorem dX12_laysFirst_13 : decode cX12_laysFirst 13 = .ok (.getfield 154, 3) := by decide +kernel
theorem dX12_laysFirst_16 : decode cX12_laysFirst 16 = .ok (.if_icmp .ge 120, 3) := by decide +kernel
theorem dX12_laysFirst_19 : decode cX12_laysFirst 19 = .ok (.aload_n 0, 1) := by decide +kernel
theorem dX12_laysFirst_20 : decode cX12_laysFirst 20 = .ok (.getfield 176, 3) := by decide +kernel
theorem dX12_laysFirst_23 : decode cX12_laysFirst 23 = .ok (.sipush 200, 3) := by decide +kernel
theorem dX12_laysFirst_26 : decode cX12_laysFirst 26 = .ok (.if_icmp .ne 28, 3) := by decide +kernel
theorem dX12_laysFirst_29 : decode cX12_laysFirst 29 = .ok (.aload_n 0, 1) := by decide +kernel
theorem dX12_laysFirst_30 : decode cX12_laysFirst 30 = .ok (.getfield 34, 3) := by decide +kernel
theorem dX12_laysFirst_33 : decode cX12_laysFirst 33 = .ok (.iload_n 1, 1) := by decide +kernel
theorem dX12_laysFirst_34 : decode cX12_laysFirst 34 = .ok (.iaload, 1) := by decide +kernel
theorem dX12_laysFirst_35 : decode cX12_laysFirst 35 = .ok (.aload_n 0, 1) := by decide +kernel
theorem dX12_laysFirst_36 : decode cX12_laysFirst 36 = .ok (.getfield 34, 3) := by decide +kernel
theorem dX12_laysFirst_39 : decode cX12_laysFirst 39 = .ok (.aload_n 0, 1) := by decide +kernel
theorem dX12_laysFirst_40 : decode cX12_laysFirst 40 = .ok (.getfield 40, 3) := by decide +kernel
theorem dX12_laysFirst_43 : decode cX12_laysFirst 43 = .ok (.sipush 199, 3) := by decide +kernel
theorem dX12_laysFirst_46 : decode cX12_laysFirst 46 = .ok (.iaload, 1) := by decide +kernel
theorem dX12_laysFirst_47 : decode cX12_laysFirst 47 = .ok (.iaload, 1) := by decide +kernel
theorem dX12_laysFirst_48 : decode cX12_laysFirst 48 = .ok (.if_icmp .lt 6, 3) := by decide +kernel
theorem dX12_laysFirst_51 : decode cX12_laysFirst 51 = .ok (.goto 79, 3) := by decide +kernel
theorem dX12_laysFirst_54 : decode cX12_laysFirst 54 = .ok (.aload_n 0, 1) := by decide +kernel
theorem dX12_laysFirst_55 : decode cX12_laysFirst 55 = .ok (.sipush 200, 3) := by decide +kernel
theorem dX12_laysFirst_58 : decode cX12_laysFirst 58 = .ok (.aload_n 0, 1) := by decide +kernel
theorem dX12_laysFirst_59 : decode cX12_laysFirst 59 = .ok (.getfield 176, 3) := by decide +kernel
theorem dX12_laysFirst_62 : decode cX12_laysFirst 62 = .ok (.iconst 1, 1) := by decide +kernel
theorem dX12_laysFirst_63 : decode cX12_laysFirst 63 = .ok (.iadd, 1) := by decide +kernel
theorem dX12_laysFirst_64 : decode cX12_laysFirst 64 = .ok (.invokestatic 94, 3) := by decide +kernel
theorem dX12_laysFirst_67 : decode cX12_laysFirst 67 = .ok (.putfield 176, 3) := by decide +kernel
theorem dX12_laysFirst_70 : decode cX12_laysFirst 70 = .ok (.aload_n 0, 1) := by decide +kernel
theorem dX12_laysFirst_71 : decode cX12_laysFirst 71 = .ok (.getfield 176, 3) := by decide +kernel
theorem dX12_laysFirst_74 : decode cX12_laysFirst 74 = .ok (.iconst 1, 1) := by decide +kernel
theorem dX12_laysFirst_75 : decode cX12_laysFirst 75 = .ok (.isub, 1) := by decide +kernel
theorem dX12_laysFirst_76 : decode cX12_laysFirst 76 = .ok (.istore_n 2, 1) := by decide +kernel
theorem dX12_laysFirst_77 : decode cX12_laysFirst 77 = .ok (.iload_n 2, 1) := by decide +kernel
theorem dX12_laysFirst_78 : decode cX12_laysFirst 78 = .ok (.ifCond .le 45, 3) := by decide +kernel
theorem dX12_laysFirst_81 : decode cX12_laysFirst 81 = .ok (.aload_n 0, 1) := by decide +kernel
theorem dX12_laysFirst_82 : decode cX12_laysFirst 82 = .ok (.getfield 34, 3) := by decide +kernel
theorem dX12_laysFirst_85 : decode cX12_laysFirst 85 = .ok (.aload_n 0, 1) := by decide +kernel
theorem dX12_laysFirst_86 : decode cX12_laysFirst 86 = .ok (.getfield 40, 3) := by decide +kernel
theorem dX12_laysFirst_89 : decode cX12_laysFirst 89 = .ok (.iload_n 2, 1) := by decide +kernel
theorem dX12_laysFirst_90 : decode cX12_laysFirst 90 = .ok (.iconst 1, 1) := by decide +kernel
theorem dX12_laysFirst_91 : decode cX12_laysFirst 91 = .ok (.isub, 1) := by decide +kernel
theorem dX12_laysFirst_92 : decode cX12_laysFirst 92 = .ok (.iaload, 1) := by decide +kernel
theorem dX12_laysFirst_93 : decode cX12_laysFirst 93 = .ok (.iaload, 1) := by decide +kernel
theorem dX12_laysFirst_94 : decode cX12_laysFirst 94 = .ok (.aload_n 0, 1) := by decide +kernel
theorem dX12_laysFirst_95 : decode cX12_laysFirst 95 = .ok (.getfield 34, 3) := by decide +kernel
theorem dX12_laysFirst_98 : decode cX12_laysFirst 98 = .ok (.iload_n 1, 1) := by decide +kernel
theorem dX12_laysFirst_99 : decode cX12_laysFirst 99 = .ok (.iaload, 1) := by decide +kernel
theorem dX12_laysFirst_100 : decode cX12_laysFirst 100 = .ok (.if_icmp .le 23, 3) := by decide +kernel
theorem dX12_laysFirst_103 : decode cX12_laysFirst 103 = .ok (.aload_n 0, 1) := by decide +kernel
theorem dX12_laysFirst_104 : decode cX12_laysFirst 104 = .ok (.getfield 40, 3) := by decide +kernel
theorem dX12_laysFirst_107 : decode cX12_laysFirst 107 = .ok (.iload_n 2, 1) := by decide +kernel
theorem dX12_laysFirst_108 : decode cX12_laysFirst 108 = .ok (.aload_n 0, 1) := by decide +kernel
theorem dX12_laysFirst_109 : decode cX12_laysFirst 109 = .ok (.getfield 40, 3) := by decide +kernel
theorem dX12_laysFirst_112 : decode cX12_laysFirst 112 = .ok (.iload_n 2, 1) := by decide +kernel
theorem dX12_laysFirst_113 : decode cX12_laysFirst 113 = .ok (.iconst 1, 1) := by decide +kernel
theorem dX12_laysFirst_114 : decode cX12_laysFirst 114 = .ok (.isub, 1) := by decide +kernel
theorem dX12_laysFirst_115 : decode cX12_laysFirst 115 = .ok (.iaload, 1) := by decide +kernel
theorem dX12_laysFirst_116 : decode cX12_laysFirst 116 = .ok (.iastore, 1) := by decide +kernel
theorem dX12_laysFirst_117 : decode cX12_laysFirst 117 = .ok (.iinc 2 (-1), 3) := by decide +kernel
theorem dX12_laysFirst_120 : decode cX12_laysFirst 120 = .ok (.goto (-43), 3) := by decide +kernel
theorem dX12_laysFirst_123 : decode cX12_laysFirst 123 = .ok (.aload_n 0, 1) := by decide +kernel
theorem dX12_laysFirst_124 : decode cX12_laysFirst 124 = .ok (.getfield 40, 3) := by decide +kernel
theorem dX12_laysFirst_127 : decode cX12_laysFirst 127 = .ok (.iload_n 2, 1) := by decide +kernel
theorem dX12_laysFirst_128 : decode cX12_laysFirst 128 = .ok (.iload_n 1, 1) := by decide +kernel
theorem dX12_laysFirst_129 : decode cX12_laysFirst 129 = .ok (.iastore, 1) := by decide +kernel
theorem dX12_laysFirst_130 : decode cX12_laysFirst 130 = .ok (.iinc 1 1, 3) := by decide +kernel
theorem dX12_laysFirst_133 : decode cX12_laysFirst 133 = .ok (.goto (-122), 3) := by decide +kernel
theorem dX12_laysFirst_136 : decode cX12_laysFirst 136 = .ok (.return_, 1) := by decide +kernel
theorem dX12_isRank_0 : decode cX12_isRank 0 = .ok (.iload_n 0, 1) := by decide +kernel
theorem dX12_isRank_1 : decode cX12_isRank 1 = .ok (.i2l, 1) := by decide +kernel
theorem dX12_isRank_2 : decode cX12_isRank 2 = .ok (.lconst 0, 1) := by decide +kernel
theorem dX12_isRank_3 : decode cX12_isRank 3 = .ok (.ldc2_w 179, 3) := by decide +kernel
theorem dX12_isRank_6 : decode cX12_isRank 6 = .ok (.invokestatic 64, 3) := by decide +kernel
theorem dX12_isRank_9 : decode cX12_isRank 9 = .ok (.ireturn, 1) := by decide +kernel
theorem dX12_isThere_0 : decode cX12_isThere 0 = .ok (.iload_n 1, 1) := by decide +kernel
theorem dX12_isThere_1 : decode cX12_isThere 1 = .ok (.invokestatic 181, 3) := by decide +kernel
theorem dX12_isThere_4 : decode cX12_isThere 4 = .ok (.ifCond .eq 15, 3) := by decide +kernel
theorem dX12_isThere_7 : decode cX12_isThere 7 = .ok (.iload_n 1, 1) := by decide +kernel
theorem dX12_isThere_8 : decode cX12_isThere 8 = .ok (.aload_n 0, 1) := by decide +kernel
theorem dX12_isThere_9 : decode cX12_isThere 9 = .ok (.getfield 176, 3) := by decide +kernel
theorem dX12_isThere_12 : decode cX12_isThere 12 = .ok (.if_icmp .ge 7, 3) := by decide +kernel
theorem dX12_isThere_15 : decode cX12_isThere 15 = .ok (.iconst 1, 1) := by decide +kernel
theorem dX12_isThere_16 : decode cX12_isThere 16 = .ok (.goto 4, 3) := by decide +kernel
theorem dX12_isThere_19 : decode cX12_isThere 19 = .ok (.iconst 0, 1) := by decide +kernel
theorem dX12_isThere_20 : decode cX12_isThere 20 = .ok (.ireturn, 1) := by decide +kernel
theorem dX12_count_0 : decode cX12_count 0 = .ok (.iconst 0, 1) := by decide +kernel
theorem dX12_count_1 : decode cX12_count 1 = .ok (.istore_n 2, 1) := by decide +kernel
theorem dX12_count_2 : decode cX12_count 2 = .ok (.iconst 0, 1) := by decide +kernel
theorem dX12_count_3 : decode cX12_count 3 = .ok (.istore_n 3, 1) := by decide +kernel
theorem dX12_count_4 : decode cX12_count 4 = .ok (.iload_n 3, 1) := by decide +kernel
theorem dX12_count_5 : decode cX12_count 5 = .ok (.aload_n 0, 1) := by decide +kernel
theorem dX12_count_6 : decode cX12_count 6 = .ok (.invokevirtual 60, 3) := by decide +kernel
theorem dX12_count_9 : decode cX12_count 9 = .ok (.if_icmp .ge 47, 3) := by decide +kernel
theorem dX12_count_12 : decode cX12_count 12 = .ok (.iconst 0, 1) := by decide +kernel
theorem dX12_count_13 : decode cX12_count 13 = .ok (.istore 4, 2) := by decide +kernel
theorem dX12_count_15 : decode cX12_count 15 = .ok (.iload 4, 2) := by decide +kernel
theorem dX12_count_17 : decode cX12_count 17 = .ok (.aload_n 0, 1) := by decide +kernel
theorem dX12_count_18 : decode cX12_count 18 = .ok (.invokevirtual 68, 3) := by decide +kernel
theorem dX12_count_21 : decode cX12_count 21 = .ok (.if_icmp .ge 29, 3) := by decide +kernel
theorem dX12_count_24 : decode cX12_count 24 = .ok (.iload_n 2, 1) := by decide +kernel
theorem dX12_count_25 : decode cX12_count 25 = .ok (.aload_n 0, 1) := by decide +kernel
theorem dX12_count_26 : decode cX12_count 26 = .ok (.iload_n 3, 1) := by decide +kernel
theorem dX12_count_27 : decode cX12_count 27 = .ok (.iload 4, 2) := by decide +kernel
theorem dX12_count_29 : decode cX12_count 29 = .ok (.invokevirtual 157, 3) := by decide +kernel
theorem dX12_count_32 : decode cX12_count 32 = .ok (.ldc 131, 2) := by decide +kernel
theorem dX12_count_34 : decode cX12_count 34 = .ok (.if_icmp .ne 7, 3) := by decide +kernel
theorem dX12_count_37 : decode cX12_count 37 = .ok (.iconst 1, 1) := by decide +kernel
theorem dX12_count_38 : decode cX12_count 38 = .ok (.goto 4, 3) := by decide +kernel
theorem dX12_count_41 : decode cX12_count 41 = .ok (.iconst 0, 1) := by decide +kernel
theorem dX12_count_42 : decode cX12_count 42 = .ok (.iadd, 1) := by decide +kernel
theorem dX12_count_43 : decode cX12_count 43 = .ok (.istore_n 2, 1) := by decide +kernel
theorem dX12_count_44 : decode cX12_count 44 = .ok (.iinc 4 1, 3) := by decide +kernel
theorem dX12_count_47 : decode cX12_count 47 = .ok (.goto (-32), 3) := by decide +kernel
theorem dX12_count_50 : decode cX12_count 50 = .ok (.iinc 3 1, 3) := by decide +kernel
theorem dX12_count_53 : decode cX12_count 53 = .ok (.goto (-49), 3) := by decide +kernel
theorem dX12_count_56 : decode cX12_count 56 = .ok (.aload_n 0, 1) := by decide +kernel
theorem dX12_count_57 : decode cX12_count 57 = .ok (.invokevirtual 173, 3) := by decide +kernel
theorem dX12_count_60 : decode cX12_count 60 = .ok (.iload_n 1, 1) := by decide +kernel
theorem dX12_count_61 : decode cX12_count 61 = .ok (.tableswitch 66 0 5 #[39, 44, 49, 51, 56, 61], 39) := by decide +kernel
theorem dX12_count_100 : decode cX12_count 100 = .ok (.aload_n 0, 1) := by decide +kernel
theorem dX12_count_101 : decode cX12_count 101 = .ok (.invokevirtual 60, 3) := by decide +kernel
theorem dX12_count_104 : decode cX12_count 104 = .ok (.ireturn, 1) := by decide +kernel
theorem dX12_count_105 : decode cX12_count 105 = .ok (.aload_n 0, 1) := by decide +kernel
theorem dX12_count_106 : decode cX12_count 106 = .ok (.invokevirtual 68, 3) := by decide +kernel
theorem dX12_count_109 : decode cX12_count 109 = .ok (.ireturn, 1) := by decide +kernel
theorem dX12_count_110 : decode cX12_count 110 = .ok (.iload_n 2, 1) := by decide +kernel
theorem dX12_count_111 : decode cX12_count 111 = .ok (.ireturn, 1) := by decide +kernel
theorem dX12_count_112 : decode cX12_count 112 = .ok (.aload_n 0, 1) := by decide +kernel
theorem dX12_count_113 : decode cX12_count 113 = .ok (.getfield 154, 3) := by decide +kernel
theorem dX12_count_116 : decode cX12_count 116 = .ok (.ireturn, 1) := by decide +kernel
theorem dX12_count_117 : decode cX12_count 117 = .ok (.aload_n 0, 1) := by decide +kernel
theorem dX12_count_118 : decode cX12_count 118 = .ok (.getfield 147, 3) := by decide +kernel
theorem dX12_count_121 : decode cX12_count 121 = .ok (.ireturn, 1) := by decide +kernel
theorem dX12_count_122 : decode cX12_count 122 = .ok (.aload_n 0, 1) := by decide +kernel
theorem dX12_count_123 : decode cX12_count 123 = .ok (.getfield 75, 3) := by decide +kernel
theorem dX12_count_126 : decode cX12_count 126 = .ok (.ireturn, 1) := by decide +kernel
theorem dX12_count_127 : decode cX12_count 127 = .ok (.iconst (-1), 1) := by decide +kernel
theorem dX12_count_128 : decode cX12_count 128 = .ok (.ireturn, 1) := by decide +kernel
theorem dX12_told_0 : decode cX12_told 0 = .ok (.iload_n 0, 1) := by decide +kernel
theorem dX12_told_1 : decode cX12_told 1 = .ok (.ldc 131, 2) := by decide +kernel
theorem dX12_told_3 : decode cX12_told 3 = .ok (.if_icmp .ne 9, 3) := by decide +kernel
theorem dX12_told_6 : decode cX12_told 6 = .ok (.ldc2_w 185, 3) := by decide +kernel
theorem dX12_told_9 : decode cX12_told 9 = .ok (.goto 5, 3) := by decide +kernel
theorem dX12_told_12 : decode cX12_told 12 = .ok (.iload_n 0, 1) := by decide +kernel
theorem dX12_told_13 : decode cX12_told 13 = .ok (.i2l, 1) := by decide +kernel
theorem dX12_told_14 : decode cX12_told 14 = .ok (.lreturn, 1) := by decide +kernel
theorem dX12_cost_0 : decode cX12_cost 0 = .ok (.aload_n 0, 1) := by decide +kernel
theorem dX12_cost_1 : decode cX12_cost 1 = .ok (.iload_n 1, 1) := by decide +kernel
theorem dX12_cost_2 : decode cX12_cost 2 = .ok (.invokevirtual 187, 3) := by decide +kernel
theorem dX12_cost_5 : decode cX12_cost 5 = .ok (.ifCond .eq 23, 3) := by decide +kernel
theorem dX12_cost_8 : decode cX12_cost 8 = .ok (.aload_n 0, 1) := by decide +kernel
theorem dX12_cost_9 : decode cX12_cost 9 = .ok (.iload_n 2, 1) := by decide +kernel
theorem dX12_cost_10 : decode cX12_cost 10 = .ok (.invokevirtual 190, 3) := by decide +kernel
theorem dX12_cost_13 : decode cX12_cost 13 = .ok (.ifCond .eq 15, 3) := by decide +kernel
theorem dX12_cost_16 : decode cX12_cost 16 = .ok (.aload_n 0, 1) := by decide +kernel
theorem dX12_cost_17 : decode cX12_cost 17 = .ok (.iload_n 1, 1) := by decide +kernel
theorem dX12_cost_18 : decode cX12_cost 18 = .ok (.iload_n 2, 1) := by decide +kernel
theorem dX12_cost_19 : decode cX12_cost 19 = .ok (.invokevirtual 157, 3) := by decide +kernel
theorem dX12_cost_22 : decode cX12_cost 22 = .ok (.invokestatic 193, 3) := by decide +kernel
theorem dX12_cost_25 : decode cX12_cost 25 = .ok (.goto 6, 3) := by decide +kernel
theorem dX12_cost_28 : decode cX12_cost 28 = .ok (.ldc2_w 197, 3) := by decide +kernel
theorem dX12_cost_31 : decode cX12_cost 31 = .ok (.lreturn, 1) := by decide +kernel
theorem dX12_sum_0 : decode cX12_sum 0 = .ok (.aload_n 0, 1) := by decide +kernel
theorem dX12_sum_1 : decode cX12_sum 1 = .ok (.invokevirtual 199, 3) := by decide +kernel
theorem dX12_sum_4 : decode cX12_sum 4 = .ok (.aload_n 0, 1) := by decide +kernel
theorem dX12_sum_5 : decode cX12_sum 5 = .ok (.iload_n 1, 1) := by decide +kernel
theorem dX12_sum_6 : decode cX12_sum 6 = .ok (.invokevirtual 202, 3) := by decide +kernel
theorem dX12_sum_9 : decode cX12_sum 9 = .ok (.ifCond .eq 18, 3) := by decide +kernel
theorem dX12_sum_12 : decode cX12_sum 12 = .ok (.aload_n 0, 1) := by decide +kernel
theorem dX12_sum_13 : decode cX12_sum 13 = .ok (.getfield 34, 3) := by decide +kernel
theorem dX12_sum_16 : decode cX12_sum 16 = .ok (.aload_n 0, 1) := by decide +kernel
theorem dX12_sum_17 : decode cX12_sum 17 = .ok (.getfield 40, 3) := by decide +kernel
theorem dX12_sum_20 : decode cX12_sum 20 = .ok (.iload_n 1, 1) := by decide +kernel
theorem dX12_sum_21 : decode cX12_sum 21 = .ok (.iaload, 1) := by decide +kernel
theorem dX12_sum_22 : decode cX12_sum 22 = .ok (.iaload, 1) := by decide +kernel
theorem dX12_sum_23 : decode cX12_sum 23 = .ok (.i2l, 1) := by decide +kernel
theorem dX12_sum_24 : decode cX12_sum 24 = .ok (.goto 6, 3) := by decide +kernel
theorem dX12_sum_27 : decode cX12_sum 27 = .ok (.ldc2_w 197, 3) := by decide +kernel
theorem dX12_sum_30 : decode cX12_sum 30 = .ok (.lreturn, 1) := by decide +kernel
theorem dX12_job_0 : decode cX12_job 0 = .ok (.iload_n 1, 1) := by decide +kernel
theorem dX12_job_1 : decode cX12_job 1 = .ok (.invokestatic 181, 3) := by decide +kernel
theorem dX12_job_4 : decode cX12_job 4 = .ok (.ifCond .eq 11, 3) := by decide +kernel
theorem dX12_job_7 : decode cX12_job 7 = .ok (.aload_n 0, 1) := by decide +kernel
theorem dX12_job_8 : decode cX12_job 8 = .ok (.iload_n 2, 1) := by decide +kernel
theorem dX12_job_9 : decode cX12_job 9 = .ok (.invokevirtual 187, 3) := by decide +kernel
theorem dX12_job_12 : decode cX12_job 12 = .ok (.ifCond .ne 6, 3) := by decide +kernel
theorem dX12_job_15 : decode cX12_job 15 = .ok (.bipush (-2), 2) := by decide +kernel
theorem dX12_job_17 : decode cX12_job 17 = .ok (.ireturn, 1) := by decide +kernel
theorem dX12_job_18 : decode cX12_job 18 = .ok (.aload_n 0, 1) := by decide +kernel
theorem dX12_job_19 : decode cX12_job 19 = .ok (.invokevirtual 199, 3) := by decide +kernel
theorem dX12_job_22 : decode cX12_job 22 = .ok (.aload_n 0, 1) := by decide +kernel
theorem dX12_job_23 : decode cX12_job 23 = .ok (.iload_n 1, 1) := by decide +kernel
theorem dX12_job_24 : decode cX12_job 24 = .ok (.invokevirtual 202, 3) := by decide +kernel
theorem dX12_job_27 : decode cX12_job 27 = .ok (.ifCond .eq 17, 3) := by decide +kernel
theorem dX12_job_30 : decode cX12_job 30 = .ok (.aload_n 0, 1) := by decide +kernel
theorem dX12_job_31 : decode cX12_job 31 = .ok (.aload_n 0, 1) := by decide +kernel
theorem dX12_job_32 : decode cX12_job 32 = .ok (.getfield 40, 3) := by decide +kernel
theorem dX12_job_35 : decode cX12_job 35 = .ok (.iload_n 1, 1) := by decide +kernel
theorem dX12_job_36 : decode cX12_job 36 = .ok (.iaload, 1) := by decide +kernel
theorem dX12_job_37 : decode cX12_job 37 = .ok (.iload_n 2, 1) := by decide +kernel
theorem dX12_job_38 : decode cX12_job 38 = .ok (.invokevirtual 205, 3) := by decide +kernel
theorem dX12_job_41 : decode cX12_job 41 = .ok (.goto 4, 3) := by decide +kernel
theorem dX12_job_44 : decode cX12_job 44 = .ok (.iconst (-1), 1) := by decide +kernel
theorem dX12_job_45 : decode cX12_job 45 = .ok (.ireturn, 1) := by decide +kernel
theorem dX12_ties_0 : decode cX12_ties 0 = .ok (.iload_n 1, 1) := by decide +kernel
theorem dX12_ties_1 : decode cX12_ties 1 = .ok (.invokestatic 181, 3) := by decide +kernel
theorem dX12_ties_4 : decode cX12_ties 4 = .ok (.ifCond .ne 6, 3) := by decide +kernel
theorem dX12_ties_7 : decode cX12_ties 7 = .ok (.bipush (-2), 2) := by decide +kernel
theorem dX12_ties_9 : decode cX12_ties 9 = .ok (.ireturn, 1) := by decide +kernel
theorem dX12_ties_10 : decode cX12_ties 10 = .ok (.aload_n 0, 1) := by decide +kernel
theorem dX12_ties_11 : decode cX12_ties 11 = .ok (.invokevirtual 199, 3) := by decide +kernel
theorem dX12_ties_14 : decode cX12_ties 14 = .ok (.iconst 0, 1) := by decide +kernel
theorem dX12_ties_15 : decode cX12_ties 15 = .ok (.istore_n 2, 1) := by decide +kernel
theorem dX12_ties_16 : decode cX12_ties 16 = .ok (.iconst 0, 1) := by decide +kernel
theorem dX12_ties_17 : decode cX12_ties 17 = .ok (.istore_n 3, 1) := by decide +kernel
theorem dX12_ties_18 : decode cX12_ties 18 = .ok (.iload_n 3, 1) := by decide +kernel
theorem dX12_ties_19 : decode cX12_ties 19 = .ok (.aload_n 0, 1) := by decide +kernel
theorem dX12_ties_20 : decode cX12_ties 20 = .ok (.getfield 154, 3) := by decide +kernel
theorem dX12_ties_23 : decode cX12_ties 23 = .ok (.if_icmp .ge 45, 3) := by decide +kernel
theorem dX12_ties_26 : decode cX12_ties 26 = .ok (.aload_n 0, 1) := by decide +kernel
theorem dX12_ties_27 : decode cX12_ties 27 = .ok (.iload_n 1, 1) := by decide +kernel
theorem dX12_ties_28 : decode cX12_ties 28 = .ok (.invokevirtual 202, 3) := by decide +kernel
theorem dX12_ties_31 : decode cX12_ties 31 = .ok (.ifCond .eq 37, 3) := by decide +kernel
theorem dX12_ties_34 : decode cX12_ties 34 = .ok (.iload_n 2, 1) := by decide +kernel
theorem dX12_ties_35 : decode cX12_ties 35 = .ok (.aload_n 0, 1) := by decide +kernel
theorem dX12_ties_36 : decode cX12_ties 36 = .ok (.getfield 34, 3) := by decide +kernel
theorem dX12_ties_39 : decode cX12_ties 39 = .ok (.iload_n 3, 1) := by decide +kernel
theorem dX12_ties_40 : decode cX12_ties 40 = .ok (.iaload, 1) := by decide +kernel
theorem dX12_ties_41 : decode cX12_ties 41 = .ok (.aload_n 0, 1) := by decide +kernel
theorem dX12_ties_42 : decode cX12_ties 42 = .ok (.getfield 34, 3) := by decide +kernel
theorem dX12_ties_45 : decode cX12_ties 45 = .ok (.aload_n 0, 1) := by decide +kernel
theorem dX12_ties_46 : decode cX12_ties 46 = .ok (.getfield 40, 3) := by decide +kernel
theorem dX12_ties_49 : decode cX12_ties 49 = .ok (.iload_n 1, 1) := by decide +kernel
theorem dX12_ties_50 : decode cX12_ties 50 = .ok (.iaload, 1) := by decide +kernel
theorem dX12_ties_51 : decode cX12_ties 51 = .ok (.iaload, 1) := by decide +kernel
theorem dX12_ties_52 : decode cX12_ties 52 = .ok (.if_icmp .ne 7, 3) := by decide +kernel
theorem dX12_ties_55 : decode cX12_ties 55 = .ok (.iconst 1, 1) := by decide +kernel
theorem dX12_ties_56 : decode cX12_ties 56 = .ok (.goto 4, 3) := by decide +kernel
theorem dX12_ties_59 : decode cX12_ties 59 = .ok (.iconst 0, 1) := by decide +kernel
theorem dX12_ties_60 : decode cX12_ties 60 = .ok (.iadd, 1) := by decide +kernel
theorem dX12_ties_61 : decode cX12_ties 61 = .ok (.istore_n 2, 1) := by decide +kernel
theorem dX12_ties_62 : decode cX12_ties 62 = .ok (.iinc 3 1, 3) := by decide +kernel
theorem dX12_ties_65 : decode cX12_ties 65 = .ok (.goto (-47), 3) := by decide +kernel
theorem dX12_ties_68 : decode cX12_ties 68 = .ok (.aload_n 0, 1) := by decide +kernel
theorem dX12_ties_69 : decode cX12_ties 69 = .ok (.iload_n 1, 1) := by decide +kernel
theorem dX12_ties_70 : decode cX12_ties 70 = .ok (.invokevirtual 202, 3) := by decide +kernel
theorem dX12_ties_73 : decode cX12_ties 73 = .ok (.ifCond .eq 7, 3) := by decide +kernel
theorem dX12_ties_76 : decode cX12_ties 76 = .ok (.iload_n 2, 1) := by decide +kernel
theorem dX12_ties_77 : decode cX12_ties 77 = .ok (.goto 4, 3) := by decide +kernel
theorem dX12_ties_80 : decode cX12_ties 80 = .ok (.iconst (-1), 1) := by decide +kernel
theorem dX12_ties_81 : decode cX12_ties 81 = .ok (.ireturn, 1) := by decide +kernel
theorem dX12_under_0 : decode cX12_under 0 = .ok (.aload_n 0, 1) := by decide +kernel
theorem dX12_under_1 : decode cX12_under 1 = .ok (.invokevirtual 173, 3) := by decide +kernel
theorem dX12_under_4 : decode cX12_under 4 = .ok (.iconst 0, 1) := by decide +kernel
theorem dX12_under_5 : decode cX12_under 5 = .ok (.istore_n 3, 1) := by decide +kernel
theorem dX12_under_6 : decode cX12_under 6 = .ok (.iconst 0, 1) := by decide +kernel
theorem dX12_under_7 : decode cX12_under 7 = .ok (.istore 4, 2) := by decide +kernel
theorem dX12_under_9 : decode cX12_under 9 = .ok (.iload 4, 2) := by decide +kernel
theorem dX12_under_11 : decode cX12_under 11 = .ok (.aload_n 0, 1) := by decide +kernel
theorem dX12_under_12 : decode cX12_under 12 = .ok (.getfield 154, 3) := by decide +kernel
theorem dX12_under_15 : decode cX12_under 15 = .ok (.if_icmp .ge 30, 3) := by decide +kernel
theorem dX12_under_18 : decode cX12_under 18 = .ok (.iload_n 3, 1) := by decide +kernel
theorem dX12_under_19 : decode cX12_under 19 = .ok (.aload_n 0, 1) := by decide +kernel
theorem dX12_under_20 : decode cX12_under 20 = .ok (.getfield 34, 3) := by decide +kernel
theorem dX12_under_23 : decode cX12_under 23 = .ok (.iload 4, 2) := by decide +kernel
theorem dX12_under_25 : decode cX12_under 25 = .ok (.iaload, 1) := by decide +kernel
theorem dX12_under_26 : decode cX12_under 26 = .ok (.i2l, 1) := by decide +kernel
theorem dX12_under_27 : decode cX12_under 27 = .ok (.lload_n 1, 1) := by decide +kernel
theorem dX12_under_28 : decode cX12_under 28 = .ok (.lcmp, 1) := by decide +kernel
theorem dX12_under_29 : decode cX12_under 29 = .ok (.ifCond .gt 7, 3) := by decide +kernel
theorem dX12_under_32 : decode cX12_under 32 = .ok (.iconst 1, 1) := by decide +kernel
theorem dX12_under_33 : decode cX12_under 33 = .ok (.goto 4, 3) := by decide +kernel
theorem dX12_under_36 : decode cX12_under 36 = .ok (.iconst 0, 1) := by decide +kernel
theorem dX12_under_37 : decode cX12_under 37 = .ok (.iadd, 1) := by decide +kernel
theorem dX12_under_38 : decode cX12_under 38 = .ok (.istore_n 3, 1) := by decide +kernel
theorem dX12_under_39 : decode cX12_under 39 = .ok (.iinc 4 1, 3) := by decide +kernel
theorem dX12_under_42 : decode cX12_under 42 = .ok (.goto (-33), 3) := by decide +kernel
theorem dX12_under_45 : decode cX12_under 45 = .ok (.iload_n 3, 1) := by decide +kernel
theorem dX12_under_46 : decode cX12_under 46 = .ok (.ireturn, 1) := by decide +kernel
theorem dX12_place_0 : decode cX12_place 0 = .ok (.aload_n 0, 1) := by decide +kernel
theorem dX12_place_1 : decode cX12_place 1 = .ok (.invokevirtual 173, 3) := by decide +kernel
theorem dX12_place_4 : decode cX12_place 4 = .ok (.iconst (-1), 1) := by decide +kernel
theorem dX12_place_5 : decode cX12_place 5 = .ok (.istore_n 2, 1) := by decide +kernel
theorem dX12_place_6 : decode cX12_place 6 = .ok (.iconst 0, 1) := by decide +kernel
theorem dX12_place_7 : decode cX12_place 7 = .ok (.istore_n 3, 1) := by decide +kernel
theorem dX12_place_8 : decode cX12_place 8 = .ok (.iload_n 3, 1) := by decide +kernel
theorem dX12_place_9 : decode cX12_place 9 = .ok (.aload_n 0, 1) := by decide +kernel
theorem dX12_place_10 : decode cX12_place 10 = .ok (.getfield 154, 3) := by decide +kernel
theorem dX12_place_13 : decode cX12_place 13 = .ok (.if_icmp .ge 25, 3) := by decide +kernel
theorem dX12_place_16 : decode cX12_place 16 = .ok (.aload_n 0, 1) := by decide +kernel
theorem dX12_place_17 : decode cX12_place 17 = .ok (.getfield 31, 3) := by decide +kernel
theorem dX12_place_20 : decode cX12_place 20 = .ok (.iload_n 3, 1) := by decide +kernel
theorem dX12_place_21 : decode cX12_place 21 = .ok (.iaload, 1) := by decide +kernel
theorem dX12_place_22 : decode cX12_place 22 = .ok (.iload_n 1, 1) := by decide +kernel
theorem dX12_place_23 : decode cX12_place 23 = .ok (.if_icmp .ne 7, 3) := by decide +kernel
theorem dX12_place_26 : decode cX12_place 26 = .ok (.iload_n 3, 1) := by decide +kernel
theorem dX12_place_27 : decode cX12_place 27 = .ok (.goto 4, 3) := by decide +kernel
theorem dX12_place_30 : decode cX12_place 30 = .ok (.iload_n 2, 1) := by decide +kernel
theorem dX12_place_31 : decode cX12_place 31 = .ok (.istore_n 2, 1) := by decide +kernel
theorem dX12_place_32 : decode cX12_place 32 = .ok (.iinc 3 1, 3) := by decide +kernel
theorem dX12_place_35 : decode cX12_place 35 = .ok (.goto (-27), 3) := by decide +kernel
theorem dX12_place_38 : decode cX12_place 38 = .ok (.iconst 0, 1) := by decide +kernel
theorem dX12_place_39 : decode cX12_place 39 = .ok (.istore_n 3, 1) := by decide +kernel
theorem dX12_place_40 : decode cX12_place 40 = .ok (.iconst 0, 1) := by decide +kernel
theorem dX12_place_41 : decode cX12_place 41 = .ok (.istore 4, 2) := by decide +kernel
theorem dX12_place_43 : decode cX12_place 43 = .ok (.iload 4, 2) := by decide +kernel
theorem dX12_place_45 : decode cX12_place 45 = .ok (.aload_n 0, 1) := by decide +kernel
theorem dX12_place_46 : decode cX12_place 46 = .ok (.getfield 154, 3) := by decide +kernel
theorem dX12_place_49 : decode cX12_place 49 = .ok (.if_icmp .ge 60, 3) := by decide +kernel
theorem dX12_place_52 : decode cX12_place 52 = .ok (.iload_n 2, 1) := by decide +kernel
theorem dX12_place_53 : decode cX12_place 53 = .ok (.iconst (-1), 1) := by decide +kernel
theorem dX12_place_54 : decode cX12_place 54 = .ok (.if_icmp .eq 55, 3) := by decide +kernel
theorem dX12_place_57 : decode cX12_place 57 = .ok (.iload_n 3, 1) := by decide +kernel
theorem dX12_place_58 : decode cX12_place 58 = .ok (.aload_n 0, 1) := by decide +kernel
theorem dX12_place_59 : decode cX12_place 59 = .ok (.getfield 34, 3) := by decide +kernel
theorem dX12_place_62 : decode cX12_place 62 = .ok (.iload 4, 2) := by decide +kernel
theorem dX12_place_64 : decode cX12_place 64 = .ok (.iaload, 1) := by decide +kernel
theorem dX12_place_65 : decode cX12_place 65 = .ok (.aload_n 0, 1) := by decide +kernel
theorem dX12_place_66 : decode cX12_place 66 = .ok (.getfield 34, 3) := by decide +kernel
theorem dX12_place_69 : decode cX12_place 69 = .ok (.iload_n 2, 1) := by decide +kernel
theorem dX12_place_70 : decode cX12_place 70 = .ok (.iaload, 1) := by decide +kernel
theorem dX12_place_71 : decode cX12_place 71 = .ok (.if_icmp .lt 25, 3) := by decide +kernel
theorem dX12_place_74 : decode cX12_place 74 = .ok (.aload_n 0, 1) := by decide +kernel
theorem dX12_place_75 : decode cX12_place 75 = .ok (.getfield 34, 3) := by decide +kernel
theorem dX12_place_78 : decode cX12_place 78 = .ok (.iload 4, 2) := by decide +kernel
theorem dX12_place_80 : decode cX12_place 80 = .ok (.iaload, 1) := by decide +kernel
theorem dX12_place_81 : decode cX12_place 81 = .ok (.aload_n 0, 1) := by decide +kernel
theorem dX12_place_82 : decode cX12_place 82 = .ok (.getfield 34, 3) := by decide +kernel
theorem dX12_place_85 : decode cX12_place 85 = .ok (.iload_n 2, 1) := by decide +kernel
theorem dX12_place_86 : decode cX12_place 86 = .ok (.iaload, 1) := by decide +kernel
theorem dX12_place_87 : decode cX12_place 87 = .ok (.if_icmp .ne 13, 3) := by decide +kernel
theorem dX12_place_90 : decode cX12_place 90 = .ok (.iload 4, 2) := by decide +kernel
theorem dX12_place_92 : decode cX12_place 92 = .ok (.iload_n 2, 1) := by decide +kernel
theorem dX12_place_93 : decode cX12_place 93 = .ok (.if_icmp .ge 7, 3) := by decide +kernel
theorem dX12_place_96 : decode cX12_place 96 = .ok (.iconst 1, 1) := by decide +kernel
theorem dX12_place_97 : decode cX12_place 97 = .ok (.goto 4, 3) := by decide +kernel
theorem dX12_place_100 : decode cX12_place 100 = .ok (.iconst 0, 1) := by decide +kernel
theorem dX12_place_101 : decode cX12_place 101 = .ok (.iadd, 1) := by decide +kernel
theorem dX12_place_102 : decode cX12_place 102 = .ok (.istore_n 3, 1) := by decide +kernel
theorem dX12_place_103 : decode cX12_place 103 = .ok (.iinc 4 1, 3) := by decide +kernel
theorem dX12_place_106 : decode cX12_place 106 = .ok (.goto (-63), 3) := by decide +kernel
theorem dX12_place_109 : decode cX12_place 109 = .ok (.iload_n 2, 1) := by decide +kernel
theorem dX12_place_110 : decode cX12_place 110 = .ok (.iconst (-1), 1) := by decide +kernel
theorem dX12_place_111 : decode cX12_place 111 = .ok (.if_icmp .ne 7, 3) := by decide +kernel
theorem dX12_place_114 : decode cX12_place 114 = .ok (.iconst (-1), 1) := by decide +kernel
theorem dX12_place_115 : decode cX12_place 115 = .ok (.goto 4, 3) := by decide +kernel
theorem dX12_place_118 : decode cX12_place 118 = .ok (.iload_n 3, 1) := by decide +kernel
theorem dX12_place_119 : decode cX12_place 119 = .ok (.ireturn, 1) := by decide +kernel
theorem dX12_leastBy_0 : decode cX12_leastBy 0 = .ok (.iconst (-1), 1) := by decide +kernel
theorem dX12_leastBy_1 : decode cX12_leastBy 1 = .ok (.istore 4, 2) := by decide +kernel
theorem dX12_leastBy_3 : decode cX12_leastBy 3 = .ok (.iconst 0, 1) := by decide +kernel
theorem dX12_leastBy_4 : decode cX12_leastBy 4 = .ok (.istore 5, 2) := by decide +kernel
theorem dX12_leastBy_6 : decode cX12_leastBy 6 = .ok (.iload 5, 2) := by decide +kernel
theorem dX12_leastBy_8 : decode cX12_leastBy 8 = .ok (.aload_n 0, 1) := by decide +kernel
theorem dX12_leastBy_9 : decode cX12_leastBy 9 = .ok (.getfield 154, 3) := by decide +kernel
theorem dX12_leastBy_12 : decode cX12_leastBy 12 = .ok (.if_icmp .ge 73, 3) := by decide +kernel
theorem dX12_leastBy_15 : decode cX12_leastBy 15 = .ok (.aload_n 0, 1) := by decide +kernel
theorem dX12_leastBy_16 : decode cX12_leastBy 16 = .ok (.iload 5, 2) := by decide +kernel
theorem dX12_leastBy_18 : decode cX12_leastBy 18 = .ok (.iload_n 1, 1) := by decide +kernel
theorem dX12_leastBy_19 : decode cX12_leastBy 19 = .ok (.invokevirtual 205, 3) := by decide +kernel
theorem dX12_leastBy_22 : decode cX12_leastBy 22 = .ok (.iload_n 2, 1) := by decide +kernel
theorem dX12_leastBy_23 : decode cX12_leastBy 23 = .ok (.if_icmp .ne 7, 3) := by decide +kernel
theorem dX12_leastBy_26 : decode cX12_leastBy 26 = .ok (.iconst 1, 1) := by decide +kernel
theorem dX12_leastBy_27 : decode cX12_leastBy 27 = .ok (.goto 4, 3) := by decide +kernel
theorem dX12_leastBy_30 : decode cX12_leastBy 30 = .ok (.iconst 0, 1) := by decide +kernel
theorem dX12_leastBy_31 : decode cX12_leastBy 31 = .ok (.iload_n 3, 1) := by decide +kernel
theorem dX12_leastBy_32 : decode cX12_leastBy 32 = .ok (.if_icmp .ne 30, 3) := by decide +kernel
theorem dX12_leastBy_35 : decode cX12_leastBy 35 = .ok (.iload 4, 2) := by decide +kernel
theorem dX12_leastBy_37 : decode cX12_leastBy 37 = .ok (.iconst (-1), 1) := by decide +kernel
theorem dX12_leastBy_38 : decode cX12_leastBy 38 = .ok (.if_icmp .eq 20, 3) := by decide +kernel
theorem dX12_leastBy_41 : decode cX12_leastBy 41 = .ok (.aload_n 0, 1) := by decide +kernel
theorem dX12_leastBy_42 : decode cX12_leastBy 42 = .ok (.getfield 34, 3) := by decide +kernel
theorem dX12_leastBy_45 : decode cX12_leastBy 45 = .ok (.iload 5, 2) := by decide +kernel
theorem dX12_leastBy_47 : decode cX12_leastBy 47 = .ok (.iaload, 1) := by decide +kernel
theorem dX12_leastBy_48 : decode cX12_leastBy 48 = .ok (.aload_n 0, 1) := by decide +kernel
theorem dX12_leastBy_49 : decode cX12_leastBy 49 = .ok (.getfield 34, 3) := by decide +kernel
theorem dX12_leastBy_52 : decode cX12_leastBy 52 = .ok (.iload 4, 2) := by decide +kernel
theorem dX12_leastBy_54 : decode cX12_leastBy 54 = .ok (.iaload, 1) := by decide +kernel
theorem dX12_leastBy_55 : decode cX12_leastBy 55 = .ok (.if_icmp .ge 7, 3) := by decide +kernel
theorem dX12_leastBy_58 : decode cX12_leastBy 58 = .ok (.iconst 1, 1) := by decide +kernel
theorem dX12_leastBy_59 : decode cX12_leastBy 59 = .ok (.goto 4, 3) := by decide +kernel
theorem dX12_leastBy_62 : decode cX12_leastBy 62 = .ok (.iconst 0, 1) := by decide +kernel
theorem dX12_leastBy_63 : decode cX12_leastBy 63 = .ok (.istore 6, 2) := by decide +kernel
theorem dX12_leastBy_65 : decode cX12_leastBy 65 = .ok (.iload 6, 2) := by decide +kernel
theorem dX12_leastBy_67 : decode cX12_leastBy 67 = .ok (.ifCond .eq 8, 3) := by decide +kernel
theorem dX12_leastBy_70 : decode cX12_leastBy 70 = .ok (.iload 5, 2) := by decide +kernel
theorem dX12_leastBy_72 : decode cX12_leastBy 72 = .ok (.goto 5, 3) := by decide +kernel
theorem dX12_leastBy_75 : decode cX12_leastBy 75 = .ok (.iload 4, 2) := by decide +kernel
theorem dX12_leastBy_77 : decode cX12_leastBy 77 = .ok (.istore 4, 2) := by decide +kernel
theorem dX12_leastBy_79 : decode cX12_leastBy 79 = .ok (.iinc 5 1, 3) := by decide +kernel
theorem dX12_leastBy_82 : decode cX12_leastBy 82 = .ok (.goto (-76), 3) := by decide +kernel
theorem dX12_leastBy_85 : decode cX12_leastBy 85 = .ok (.iload 4, 2) := by decide +kernel
theorem dX12_leastBy_87 : decode cX12_leastBy 87 = .ok (.iconst (-1), 1) := by decide +kernel
theorem dX12_leastBy_88 : decode cX12_leastBy 88 = .ok (.if_icmp .ne 9, 3) := by decide +kernel
theorem dX12_leastBy_91 : decode cX12_leastBy 91 = .ok (.ldc2_w 197, 3) := by decide +kernel
theorem dX12_leastBy_94 : decode cX12_leastBy 94 = .ok (.goto 11, 3) := by decide +kernel
theorem dX12_leastBy_97 : decode cX12_leastBy 97 = .ok (.aload_n 0, 1) := by decide +kernel
theorem dX12_leastBy_98 : decode cX12_leastBy 98 = .ok (.getfield 34, 3) := by decide +kernel
theorem dX12_leastBy_101 : decode cX12_leastBy 101 = .ok (.iload 4, 2) := by decide +kernel
theorem dX12_leastBy_103 : decode cX12_leastBy 103 = .ok (.iaload, 1) := by decide +kernel
theorem dX12_leastBy_104 : decode cX12_leastBy 104 = .ok (.i2l, 1) := by decide +kernel
theorem dX12_leastBy_105 : decode cX12_leastBy 105 = .ok (.lreturn, 1) := by decide +kernel
theorem dX12_forced_0 : decode cX12_forced 0 = .ok (.aload_n 0, 1) := by decide +kernel
theorem dX12_forced_1 : decode cX12_forced 1 = .ok (.iload_n 1, 1) := by decide +kernel
theorem dX12_forced_2 : decode cX12_forced 2 = .ok (.invokevirtual 187, 3) := by decide +kernel
theorem dX12_forced_5 : decode cX12_forced 5 = .ok (.ifCond .eq 11, 3) := by decide +kernel
theorem dX12_forced_8 : decode cX12_forced 8 = .ok (.aload_n 0, 1) := by decide +kernel
theorem dX12_forced_9 : decode cX12_forced 9 = .ok (.iload_n 2, 1) := by decide +kernel
theorem dX12_forced_10 : decode cX12_forced 10 = .ok (.invokevirtual 190, 3) := by decide +kernel
theorem dX12_forced_13 : decode cX12_forced 13 = .ok (.ifCond .ne 7, 3) := by decide +kernel
theorem dX12_forced_16 : decode cX12_forced 16 = .ok (.ldc2_w 197, 3) := by decide +kernel
theorem dX12_forced_19 : decode cX12_forced 19 = .ok (.lreturn, 1) := by decide +kernel
theorem dX12_forced_20 : decode cX12_forced 20 = .ok (.aload_n 0, 1) := by decide +kernel
theorem dX12_forced_21 : decode cX12_forced 21 = .ok (.invokevirtual 173, 3) := by decide +kernel
theorem dX12_forced_24 : decode cX12_forced 24 = .ok (.aload_n 0, 1) := by decide +kernel
theorem dX12_forced_25 : decode cX12_forced 25 = .ok (.iload_n 1, 1) := by decide +kernel
theorem dX12_forced_26 : decode cX12_forced 26 = .ok (.iload_n 2, 1) := by decide +kernel
theorem dX12_forced_27 : decode cX12_forced 27 = .ok (.iconst 1, 1) := by decide +kernel
theorem dX12_forced_28 : decode cX12_forced 28 = .ok (.invokevirtual 208, 3) := by decide +kernel
theorem dX12_forced_31 : decode cX12_forced 31 = .ok (.lreturn, 1) := by decide +kernel
theorem dX12_without_0 : decode cX12_without 0 = .ok (.aload_n 0, 1) := by decide +kernel
theorem dX12_without_1 : decode cX12_without 1 = .ok (.iload_n 1, 1) := by decide +kernel
theorem dX12_without_2 : decode cX12_without 2 = .ok (.invokevirtual 187, 3) := by decide +kernel
theorem dX12_without_5 : decode cX12_without 5 = .ok (.ifCond .eq 11, 3) := by decide +kernel
theorem dX12_without_8 : decode cX12_without 8 = .ok (.aload_n 0, 1) := by decide +kernel
theorem dX12_without_9 : decode cX12_without 9 = .ok (.iload_n 2, 1) := by decide +kernel
theorem dX12_without_10 : decode cX12_without 10 = .ok (.invokevirtual 190, 3) := by decide +kernel
theorem dX12_without_13 : decode cX12_without 13 = .ok (.ifCond .ne 7, 3) := by decide +kernel
theorem dX12_without_16 : decode cX12_without 16 = .ok (.ldc2_w 197, 3) := by decide +kernel
theorem dX12_without_19 : decode cX12_without 19 = .ok (.lreturn, 1) := by decide +kernel
theorem dX12_without_20 : decode cX12_without 20 = .ok (.aload_n 0, 1) := by decide +kernel
theorem dX12_without_21 : decode cX12_without 21 = .ok (.invokevirtual 173, 3) := by decide +kernel
theorem dX12_without_24 : decode cX12_without 24 = .ok (.aload_n 0, 1) := by decide +kernel
theorem dX12_without_25 : decode cX12_without 25 = .ok (.iload_n 1, 1) := by decide +kernel
theorem dX12_without_26 : decode cX12_without 26 = .ok (.iload_n 2, 1) := by decide +kernel
theorem dX12_without_27 : decode cX12_without 27 = .ok (.iconst 0, 1) := by decide +kernel
theorem dX12_without_28 : decode cX12_without 28 = .ok (.invokevirtual 208, 3) := by decide +kernel
theorem dX12_without_31 : decode cX12_without 31 = .ok (.lreturn, 1) := by decide +kernel
theorem dX12_stays_0 : decode cX12_stays 0 = .ok (.aload_n 0, 1) := by decide +kernel
theorem dX12_stays_1 : decode cX12_stays 1 = .ok (.iload_n 1, 1) := by decide +kernel
theorem dX12_stays_2 : decode cX12_stays 2 = .ok (.invokevirtual 187, 3) := by decide +kernel
theorem dX12_stays_5 : decode cX12_stays 5 = .ok (.ifCond .eq 32, 3) := by decide +kernel
theorem dX12_stays_8 : decode cX12_stays 8 = .ok (.aload_n 0, 1) := by decide +kernel
theorem dX12_stays_9 : decode cX12_stays 9 = .ok (.iload_n 2, 1) := by decide +kernel
theorem dX12_stays_10 : decode cX12_stays 10 = .ok (.invokevirtual 190, 3) := by decide +kernel
theorem dX12_stays_13 : decode cX12_stays 13 = .ok (.ifCond .eq 24, 3) := by decide +kernel
theorem dX12_stays_16 : decode cX12_stays 16 = .ok (.iload_n 3, 1) := by decide +kernel
theorem dX12_stays_17 : decode cX12_stays 17 = .ok (.i2l, 1) := by decide +kernel
theorem dX12_stays_18 : decode cX12_stays 18 = .ok (.lconst 0, 1) := by decide +kernel
theorem dX12_stays_19 : decode cX12_stays 19 = .ok (.lconst 1, 1) := by decide +kernel
theorem dX12_stays_20 : decode cX12_stays 20 = .ok (.invokestatic 64, 3) := by decide +kernel
theorem dX12_stays_23 : decode cX12_stays 23 = .ok (.ifCond .eq 14, 3) := by decide +kernel
theorem dX12_stays_26 : decode cX12_stays 26 = .ok (.aload_n 0, 1) := by decide +kernel
theorem dX12_stays_27 : decode cX12_stays 27 = .ok (.iload_n 1, 1) := by decide +kernel
theorem dX12_stays_28 : decode cX12_stays 28 = .ok (.iload_n 2, 1) := by decide +kernel
theorem dX12_stays_29 : decode cX12_stays 29 = .ok (.invokevirtual 157, 3) := by decide +kernel
theorem dX12_stays_32 : decode cX12_stays 32 = .ok (.ldc 131, 2) := by decide +kernel
theorem dX12_stays_34 : decode cX12_stays 34 = .ok (.if_icmp .ne 7, 3) := by decide +kernel
theorem dX12_stays_37 : decode cX12_stays 37 = .ok (.ldc2_w 197, 3) := by decide +kernel
theorem dX12_stays_40 : decode cX12_stays 40 = .ok (.lreturn, 1) := by decide +kernel
theorem dX12_stays_41 : decode cX12_stays 41 = .ok (.aload_n 0, 1) := by decide +kernel
theorem dX12_stays_42 : decode cX12_stays 42 = .ok (.invokevirtual 173, 3) := by decide +kernel
theorem dX12_stays_45 : decode cX12_stays 45 = .ok (.aload_n 0, 1) := by decide +kernel
theorem dX12_stays_46 : decode cX12_stays 46 = .ok (.invokevirtual 212, 3) := by decide +kernel
theorem dX12_stays_49 : decode cX12_stays 49 = .ok (.istore 4, 2) := by decide +kernel
theorem dX12_stays_51 : decode cX12_stays 51 = .ok (.iload 4, 2) := by decide +kernel
theorem dX12_stays_53 : decode cX12_stays 53 = .ok (.iconst (-1), 1) := by decide +kernel
theorem dX12_stays_54 : decode cX12_stays 54 = .ok (.if_icmp .ne 7, 3) := by decide +kernel
theorem dX12_stays_57 : decode cX12_stays 57 = .ok (.ldc2_w 197, 3) := by decide +kernel
theorem dX12_stays_60 : decode cX12_stays 60 = .ok (.lreturn, 1) := by decide +kernel
theorem dX12_stays_61 : decode cX12_stays 61 = .ok (.aload_n 0, 1) := by decide +kernel
theorem dX12_stays_62 : decode cX12_stays 62 = .ok (.iload 4, 2) := by decide +kernel
theorem dX12_stays_64 : decode cX12_stays 64 = .ok (.iload_n 1, 1) := by decide +kernel
theorem dX12_stays_65 : decode cX12_stays 65 = .ok (.invokevirtual 205, 3) := by decide +kernel
theorem dX12_stays_68 : decode cX12_stays 68 = .ok (.iload_n 2, 1) := by decide +kernel
theorem dX12_stays_69 : decode cX12_stays 69 = .ok (.if_icmp .ne 7, 3) := by decide +kernel
theorem dX12_stays_72 : decode cX12_stays 72 = .ok (.iconst 1, 1) := by decide +kernel
theorem dX12_stays_73 : decode cX12_stays 73 = .ok (.goto 4, 3) := by decide +kernel
theorem dX12_stays_76 : decode cX12_stays 76 = .ok (.iconst 0, 1) := by decide +kernel
theorem dX12_stays_77 : decode cX12_stays 77 = .ok (.istore 5, 2) := by decide +kernel
theorem dX12_stays_79 : decode cX12_stays 79 = .ok (.iload 5, 2) := by decide +kernel
theorem dX12_stays_81 : decode cX12_stays 81 = .ok (.iload_n 3, 1) := by decide +kernel
theorem dX12_stays_82 : decode cX12_stays 82 = .ok (.ifCond .ne 7, 3) := by decide +kernel
theorem dX12_stays_85 : decode cX12_stays 85 = .ok (.iconst 1, 1) := by decide +kernel
theorem dX12_stays_86 : decode cX12_stays 86 = .ok (.goto 4, 3) := by decide +kernel
theorem dX12_stays_89 : decode cX12_stays 89 = .ok (.iconst 0, 1) := by decide +kernel
theorem dX12_stays_90 : decode cX12_stays 90 = .ok (.if_icmp .ne 7, 3) := by decide +kernel
theorem dX12_stays_93 : decode cX12_stays 93 = .ok (.ldc2_w 197, 3) := by decide +kernel
theorem dX12_stays_96 : decode cX12_stays 96 = .ok (.lreturn, 1) := by decide +kernel
theorem dX12_stays_97 : decode cX12_stays 97 = .ok (.aload_n 0, 1) := by decide +kernel
theorem dX12_stays_98 : decode cX12_stays 98 = .ok (.iload_n 1, 1) := by decide +kernel
theorem dX12_stays_99 : decode cX12_stays 99 = .ok (.iload_n 2, 1) := by decide +kernel
theorem dX12_stays_100 : decode cX12_stays 100 = .ok (.iload 5, 2) := by decide +kernel
theorem dX12_stays_102 : decode cX12_stays 102 = .ok (.ifCond .ne 7, 3) := by decide +kernel
theorem dX12_stays_105 : decode cX12_stays 105 = .ok (.iconst 1, 1) := by decide +kernel
theorem dX12_stays_106 : decode cX12_stays 106 = .ok (.goto 4, 3) := by decide +kernel
theorem dX12_stays_109 : decode cX12_stays 109 = .ok (.iconst 0, 1) := by decide +kernel
theorem dX12_stays_110 : decode cX12_stays 110 = .ok (.invokevirtual 208, 3) := by decide +kernel
theorem dX12_stays_113 : decode cX12_stays 113 = .ok (.lstore 6, 2) := by decide +kernel
theorem dX12_stays_115 : decode cX12_stays 115 = .ok (.lload 6, 2) := by decide +kernel
theorem dX12_stays_117 : decode cX12_stays 117 = .ok (.ldc2_w 197, 3) := by decide +kernel
theorem dX12_stays_120 : decode cX12_stays 120 = .ok (.lcmp, 1) := by decide +kernel
theorem dX12_stays_121 : decode cX12_stays 121 = .ok (.ifCond .ne 7, 3) := by decide +kernel
theorem dX12_stays_124 : decode cX12_stays 124 = .ok (.ldc2_w 197, 3) := by decide +kernel
theorem dX12_stays_127 : decode cX12_stays 127 = .ok (.lreturn, 1) := by decide +kernel
theorem dX12_stays_128 : decode cX12_stays 128 = .ok (.lload 6, 2) := by decide +kernel
theorem dX12_stays_130 : decode cX12_stays 130 = .ok (.aload_n 0, 1) := by decide +kernel
theorem dX12_stays_131 : decode cX12_stays 131 = .ok (.getfield 34, 3) := by decide +kernel
theorem dX12_stays_134 : decode cX12_stays 134 = .ok (.iload 4, 2) := by decide +kernel
theorem dX12_stays_136 : decode cX12_stays 136 = .ok (.iaload, 1) := by decide +kernel
theorem dX12_stays_137 : decode cX12_stays 137 = .ok (.i2l, 1) := by decide +kernel
theorem dX12_stays_138 : decode cX12_stays 138 = .ok (.lsub, 1) := by decide +kernel
theorem dX12_stays_139 : decode cX12_stays 139 = .ok (.lstore 8, 2) := by decide +kernel
theorem dX12_stays_141 : decode cX12_stays 141 = .ok (.iload 5, 2) := by decide +kernel
theorem dX12_stays_143 : decode cX12_stays 143 = .ok (.ifCond .eq 16, 3) := by decide +kernel
theorem dX12_stays_146 : decode cX12_stays 146 = .ok (.aload_n 0, 1) := by decide +kernel
theorem dX12_stays_147 : decode cX12_stays 147 = .ok (.iload_n 1, 1) := by decide +kernel
theorem dX12_stays_148 : decode cX12_stays 148 = .ok (.iload_n 2, 1) := by decide +kernel
theorem dX12_stays_149 : decode cX12_stays 149 = .ok (.invokevirtual 157, 3) := by decide +kernel
theorem dX12_stays_152 : decode cX12_stays 152 = .ok (.i2l, 1) := by decide +kernel
theorem dX12_stays_153 : decode cX12_stays 153 = .ok (.lload 8, 2) := by decide +kernel
theorem dX12_stays_155 : decode cX12_stays 155 = .ok (.ladd, 1) := by decide +kernel
theorem dX12_stays_156 : decode cX12_stays 156 = .ok (.goto 13, 3) := by decide +kernel
theorem dX12_stays_159 : decode cX12_stays 159 = .ok (.aload_n 0, 1) := by decide +kernel
theorem dX12_stays_160 : decode cX12_stays 160 = .ok (.iload_n 1, 1) := by decide +kernel
theorem dX12_stays_161 : decode cX12_stays 161 = .ok (.iload_n 2, 1) := by decide +kernel
theorem dX12_stays_162 : decode cX12_stays 162 = .ok (.invokevirtual 157, 3) := by decide +kernel
theorem dX12_stays_165 : decode cX12_stays 165 = .ok (.i2l, 1) := by decide +kernel
theorem dX12_stays_166 : decode cX12_stays 166 = .ok (.lload 8, 2) := by decide +kernel
theorem dX12_stays_168 : decode cX12_stays 168 = .ok (.lsub, 1) := by decide +kernel
theorem dX12_stays_169 : decode cX12_stays 169 = .ok (.lreturn, 1) := by decide +kernel
theorem dX12_would_0 : decode cX12_would 0 = .ok (.aload_n 0, 1) := by decide +kernel
theorem dX12_would_1 : decode cX12_would 1 = .ok (.iload_n 1, 1) := by decide +kernel
theorem dX12_would_2 : decode cX12_would 2 = .ok (.invokevirtual 187, 3) := by decide +kernel
theorem dX12_would_5 : decode cX12_would 5 = .ok (.ifCond .eq 19, 3) := by decide +kernel
theorem dX12_would_8 : decode cX12_would 8 = .ok (.aload_n 0, 1) := by decide +kernel
theorem dX12_would_9 : decode cX12_would 9 = .ok (.iload_n 2, 1) := by decide +kernel
theorem dX12_would_10 : decode cX12_would 10 = .ok (.invokevirtual 190, 3) := by decide +kernel
theorem dX12_would_13 : decode cX12_would 13 = .ok (.ifCond .eq 11, 3) := by decide +kernel
theorem dX12_would_16 : decode cX12_would 16 = .ok (.iload_n 3, 1) := by decide +kernel
theorem dX12_would_17 : decode cX12_would 17 = .ok (.i2l, 1) := by decide +kernel
theorem dX12_would_18 : decode cX12_would 18 = .ok (.invokestatic 215, 3) := by decide +kernel
theorem dX12_would_21 : decode cX12_would 21 = .ok (.ifCond .ne 7, 3) := by decide +kernel
theorem dX12_would_24 : decode cX12_would 24 = .ok (.ldc2_w 197, 3) := by decide +kernel
theorem dX12_would_27 : decode cX12_would 27 = .ok (.lreturn, 1) := by decide +kernel
theorem dX12_would_28 : decode cX12_would 28 = .ok (.aload_n 0, 1) := by decide +kernel
theorem dX12_would_29 : decode cX12_would 29 = .ok (.iload_n 1, 1) := by decide +kernel
theorem dX12_would_30 : decode cX12_would 30 = .ok (.iload_n 2, 1) := by decide +kernel
theorem dX12_would_31 : decode cX12_would 31 = .ok (.invokevirtual 157, 3) := by decide +kernel
theorem dX12_would_34 : decode cX12_would 34 = .ok (.istore 4, 2) := by decide +kernel
theorem dX12_would_36 : decode cX12_would 36 = .ok (.aload_n 0, 1) := by decide +kernel
theorem dX12_would_37 : decode cX12_would 37 = .ok (.getfield 11, 3) := by decide +kernel
theorem dX12_would_40 : decode cX12_would 40 = .ok (.iload_n 1, 1) := by decide +kernel
theorem dX12_would_41 : decode cX12_would 41 = .ok (.iload_n 2, 1) := by decide +kernel
theorem dX12_would_42 : decode cX12_would 42 = .ok (.invokestatic 56, 3) := by decide +kernel
theorem dX12_would_45 : decode cX12_would 45 = .ok (.iload_n 3, 1) := by decide +kernel
theorem dX12_would_46 : decode cX12_would 46 = .ok (.iastore, 1) := by decide +kernel
theorem dX12_would_47 : decode cX12_would 47 = .ok (.aload_n 0, 1) := by decide +kernel
theorem dX12_would_48 : decode cX12_would 48 = .ok (.invokevirtual 173, 3) := by decide +kernel
theorem dX12_would_51 : decode cX12_would 51 = .ok (.aload_n 0, 1) := by decide +kernel
theorem dX12_would_52 : decode cX12_would 52 = .ok (.invokevirtual 212, 3) := by decide +kernel
theorem dX12_would_55 : decode cX12_would 55 = .ok (.istore 5, 2) := by decide +kernel
theorem dX12_would_57 : decode cX12_would 57 = .ok (.aload_n 0, 1) := by decide +kernel
theorem dX12_would_58 : decode cX12_would 58 = .ok (.getfield 11, 3) := by decide +kernel
theorem dX12_would_61 : decode cX12_would 61 = .ok (.iload_n 1, 1) := by decide +kernel
theorem dX12_would_62 : decode cX12_would 62 = .ok (.iload_n 2, 1) := by decide +kernel
theorem dX12_would_63 : decode cX12_would 63 = .ok (.invokestatic 56, 3) := by decide +kernel
theorem dX12_would_66 : decode cX12_would 66 = .ok (.iload 4, 2) := by decide +kernel
theorem dX12_would_68 : decode cX12_would 68 = .ok (.iastore, 1) := by decide +kernel
theorem dX12_would_69 : decode cX12_would 69 = .ok (.iload 5, 2) := by decide +kernel
theorem dX12_would_71 : decode cX12_would 71 = .ok (.iconst (-1), 1) := by decide +kernel
theorem dX12_would_72 : decode cX12_would 72 = .ok (.if_icmp .ne 9, 3) := by decide +kernel
theorem dX12_would_75 : decode cX12_would 75 = .ok (.ldc2_w 197, 3) := by decide +kernel
theorem dX12_would_78 : decode cX12_would 78 = .ok (.goto 11, 3) := by decide +kernel
theorem dX12_would_81 : decode cX12_would 81 = .ok (.aload_n 0, 1) := by decide +kernel
theorem dX12_would_82 : decode cX12_would 82 = .ok (.getfield 34, 3) := by decide +kernel
theorem dX12_would_85 : decode cX12_would 85 = .ok (.iload 5, 2) := by decide +kernel
theorem dX12_would_87 : decode cX12_would 87 = .ok (.iaload, 1) := by decide +kernel
theorem dX12_would_88 : decode cX12_would 88 = .ok (.i2l, 1) := by decide +kernel
theorem dX12_would_89 : decode cX12_would 89 = .ok (.lreturn, 1) := by decide +kernel
theorem dX12_ever_0 : decode cX12_ever 0 = .ok (.aload_n 0, 1) := by decide +kernel
theorem dX12_ever_1 : decode cX12_ever 1 = .ok (.iload_n 1, 1) := by decide +kernel
theorem dX12_ever_2 : decode cX12_ever 2 = .ok (.invokevirtual 187, 3) := by decide +kernel
theorem dX12_ever_5 : decode cX12_ever 5 = .ok (.ifCond .ne 6, 3) := by decide +kernel
theorem dX12_ever_8 : decode cX12_ever 8 = .ok (.bipush (-2), 2) := by decide +kernel
theorem dX12_ever_10 : decode cX12_ever 10 = .ok (.ireturn, 1) := by decide +kernel
theorem dX12_ever_11 : decode cX12_ever 11 = .ok (.aload_n 0, 1) := by decide +kernel
theorem dX12_ever_12 : decode cX12_ever 12 = .ok (.invokevirtual 173, 3) := by decide +kernel
theorem dX12_ever_15 : decode cX12_ever 15 = .ok (.aload_n 0, 1) := by decide +kernel
theorem dX12_ever_16 : decode cX12_ever 16 = .ok (.invokevirtual 212, 3) := by decide +kernel
theorem dX12_ever_19 : decode cX12_ever 19 = .ok (.istore_n 2, 1) := by decide +kernel
theorem dX12_ever_20 : decode cX12_ever 20 = .ok (.iconst 0, 1) := by decide +kernel
theorem dX12_ever_21 : decode cX12_ever 21 = .ok (.istore_n 3, 1) := by decide +kernel
theorem dX12_ever_22 : decode cX12_ever 22 = .ok (.iconst 0, 1) := by decide +kernel
theorem dX12_ever_23 : decode cX12_ever 23 = .ok (.istore 4, 2) := by decide +kernel
theorem dX12_ever_25 : decode cX12_ever 25 = .ok (.iload 4, 2) := by decide +kernel
theorem dX12_ever_27 : decode cX12_ever 27 = .ok (.aload_n 0, 1) := by decide +kernel
theorem dX12_ever_28 : decode cX12_ever 28 = .ok (.getfield 154, 3) := by decide +kernel
theorem dX12_ever_31 : decode cX12_ever 31 = .ok (.if_icmp .ge 41, 3) := by decide +kernel
theorem dX12_ever_34 : decode cX12_ever 34 = .ok (.iload_n 3, 1) := by decide +kernel
theorem dX12_ever_35 : decode cX12_ever 35 = .ok (.aload_n 0, 1) := by decide +kernel
theorem dX12_ever_36 : decode cX12_ever 36 = .ok (.getfield 34, 3) := by decide +kernel
theorem dX12_ever_39 : decode cX12_ever 39 = .ok (.iload 4, 2) := by decide +kernel
theorem dX12_ever_41 : decode cX12_ever 41 = .ok (.iaload, 1) := by decide +kernel
theorem dX12_ever_42 : decode cX12_ever 42 = .ok (.aload_n 0, 1) := by decide +kernel
theorem dX12_ever_43 : decode cX12_ever 43 = .ok (.getfield 34, 3) := by decide +kernel
theorem dX12_ever_46 : decode cX12_ever 46 = .ok (.iload_n 2, 1) := by decide +kernel
theorem dX12_ever_47 : decode cX12_ever 47 = .ok (.iaload, 1) := by decide +kernel
theorem dX12_ever_48 : decode cX12_ever 48 = .ok (.if_icmp .ne 15, 3) := by decide +kernel
theorem dX12_ever_51 : decode cX12_ever 51 = .ok (.iconst 1, 1) := by decide +kernel
theorem dX12_ever_52 : decode cX12_ever 52 = .ok (.aload_n 0, 1) := by decide +kernel
theorem dX12_ever_53 : decode cX12_ever 53 = .ok (.iload 4, 2) := by decide +kernel
theorem dX12_ever_55 : decode cX12_ever 55 = .ok (.iload_n 1, 1) := by decide +kernel
theorem dX12_ever_56 : decode cX12_ever 56 = .ok (.invokevirtual 205, 3) := by decide +kernel
theorem dX12_ever_59 : decode cX12_ever 59 = .ok (.ishl, 1) := by decide +kernel
theorem dX12_ever_60 : decode cX12_ever 60 = .ok (.goto 4, 3) := by decide +kernel
theorem dX12_ever_63 : decode cX12_ever 63 = .ok (.iconst 0, 1) := by decide +kernel
theorem dX12_ever_64 : decode cX12_ever 64 = .ok (.ior, 1) := by decide +kernel
theorem dX12_ever_65 : decode cX12_ever 65 = .ok (.istore_n 3, 1) := by decide +kernel
theorem dX12_ever_66 : decode cX12_ever 66 = .ok (.iinc 4 1, 3) := by decide +kernel
theorem dX12_ever_69 : decode cX12_ever 69 = .ok (.goto (-44), 3) := by decide +kernel
theorem dX12_ever_72 : decode cX12_ever 72 = .ok (.iload_n 3, 1) := by decide +kernel
theorem dX12_ever_73 : decode cX12_ever 73 = .ok (.ireturn, 1) := by decide +kernel
theorem dX12_leastWith_0 : decode cX12_leastWith 0 = .ok (.aload_n 0, 1) := by decide +kernel
theorem dX12_leastWith_1 : decode cX12_leastWith 1 = .ok (.iload_n 1, 1) := by decide +kernel
theorem dX12_leastWith_2 : decode cX12_leastWith 2 = .ok (.iload_n 2, 1) := by decide +kernel
theorem dX12_leastWith_3 : decode cX12_leastWith 3 = .ok (.invokevirtual 169, 3) := by decide +kernel
theorem dX12_leastWith_6 : decode cX12_leastWith 6 = .ok (.aload_n 0, 1) := by decide +kernel
theorem dX12_leastWith_7 : decode cX12_leastWith 7 = .ok (.invokevirtual 212, 3) := by decide +kernel
theorem dX12_leastWith_10 : decode cX12_leastWith 10 = .ok (.istore_n 3, 1) := by decide +kernel
theorem dX12_leastWith_11 : decode cX12_leastWith 11 = .ok (.iload_n 3, 1) := by decide +kernel
theorem dX12_leastWith_12 : decode cX12_leastWith 12 = .ok (.iconst (-1), 1) := by decide +kernel
theorem dX12_leastWith_13 : decode cX12_leastWith 13 = .ok (.if_icmp .ne 9, 3) := by decide +kernel
theorem dX12_leastWith_16 : decode cX12_leastWith 16 = .ok (.ldc2_w 197, 3) := by decide +kernel
theorem dX12_leastWith_19 : decode cX12_leastWith 19 = .ok (.goto 10, 3) := by decide +kernel
theorem dX12_leastWith_22 : decode cX12_leastWith 22 = .ok (.aload_n 0, 1) := by decide +kernel
theorem dX12_leastWith_23 : decode cX12_leastWith 23 = .ok (.getfield 34, 3) := by decide +kernel
theorem dX12_leastWith_26 : decode cX12_leastWith 26 = .ok (.iload_n 3, 1) := by decide +kernel
theorem dX12_leastWith_27 : decode cX12_leastWith 27 = .ok (.iaload, 1) := by decide +kernel
theorem dX12_leastWith_28 : decode cX12_leastWith 28 = .ok (.i2l, 1) := by decide +kernel
theorem dX12_leastWith_29 : decode cX12_leastWith 29 = .ok (.lreturn, 1) := by decide +kernel
theorem dX12_price_0 : decode cX12_price 0 = .ok (.aload_n 0, 1) := by decide +kernel
theorem dX12_price_1 : decode cX12_price 1 = .ok (.iload_n 1, 1) := by decide +kernel
theorem dX12_price_2 : decode cX12_price 2 = .ok (.invokevirtual 190, 3) := by decide +kernel
theorem dX12_price_5 : decode cX12_price 5 = .ok (.ifCond .ne 7, 3) := by decide +kernel
theorem dX12_price_8 : decode cX12_price 8 = .ok (.ldc2_w 197, 3) := by decide +kernel
theorem dX12_price_11 : decode cX12_price 11 = .ok (.lreturn, 1) := by decide +kernel
theorem dX12_price_12 : decode cX12_price 12 = .ok (.aload_n 0, 1) := by decide +kernel
theorem dX12_price_13 : decode cX12_price 13 = .ok (.aload_n 0, 1) := by decide +kernel
theorem dX12_price_14 : decode cX12_price 14 = .ok (.invokevirtual 166, 3) := by decide +kernel
theorem dX12_price_17 : decode cX12_price 17 = .ok (.iconst (-1), 1) := by decide +kernel
theorem dX12_price_18 : decode cX12_price 18 = .ok (.invokevirtual 219, 3) := by decide +kernel
theorem dX12_price_21 : decode cX12_price 21 = .ok (.lstore_n 2, 1) := by decide +kernel
theorem dX12_price_22 : decode cX12_price 22 = .ok (.aload_n 0, 1) := by decide +kernel
theorem dX12_price_23 : decode cX12_price 23 = .ok (.aload_n 0, 1) := by decide +kernel
theorem dX12_price_24 : decode cX12_price 24 = .ok (.invokevirtual 166, 3) := by decide +kernel
theorem dX12_price_27 : decode cX12_price 27 = .ok (.iconst 1, 1) := by decide +kernel
theorem dX12_price_28 : decode cX12_price 28 = .ok (.iload_n 1, 1) := by decide +kernel
theorem dX12_price_29 : decode cX12_price 29 = .ok (.ishl, 1) := by decide +kernel
theorem dX12_price_30 : decode cX12_price 30 = .ok (.iconst (-1), 1) := by decide +kernel
theorem dX12_price_31 : decode cX12_price 31 = .ok (.ixor, 1) := by decide +kernel
theorem dX12_price_32 : decode cX12_price 32 = .ok (.iand, 1) := by decide +kernel
theorem dX12_price_33 : decode cX12_price 33 = .ok (.iconst (-1), 1) := by decide +kernel
theorem dX12_price_34 : decode cX12_price 34 = .ok (.invokevirtual 219, 3) := by decide +kernel
theorem dX12_price_37 : decode cX12_price 37 = .ok (.lstore 4, 2) := by decide +kernel
theorem dX12_price_39 : decode cX12_price 39 = .ok (.lload_n 2, 1) := by decide +kernel
theorem dX12_price_40 : decode cX12_price 40 = .ok (.ldc2_w 197, 3) := by decide +kernel
theorem dX12_price_43 : decode cX12_price 43 = .ok (.lcmp, 1) := by decide +kernel
theorem dX12_price_44 : decode cX12_price 44 = .ok (.ifCond .eq 12, 3) := by decide +kernel
theorem dX12_price_47 : decode cX12_price 47 = .ok (.lload 4, 2) := by decide +kernel
theorem dX12_price_49 : decode cX12_price 49 = .ok (.ldc2_w 197, 3) := by decide +kernel
theorem dX12_price_52 : decode cX12_price 52 = .ok (.lcmp, 1) := by decide +kernel
theorem dX12_price_53 : decode cX12_price 53 = .ok (.ifCond .ne 9, 3) := by decide +kernel
theorem dX12_price_56 : decode cX12_price 56 = .ok (.ldc2_w 197, 3) := by decide +kernel
theorem dX12_price_59 : decode cX12_price 59 = .ok (.goto 7, 3) := by decide +kernel
theorem dX12_price_62 : decode cX12_price 62 = .ok (.lload 4, 2) := by decide +kernel
theorem dX12_price_64 : decode cX12_price 64 = .ok (.lload_n 2, 1) := by decide +kernel
theorem dX12_price_65 : decode cX12_price 65 = .ok (.lsub, 1) := by decide +kernel
theorem dX12_price_66 : decode cX12_price 66 = .ok (.lreturn, 1) := by decide +kernel
theorem dX12_pay_0 : decode cX12_pay 0 = .ok (.aload_n 0, 1) := by decide +kernel
theorem dX12_pay_1 : decode cX12_pay 1 = .ok (.iload_n 1, 1) := by decide +kernel
theorem dX12_pay_2 : decode cX12_pay 2 = .ok (.invokevirtual 187, 3) := by decide +kernel
theorem dX12_pay_5 : decode cX12_pay 5 = .ok (.ifCond .ne 7, 3) := by decide +kernel
theorem dX12_pay_8 : decode cX12_pay 8 = .ok (.ldc2_w 197, 3) := by decide +kernel
theorem dX12_pay_11 : decode cX12_pay 11 = .ok (.lreturn, 1) := by decide +kernel
theorem dX12_pay_12 : decode cX12_pay 12 = .ok (.aload_n 0, 1) := by decide +kernel
theorem dX12_pay_13 : decode cX12_pay 13 = .ok (.invokevirtual 173, 3) := by decide +kernel
theorem dX12_pay_16 : decode cX12_pay 16 = .ok (.aload_n 0, 1) := by decide +kernel
theorem dX12_pay_17 : decode cX12_pay 17 = .ok (.invokevirtual 212, 3) := by decide +kernel
theorem dX12_pay_20 : decode cX12_pay 20 = .ok (.istore_n 2, 1) := by decide +kernel
theorem dX12_pay_21 : decode cX12_pay 21 = .ok (.iload_n 2, 1) := by decide +kernel
theorem dX12_pay_22 : decode cX12_pay 22 = .ok (.iconst (-1), 1) := by decide +kernel
theorem dX12_pay_23 : decode cX12_pay 23 = .ok (.if_icmp .ne 7, 3) := by decide +kernel
theorem dX12_pay_26 : decode cX12_pay 26 = .ok (.ldc2_w 197, 3) := by decide +kernel
theorem dX12_pay_29 : decode cX12_pay 29 = .ok (.lreturn, 1) := by decide +kernel
theorem dX12_pay_30 : decode cX12_pay 30 = .ok (.aload_n 0, 1) := by decide +kernel
theorem dX12_pay_31 : decode cX12_pay 31 = .ok (.iload_n 2, 1) := by decide +kernel
theorem dX12_pay_32 : decode cX12_pay 32 = .ok (.iload_n 1, 1) := by decide +kernel
theorem dX12_pay_33 : decode cX12_pay 33 = .ok (.invokevirtual 205, 3) := by decide +kernel
theorem dX12_pay_36 : decode cX12_pay 36 = .ok (.istore_n 3, 1) := by decide +kernel
theorem dX12_pay_37 : decode cX12_pay 37 = .ok (.aload_n 0, 1) := by decide +kernel
theorem dX12_pay_38 : decode cX12_pay 38 = .ok (.aload_n 0, 1) := by decide +kernel
theorem dX12_pay_39 : decode cX12_pay 39 = .ok (.invokevirtual 166, 3) := by decide +kernel
theorem dX12_pay_42 : decode cX12_pay 42 = .ok (.iconst 1, 1) := by decide +kernel
theorem dX12_pay_43 : decode cX12_pay 43 = .ok (.iload_n 3, 1) := by decide +kernel
theorem dX12_pay_44 : decode cX12_pay 44 = .ok (.ishl, 1) := by decide +kernel
theorem dX12_pay_45 : decode cX12_pay 45 = .ok (.iconst (-1), 1) := by decide +kernel
theorem dX12_pay_46 : decode cX12_pay 46 = .ok (.ixor, 1) := by decide +kernel
theorem dX12_pay_47 : decode cX12_pay 47 = .ok (.iand, 1) := by decide +kernel
theorem dX12_pay_48 : decode cX12_pay 48 = .ok (.iload_n 1, 1) := by decide +kernel
theorem dX12_pay_49 : decode cX12_pay 49 = .ok (.invokevirtual 219, 3) := by decide +kernel
theorem dX12_pay_52 : decode cX12_pay 52 = .ok (.aload_n 0, 1) := by decide +kernel
theorem dX12_pay_53 : decode cX12_pay 53 = .ok (.aload_n 0, 1) := by decide +kernel
theorem dX12_pay_54 : decode cX12_pay 54 = .ok (.invokevirtual 166, 3) := by decide +kernel
theorem dX12_pay_57 : decode cX12_pay 57 = .ok (.iload_n 1, 1) := by decide +kernel
theorem dX12_pay_58 : decode cX12_pay 58 = .ok (.invokevirtual 219, 3) := by decide +kernel
theorem dX12_pay_61 : decode cX12_pay 61 = .ok (.lsub, 1) := by decide +kernel
theorem dX12_pay_62 : decode cX12_pay 62 = .ok (.lreturn, 1) := by decide +kernel
theorem dX12_only_0 : decode cX12_only 0 = .ok (.iload_n 1, 1) := by decide +kernel
theorem dX12_only_1 : decode cX12_only 1 = .ok (.i2l, 1) := by decide +kernel
theorem dX12_only_2 : decode cX12_only 2 = .ok (.lconst 0, 1) := by decide +kernel
theorem dX12_only_3 : decode cX12_only 3 = .ok (.aload_n 0, 1) := by decide +kernel
theorem dX12_only_4 : decode cX12_only 4 = .ok (.invokevirtual 166, 3) := by decide +kernel
theorem dX12_only_7 : decode cX12_only 7 = .ok (.i2l, 1) := by decide +kernel
theorem dX12_only_8 : decode cX12_only 8 = .ok (.invokestatic 64, 3) := by decide +kernel
theorem dX12_only_11 : decode cX12_only 11 = .ok (.ifCond .eq 12, 3) := by decide +kernel
theorem dX12_only_14 : decode cX12_only 14 = .ok (.aload_n 0, 1) := by decide +kernel
theorem dX12_only_15 : decode cX12_only 15 = .ok (.iload_n 1, 1) := by decide +kernel
theorem dX12_only_16 : decode cX12_only 16 = .ok (.iconst (-1), 1) := by decide +kernel
theorem dX12_only_17 : decode cX12_only 17 = .ok (.invokevirtual 219, 3) := by decide +kernel
theorem dX12_only_20 : decode cX12_only 20 = .ok (.goto 6, 3) := by decide +kernel
theorem dX12_only_23 : decode cX12_only 23 = .ok (.ldc2_w 197, 3) := by decide +kernel
theorem dX12_only_26 : decode cX12_only 26 = .ok (.lreturn, 1) := by decide +kernel
theorem dX12_measureOf_0 : decode cX12_measureOf 0 = .ok (.ldc2_w 197, 3) := by decide +kernel
theorem dX12_measureOf_3 : decode cX12_measureOf 3 = .ok (.lstore 4, 2) := by decide +kernel
theorem dX12_measureOf_5 : decode cX12_measureOf 5 = .ok (.ldc2_w 185, 3) := by decide +kernel
theorem dX12_measureOf_8 : decode cX12_measureOf 8 = .ok (.lstore 6, 2) := by decide +kernel
theorem dX12_measureOf_10 : decode cX12_measureOf 10 = .ok (.iconst 0, 1) := by decide +kernel
theorem dX12_measureOf_11 : decode cX12_measureOf 11 = .ok (.istore 8, 2) := by decide +kernel
theorem dX12_measureOf_13 : decode cX12_measureOf 13 = .ok (.iconst 0, 1) := by decide +kernel
theorem dX12_measureOf_14 : decode cX12_measureOf 14 = .ok (.istore 9, 2) := by decide +kernel
theorem dX12_measureOf_16 : decode cX12_measureOf 16 = .ok (.iload 9, 2) := by decide +kernel
theorem dX12_measureOf_18 : decode cX12_measureOf 18 = .ok (.aload_n 0, 1) := by decide +kernel
theorem dX12_measureOf_19 : decode cX12_measureOf 19 = .ok (.invokevirtual 60, 3) := by decide +kernel
theorem dX12_measureOf_22 : decode cX12_measureOf 22 = .ok (.if_icmp .ge 60, 3) := by decide +kernel
theorem dX12_measureOf_25 : decode cX12_measureOf 25 = .ok (.aload_n 0, 1) := by decide +kernel
theorem dX12_measureOf_26 : decode cX12_measureOf 26 = .ok (.iload 9, 2) := by decide +kernel
theorem dX12_measureOf_28 : decode cX12_measureOf 28 = .ok (.aload_n 0, 1) := by decide +kernel
theorem dX12_measureOf_29 : decode cX12_measureOf 29 = .ok (.iload_n 1, 1) := by decide +kernel
theorem dX12_measureOf_30 : decode cX12_measureOf 30 = .ok (.iload 9, 2) := by decide +kernel
theorem dX12_measureOf_32 : decode cX12_measureOf 32 = .ok (.invokevirtual 205, 3) := by decide +kernel
theorem dX12_measureOf_35 : decode cX12_measureOf 35 = .ok (.invokevirtual 157, 3) := by decide +kernel
theorem dX12_measureOf_38 : decode cX12_measureOf 38 = .ok (.istore 10, 2) := by decide +kernel
theorem dX12_measureOf_40 : decode cX12_measureOf 40 = .ok (.lload 4, 2) := by decide +kernel
theorem dX12_measureOf_42 : decode cX12_measureOf 42 = .ok (.iload 10, 2) := by decide +kernel
theorem dX12_measureOf_44 : decode cX12_measureOf 44 = .ok (.i2l, 1) := by decide +kernel
theorem dX12_measureOf_45 : decode cX12_measureOf 45 = .ok (.invokestatic 223, 3) := by decide +kernel
theorem dX12_measureOf_48 : decode cX12_measureOf 48 = .ok (.lstore 4, 2) := by decide +kernel
theorem dX12_measureOf_50 : decode cX12_measureOf 50 = .ok (.lload 6, 2) := by decide +kernel
theorem dX12_measureOf_52 : decode cX12_measureOf 52 = .ok (.iload 10, 2) := by decide +kernel
theorem dX12_measureOf_54 : decode cX12_measureOf 54 = .ok (.i2l, 1) := by decide +kernel
theorem dX12_measureOf_55 : decode cX12_measureOf 55 = .ok (.invokestatic 227, 3) := by decide +kernel
theorem dX12_measureOf_58 : decode cX12_measureOf 58 = .ok (.lstore 6, 2) := by decide +kernel
theorem dX12_measureOf_60 : decode cX12_measureOf 60 = .ok (.iload 8, 2) := by decide +kernel
theorem dX12_measureOf_62 : decode cX12_measureOf 62 = .ok (.iload 10, 2) := by decide +kernel
theorem dX12_measureOf_64 : decode cX12_measureOf 64 = .ok (.iload_n 3, 1) := by decide +kernel
theorem dX12_measureOf_65 : decode cX12_measureOf 65 = .ok (.if_icmp .le 7, 3) := by decide +kernel
theorem dX12_measureOf_68 : decode cX12_measureOf 68 = .ok (.iconst 1, 1) := by decide +kernel
theorem dX12_measureOf_69 : decode cX12_measureOf 69 = .ok (.goto 4, 3) := by decide +kernel
theorem dX12_measureOf_72 : decode cX12_measureOf 72 = .ok (.iconst 0, 1) := by decide +kernel
theorem dX12_measureOf_73 : decode cX12_measureOf 73 = .ok (.iadd, 1) := by decide +kernel
theorem dX12_measureOf_74 : decode cX12_measureOf 74 = .ok (.istore 8, 2) := by decide +kernel
theorem dX12_measureOf_76 : decode cX12_measureOf 76 = .ok (.iinc 9 1, 3) := by decide +kernel
theorem dX12_measureOf_79 : decode cX12_measureOf 79 = .ok (.goto (-63), 3) := by decide +kernel
theorem dX12_measureOf_82 : decode cX12_measureOf 82 = .ok (.aload_n 0, 1) := by decide +kernel
theorem dX12_measureOf_83 : decode cX12_measureOf 83 = .ok (.invokevirtual 60, 3) := by decide +kernel
theorem dX12_measureOf_86 : decode cX12_measureOf 86 = .ok (.ifCond .ne 5, 3) := by decide +kernel
theorem dX12_measureOf_89 : decode cX12_measureOf 89 = .ok (.lconst 0, 1) := by decide +kernel
theorem dX12_measureOf_90 : decode cX12_measureOf 90 = .ok (.lreturn, 1) := by decide +kernel
theorem dX12_measureOf_91 : decode cX12_measureOf 91 = .ok (.iload_n 2, 1) := by decide +kernel
theorem dX12_measureOf_92 : decode cX12_measureOf 92 = .ok (.ifCond .ne 13, 3) := by decide +kernel
theorem dX12_measureOf_95 : decode cX12_measureOf 95 = .ok (.aload_n 0, 1) := by decide +kernel
theorem dX12_measureOf_96 : decode cX12_measureOf 96 = .ok (.getfield 34, 3) := by decide +kernel
theorem dX12_measureOf_99 : decode cX12_measureOf 99 = .ok (.iload_n 1, 1) := by decide +kernel
theorem dX12_measureOf_100 : decode cX12_measureOf 100 = .ok (.iaload, 1) := by decide +kernel
theorem dX12_measureOf_101 : decode cX12_measureOf 101 = .ok (.i2l, 1) := by decide +kernel
theorem dX12_measureOf_102 : decode cX12_measureOf 102 = .ok (.goto 29, 3) := by decide +kernel
theorem dX12_measureOf_105 : decode cX12_measureOf 105 = .ok (.iload_n 2, 1) := by decide +kernel
theorem dX12_measureOf_106 : decode cX12_measureOf 106 = .ok (.iconst 1, 1) := by decide +kernel
theorem dX12_measureOf_107 : decode cX12_measureOf 107 = .ok (.if_icmp .ne 8, 3) := by decide +kernel
theorem dX12_measureOf_110 : decode cX12_measureOf 110 = .ok (.lload 4, 2) := by decide +kernel
theorem dX12_measureOf_112 : decode cX12_measureOf 112 = .ok (.goto 19, 3) := by decide +kernel
theorem dX12_measureOf_115 : decode cX12_measureOf 115 = .ok (.iload_n 2, 1) := by decide +kernel
theorem dX12_measureOf_116 : decode cX12_measureOf 116 = .ok (.iconst 2, 1) := by decide +kernel
theorem dX12_measureOf_117 : decode cX12_measureOf 117 = .ok (.if_icmp .ne 11, 3) := by decide +kernel
theorem dX12_measureOf_120 : decode cX12_measureOf 120 = .ok (.lload 4, 2) := by decide +kernel
theorem dX12_measureOf_122 : decode cX12_measureOf 122 = .ok (.lload 6, 2) := by decide +kernel
theorem dX12_measureOf_124 : decode cX12_measureOf 124 = .ok (.lsub, 1) := by decide +kernel
theorem dX12_measureOf_125 : decode cX12_measureOf 125 = .ok (.goto 6, 3) := by decide +kernel
theorem dX12_measureOf_128 : decode cX12_measureOf 128 = .ok (.iload 8, 2) := by decide +kernel
theorem dX12_measureOf_130 : decode cX12_measureOf 130 = .ok (.i2l, 1) := by decide +kernel
theorem dX12_measureOf_131 : decode cX12_measureOf 131 = .ok (.lreturn, 1) := by decide +kernel
theorem dX12_firstBy_0 : decode cX12_firstBy 0 = .ok (.aload_n 0, 1) := by decide +kernel
theorem dX12_firstBy_1 : decode cX12_firstBy 1 = .ok (.invokevirtual 173, 3) := by decide +kernel
theorem dX12_firstBy_4 : decode cX12_firstBy 4 = .ok (.iconst (-1), 1) := by decide +kernel
theorem dX12_firstBy_5 : decode cX12_firstBy 5 = .ok (.istore_n 3, 1) := by decide +kernel
theorem dX12_firstBy_6 : decode cX12_firstBy 6 = .ok (.lconst 0, 1) := by decide +kernel
theorem dX12_firstBy_7 : decode cX12_firstBy 7 = .ok (.lstore 4, 2) := by decide +kernel
theorem dX12_firstBy_9 : decode cX12_firstBy 9 = .ok (.iconst 0, 1) := by decide +kernel
theorem dX12_firstBy_10 : decode cX12_firstBy 10 = .ok (.istore 6, 2) := by decide +kernel
theorem dX12_firstBy_12 : decode cX12_firstBy 12 = .ok (.iload 6, 2) := by decide +kernel
theorem dX12_firstBy_14 : decode cX12_firstBy 14 = .ok (.aload_n 0, 1) := by decide +kernel
theorem dX12_firstBy_15 : decode cX12_firstBy 15 = .ok (.getfield 154, 3) := by decide +kernel
theorem dX12_firstBy_18 : decode cX12_firstBy 18 = .ok (.if_icmp .ge 63, 3) := by decide +kernel
theorem dX12_firstBy_21 : decode cX12_firstBy 21 = .ok (.aload_n 0, 1) := by decide +kernel
theorem dX12_firstBy_22 : decode cX12_firstBy 22 = .ok (.iload 6, 2) := by decide +kernel
theorem dX12_firstBy_24 : decode cX12_firstBy 24 = .ok (.iload_n 1, 1) := by decide +kernel
theorem dX12_firstBy_25 : decode cX12_firstBy 25 = .ok (.iload_n 2, 1) := by decide +kernel
theorem dX12_firstBy_26 : decode cX12_firstBy 26 = .ok (.invokevirtual 229, 3) := by decide +kernel
theorem dX12_firstBy_29 : decode cX12_firstBy 29 = .ok (.lstore 7, 2) := by decide +kernel
theorem dX12_firstBy_31 : decode cX12_firstBy 31 = .ok (.iload_n 3, 1) := by decide +kernel
theorem dX12_firstBy_32 : decode cX12_firstBy 32 = .ok (.iconst (-1), 1) := by decide +kernel
theorem dX12_firstBy_33 : decode cX12_firstBy 33 = .ok (.if_icmp .eq 35, 3) := by decide +kernel
theorem dX12_firstBy_36 : decode cX12_firstBy 36 = .ok (.lload 7, 2) := by decide +kernel
theorem dX12_firstBy_38 : decode cX12_firstBy 38 = .ok (.lload 4, 2) := by decide +kernel
theorem dX12_firstBy_40 : decode cX12_firstBy 40 = .ok (.lcmp, 1) := by decide +kernel
theorem dX12_firstBy_41 : decode cX12_firstBy 41 = .ok (.ifCond .lt 27, 3) := by decide +kernel
theorem dX12_firstBy_44 : decode cX12_firstBy 44 = .ok (.lload 7, 2) := by decide +kernel
theorem dX12_firstBy_46 : decode cX12_firstBy 46 = .ok (.lload 4, 2) := by decide +kernel
theorem dX12_firstBy_48 : decode cX12_firstBy 48 = .ok (.lcmp, 1) := by decide +kernel
theorem dX12_firstBy_49 : decode cX12_firstBy 49 = .ok (.ifCond .ne 26, 3) := by decide +kernel
theorem dX12_firstBy_52 : decode cX12_firstBy 52 = .ok (.aload_n 0, 1) := by decide +kernel
theorem dX12_firstBy_53 : decode cX12_firstBy 53 = .ok (.getfield 34, 3) := by decide +kernel
theorem dX12_firstBy_56 : decode cX12_firstBy 56 = .ok (.iload 6, 2) := by decide +kernel
theorem dX12_firstBy_58 : decode cX12_firstBy 58 = .ok (.iaload, 1) := by decide +kernel
theorem dX12_firstBy_59 : decode cX12_firstBy 59 = .ok (.aload_n 0, 1) := by decide +kernel
theorem dX12_firstBy_60 : decode cX12_firstBy 60 = .ok (.getfield 34, 3) := by decide +kernel
theorem dX12_firstBy_63 : decode cX12_firstBy 63 = .ok (.iload_n 3, 1) := by decide +kernel
theorem dX12_firstBy_64 : decode cX12_firstBy 64 = .ok (.iaload, 1) := by decide +kernel
theorem dX12_firstBy_65 : decode cX12_firstBy 65 = .ok (.if_icmp .ge 10, 3) := by decide +kernel
theorem dX12_firstBy_68 : decode cX12_firstBy 68 = .ok (.iload 6, 2) := by decide +kernel
theorem dX12_firstBy_70 : decode cX12_firstBy 70 = .ok (.istore_n 3, 1) := by decide +kernel
theorem dX12_firstBy_71 : decode cX12_firstBy 71 = .ok (.lload 7, 2) := by decide +kernel
theorem dX12_firstBy_73 : decode cX12_firstBy 73 = .ok (.lstore 4, 2) := by decide +kernel
theorem dX12_firstBy_75 : decode cX12_firstBy 75 = .ok (.iinc 6 1, 3) := by decide +kernel
theorem dX12_firstBy_78 : decode cX12_firstBy 78 = .ok (.goto (-66), 3) := by decide +kernel
theorem dX12_firstBy_81 : decode cX12_firstBy 81 = .ok (.iload_n 3, 1) := by decide +kernel
theorem dX12_firstBy_82 : decode cX12_firstBy 82 = .ok (.ireturn, 1) := by decide +kernel
theorem dX12_first_0 : decode cX12_first 0 = .ok (.iload_n 1, 1) := by decide +kernel
theorem dX12_first_1 : decode cX12_first 1 = .ok (.i2l, 1) := by decide +kernel
theorem dX12_first_2 : decode cX12_first 2 = .ok (.lconst 0, 1) := by decide +kernel
theorem dX12_first_3 : decode cX12_first 3 = .ok (.ldc2_w 233, 3) := by decide +kernel
theorem dX12_first_6 : decode cX12_first 6 = .ok (.invokestatic 64, 3) := by decide +kernel
theorem dX12_first_9 : decode cX12_first 9 = .ok (.ifCond .eq 13, 3) := by decide +kernel
theorem dX12_first_12 : decode cX12_first 12 = .ok (.iload_n 3, 1) := by decide +kernel
theorem dX12_first_13 : decode cX12_first 13 = .ok (.i2l, 1) := by decide +kernel
theorem dX12_first_14 : decode cX12_first 14 = .ok (.lconst 0, 1) := by decide +kernel
theorem dX12_first_15 : decode cX12_first 15 = .ok (.lconst 1, 1) := by decide +kernel
theorem dX12_first_16 : decode cX12_first 16 = .ok (.invokestatic 64, 3) := by decide +kernel
theorem dX12_first_19 : decode cX12_first 19 = .ok (.ifCond .ne 7, 3) := by decide +kernel
theorem dX12_first_22 : decode cX12_first 22 = .ok (.ldc2_w 197, 3) := by decide +kernel
theorem dX12_first_25 : decode cX12_first 25 = .ok (.lreturn, 1) := by decide +kernel
theorem dX12_first_26 : decode cX12_first 26 = .ok (.aload_n 0, 1) := by decide +kernel
theorem dX12_first_27 : decode cX12_first 27 = .ok (.iload_n 1, 1) := by decide +kernel
theorem dX12_first_28 : decode cX12_first 28 = .ok (.iload_n 2, 1) := by decide +kernel
theorem dX12_first_29 : decode cX12_first 29 = .ok (.invokevirtual 235, 3) := by decide +kernel
theorem dX12_first_32 : decode cX12_first 32 = .ok (.istore 4, 2) := by decide +kernel
theorem dX12_first_34 : decode cX12_first 34 = .ok (.iload 4, 2) := by decide +kernel
theorem dX12_first_36 : decode cX12_first 36 = .ok (.iconst (-1), 1) := by decide +kernel
theorem dX12_first_37 : decode cX12_first 37 = .ok (.if_icmp .ne 9, 3) := by decide +kernel
theorem dX12_first_40 : decode cX12_first 40 = .ok (.ldc2_w 197, 3) := by decide +kernel
theorem dX12_first_43 : decode cX12_first 43 = .ok (.goto 26, 3) := by decide +kernel
theorem dX12_first_46 : decode cX12_first 46 = .ok (.iload_n 3, 1) := by decide +kernel
theorem dX12_first_47 : decode cX12_first 47 = .ok (.ifCond .ne 14, 3) := by decide +kernel
theorem dX12_first_50 : decode cX12_first 50 = .ok (.aload_n 0, 1) := by decide +kernel
theorem dX12_first_51 : decode cX12_first 51 = .ok (.iload 4, 2) := by decide +kernel
theorem dX12_first_53 : decode cX12_first 53 = .ok (.iload_n 1, 1) := by decide +kernel
theorem dX12_first_54 : decode cX12_first 54 = .ok (.iload_n 2, 1) := by decide +kernel
theorem dX12_first_55 : decode cX12_first 55 = .ok (.invokevirtual 229, 3) := by decide +kernel
theorem dX12_first_58 : decode cX12_first 58 = .ok (.goto 11, 3) := by decide +kernel
theorem dX12_first_61 : decode cX12_first 61 = .ok (.aload_n 0, 1) := by decide +kernel
theorem dX12_first_62 : decode cX12_first 62 = .ok (.getfield 34, 3) := by decide +kernel
theorem dX12_first_65 : decode cX12_first 65 = .ok (.iload 4, 2) := by decide +kernel
theorem dX12_first_67 : decode cX12_first 67 = .ok (.iaload, 1) := by decide +kernel
theorem dX12_first_68 : decode cX12_first 68 = .ok (.i2l, 1) := by decide +kernel
theorem dX12_first_69 : decode cX12_first 69 = .ok (.lreturn, 1) := by decide +kernel
theorem dX12_firstJob_0 : decode cX12_firstJob 0 = .ok (.iload_n 1, 1) := by decide +kernel
theorem dX12_firstJob_1 : decode cX12_firstJob 1 = .ok (.i2l, 1) := by decide +kernel
theorem dX12_firstJob_2 : decode cX12_firstJob 2 = .ok (.lconst 0, 1) := by decide +kernel
theorem dX12_firstJob_3 : decode cX12_firstJob 3 = .ok (.ldc2_w 233, 3) := by decide +kernel
theorem dX12_firstJob_6 : decode cX12_firstJob 6 = .ok (.invokestatic 64, 3) := by decide +kernel
theorem dX12_firstJob_9 : decode cX12_firstJob 9 = .ok (.ifCond .eq 11, 3) := by decide +kernel
theorem dX12_firstJob_12 : decode cX12_firstJob 12 = .ok (.aload_n 0, 1) := by decide +kernel
theorem dX12_firstJob_13 : decode cX12_firstJob 13 = .ok (.iload_n 3, 1) := by decide +kernel
theorem dX12_firstJob_14 : decode cX12_firstJob 14 = .ok (.invokevirtual 187, 3) := by decide +kernel
theorem dX12_firstJob_17 : decode cX12_firstJob 17 = .ok (.ifCond .ne 6, 3) := by decide +kernel
theorem dX12_firstJob_20 : decode cX12_firstJob 20 = .ok (.bipush (-2), 2) := by decide +kernel
theorem dX12_firstJob_22 : decode cX12_firstJob 22 = .ok (.ireturn, 1) := by decide +kernel
theorem dX12_firstJob_23 : decode cX12_firstJob 23 = .ok (.aload_n 0, 1) := by decide +kernel
theorem dX12_firstJob_24 : decode cX12_firstJob 24 = .ok (.iload_n 1, 1) := by decide +kernel
theorem dX12_firstJob_25 : decode cX12_firstJob 25 = .ok (.iload_n 2, 1) := by decide +kernel
theorem dX12_firstJob_26 : decode cX12_firstJob 26 = .ok (.invokevirtual 235, 3) := by decide +kernel
theorem dX12_firstJob_29 : decode cX12_firstJob 29 = .ok (.istore 4, 2) := by decide +kernel
theorem dX12_firstJob_31 : decode cX12_firstJob 31 = .ok (.iload 4, 2) := by decide +kernel
theorem dX12_firstJob_33 : decode cX12_firstJob 33 = .ok (.iconst (-1), 1) := by decide +kernel
theorem dX12_firstJob_34 : decode cX12_firstJob 34 = .ok (.if_icmp .ne 7, 3) := by decide +kernel
theorem dX12_firstJob_37 : decode cX12_firstJob 37 = .ok (.iconst (-1), 1) := by decide +kernel
theorem dX12_firstJob_38 : decode cX12_firstJob 38 = .ok (.goto 10, 3) := by decide +kernel
theorem dX12_firstJob_41 : decode cX12_firstJob 41 = .ok (.aload_n 0, 1) := by decide +kernel
theorem dX12_firstJob_42 : decode cX12_firstJob 42 = .ok (.iload 4, 2) := by decide +kernel
theorem dX12_firstJob_44 : decode cX12_firstJob 44 = .ok (.iload_n 3, 1) := by decide +kernel
theorem dX12_firstJob_45 : decode cX12_firstJob 45 = .ok (.invokevirtual 205, 3) := by decide +kernel
theorem dX12_firstJob_48 : decode cX12_firstJob 48 = .ok (.ireturn, 1) := by decide +kernel
theorem dX12_isTaken_0 : decode cX12_isTaken 0 = .ok (.iconst 0, 1) := by decide +kernel
theorem dX12_isTaken_1 : decode cX12_isTaken 1 = .ok (.istore_n 2, 1) := by decide +kernel
theorem dX12_isTaken_2 : decode cX12_isTaken 2 = .ok (.iload_n 2, 1) := by decide +kernel
theorem dX12_isTaken_3 : decode cX12_isTaken 3 = .ok (.aload_n 0, 1) := by decide +kernel
theorem dX12_isTaken_4 : decode cX12_isTaken 4 = .ok (.invokevirtual 60, 3) := by decide +kernel
theorem dX12_isTaken_7 : decode cX12_isTaken 7 = .ok (.if_icmp .ge 21, 3) := by decide +kernel
theorem dX12_isTaken_10 : decode cX12_isTaken 10 = .ok (.aload_n 0, 1) := by decide +kernel
theorem dX12_isTaken_11 : decode cX12_isTaken 11 = .ok (.getfield 43, 3) := by decide +kernel
theorem dX12_isTaken_14 : decode cX12_isTaken 14 = .ok (.iload_n 2, 1) := by decide +kernel
theorem dX12_isTaken_15 : decode cX12_isTaken 15 = .ok (.iaload, 1) := by decide +kernel
theorem dX12_isTaken_16 : decode cX12_isTaken 16 = .ok (.iload_n 1, 1) := by decide +kernel
theorem dX12_isTaken_17 : decode cX12_isTaken 17 = .ok (.if_icmp .ne 5, 3) := by decide +kernel
theorem dX12_isTaken_20 : decode cX12_isTaken 20 = .ok (.iconst 1, 1) := by decide +kernel
theorem dX12_isTaken_21 : decode cX12_isTaken 21 = .ok (.ireturn, 1) := by decide +kernel
theorem dX12_isTaken_22 : decode cX12_isTaken 22 = .ok (.iinc 2 1, 3) := by decide +kernel
theorem dX12_isTaken_25 : decode cX12_isTaken 25 = .ok (.goto (-23), 3) := by decide +kernel
theorem dX12_isTaken_28 : decode cX12_isTaken 28 = .ok (.iconst 0, 1) := by decide +kernel
theorem dX12_isTaken_29 : decode cX12_isTaken 29 = .ok (.ireturn, 1) := by decide +kernel
theorem dX12_laysGreedy_0 : decode cX12_laysGreedy 0 = .ok (.iconst 0, 1) := by decide +kernel
theorem dX12_laysGreedy_1 : decode cX12_laysGreedy 1 = .ok (.istore_n 1, 1) := by decide +kernel
theorem dX12_laysGreedy_2 : decode cX12_laysGreedy 2 = .ok (.iload_n 1, 1) := by decide +kernel
theorem dX12_laysGreedy_3 : decode cX12_laysGreedy 3 = .ok (.bipush 7, 2) := by decide +kernel
theorem dX12_laysGreedy_5 : decode cX12_laysGreedy 5 = .ok (.if_icmp .ge 16, 3) := by decide +kernel
theorem dX12_laysGreedy_8 : decode cX12_laysGreedy 8 = .ok (.aload_n 0, 1) := by decide +kernel
theorem dX12_laysGreedy_9 : decode cX12_laysGreedy 9 = .ok (.getfield 43, 3) := by decide +kernel
theorem dX12_laysGreedy_12 : decode cX12_laysGreedy 12 = .ok (.iload_n 1, 1) := by decide +kernel
theorem dX12_laysGreedy_13 : decode cX12_laysGreedy 13 = .ok (.iconst (-1), 1) := by decide +kernel
theorem dX12_laysGreedy_14 : decode cX12_laysGreedy 14 = .ok (.iastore, 1) := by decide +kernel
theorem dX12_laysGreedy_15 : decode cX12_laysGreedy 15 = .ok (.iinc 1 1, 3) := by decide +kernel
theorem dX12_laysGreedy_18 : decode cX12_laysGreedy 18 = .ok (.goto (-16), 3) := by decide +kernel
theorem dX12_laysGreedy_21 : decode cX12_laysGreedy 21 = .ok (.iconst 1, 1) := by decide +kernel
theorem dX12_laysGreedy_22 : decode cX12_laysGreedy 22 = .ok (.istore_n 1, 1) := by decide +kernel
theorem dX12_laysGreedy_23 : decode cX12_laysGreedy 23 = .ok (.iload_n 1, 1) := by decide +kernel
theorem dX12_laysGreedy_24 : decode cX12_laysGreedy 24 = .ok (.ifCond .eq 141, 3) := by decide +kernel
theorem dX12_laysGreedy_27 : decode cX12_laysGreedy 27 = .ok (.iconst (-1), 1) := by decide +kernel
theorem dX12_laysGreedy_28 : decode cX12_laysGreedy 28 = .ok (.istore_n 2, 1) := by decide +kernel
theorem dX12_laysGreedy_29 : decode cX12_laysGreedy 29 = .ok (.iconst (-1), 1) := by decide +kernel
theorem dX12_laysGreedy_30 : decode cX12_laysGreedy 30 = .ok (.istore_n 3, 1) := by decide +kernel
theorem dX12_laysGreedy_31 : decode cX12_laysGreedy 31 = .ok (.iconst 0, 1) := by decide +kernel
theorem dX12_laysGreedy_32 : decode cX12_laysGreedy 32 = .ok (.istore 4, 2) := by decide +kernel
theorem dX12_laysGreedy_34 : decode cX12_laysGreedy 34 = .ok (.iload 4, 2) := by decide +kernel
theorem dX12_laysGreedy_36 : decode cX12_laysGreedy 36 = .ok (.aload_n 0, 1) := by decide +kernel
theorem dX12_laysGreedy_37 : decode cX12_laysGreedy 37 = .ok (.invokevirtual 60, 3) := by decide +kernel
theorem dX12_laysGreedy_40 : decode cX12_laysGreedy 40 = .ok (.if_icmp .ge 100, 3) := by decide +kernel
theorem dX12_laysGreedy_43 : decode cX12_laysGreedy 43 = .ok (.iconst 0, 1) := by decide +kernel
theorem dX12_laysGreedy_44 : decode cX12_laysGreedy 44 = .ok (.istore 5, 2) := by decide +kernel
theorem dX12_laysGreedy_46 : decode cX12_laysGreedy 46 = .ok (.iload 5, 2) := by decide +kernel
theorem dX12_laysGreedy_48 : decode cX12_laysGreedy 48 = .ok (.aload_n 0, 1) := by decide +kernel
theorem dX12_laysGreedy_49 : decode cX12_laysGreedy 49 = .ok (.invokevirtual 68, 3) := by decide +kernel
theorem dX12_laysGreedy_52 : decode cX12_laysGreedy 52 = .ok (.if_icmp .ge 82, 3) := by decide +kernel
theorem dX12_laysGreedy_55 : decode cX12_laysGreedy 55 = .ok (.aload_n 0, 1) := by decide +kernel
theorem dX12_laysGreedy_56 : decode cX12_laysGreedy 56 = .ok (.getfield 43, 3) := by decide +kernel
theorem dX12_laysGreedy_59 : decode cX12_laysGreedy 59 = .ok (.iload 4, 2) := by decide +kernel
theorem dX12_laysGreedy_61 : decode cX12_laysGreedy 61 = .ok (.iaload, 1) := by decide +kernel
theorem dX12_laysGreedy_62 : decode cX12_laysGreedy 62 = .ok (.iconst (-1), 1) := by decide +kernel
theorem dX12_laysGreedy_63 : decode cX12_laysGreedy 63 = .ok (.if_icmp .ne 29, 3) := by decide +kernel
theorem dX12_laysGreedy_66 : decode cX12_laysGreedy 66 = .ok (.aload_n 0, 1) := by decide +kernel
theorem dX12_laysGreedy_67 : decode cX12_laysGreedy 67 = .ok (.iload 5, 2) := by decide +kernel
theorem dX12_laysGreedy_69 : decode cX12_laysGreedy 69 = .ok (.invokevirtual 238, 3) := by decide +kernel
theorem dX12_laysGreedy_72 : decode cX12_laysGreedy 72 = .ok (.ifCond .ne 20, 3) := by decide +kernel
theorem dX12_laysGreedy_75 : decode cX12_laysGreedy 75 = .ok (.aload_n 0, 1) := by decide +kernel
theorem dX12_laysGreedy_76 : decode cX12_laysGreedy 76 = .ok (.iload 4, 2) := by decide +kernel
theorem dX12_laysGreedy_78 : decode cX12_laysGreedy 78 = .ok (.iload 5, 2) := by decide +kernel
theorem dX12_laysGreedy_80 : decode cX12_laysGreedy 80 = .ok (.invokevirtual 157, 3) := by decide +kernel
theorem dX12_laysGreedy_83 : decode cX12_laysGreedy 83 = .ok (.ldc 131, 2) := by decide +kernel
theorem dX12_laysGreedy_85 : decode cX12_laysGreedy 85 = .ok (.if_icmp .eq 7, 3) := by decide +kernel
theorem dX12_laysGreedy_88 : decode cX12_laysGreedy 88 = .ok (.iconst 1, 1) := by decide +kernel
theorem dX12_laysGreedy_89 : decode cX12_laysGreedy 89 = .ok (.goto 4, 3) := by decide +kernel
theorem dX12_laysGreedy_92 : decode cX12_laysGreedy 92 = .ok (.iconst 0, 1) := by decide +kernel
theorem dX12_laysGreedy_93 : decode cX12_laysGreedy 93 = .ok (.istore 6, 2) := by decide +kernel
theorem dX12_laysGreedy_95 : decode cX12_laysGreedy 95 = .ok (.iload 6, 2) := by decide +kernel
theorem dX12_laysGreedy_97 : decode cX12_laysGreedy 97 = .ok (.ifCond .eq 31, 3) := by decide +kernel
theorem dX12_laysGreedy_100 : decode cX12_laysGreedy 100 = .ok (.iload_n 2, 1) := by decide +kernel
theorem dX12_laysGreedy_101 : decode cX12_laysGreedy 101 = .ok (.iconst (-1), 1) := by decide +kernel
theorem dX12_laysGreedy_102 : decode cX12_laysGreedy 102 = .ok (.if_icmp .eq 20, 3) := by decide +kernel
theorem dX12_laysGreedy_105 : decode cX12_laysGreedy 105 = .ok (.aload_n 0, 1) := by decide +kernel
theorem dX12_laysGreedy_106 : decode cX12_laysGreedy 106 = .ok (.iload 4, 2) := by decide +kernel
theorem dX12_laysGreedy_108 : decode cX12_laysGreedy 108 = .ok (.iload 5, 2) := by decide +kernel
theorem dX12_laysGreedy_110 : decode cX12_laysGreedy 110 = .ok (.invokevirtual 157, 3) := by decide +kernel
theorem dX12_laysGreedy_113 : decode cX12_laysGreedy 113 = .ok (.aload_n 0, 1) := by decide +kernel
theorem dX12_laysGreedy_114 : decode cX12_laysGreedy 114 = .ok (.iload_n 2, 1) := by decide +kernel
theorem dX12_laysGreedy_115 : decode cX12_laysGreedy 115 = .ok (.iload_n 3, 1) := by decide +kernel
theorem dX12_laysGreedy_116 : decode cX12_laysGreedy 116 = .ok (.invokevirtual 157, 3) := by decide +kernel
theorem dX12_laysGreedy_119 : decode cX12_laysGreedy 119 = .ok (.if_icmp .ge 9, 3) := by decide +kernel
theorem dX12_laysGreedy_122 : decode cX12_laysGreedy 122 = .ok (.iload 4, 2) := by decide +kernel
theorem dX12_laysGreedy_124 : decode cX12_laysGreedy 124 = .ok (.istore_n 2, 1) := by decide +kernel
theorem dX12_laysGreedy_125 : decode cX12_laysGreedy 125 = .ok (.iload 5, 2) := by decide +kernel
theorem dX12_laysGreedy_127 : decode cX12_laysGreedy 127 = .ok (.istore_n 3, 1) := by decide +kernel
theorem dX12_laysGreedy_128 : decode cX12_laysGreedy 128 = .ok (.iinc 5 1, 3) := by decide +kernel
theorem dX12_laysGreedy_131 : decode cX12_laysGreedy 131 = .ok (.goto (-85), 3) := by decide +kernel
theorem dX12_laysGreedy_134 : decode cX12_laysGreedy 134 = .ok (.iinc 4 1, 3) := by decide +kernel
theorem dX12_laysGreedy_137 : decode cX12_laysGreedy 137 = .ok (.goto (-103), 3) := by decide +kernel
theorem dX12_laysGreedy_140 : decode cX12_laysGreedy 140 = .ok (.iload_n 2, 1) := by decide +kernel
theorem dX12_laysGreedy_141 : decode cX12_laysGreedy 141 = .ok (.iconst (-1), 1) := by decide +kernel
theorem dX12_laysGreedy_142 : decode cX12_laysGreedy 142 = .ok (.if_icmp .eq 7, 3) := by decide +kernel
theorem dX12_laysGreedy_145 : decode cX12_laysGreedy 145 = .ok (.iconst 1, 1) := by decide +kernel
theorem dX12_laysGreedy_146 : decode cX12_laysGreedy 146 = .ok (.goto 4, 3) := by decide +kernel
theorem dX12_laysGreedy_149 : decode cX12_laysGreedy 149 = .ok (.iconst 0, 1) := by decide +kernel
theorem dX12_laysGreedy_150 : decode cX12_laysGreedy 150 = .ok (.istore_n 1, 1) := by decide +kernel
theorem dX12_laysGreedy_151 : decode cX12_laysGreedy 151 = .ok (.iload_n 1, 1) := by decide +kernel
theorem dX12_laysGreedy_152 : decode cX12_laysGreedy 152 = .ok (.ifCond .eq 10, 3) := by decide +kernel
theorem dX12_laysGreedy_155 : decode cX12_laysGreedy 155 = .ok (.aload_n 0, 1) := by decide +kernel
theorem dX12_laysGreedy_156 : decode cX12_laysGreedy 156 = .ok (.getfield 43, 3) := by decide +kernel
theorem dX12_laysGreedy_159 : decode cX12_laysGreedy 159 = .ok (.iload_n 2, 1) := by decide +kernel
theorem dX12_laysGreedy_160 : decode cX12_laysGreedy 160 = .ok (.iload_n 3, 1) := by decide +kernel
theorem dX12_laysGreedy_161 : decode cX12_laysGreedy 161 = .ok (.iastore, 1) := by decide +kernel
theorem dX12_laysGreedy_162 : decode cX12_laysGreedy 162 = .ok (.goto (-139), 3) := by decide +kernel
theorem dX12_laysGreedy_165 : decode cX12_laysGreedy 165 = .ok (.return_, 1) := by decide +kernel
theorem dX12_hasMany_0 : decode cX12_hasMany 0 = .ok (.iconst 0, 1) := by decide +kernel
theorem dX12_hasMany_1 : decode cX12_hasMany 1 = .ok (.istore_n 1, 1) := by decide +kernel
theorem dX12_hasMany_2 : decode cX12_hasMany 2 = .ok (.iconst 0, 1) := by decide +kernel
theorem dX12_hasMany_3 : decode cX12_hasMany 3 = .ok (.istore_n 2, 1) := by decide +kernel
theorem dX12_hasMany_4 : decode cX12_hasMany 4 = .ok (.iload_n 2, 1) := by decide +kernel
theorem dX12_hasMany_5 : decode cX12_hasMany 5 = .ok (.aload_n 0, 1) := by decide +kernel
theorem dX12_hasMany_6 : decode cX12_hasMany 6 = .ok (.invokevirtual 60, 3) := by decide +kernel
theorem dX12_hasMany_9 : decode cX12_hasMany 9 = .ok (.if_icmp .ge 27, 3) := by decide +kernel
theorem dX12_hasMany_12 : decode cX12_hasMany 12 = .ok (.iload_n 1, 1) := by decide +kernel
theorem dX12_hasMany_13 : decode cX12_hasMany 13 = .ok (.aload_n 0, 1) := by decide +kernel
theorem dX12_hasMany_14 : decode cX12_hasMany 14 = .ok (.getfield 43, 3) := by decide +kernel
theorem dX12_hasMany_17 : decode cX12_hasMany 17 = .ok (.iload_n 2, 1) := by decide +kernel
theorem dX12_hasMany_18 : decode cX12_hasMany 18 = .ok (.iaload, 1) := by decide +kernel
theorem dX12_hasMany_19 : decode cX12_hasMany 19 = .ok (.iconst (-1), 1) := by decide +kernel
theorem dX12_hasMany_20 : decode cX12_hasMany 20 = .ok (.if_icmp .ne 7, 3) := by decide +kernel
theorem dX12_hasMany_23 : decode cX12_hasMany 23 = .ok (.iconst 0, 1) := by decide +kernel
theorem dX12_hasMany_24 : decode cX12_hasMany 24 = .ok (.goto 4, 3) := by decide +kernel
theorem dX12_hasMany_27 : decode cX12_hasMany 27 = .ok (.iconst 1, 1) := by decide +kernel
theorem dX12_hasMany_28 : decode cX12_hasMany 28 = .ok (.iadd, 1) := by decide +kernel
theorem dX12_hasMany_29 : decode cX12_hasMany 29 = .ok (.istore_n 1, 1) := by decide +kernel
theorem dX12_hasMany_30 : decode cX12_hasMany 30 = .ok (.iinc 2 1, 3) := by decide +kernel
theorem dX12_hasMany_33 : decode cX12_hasMany 33 = .ok (.goto (-29), 3) := by decide +kernel
theorem dX12_hasMany_36 : decode cX12_hasMany 36 = .ok (.iload_n 1, 1) := by decide +kernel
theorem dX12_hasMany_37 : decode cX12_hasMany 37 = .ok (.ireturn, 1) := by decide +kernel
theorem dX12_hasSum_0 : decode cX12_hasSum 0 = .ok (.lconst 0, 1) := by decide +kernel
theorem dX12_hasSum_1 : decode cX12_hasSum 1 = .ok (.lstore_n 1, 1) := by decide +kernel
theorem dX12_hasSum_2 : decode cX12_hasSum 2 = .ok (.iconst 0, 1) := by decide +kernel
theorem dX12_hasSum_3 : decode cX12_hasSum 3 = .ok (.istore_n 3, 1) := by decide +kernel
theorem dX12_hasSum_4 : decode cX12_hasSum 4 = .ok (.iload_n 3, 1) := by decide +kernel
theorem dX12_hasSum_5 : decode cX12_hasSum 5 = .ok (.aload_n 0, 1) := by decide +kernel
theorem dX12_hasSum_6 : decode cX12_hasSum 6 = .ok (.invokevirtual 60, 3) := by decide +kernel
theorem dX12_hasSum_9 : decode cX12_hasSum 9 = .ok (.if_icmp .ge 38, 3) := by decide +kernel
theorem dX12_hasSum_12 : decode cX12_hasSum 12 = .ok (.lload_n 1, 1) := by decide +kernel
theorem dX12_hasSum_13 : decode cX12_hasSum 13 = .ok (.aload_n 0, 1) := by decide +kernel
theorem dX12_hasSum_14 : decode cX12_hasSum 14 = .ok (.getfield 43, 3) := by decide +kernel
theorem dX12_hasSum_17 : decode cX12_hasSum 17 = .ok (.iload_n 3, 1) := by decide +kernel
theorem dX12_hasSum_18 : decode cX12_hasSum 18 = .ok (.iaload, 1) := by decide +kernel
theorem dX12_hasSum_19 : decode cX12_hasSum 19 = .ok (.iconst (-1), 1) := by decide +kernel
theorem dX12_hasSum_20 : decode cX12_hasSum 20 = .ok (.if_icmp .ne 7, 3) := by decide +kernel
theorem dX12_hasSum_23 : decode cX12_hasSum 23 = .ok (.lconst 0, 1) := by decide +kernel
theorem dX12_hasSum_24 : decode cX12_hasSum 24 = .ok (.goto 15, 3) := by decide +kernel
theorem dX12_hasSum_27 : decode cX12_hasSum 27 = .ok (.aload_n 0, 1) := by decide +kernel
theorem dX12_hasSum_28 : decode cX12_hasSum 28 = .ok (.iload_n 3, 1) := by decide +kernel
theorem dX12_hasSum_29 : decode cX12_hasSum 29 = .ok (.aload_n 0, 1) := by decide +kernel
theorem dX12_hasSum_30 : decode cX12_hasSum 30 = .ok (.getfield 43, 3) := by decide +kernel
theorem dX12_hasSum_33 : decode cX12_hasSum 33 = .ok (.iload_n 3, 1) := by decide +kernel
theorem dX12_hasSum_34 : decode cX12_hasSum 34 = .ok (.iaload, 1) := by decide +kernel
theorem dX12_hasSum_35 : decode cX12_hasSum 35 = .ok (.invokevirtual 157, 3) := by decide +kernel
theorem dX12_hasSum_38 : decode cX12_hasSum 38 = .ok (.i2l, 1) := by decide +kernel
theorem dX12_hasSum_39 : decode cX12_hasSum 39 = .ok (.ladd, 1) := by decide +kernel
theorem dX12_hasSum_40 : decode cX12_hasSum 40 = .ok (.lstore_n 1, 1) := by decide +kernel
theorem dX12_hasSum_41 : decode cX12_hasSum 41 = .ok (.iinc 3 1, 3) := by decide +kernel
theorem dX12_hasSum_44 : decode cX12_hasSum 44 = .ok (.goto (-40), 3) := by decide +kernel
theorem dX12_hasSum_47 : decode cX12_hasSum 47 = .ok (.lload_n 1, 1) := by decide +kernel
theorem dX12_hasSum_48 : decode cX12_hasSum 48 = .ok (.lreturn, 1) := by decide +kernel
theorem dX12_greedy_0 : decode cX12_greedy 0 = .ok (.aload_n 0, 1) := by decide +kernel
theorem dX12_greedy_1 : decode cX12_greedy 1 = .ok (.invokevirtual 241, 3) := by decide +kernel
theorem dX12_greedy_4 : decode cX12_greedy 4 = .ok (.iload_n 1, 1) := by decide +kernel
theorem dX12_greedy_5 : decode cX12_greedy 5 = .ok (.ifCond .ne 10, 3) := by decide +kernel
theorem dX12_greedy_8 : decode cX12_greedy 8 = .ok (.aload_n 0, 1) := by decide +kernel
theorem dX12_greedy_9 : decode cX12_greedy 9 = .ok (.invokevirtual 244, 3) := by decide +kernel
theorem dX12_greedy_12 : decode cX12_greedy 12 = .ok (.goto 19, 3) := by decide +kernel
theorem dX12_greedy_15 : decode cX12_greedy 15 = .ok (.iload_n 1, 1) := by decide +kernel
theorem dX12_greedy_16 : decode cX12_greedy 16 = .ok (.iconst 1, 1) := by decide +kernel
theorem dX12_greedy_17 : decode cX12_greedy 17 = .ok (.if_icmp .ne 11, 3) := by decide +kernel
theorem dX12_greedy_20 : decode cX12_greedy 20 = .ok (.aload_n 0, 1) := by decide +kernel
theorem dX12_greedy_21 : decode cX12_greedy 21 = .ok (.invokevirtual 248, 3) := by decide +kernel
theorem dX12_greedy_24 : decode cX12_greedy 24 = .ok (.i2l, 1) := by decide +kernel
theorem dX12_greedy_25 : decode cX12_greedy 25 = .ok (.goto 6, 3) := by decide +kernel
theorem dX12_greedy_28 : decode cX12_greedy 28 = .ok (.ldc2_w 197, 3) := by decide +kernel
theorem dX12_greedy_31 : decode cX12_greedy 31 = .ok (.lreturn, 1) := by decide +kernel
theorem dX12_greedyJob_0 : decode cX12_greedyJob 0 = .ok (.aload_n 0, 1) := by decide +kernel
theorem dX12_greedyJob_1 : decode cX12_greedyJob 1 = .ok (.iload_n 1, 1) := by decide +kernel
theorem dX12_greedyJob_2 : decode cX12_greedyJob 2 = .ok (.invokevirtual 187, 3) := by decide +kernel
theorem dX12_greedyJob_5 : decode cX12_greedyJob 5 = .ok (.ifCond .ne 6, 3) := by decide +kernel
theorem dX12_greedyJob_8 : decode cX12_greedyJob 8 = .ok (.bipush (-2), 2) := by decide +kernel
theorem dX12_greedyJob_10 : decode cX12_greedyJob 10 = .ok (.ireturn, 1) := by decide +kernel
theorem dX12_greedyJob_11 : decode cX12_greedyJob 11 = .ok (.aload_n 0, 1) := by decide +kernel
theorem dX12_greedyJob_12 : decode cX12_greedyJob 12 = .ok (.invokevirtual 241, 3) := by decide +kernel
theorem dX12_greedyJob_15 : decode cX12_greedyJob 15 = .ok (.aload_n 0, 1) := by decide +kernel
theorem dX12_greedyJob_16 : decode cX12_greedyJob 16 = .ok (.getfield 43, 3) := by decide +kernel
theorem dX12_greedyJob_19 : decode cX12_greedyJob 19 = .ok (.iload_n 1, 1) := by decide +kernel
theorem dX12_greedyJob_20 : decode cX12_greedyJob 20 = .ok (.iaload, 1) := by decide +kernel
theorem dX12_greedyJob_21 : decode cX12_greedyJob 21 = .ok (.ireturn, 1) := by decide +kernel
theorem dX12_offers_0 : decode cX12_offers 0 = .ok (.iload_n 1, 1) := by decide +kernel
theorem dX12_offers_1 : decode cX12_offers 1 = .ok (.aload_n 0, 1) := by decide +kernel
theorem dX12_offers_2 : decode cX12_offers 2 = .ok (.getfield 251, 3) := by decide +kernel
theorem dX12_offers_5 : decode cX12_offers 5 = .ok (.if_icmp .le 24, 3) := by decide +kernel
theorem dX12_offers_8 : decode cX12_offers 8 = .ok (.aload_n 0, 1) := by decide +kernel
theorem dX12_offers_9 : decode cX12_offers 9 = .ok (.iload_n 1, 1) := by decide +kernel
theorem dX12_offers_10 : decode cX12_offers 10 = .ok (.putfield 251, 3) := by decide +kernel
theorem dX12_offers_13 : decode cX12_offers 13 = .ok (.aload_n 0, 1) := by decide +kernel
theorem dX12_offers_14 : decode cX12_offers 14 = .ok (.iload_n 2, 1) := by decide +kernel
theorem dX12_offers_15 : decode cX12_offers 15 = .ok (.putfield 254, 3) := by decide +kernel
theorem dX12_offers_18 : decode cX12_offers 18 = .ok (.aload_n 0, 1) := by decide +kernel
theorem dX12_offers_19 : decode cX12_offers 19 = .ok (.iload_n 3, 1) := by decide +kernel
theorem dX12_offers_20 : decode cX12_offers 20 = .ok (.putfield 257, 3) := by decide +kernel
theorem dX12_offers_23 : decode cX12_offers 23 = .ok (.aload_n 0, 1) := by decide +kernel
theorem dX12_offers_24 : decode cX12_offers 24 = .ok (.iload 4, 2) := by decide +kernel
theorem dX12_offers_26 : decode cX12_offers 26 = .ok (.putfield 260, 3) := by decide +kernel
theorem dX12_offers_29 : decode cX12_offers 29 = .ok (.return_, 1) := by decide +kernel
theorem dX12_mends_0 : decode cX12_mends 0 = .ok (.aload_n 0, 1) := by decide +kernel
theorem dX12_mends_1 : decode cX12_mends 1 = .ok (.iconst 0, 1) := by decide +kernel
theorem dX12_mends_2 : decode cX12_mends 2 = .ok (.putfield 251, 3) := by decide +kernel
theorem dX12_mends_5 : decode cX12_mends 5 = .ok (.iconst 0, 1) := by decide +kernel
theorem dX12_mends_6 : decode cX12_mends 6 = .ok (.istore_n 1, 1) := by decide +kernel
theorem dX12_mends_7 : decode cX12_mends 7 = .ok (.iload_n 1, 1) := by decide +kernel
theorem dX12_mends_8 : decode cX12_mends 8 = .ok (.aload_n 0, 1) := by decide +kernel
theorem dX12_mends_9 : decode cX12_mends 9 = .ok (.invokevirtual 60, 3) := by decide +kernel
theorem dX12_mends_12 : decode cX12_mends 12 = .ok (.if_icmp .ge 69, 3) := by decide +kernel
theorem dX12_mends_15 : decode cX12_mends 15 = .ok (.iconst 0, 1) := by decide +kernel
theorem dX12_mends_16 : decode cX12_mends 16 = .ok (.istore_n 2, 1) := by decide +kernel
theorem dX12_mends_17 : decode cX12_mends 17 = .ok (.iload_n 2, 1) := by decide +kernel
theorem dX12_mends_18 : decode cX12_mends 18 = .ok (.aload_n 0, 1) := by decide +kernel
theorem dX12_mends_19 : decode cX12_mends 19 = .ok (.invokevirtual 68, 3) := by decide +kernel
theorem dX12_mends_22 : decode cX12_mends 22 = .ok (.if_icmp .ge 53, 3) := by decide +kernel
theorem dX12_mends_25 : decode cX12_mends 25 = .ok (.aload_n 0, 1) := by decide +kernel
theorem dX12_mends_26 : decode cX12_mends 26 = .ok (.iload_n 2, 1) := by decide +kernel
theorem dX12_mends_27 : decode cX12_mends 27 = .ok (.invokevirtual 238, 3) := by decide +kernel
theorem dX12_mends_30 : decode cX12_mends 30 = .ok (.ifCond .ne 39, 3) := by decide +kernel
theorem dX12_mends_33 : decode cX12_mends 33 = .ok (.aload_n 0, 1) := by decide +kernel
theorem dX12_mends_34 : decode cX12_mends 34 = .ok (.iload_n 1, 1) := by decide +kernel
theorem dX12_mends_35 : decode cX12_mends 35 = .ok (.iload_n 2, 1) := by decide +kernel
theorem dX12_mends_36 : decode cX12_mends 36 = .ok (.invokevirtual 157, 3) := by decide +kernel
theorem dX12_mends_39 : decode cX12_mends 39 = .ok (.ldc 131, 2) := by decide +kernel
theorem dX12_mends_41 : decode cX12_mends 41 = .ok (.if_icmp .eq 28, 3) := by decide +kernel
theorem dX12_mends_44 : decode cX12_mends 44 = .ok (.aload_n 0, 1) := by decide +kernel
theorem dX12_mends_45 : decode cX12_mends 45 = .ok (.aload_n 0, 1) := by decide +kernel
theorem dX12_mends_46 : decode cX12_mends 46 = .ok (.iload_n 1, 1) := by decide +kernel
theorem dX12_mends_47 : decode cX12_mends 47 = .ok (.aload_n 0, 1) := by decide +kernel
theorem dX12_mends_48 : decode cX12_mends 48 = .ok (.getfield 43, 3) := by decide +kernel
theorem dX12_mends_51 : decode cX12_mends 51 = .ok (.iload_n 1, 1) := by decide +kernel
theorem dX12_mends_52 : decode cX12_mends 52 = .ok (.iaload, 1) := by decide +kernel
theorem dX12_mends_53 : decode cX12_mends 53 = .ok (.invokevirtual 157, 3) := by decide +kernel
theorem dX12_mends_56 : decode cX12_mends 56 = .ok (.aload_n 0, 1) := by decide +kernel
theorem dX12_mends_57 : decode cX12_mends 57 = .ok (.iload_n 1, 1) := by decide +kernel
theorem dX12_mends_58 : decode cX12_mends 58 = .ok (.iload_n 2, 1) := by decide +kernel
theorem dX12_mends_59 : decode cX12_mends 59 = .ok (.invokevirtual 157, 3) := by decide +kernel
theorem dX12_mends_62 : decode cX12_mends 62 = .ok (.isub, 1) := by decide +kernel
theorem dX12_mends_63 : decode cX12_mends 63 = .ok (.iload_n 1, 1) := by decide +kernel
theorem dX12_mends_64 : decode cX12_mends 64 = .ok (.iload_n 2, 1) := by decide +kernel
theorem dX12_mends_65 : decode cX12_mends 65 = .ok (.iconst 0, 1) := by decide +kernel
theorem dX12_mends_66 : decode cX12_mends 66 = .ok (.invokevirtual 263, 3) := by decide +kernel
theorem dX12_mends_69 : decode cX12_mends 69 = .ok (.iinc 2 1, 3) := by decide +kernel
theorem dX12_mends_72 : decode cX12_mends 72 = .ok (.goto (-55), 3) := by decide +kernel
theorem dX12_mends_75 : decode cX12_mends 75 = .ok (.iinc 1 1, 3) := by decide +kernel
theorem dX12_mends_78 : decode cX12_mends 78 = .ok (.goto (-71), 3) := by decide +kernel
theorem dX12_mends_81 : decode cX12_mends 81 = .ok (.iconst 0, 1) := by decide +kernel
theorem dX12_mends_82 : decode cX12_mends 82 = .ok (.istore_n 1, 1) := by decide +kernel
theorem dX12_mends_83 : decode cX12_mends 83 = .ok (.iload_n 1, 1) := by decide +kernel
theorem dX12_mends_84 : decode cX12_mends 84 = .ok (.aload_n 0, 1) := by decide +kernel
theorem dX12_mends_85 : decode cX12_mends 85 = .ok (.invokevirtual 60, 3) := by decide +kernel
theorem dX12_mends_88 : decode cX12_mends 88 = .ok (.if_icmp .ge 113, 3) := by decide +kernel
theorem dX12_mends_91 : decode cX12_mends 91 = .ok (.iload_n 1, 1) := by decide +kernel
theorem dX12_mends_92 : decode cX12_mends 92 = .ok (.iconst 1, 1) := by decide +kernel
theorem dX12_mends_93 : decode cX12_mends 93 = .ok (.iadd, 1) := by decide +kernel
theorem dX12_mends_94 : decode cX12_mends 94 = .ok (.istore_n 2, 1) := by decide +kernel
theorem dX12_mends_95 : decode cX12_mends 95 = .ok (.iload_n 2, 1) := by decide +kernel
theorem dX12_mends_96 : decode cX12_mends 96 = .ok (.aload_n 0, 1) := by decide +kernel
theorem dX12_mends_97 : decode cX12_mends 97 = .ok (.invokevirtual 60, 3) := by decide +kernel
theorem dX12_mends_100 : decode cX12_mends 100 = .ok (.if_icmp .ge 95, 3) := by decide +kernel
theorem dX12_mends_103 : decode cX12_mends 103 = .ok (.aload_n 0, 1) := by decide +kernel
theorem dX12_mends_104 : decode cX12_mends 104 = .ok (.iload_n 1, 1) := by decide +kernel
theorem dX12_mends_105 : decode cX12_mends 105 = .ok (.aload_n 0, 1) := by decide +kernel
theorem dX12_mends_106 : decode cX12_mends 106 = .ok (.getfield 43, 3) := by decide +kernel
theorem dX12_mends_109 : decode cX12_mends 109 = .ok (.iload_n 2, 1) := by decide +kernel
theorem dX12_mends_110 : decode cX12_mends 110 = .ok (.iaload, 1) := by decide +kernel
theorem dX12_mends_111 : decode cX12_mends 111 = .ok (.invokevirtual 157, 3) := by decide +kernel
theorem dX12_mends_114 : decode cX12_mends 114 = .ok (.ldc 131, 2) := by decide +kernel
theorem dX12_mends_116 : decode cX12_mends 116 = .ok (.if_icmp .eq 73, 3) := by decide +kernel
theorem dX12_mends_119 : decode cX12_mends 119 = .ok (.aload_n 0, 1) := by decide +kernel
theorem dX12_mends_120 : decode cX12_mends 120 = .ok (.iload_n 2, 1) := by decide +kernel
theorem dX12_mends_121 : decode cX12_mends 121 = .ok (.aload_n 0, 1) := by decide +kernel
theorem dX12_mends_122 : decode cX12_mends 122 = .ok (.getfield 43, 3) := by decide +kernel
theorem dX12_mends_125 : decode cX12_mends 125 = .ok (.iload_n 1, 1) := by decide +kernel
theorem dX12_mends_126 : decode cX12_mends 126 = .ok (.iaload, 1) := by decide +kernel
theorem dX12_mends_127 : decode cX12_mends 127 = .ok (.invokevirtual 157, 3) := by decide +kernel
theorem dX12_mends_130 : decode cX12_mends 130 = .ok (.ldc 131, 2) := by decide +kernel
theorem dX12_mends_132 : decode cX12_mends 132 = .ok (.if_icmp .eq 57, 3) := by decide +kernel
theorem dX12_mends_135 : decode cX12_mends 135 = .ok (.aload_n 0, 1) := by decide +kernel
theorem dX12_mends_136 : decode cX12_mends 136 = .ok (.aload_n 0, 1) := by decide +kernel
theorem dX12_mends_137 : decode cX12_mends 137 = .ok (.iload_n 1, 1) := by decide +kernel
theorem dX12_mends_138 : decode cX12_mends 138 = .ok (.aload_n 0, 1) := by decide +kernel
theorem dX12_mends_139 : decode cX12_mends 139 = .ok (.getfield 43, 3) := by decide +kernel
theorem dX12_mends_142 : decode cX12_mends 142 = .ok (.iload_n 1, 1) := by decide +kernel
theorem dX12_mends_143 : decode cX12_mends 143 = .ok (.iaload, 1) := by decide +kernel
theorem dX12_mends_144 : decode cX12_mends 144 = .ok (.invokevirtual 157, 3) := by decide +kernel
theorem dX12_mends_147 : decode cX12_mends 147 = .ok (.aload_n 0, 1) := by decide +kernel
theorem dX12_mends_148 : decode cX12_mends 148 = .ok (.iload_n 2, 1) := by decide +kernel
theorem dX12_mends_149 : decode cX12_mends 149 = .ok (.aload_n 0, 1) := by decide +kernel
theorem dX12_mends_150 : decode cX12_mends 150 = .ok (.getfield 43, 3) := by decide +kernel
theorem dX12_mends_153 : decode cX12_mends 153 = .ok (.iload_n 2, 1) := by decide +kernel
theorem dX12_mends_154 : decode cX12_mends 154 = .ok (.iaload, 1) := by decide +kernel
theorem dX12_mends_155 : decode cX12_mends 155 = .ok (.invokevirtual 157, 3) := by decide +kernel
theorem dX12_mends_158 : decode cX12_mends 158 = .ok (.iadd, 1) := by decide +kernel
theorem dX12_mends_159 : decode cX12_mends 159 = .ok (.aload_n 0, 1) := by decide +kernel
theorem dX12_mends_160 : decode cX12_mends 160 = .ok (.iload_n 1, 1) := by decide +kernel
theorem dX12_mends_161 : decode cX12_mends 161 = .ok (.aload_n 0, 1) := by decide +kernel
theorem dX12_mends_162 : decode cX12_mends 162 = .ok (.getfield 43, 3) := by decide +kernel
theorem dX12_mends_165 : decode cX12_mends 165 = .ok (.iload_n 2, 1) := by decide +kernel
theorem dX12_mends_166 : decode cX12_mends 166 = .ok (.iaload, 1) := by decide +kernel
theorem dX12_mends_167 : decode cX12_mends 167 = .ok (.invokevirtual 157, 3) := by decide +kernel
theorem dX12_mends_170 : decode cX12_mends 170 = .ok (.isub, 1) := by decide +kernel
theorem dX12_mends_171 : decode cX12_mends 171 = .ok (.aload_n 0, 1) := by decide +kernel
theorem dX12_mends_172 : decode cX12_mends 172 = .ok (.iload_n 2, 1) := by decide +kernel
theorem dX12_mends_173 : decode cX12_mends 173 = .ok (.aload_n 0, 1) := by decide +kernel
theorem dX12_mends_174 : decode cX12_mends 174 = .ok (.getfield 43, 3) := by decide +kernel
theorem dX12_mends_177 : decode cX12_mends 177 = .ok (.iload_n 1, 1) := by decide +kernel
theorem dX12_mends_178 : decode cX12_mends 178 = .ok (.iaload, 1) := by decide +kernel
theorem dX12_mends_179 : decode cX12_mends 179 = .ok (.invokevirtual 157, 3) := by decide +kernel
theorem dX12_mends_182 : decode cX12_mends 182 = .ok (.isub, 1) := by decide +kernel
theorem dX12_mends_183 : decode cX12_mends 183 = .ok (.iload_n 1, 1) := by decide +kernel
theorem dX12_mends_184 : decode cX12_mends 184 = .ok (.iload_n 2, 1) := by decide +kernel
theorem dX12_mends_185 : decode cX12_mends 185 = .ok (.iconst 1, 1) := by decide +kernel
theorem dX12_mends_186 : decode cX12_mends 186 = .ok (.invokevirtual 263, 3) := by decide +kernel
theorem dX12_mends_189 : decode cX12_mends 189 = .ok (.iinc 2 1, 3) := by decide +kernel
theorem dX12_mends_192 : decode cX12_mends 192 = .ok (.goto (-97), 3) := by decide +kernel
theorem dX12_mends_195 : decode cX12_mends 195 = .ok (.iinc 1 1, 3) := by decide +kernel
theorem dX12_mends_198 : decode cX12_mends 198 = .ok (.goto (-115), 3) := by decide +kernel
theorem dX12_mends_201 : decode cX12_mends 201 = .ok (.aload_n 0, 1) := by decide +kernel
theorem dX12_mends_202 : decode cX12_mends 202 = .ok (.getfield 251, 3) := by decide +kernel
theorem dX12_mends_205 : decode cX12_mends 205 = .ok (.ifCond .ne 5, 3) := by decide +kernel
theorem dX12_mends_208 : decode cX12_mends 208 = .ok (.iconst 0, 1) := by decide +kernel
theorem dX12_mends_209 : decode cX12_mends 209 = .ok (.ireturn, 1) := by decide +kernel
theorem dX12_mends_210 : decode cX12_mends 210 = .ok (.aload_n 0, 1) := by decide +kernel
theorem dX12_mends_211 : decode cX12_mends 211 = .ok (.getfield 260, 3) := by decide +kernel
theorem dX12_mends_214 : decode cX12_mends 214 = .ok (.ifCond .eq 15, 3) := by decide +kernel
theorem dX12_mends_217 : decode cX12_mends 217 = .ok (.aload_n 0, 1) := by decide +kernel
theorem dX12_mends_218 : decode cX12_mends 218 = .ok (.getfield 43, 3) := by decide +kernel
theorem dX12_mends_221 : decode cX12_mends 221 = .ok (.aload_n 0, 1) := by decide +kernel
theorem dX12_mends_222 : decode cX12_mends 222 = .ok (.getfield 257, 3) := by decide +kernel
theorem dX12_mends_225 : decode cX12_mends 225 = .ok (.iaload, 1) := by decide +kernel
theorem dX12_mends_226 : decode cX12_mends 226 = .ok (.goto 7, 3) := by decide +kernel
theorem dX12_mends_229 : decode cX12_mends 229 = .ok (.aload_n 0, 1) := by decide +kernel
theorem dX12_mends_230 : decode cX12_mends 230 = .ok (.getfield 257, 3) := by decide +kernel
theorem dX12_mends_233 : decode cX12_mends 233 = .ok (.istore_n 1, 1) := by decide +kernel
theorem dX12_mends_234 : decode cX12_mends 234 = .ok (.aload_n 0, 1) := by decide +kernel
theorem dX12_mends_235 : decode cX12_mends 235 = .ok (.getfield 260, 3) := by decide +kernel
theorem dX12_mends_238 : decode cX12_mends 238 = .ok (.ifCond .eq 21, 3) := by decide +kernel
theorem dX12_mends_241 : decode cX12_mends 241 = .ok (.aload_n 0, 1) := by decide +kernel
theorem dX12_mends_242 : decode cX12_mends 242 = .ok (.getfield 43, 3) := by decide +kernel
theorem dX12_mends_245 : decode cX12_mends 245 = .ok (.aload_n 0, 1) := by decide +kernel
theorem dX12_mends_246 : decode cX12_mends 246 = .ok (.getfield 257, 3) := by decide +kernel
theorem dX12_mends_249 : decode cX12_mends 249 = .ok (.aload_n 0, 1) := by decide +kernel
theorem dX12_mends_250 : decode cX12_mends 250 = .ok (.getfield 43, 3) := by decide +kernel
theorem dX12_mends_253 : decode cX12_mends 253 = .ok (.aload_n 0, 1) := by decide +kernel
theorem dX12_mends_254 : decode cX12_mends 254 = .ok (.getfield 254, 3) := by decide +kernel
theorem dX12_mends_257 : decode cX12_mends 257 = .ok (.iaload, 1) := by decide +kernel
theorem dX12_mends_258 : decode cX12_mends 258 = .ok (.iastore, 1) := by decide +kernel
theorem dX12_mends_259 : decode cX12_mends 259 = .ok (.aload_n 0, 1) := by decide +kernel
theorem dX12_mends_260 : decode cX12_mends 260 = .ok (.getfield 43, 3) := by decide +kernel
theorem dX12_mends_263 : decode cX12_mends 263 = .ok (.aload_n 0, 1) := by decide +kernel
theorem dX12_mends_264 : decode cX12_mends 264 = .ok (.getfield 254, 3) := by decide +kernel
theorem dX12_mends_267 : decode cX12_mends 267 = .ok (.iload_n 1, 1) := by decide +kernel
theorem dX12_mends_268 : decode cX12_mends 268 = .ok (.iastore, 1) := by decide +kernel
theorem dX12_mends_269 : decode cX12_mends 269 = .ok (.iconst 1, 1) := by decide +kernel
theorem dX12_mends_270 : decode cX12_mends 270 = .ok (.ireturn, 1) := by decide +kernel
theorem dX12_mended_0 : decode cX12_mended 0 = .ok (.aload_n 0, 1) := by decide +kernel
theorem dX12_mended_1 : decode cX12_mended 1 = .ok (.invokevirtual 241, 3) := by decide +kernel
theorem dX12_mended_4 : decode cX12_mended 4 = .ok (.iload_n 1, 1) := by decide +kernel
theorem dX12_mended_5 : decode cX12_mended 5 = .ok (.i2l, 1) := by decide +kernel
theorem dX12_mended_6 : decode cX12_mended 6 = .ok (.lconst 0, 1) := by decide +kernel
theorem dX12_mended_7 : decode cX12_mended 7 = .ok (.lconst 1, 1) := by decide +kernel
theorem dX12_mended_8 : decode cX12_mended 8 = .ok (.invokestatic 64, 3) := by decide +kernel
theorem dX12_mended_11 : decode cX12_mended 11 = .ok (.ifCond .eq 14, 3) := by decide +kernel
theorem dX12_mended_14 : decode cX12_mended 14 = .ok (.aload_n 0, 1) := by decide +kernel
theorem dX12_mended_15 : decode cX12_mended 15 = .ok (.invokevirtual 248, 3) := by decide +kernel
theorem dX12_mended_18 : decode cX12_mended 18 = .ok (.aload_n 0, 1) := by decide +kernel
theorem dX12_mended_19 : decode cX12_mended 19 = .ok (.invokevirtual 60, 3) := by decide +kernel
theorem dX12_mended_22 : decode cX12_mended 22 = .ok (.if_icmp .ge 7, 3) := by decide +kernel
theorem dX12_mended_25 : decode cX12_mended 25 = .ok (.ldc2_w 197, 3) := by decide +kernel
theorem dX12_mended_28 : decode cX12_mended 28 = .ok (.lreturn, 1) := by decide +kernel
theorem dX12_mended_29 : decode cX12_mended 29 = .ok (.iconst 0, 1) := by decide +kernel
theorem dX12_mended_30 : decode cX12_mended 30 = .ok (.istore_n 2, 1) := by decide +kernel
theorem dX12_mended_31 : decode cX12_mended 31 = .ok (.aload_n 0, 1) := by decide +kernel
theorem dX12_mended_32 : decode cX12_mended 32 = .ok (.invokevirtual 267, 3) := by decide +kernel
theorem dX12_mended_35 : decode cX12_mended 35 = .ok (.ifCond .eq 9, 3) := by decide +kernel
theorem dX12_mended_38 : decode cX12_mended 38 = .ok (.iinc 2 1, 3) := by decide +kernel
theorem dX12_mended_41 : decode cX12_mended 41 = .ok (.goto (-10), 3) := by decide +kernel
theorem dX12_mended_44 : decode cX12_mended 44 = .ok (.iload_n 1, 1) := by decide +kernel
theorem dX12_mended_45 : decode cX12_mended 45 = .ok (.ifCond .ne 10, 3) := by decide +kernel
theorem dX12_mended_48 : decode cX12_mended 48 = .ok (.aload_n 0, 1) := by decide +kernel
theorem dX12_mended_49 : decode cX12_mended 49 = .ok (.invokevirtual 244, 3) := by decide +kernel
theorem dX12_mended_52 : decode cX12_mended 52 = .ok (.goto 5, 3) := by decide +kernel
theorem dX12_mended_55 : decode cX12_mended 55 = .ok (.iload_n 2, 1) := by decide +kernel
theorem dX12_mended_56 : decode cX12_mended 56 = .ok (.i2l, 1) := by decide +kernel
theorem dX12_mended_57 : decode cX12_mended 57 = .ok (.lreturn, 1) := by decide +kernel
theorem dX12_leastNet_0 : decode cX12_leastNet 0 = .ok (.iconst (-1), 1) := by decide +kernel
theorem dX12_leastNet_1 : decode cX12_leastNet 1 = .ok (.istore_n 3, 1) := by decide +kernel
theorem dX12_leastNet_2 : decode cX12_leastNet 2 = .ok (.iconst 0, 1) := by decide +kernel
theorem dX12_leastNet_3 : decode cX12_leastNet 3 = .ok (.istore 4, 2) := by decide +kernel
theorem dX12_leastNet_5 : decode cX12_leastNet 5 = .ok (.iload 4, 2) := by decide +kernel
theorem dX12_leastNet_7 : decode cX12_leastNet 7 = .ok (.aload_n 0, 1) := by decide +kernel
theorem dX12_leastNet_8 : decode cX12_leastNet 8 = .ok (.invokevirtual 68, 3) := by decide +kernel
theorem dX12_leastNet_11 : decode cX12_leastNet 11 = .ok (.if_icmp .ge 85, 3) := by decide +kernel
theorem dX12_leastNet_14 : decode cX12_leastNet 14 = .ok (.iload 4, 2) := by decide +kernel
theorem dX12_leastNet_16 : decode cX12_leastNet 16 = .ok (.iload_n 2, 1) := by decide +kernel
theorem dX12_leastNet_17 : decode cX12_leastNet 17 = .ok (.if_icmp .eq 58, 3) := by decide +kernel
theorem dX12_leastNet_20 : decode cX12_leastNet 20 = .ok (.aload_n 0, 1) := by decide +kernel
theorem dX12_leastNet_21 : decode cX12_leastNet 21 = .ok (.iload_n 1, 1) := by decide +kernel
theorem dX12_leastNet_22 : decode cX12_leastNet 22 = .ok (.iload 4, 2) := by decide +kernel
theorem dX12_leastNet_24 : decode cX12_leastNet 24 = .ok (.invokevirtual 157, 3) := by decide +kernel
theorem dX12_leastNet_27 : decode cX12_leastNet 27 = .ok (.ldc 131, 2) := by decide +kernel
theorem dX12_leastNet_29 : decode cX12_leastNet 29 = .ok (.if_icmp .eq 46, 3) := by decide +kernel
theorem dX12_leastNet_32 : decode cX12_leastNet 32 = .ok (.iload_n 3, 1) := by decide +kernel
theorem dX12_leastNet_33 : decode cX12_leastNet 33 = .ok (.iconst (-1), 1) := by decide +kernel
theorem dX12_leastNet_34 : decode cX12_leastNet 34 = .ok (.if_icmp .eq 37, 3) := by decide +kernel
theorem dX12_leastNet_37 : decode cX12_leastNet 37 = .ok (.aload_n 0, 1) := by decide +kernel
theorem dX12_leastNet_38 : decode cX12_leastNet 38 = .ok (.iload_n 1, 1) := by decide +kernel
theorem dX12_leastNet_39 : decode cX12_leastNet 39 = .ok (.iload 4, 2) := by decide +kernel
theorem dX12_leastNet_41 : decode cX12_leastNet 41 = .ok (.invokevirtual 157, 3) := by decide +kernel
theorem dX12_leastNet_44 : decode cX12_leastNet 44 = .ok (.i2l, 1) := by decide +kernel
theorem dX12_leastNet_45 : decode cX12_leastNet 45 = .ok (.aload_n 0, 1) := by decide +kernel
theorem dX12_leastNet_46 : decode cX12_leastNet 46 = .ok (.getfield 46, 3) := by decide +kernel
theorem dX12_leastNet_49 : decode cX12_leastNet 49 = .ok (.iload 4, 2) := by decide +kernel
theorem dX12_leastNet_51 : decode cX12_leastNet 51 = .ok (.laload, 1) := by decide +kernel
theorem dX12_leastNet_52 : decode cX12_leastNet 52 = .ok (.ladd, 1) := by decide +kernel
theorem dX12_leastNet_53 : decode cX12_leastNet 53 = .ok (.aload_n 0, 1) := by decide +kernel
theorem dX12_leastNet_54 : decode cX12_leastNet 54 = .ok (.iload_n 1, 1) := by decide +kernel
theorem dX12_leastNet_55 : decode cX12_leastNet 55 = .ok (.iload_n 3, 1) := by decide +kernel
theorem dX12_leastNet_56 : decode cX12_leastNet 56 = .ok (.invokevirtual 157, 3) := by decide +kernel
theorem dX12_leastNet_59 : decode cX12_leastNet 59 = .ok (.i2l, 1) := by decide +kernel
theorem dX12_leastNet_60 : decode cX12_leastNet 60 = .ok (.aload_n 0, 1) := by decide +kernel
theorem dX12_leastNet_61 : decode cX12_leastNet 61 = .ok (.getfield 46, 3) := by decide +kernel
theorem dX12_leastNet_64 : decode cX12_leastNet 64 = .ok (.iload_n 3, 1) := by decide +kernel
theorem dX12_leastNet_65 : decode cX12_leastNet 65 = .ok (.laload, 1) := by decide +kernel
theorem dX12_leastNet_66 : decode cX12_leastNet 66 = .ok (.ladd, 1) := by decide +kernel
theorem dX12_leastNet_67 : decode cX12_leastNet 67 = .ok (.lcmp, 1) := by decide +kernel
theorem dX12_leastNet_68 : decode cX12_leastNet 68 = .ok (.ifCond .ge 7, 3) := by decide +kernel
theorem dX12_leastNet_71 : decode cX12_leastNet 71 = .ok (.iconst 1, 1) := by decide +kernel
theorem dX12_leastNet_72 : decode cX12_leastNet 72 = .ok (.goto 4, 3) := by decide +kernel
theorem dX12_leastNet_75 : decode cX12_leastNet 75 = .ok (.iconst 0, 1) := by decide +kernel
theorem dX12_leastNet_76 : decode cX12_leastNet 76 = .ok (.istore 5, 2) := by decide +kernel
theorem dX12_leastNet_78 : decode cX12_leastNet 78 = .ok (.iload 5, 2) := by decide +kernel
theorem dX12_leastNet_80 : decode cX12_leastNet 80 = .ok (.ifCond .eq 8, 3) := by decide +kernel
theorem dX12_leastNet_83 : decode cX12_leastNet 83 = .ok (.iload 4, 2) := by decide +kernel
theorem dX12_leastNet_85 : decode cX12_leastNet 85 = .ok (.goto 4, 3) := by decide +kernel
theorem dX12_leastNet_88 : decode cX12_leastNet 88 = .ok (.iload_n 3, 1) := by decide +kernel
theorem dX12_leastNet_89 : decode cX12_leastNet 89 = .ok (.istore_n 3, 1) := by decide +kernel
theorem dX12_leastNet_90 : decode cX12_leastNet 90 = .ok (.iinc 4 1, 3) := by decide +kernel
theorem dX12_leastNet_93 : decode cX12_leastNet 93 = .ok (.goto (-88), 3) := by decide +kernel
theorem dX12_leastNet_96 : decode cX12_leastNet 96 = .ok (.iload_n 3, 1) := by decide +kernel
theorem dX12_leastNet_97 : decode cX12_leastNet 97 = .ok (.ireturn, 1) := by decide +kernel
theorem dX12_laysAuction_0 : decode cX12_laysAuction 0 = .ok (.iconst 0, 1) := by decide +kernel
theorem dX12_laysAuction_1 : decode cX12_laysAuction 1 = .ok (.istore_n 2, 1) := by decide +kernel
theorem dX12_laysAuction_2 : decode cX12_laysAuction 2 = .ok (.iload_n 2, 1) := by decide +kernel
theorem dX12_laysAuction_3 : decode cX12_laysAuction 3 = .ok (.bipush 8, 2) := by decide +kernel
theorem dX12_laysAuction_5 : decode cX12_laysAuction 5 = .ok (.if_icmp .ge 16, 3) := by decide +kernel
theorem dX12_laysAuction_8 : decode cX12_laysAuction 8 = .ok (.aload_n 0, 1) := by decide +kernel
theorem dX12_laysAuction_9 : decode cX12_laysAuction 9 = .ok (.getfield 46, 3) := by decide +kernel
theorem dX12_laysAuction_12 : decode cX12_laysAuction 12 = .ok (.iload_n 2, 1) := by decide +kernel
theorem dX12_laysAuction_13 : decode cX12_laysAuction 13 = .ok (.lconst 0, 1) := by decide +kernel
theorem dX12_laysAuction_14 : decode cX12_laysAuction 14 = .ok (.lastore, 1) := by decide +kernel
theorem dX12_laysAuction_15 : decode cX12_laysAuction 15 = .ok (.iinc 2 1, 3) := by decide +kernel
theorem dX12_laysAuction_18 : decode cX12_laysAuction 18 = .ok (.goto (-16), 3) := by decide +kernel
theorem dX12_laysAuction_21 : decode cX12_laysAuction 21 = .ok (.iconst 0, 1) := by decide +kernel
theorem dX12_laysAuction_22 : decode cX12_laysAuction 22 = .ok (.istore_n 2, 1) := by decide +kernel
theorem dX12_laysAuction_23 : decode cX12_laysAuction 23 = .ok (.iload_n 2, 1) := by decide +kernel
theorem dX12_laysAuction_24 : decode cX12_laysAuction 24 = .ok (.bipush 7, 2) := by decide +kernel
theorem dX12_laysAuction_26 : decode cX12_laysAuction 26 = .ok (.if_icmp .ge 23, 3) := by decide +kernel
theorem dX12_laysAuction_29 : decode cX12_laysAuction 29 = .ok (.aload_n 0, 1) := by decide +kernel
theorem dX12_laysAuction_30 : decode cX12_laysAuction 30 = .ok (.getfield 43, 3) := by decide +kernel
theorem dX12_laysAuction_33 : decode cX12_laysAuction 33 = .ok (.iload_n 2, 1) := by decide +kernel
theorem dX12_laysAuction_34 : decode cX12_laysAuction 34 = .ok (.iconst (-1), 1) := by decide +kernel
theorem dX12_laysAuction_35 : decode cX12_laysAuction 35 = .ok (.iastore, 1) := by decide +kernel
theorem dX12_laysAuction_36 : decode cX12_laysAuction 36 = .ok (.aload_n 0, 1) := by decide +kernel
theorem dX12_laysAuction_37 : decode cX12_laysAuction 37 = .ok (.getfield 50, 3) := by decide +kernel
theorem dX12_laysAuction_40 : decode cX12_laysAuction 40 = .ok (.iload_n 2, 1) := by decide +kernel
theorem dX12_laysAuction_41 : decode cX12_laysAuction 41 = .ok (.iload_n 2, 1) := by decide +kernel
theorem dX12_laysAuction_42 : decode cX12_laysAuction 42 = .ok (.iastore, 1) := by decide +kernel
theorem dX12_laysAuction_43 : decode cX12_laysAuction 43 = .ok (.iinc 2 1, 3) := by decide +kernel
theorem dX12_laysAuction_46 : decode cX12_laysAuction 46 = .ok (.goto (-23), 3) := by decide +kernel
theorem dX12_laysAuction_49 : decode cX12_laysAuction 49 = .ok (.iconst 0, 1) := by decide +kernel
theorem dX12_laysAuction_50 : decode cX12_laysAuction 50 = .ok (.istore_n 2, 1) := by decide +kernel
theorem dX12_laysAuction_51 : decode cX12_laysAuction 51 = .ok (.aload_n 0, 1) := by decide +kernel
theorem dX12_laysAuction_52 : decode cX12_laysAuction 52 = .ok (.invokevirtual 60, 3) := by decide +kernel
theorem dX12_laysAuction_55 : decode cX12_laysAuction 55 = .ok (.istore_n 3, 1) := by decide +kernel
theorem dX12_laysAuction_56 : decode cX12_laysAuction 56 = .ok (.aload_n 0, 1) := by decide +kernel
theorem dX12_laysAuction_57 : decode cX12_laysAuction 57 = .ok (.iconst 0, 1) := by decide +kernel
theorem dX12_laysAuction_58 : decode cX12_laysAuction 58 = .ok (.putfield 271, 3) := by decide +kernel
theorem dX12_laysAuction_61 : decode cX12_laysAuction 61 = .ok (.iload_n 2, 1) := by decide +kernel
theorem dX12_laysAuction_62 : decode cX12_laysAuction 62 = .ok (.iload_n 3, 1) := by decide +kernel
theorem dX12_laysAuction_63 : decode cX12_laysAuction 63 = .ok (.if_icmp .ge 189, 3) := by decide +kernel
theorem dX12_laysAuction_66 : decode cX12_laysAuction 66 = .ok (.aload_n 0, 1) := by decide +kernel
theorem dX12_laysAuction_67 : decode cX12_laysAuction 67 = .ok (.getfield 271, 3) := by decide +kernel
theorem dX12_laysAuction_70 : decode cX12_laysAuction 70 = .ok (.sipush 500, 3) := by decide +kernel
theorem dX12_laysAuction_73 : decode cX12_laysAuction 73 = .ok (.if_icmp .ge 179, 3) := by decide +kernel
theorem dX12_laysAuction_76 : decode cX12_laysAuction 76 = .ok (.aload_n 0, 1) := by decide +kernel
theorem dX12_laysAuction_77 : decode cX12_laysAuction 77 = .ok (.getfield 50, 3) := by decide +kernel
theorem dX12_laysAuction_80 : decode cX12_laysAuction 80 = .ok (.iload_n 2, 1) := by decide +kernel
theorem dX12_laysAuction_81 : decode cX12_laysAuction 81 = .ok (.iaload, 1) := by decide +kernel
theorem dX12_laysAuction_82 : decode cX12_laysAuction 82 = .ok (.istore 4, 2) := by decide +kernel
theorem dX12_laysAuction_84 : decode cX12_laysAuction 84 = .ok (.aload_n 0, 1) := by decide +kernel
theorem dX12_laysAuction_85 : decode cX12_laysAuction 85 = .ok (.iload 4, 2) := by decide +kernel
theorem dX12_laysAuction_87 : decode cX12_laysAuction 87 = .ok (.iconst (-1), 1) := by decide +kernel
theorem dX12_laysAuction_88 : decode cX12_laysAuction 88 = .ok (.invokevirtual 274, 3) := by decide +kernel
theorem dX12_laysAuction_91 : decode cX12_laysAuction 91 = .ok (.istore 5, 2) := by decide +kernel
theorem dX12_laysAuction_93 : decode cX12_laysAuction 93 = .ok (.iload 5, 2) := by decide +kernel
theorem dX12_laysAuction_95 : decode cX12_laysAuction 95 = .ok (.iconst (-1), 1) := by decide +kernel
theorem dX12_laysAuction_96 : decode cX12_laysAuction 96 = .ok (.if_icmp .ne 4, 3) := by decide +kernel
theorem dX12_laysAuction_99 : decode cX12_laysAuction 99 = .ok (.return_, 1) := by decide +kernel
theorem dX12_laysAuction_100 : decode cX12_laysAuction 100 = .ok (.aload_n 0, 1) := by decide +kernel
theorem dX12_laysAuction_101 : decode cX12_laysAuction 101 = .ok (.iload 4, 2) := by decide +kernel
theorem dX12_laysAuction_103 : decode cX12_laysAuction 103 = .ok (.iload 5, 2) := by decide +kernel
theorem dX12_laysAuction_105 : decode cX12_laysAuction 105 = .ok (.invokevirtual 274, 3) := by decide +kernel
theorem dX12_laysAuction_108 : decode cX12_laysAuction 108 = .ok (.istore 6, 2) := by decide +kernel
theorem dX12_laysAuction_110 : decode cX12_laysAuction 110 = .ok (.aload_n 0, 1) := by decide +kernel
theorem dX12_laysAuction_111 : decode cX12_laysAuction 111 = .ok (.iload 4, 2) := by decide +kernel
theorem dX12_laysAuction_113 : decode cX12_laysAuction 113 = .ok (.iload 5, 2) := by decide +kernel
theorem dX12_laysAuction_115 : decode cX12_laysAuction 115 = .ok (.invokevirtual 157, 3) := by decide +kernel
theorem dX12_laysAuction_118 : decode cX12_laysAuction 118 = .ok (.i2l, 1) := by decide +kernel
theorem dX12_laysAuction_119 : decode cX12_laysAuction 119 = .ok (.aload_n 0, 1) := by decide +kernel
theorem dX12_laysAuction_120 : decode cX12_laysAuction 120 = .ok (.getfield 46, 3) := by decide +kernel
theorem dX12_laysAuction_123 : decode cX12_laysAuction 123 = .ok (.iload 5, 2) := by decide +kernel
theorem dX12_laysAuction_125 : decode cX12_laysAuction 125 = .ok (.laload, 1) := by decide +kernel
theorem dX12_laysAuction_126 : decode cX12_laysAuction 126 = .ok (.ladd, 1) := by decide +kernel
theorem dX12_laysAuction_127 : decode cX12_laysAuction 127 = .ok (.lstore 7, 2) := by decide +kernel
theorem dX12_laysAuction_129 : decode cX12_laysAuction 129 = .ok (.iload 6, 2) := by decide +kernel
theorem dX12_laysAuction_131 : decode cX12_laysAuction 131 = .ok (.iconst (-1), 1) := by decide +kernel
theorem dX12_laysAuction_132 : decode cX12_laysAuction 132 = .ok (.if_icmp .ne 9, 3) := by decide +kernel
theorem dX12_laysAuction_135 : decode cX12_laysAuction 135 = .ok (.ldc2_w 277, 3) := by decide +kernel
theorem dX12_laysAuction_138 : decode cX12_laysAuction 138 = .ok (.goto 23, 3) := by decide +kernel
theorem dX12_laysAuction_141 : decode cX12_laysAuction 141 = .ok (.aload_n 0, 1) := by decide +kernel
theorem dX12_laysAuction_142 : decode cX12_laysAuction 142 = .ok (.iload 4, 2) := by decide +kernel
theorem dX12_laysAuction_144 : decode cX12_laysAuction 144 = .ok (.iload 6, 2) := by decide +kernel
theorem dX12_laysAuction_146 : decode cX12_laysAuction 146 = .ok (.invokevirtual 157, 3) := by decide +kernel
theorem dX12_laysAuction_149 : decode cX12_laysAuction 149 = .ok (.i2l, 1) := by decide +kernel
theorem dX12_laysAuction_150 : decode cX12_laysAuction 150 = .ok (.aload_n 0, 1) := by decide +kernel
theorem dX12_laysAuction_151 : decode cX12_laysAuction 151 = .ok (.getfield 46, 3) := by decide +kernel
theorem dX12_laysAuction_154 : decode cX12_laysAuction 154 = .ok (.iload 6, 2) := by decide +kernel
theorem dX12_laysAuction_156 : decode cX12_laysAuction 156 = .ok (.laload, 1) := by decide +kernel
theorem dX12_laysAuction_157 : decode cX12_laysAuction 157 = .ok (.ladd, 1) := by decide +kernel
theorem dX12_laysAuction_158 : decode cX12_laysAuction 158 = .ok (.lload 7, 2) := by decide +kernel
theorem dX12_laysAuction_160 : decode cX12_laysAuction 160 = .ok (.lsub, 1) := by decide +kernel
theorem dX12_laysAuction_161 : decode cX12_laysAuction 161 = .ok (.lstore 9, 2) := by decide +kernel
theorem dX12_laysAuction_163 : decode cX12_laysAuction 163 = .ok (.iinc 2 1, 3) := by decide +kernel
theorem dX12_laysAuction_166 : decode cX12_laysAuction 166 = .ok (.aload_n 0, 1) := by decide +kernel
theorem dX12_laysAuction_167 : decode cX12_laysAuction 167 = .ok (.dup, 1) := by decide +kernel
theorem dX12_laysAuction_168 : decode cX12_laysAuction 168 = .ok (.getfield 271, 3) := by decide +kernel
theorem dX12_laysAuction_171 : decode cX12_laysAuction 171 = .ok (.iconst 1, 1) := by decide +kernel
theorem dX12_laysAuction_172 : decode cX12_laysAuction 172 = .ok (.iadd, 1) := by decide +kernel
theorem dX12_laysAuction_173 : decode cX12_laysAuction 173 = .ok (.putfield 271, 3) := by decide +kernel
theorem dX12_laysAuction_176 : decode cX12_laysAuction 176 = .ok (.iconst 0, 1) := by decide +kernel
theorem dX12_laysAuction_177 : decode cX12_laysAuction 177 = .ok (.istore 11, 2) := by decide +kernel
theorem dX12_laysAuction_179 : decode cX12_laysAuction 179 = .ok (.iload 11, 2) := by decide +kernel
theorem dX12_laysAuction_181 : decode cX12_laysAuction 181 = .ok (.aload_n 0, 1) := by decide +kernel
theorem dX12_laysAuction_182 : decode cX12_laysAuction 182 = .ok (.invokevirtual 60, 3) := by decide +kernel
theorem dX12_laysAuction_185 : decode cX12_laysAuction 185 = .ok (.if_icmp .ge 40, 3) := by decide +kernel
theorem dX12_laysAuction_188 : decode cX12_laysAuction 188 = .ok (.aload_n 0, 1) := by decide +kernel
theorem dX12_laysAuction_189 : decode cX12_laysAuction 189 = .ok (.getfield 43, 3) := by decide +kernel
theorem dX12_laysAuction_192 : decode cX12_laysAuction 192 = .ok (.iload 11, 2) := by decide +kernel
theorem dX12_laysAuction_194 : decode cX12_laysAuction 194 = .ok (.iaload, 1) := by decide +kernel
theorem dX12_laysAuction_195 : decode cX12_laysAuction 195 = .ok (.iload 5, 2) := by decide +kernel
theorem dX12_laysAuction_197 : decode cX12_laysAuction 197 = .ok (.if_icmp .ne 22, 3) := by decide +kernel
theorem dX12_laysAuction_200 : decode cX12_laysAuction 200 = .ok (.aload_n 0, 1) := by decide +kernel
theorem dX12_laysAuction_201 : decode cX12_laysAuction 201 = .ok (.getfield 43, 3) := by decide +kernel
theorem dX12_laysAuction_204 : decode cX12_laysAuction 204 = .ok (.iload 11, 2) := by decide +kernel
theorem dX12_laysAuction_206 : decode cX12_laysAuction 206 = .ok (.iconst (-1), 1) := by decide +kernel
theorem dX12_laysAuction_207 : decode cX12_laysAuction 207 = .ok (.iastore, 1) := by decide +kernel
theorem dX12_laysAuction_208 : decode cX12_laysAuction 208 = .ok (.aload_n 0, 1) := by decide +kernel
theorem dX12_laysAuction_209 : decode cX12_laysAuction 209 = .ok (.getfield 50, 3) := by decide +kernel
theorem dX12_laysAuction_212 : decode cX12_laysAuction 212 = .ok (.iload_n 3, 1) := by decide +kernel
theorem dX12_laysAuction_213 : decode cX12_laysAuction 213 = .ok (.iload 11, 2) := by decide +kernel
theorem dX12_laysAuction_215 : decode cX12_laysAuction 215 = .ok (.iastore, 1) := by decide +kernel
theorem dX12_laysAuction_216 : decode cX12_laysAuction 216 = .ok (.iinc 3 1, 3) := by decide +kernel
theorem dX12_laysAuction_219 : decode cX12_laysAuction 219 = .ok (.iinc 11 1, 3) := by decide +kernel
theorem dX12_laysAuction_222 : decode cX12_laysAuction 222 = .ok (.goto (-43), 3) := by decide +kernel
theorem dX12_laysAuction_225 : decode cX12_laysAuction 225 = .ok (.aload_n 0, 1) := by decide +kernel
theorem dX12_laysAuction_226 : decode cX12_laysAuction 226 = .ok (.getfield 46, 3) := by decide +kernel
theorem dX12_laysAuction_229 : decode cX12_laysAuction 229 = .ok (.iload 5, 2) := by decide +kernel
theorem dX12_laysAuction_231 : decode cX12_laysAuction 231 = .ok (.dup2, 1) := by decide +kernel
theorem dX12_laysAuction_232 : decode cX12_laysAuction 232 = .ok (.laload, 1) := by decide +kernel
theorem dX12_laysAuction_233 : decode cX12_laysAuction 233 = .ok (.lload 9, 2) := by decide +kernel
theorem dX12_laysAuction_235 : decode cX12_laysAuction 235 = .ok (.iload_n 1, 1) := by decide +kernel
theorem dX12_laysAuction_236 : decode cX12_laysAuction 236 = .ok (.i2l, 1) := by decide +kernel
theorem dX12_laysAuction_237 : decode cX12_laysAuction 237 = .ok (.ladd, 1) := by decide +kernel
theorem dX12_laysAuction_238 : decode cX12_laysAuction 238 = .ok (.ladd, 1) := by decide +kernel
theorem dX12_laysAuction_239 : decode cX12_laysAuction 239 = .ok (.lastore, 1) := by decide +kernel
theorem dX12_laysAuction_240 : decode cX12_laysAuction 240 = .ok (.aload_n 0, 1) := by decide +kernel
theorem dX12_laysAuction_241 : decode cX12_laysAuction 241 = .ok (.getfield 43, 3) := by decide +kernel
theorem dX12_laysAuction_244 : decode cX12_laysAuction 244 = .ok (.iload 4, 2) := by decide +kernel
theorem dX12_laysAuction_246 : decode cX12_laysAuction 246 = .ok (.iload 5, 2) := by decide +kernel
theorem dX12_laysAuction_248 : decode cX12_laysAuction 248 = .ok (.iastore, 1) := by decide +kernel
theorem dX12_laysAuction_249 : decode cX12_laysAuction 249 = .ok (.goto (-188), 3) := by decide +kernel
theorem dX12_laysAuction_252 : decode cX12_laysAuction 252 = .ok (.return_, 1) := by decide +kernel
theorem dX12_auction_0 : decode cX12_auction 0 = .ok (.iload_n 1, 1) := by decide +kernel
theorem dX12_auction_1 : decode cX12_auction 1 = .ok (.i2l, 1) := by decide +kernel
theorem dX12_auction_2 : decode cX12_auction 2 = .ok (.lconst 1, 1) := by decide +kernel
theorem dX12_auction_3 : decode cX12_auction 3 = .ok (.ldc2_w 279, 3) := by decide +kernel
theorem dX12_auction_6 : decode cX12_auction 6 = .ok (.invokestatic 64, 3) := by decide +kernel
theorem dX12_auction_9 : decode cX12_auction 9 = .ok (.ifCond .eq 15, 3) := by decide +kernel
theorem dX12_auction_12 : decode cX12_auction 12 = .ok (.iload_n 2, 1) := by decide +kernel
theorem dX12_auction_13 : decode cX12_auction 13 = .ok (.i2l, 1) := by decide +kernel
theorem dX12_auction_14 : decode cX12_auction 14 = .ok (.lconst 0, 1) := by decide +kernel
theorem dX12_auction_15 : decode cX12_auction 15 = .ok (.ldc2_w 281, 3) := by decide +kernel
theorem dX12_auction_18 : decode cX12_auction 18 = .ok (.invokestatic 64, 3) := by decide +kernel
theorem dX12_auction_21 : decode cX12_auction 21 = .ok (.ifCond .ne 7, 3) := by decide +kernel
theorem dX12_auction_24 : decode cX12_auction 24 = .ok (.ldc2_w 197, 3) := by decide +kernel
theorem dX12_auction_27 : decode cX12_auction 27 = .ok (.lreturn, 1) := by decide +kernel
theorem dX12_auction_28 : decode cX12_auction 28 = .ok (.aload_n 0, 1) := by decide +kernel
theorem dX12_auction_29 : decode cX12_auction 29 = .ok (.iload_n 1, 1) := by decide +kernel
theorem dX12_auction_30 : decode cX12_auction 30 = .ok (.invokevirtual 283, 3) := by decide +kernel
theorem dX12_auction_33 : decode cX12_auction 33 = .ok (.iload_n 2, 1) := by decide +kernel
theorem dX12_auction_34 : decode cX12_auction 34 = .ok (.ifCond .ne 11, 3) := by decide +kernel
theorem dX12_auction_37 : decode cX12_auction 37 = .ok (.aload_n 0, 1) := by decide +kernel
theorem dX12_auction_38 : decode cX12_auction 38 = .ok (.getfield 271, 3) := by decide +kernel
theorem dX12_auction_41 : decode cX12_auction 41 = .ok (.i2l, 1) := by decide +kernel
theorem dX12_auction_42 : decode cX12_auction 42 = .ok (.goto 31, 3) := by decide +kernel
theorem dX12_auction_45 : decode cX12_auction 45 = .ok (.iload_n 2, 1) := by decide +kernel
theorem dX12_auction_46 : decode cX12_auction 46 = .ok (.iconst 1, 1) := by decide +kernel
theorem dX12_auction_47 : decode cX12_auction 47 = .ok (.if_icmp .ne 22, 3) := by decide +kernel
theorem dX12_auction_50 : decode cX12_auction 50 = .ok (.aload_n 0, 1) := by decide +kernel
theorem dX12_auction_51 : decode cX12_auction 51 = .ok (.invokevirtual 248, 3) := by decide +kernel
theorem dX12_auction_54 : decode cX12_auction 54 = .ok (.aload_n 0, 1) := by decide +kernel
theorem dX12_auction_55 : decode cX12_auction 55 = .ok (.invokevirtual 60, 3) := by decide +kernel
theorem dX12_auction_58 : decode cX12_auction 58 = .ok (.if_icmp .ne 7, 3) := by decide +kernel
theorem dX12_auction_61 : decode cX12_auction 61 = .ok (.lconst 1, 1) := by decide +kernel
theorem dX12_auction_62 : decode cX12_auction 62 = .ok (.goto 11, 3) := by decide +kernel
theorem dX12_auction_65 : decode cX12_auction 65 = .ok (.lconst 0, 1) := by decide +kernel
theorem dX12_auction_66 : decode cX12_auction 66 = .ok (.goto 7, 3) := by decide +kernel
theorem dX12_auction_69 : decode cX12_auction 69 = .ok (.aload_n 0, 1) := by decide +kernel
theorem dX12_auction_70 : decode cX12_auction 70 = .ok (.invokevirtual 244, 3) := by decide +kernel
theorem dX12_auction_73 : decode cX12_auction 73 = .ok (.lreturn, 1) := by decide +kernel
theorem dX12_auctionPrice_0 : decode cX12_auctionPrice 0 = .ok (.iload_n 1, 1) := by decide +kernel
theorem dX12_auctionPrice_1 : decode cX12_auctionPrice 1 = .ok (.i2l, 1) := by decide +kernel
theorem dX12_auctionPrice_2 : decode cX12_auctionPrice 2 = .ok (.lconst 1, 1) := by decide +kernel
theorem dX12_auctionPrice_3 : decode cX12_auctionPrice 3 = .ok (.ldc2_w 279, 3) := by decide +kernel
theorem dX12_auctionPrice_6 : decode cX12_auctionPrice 6 = .ok (.invokestatic 64, 3) := by decide +kernel
theorem dX12_auctionPrice_9 : decode cX12_auctionPrice 9 = .ok (.ifCond .eq 11, 3) := by decide +kernel
theorem dX12_auctionPrice_12 : decode cX12_auctionPrice 12 = .ok (.aload_n 0, 1) := by decide +kernel
theorem dX12_auctionPrice_13 : decode cX12_auctionPrice 13 = .ok (.iload_n 2, 1) := by decide +kernel
theorem dX12_auctionPrice_14 : decode cX12_auctionPrice 14 = .ok (.invokevirtual 190, 3) := by decide +kernel
theorem dX12_auctionPrice_17 : decode cX12_auctionPrice 17 = .ok (.ifCond .ne 6, 3) := by decide +kernel
theorem dX12_auctionPrice_20 : decode cX12_auctionPrice 20 = .ok (.bipush (-2), 2) := by decide +kernel
theorem dX12_auctionPrice_22 : decode cX12_auctionPrice 22 = .ok (.ireturn, 1) := by decide +kernel
theorem dX12_auctionPrice_23 : decode cX12_auctionPrice 23 = .ok (.aload_n 0, 1) := by decide +kernel
theorem dX12_auctionPrice_24 : decode cX12_auctionPrice 24 = .ok (.iload_n 1, 1) := by decide +kernel
theorem dX12_auctionPrice_25 : decode cX12_auctionPrice 25 = .ok (.invokevirtual 283, 3) := by decide +kernel
theorem dX12_auctionPrice_28 : decode cX12_auctionPrice 28 = .ok (.aload_n 0, 1) := by decide +kernel
theorem dX12_auctionPrice_29 : decode cX12_auctionPrice 29 = .ok (.getfield 46, 3) := by decide +kernel
theorem dX12_auctionPrice_32 : decode cX12_auctionPrice 32 = .ok (.iload_n 2, 1) := by decide +kernel
theorem dX12_auctionPrice_33 : decode cX12_auctionPrice 33 = .ok (.laload, 1) := by decide +kernel
theorem dX12_auctionPrice_34 : decode cX12_auctionPrice 34 = .ok (.l2i, 1) := by decide +kernel
theorem dX12_auctionPrice_35 : decode cX12_auctionPrice 35 = .ok (.ireturn, 1) := by decide +kernel
theorem dX12_auctionJob_0 : decode cX12_auctionJob 0 = .ok (.iload_n 1, 1) := by decide +kernel
theorem dX12_auctionJob_1 : decode cX12_auctionJob 1 = .ok (.i2l, 1) := by decide +kernel
theorem dX12_auctionJob_2 : decode cX12_auctionJob 2 = .ok (.lconst 1, 1) := by decide +kernel
theorem dX12_auctionJob_3 : decode cX12_auctionJob 3 = .ok (.ldc2_w 279, 3) := by decide +kernel
theorem dX12_auctionJob_6 : decode cX12_auctionJob 6 = .ok (.invokestatic 64, 3) := by decide +kernel
theorem dX12_auctionJob_9 : decode cX12_auctionJob 9 = .ok (.ifCond .eq 11, 3) := by decide +kernel
theorem dX12_auctionJob_12 : decode cX12_auctionJob 12 = .ok (.aload_n 0, 1) := by decide +kernel
theorem dX12_auctionJob_13 : decode cX12_auctionJob 13 = .ok (.iload_n 2, 1) := by decide +kernel
theorem dX12_auctionJob_14 : decode cX12_auctionJob 14 = .ok (.invokevirtual 187, 3) := by decide +kernel
theorem dX12_auctionJob_17 : decode cX12_auctionJob 17 = .ok (.ifCond .ne 6, 3) := by decide +kernel
theorem dX12_auctionJob_20 : decode cX12_auctionJob 20 = .ok (.bipush (-2), 2) := by decide +kernel
theorem dX12_auctionJob_22 : decode cX12_auctionJob 22 = .ok (.ireturn, 1) := by decide +kernel
theorem dX12_auctionJob_23 : decode cX12_auctionJob 23 = .ok (.aload_n 0, 1) := by decide +kernel
theorem dX12_auctionJob_24 : decode cX12_auctionJob 24 = .ok (.iload_n 1, 1) := by decide +kernel
theorem dX12_auctionJob_25 : decode cX12_auctionJob 25 = .ok (.invokevirtual 283, 3) := by decide +kernel
theorem dX12_auctionJob_28 : decode cX12_auctionJob 28 = .ok (.aload_n 0, 1) := by decide +kernel
theorem dX12_auctionJob_29 : decode cX12_auctionJob 29 = .ok (.getfield 43, 3) := by decide +kernel
theorem dX12_auctionJob_32 : decode cX12_auctionJob 32 = .ok (.iload_n 2, 1) := by decide +kernel
theorem dX12_auctionJob_33 : decode cX12_auctionJob 33 = .ok (.iaload, 1) := by decide +kernel
theorem dX12_auctionJob_34 : decode cX12_auctionJob 34 = .ok (.ireturn, 1) := by decide +kernel
theorem dX12_drawn_0 : decode cX12_drawn 0 = .ok (.aload_n 0, 1) := by decide +kernel
theorem dX12_drawn_1 : decode cX12_drawn 1 = .ok (.invokevirtual 173, 3) := by decide +kernel
theorem dX12_drawn_4 : decode cX12_drawn 4 = .ok (.aload_n 0, 1) := by decide +kernel
theorem dX12_drawn_5 : decode cX12_drawn 5 = .ok (.getfield 154, 3) := by decide +kernel
theorem dX12_drawn_8 : decode cX12_drawn 8 = .ok (.ifCond .ne 7, 3) := by decide +kernel
theorem dX12_drawn_11 : decode cX12_drawn 11 = .ok (.iconst (-1), 1) := by decide +kernel
theorem dX12_drawn_12 : decode cX12_drawn 12 = .ok (.goto 22, 3) := by decide +kernel
theorem dX12_drawn_15 : decode cX12_drawn 15 = .ok (.lload_n 1, 1) := by decide +kernel
theorem dX12_drawn_16 : decode cX12_drawn 16 = .ok (.ldc2_w 286, 3) := by decide +kernel
theorem dX12_drawn_19 : decode cX12_drawn 19 = .ok (.lmul, 1) := by decide +kernel
theorem dX12_drawn_20 : decode cX12_drawn 20 = .ok (.ldc2_w 288, 3) := by decide +kernel
theorem dX12_drawn_23 : decode cX12_drawn 23 = .ok (.ladd, 1) := by decide +kernel
theorem dX12_drawn_24 : decode cX12_drawn 24 = .ok (.bipush 33, 2) := by decide +kernel
theorem dX12_drawn_26 : decode cX12_drawn 26 = .ok (.lushr, 1) := by decide +kernel
theorem dX12_drawn_27 : decode cX12_drawn 27 = .ok (.aload_n 0, 1) := by decide +kernel
theorem dX12_drawn_28 : decode cX12_drawn 28 = .ok (.getfield 154, 3) := by decide +kernel
theorem dX12_drawn_31 : decode cX12_drawn 31 = .ok (.i2l, 1) := by decide +kernel
theorem dX12_drawn_32 : decode cX12_drawn 32 = .ok (.lrem, 1) := by decide +kernel
theorem dX12_drawn_33 : decode cX12_drawn 33 = .ok (.l2i, 1) := by decide +kernel
theorem dX12_drawn_34 : decode cX12_drawn 34 = .ok (.ireturn, 1) := by decide +kernel
theorem dX12_leastOf_0 : decode cX12_leastOf 0 = .ok (.ldc 131, 2) := by decide +kernel
theorem dX12_leastOf_2 : decode cX12_leastOf 2 = .ok (.istore_n 3, 1) := by decide +kernel
theorem dX12_leastOf_3 : decode cX12_leastOf 3 = .ok (.iconst 0, 1) := by decide +kernel
theorem dX12_leastOf_4 : decode cX12_leastOf 4 = .ok (.istore 4, 2) := by decide +kernel
theorem dX12_leastOf_6 : decode cX12_leastOf 6 = .ok (.iload 4, 2) := by decide +kernel
theorem dX12_leastOf_8 : decode cX12_leastOf 8 = .ok (.iload_n 2, 1) := by decide +kernel
theorem dX12_leastOf_9 : decode cX12_leastOf 9 = .ok (.ifCond .ne 10, 3) := by decide +kernel
theorem dX12_leastOf_12 : decode cX12_leastOf 12 = .ok (.aload_n 0, 1) := by decide +kernel
theorem dX12_leastOf_13 : decode cX12_leastOf 13 = .ok (.invokevirtual 68, 3) := by decide +kernel
theorem dX12_leastOf_16 : decode cX12_leastOf 16 = .ok (.goto 7, 3) := by decide +kernel
theorem dX12_leastOf_19 : decode cX12_leastOf 19 = .ok (.aload_n 0, 1) := by decide +kernel
theorem dX12_leastOf_20 : decode cX12_leastOf 20 = .ok (.invokevirtual 60, 3) := by decide +kernel
theorem dX12_leastOf_23 : decode cX12_leastOf 23 = .ok (.if_icmp .ge 35, 3) := by decide +kernel
theorem dX12_leastOf_26 : decode cX12_leastOf 26 = .ok (.iload_n 3, 1) := by decide +kernel
theorem dX12_leastOf_27 : decode cX12_leastOf 27 = .ok (.iload_n 2, 1) := by decide +kernel
theorem dX12_leastOf_28 : decode cX12_leastOf 28 = .ok (.ifCond .ne 13, 3) := by decide +kernel
theorem dX12_leastOf_31 : decode cX12_leastOf 31 = .ok (.aload_n 0, 1) := by decide +kernel
theorem dX12_leastOf_32 : decode cX12_leastOf 32 = .ok (.iload_n 1, 1) := by decide +kernel
theorem dX12_leastOf_33 : decode cX12_leastOf 33 = .ok (.iload 4, 2) := by decide +kernel
theorem dX12_leastOf_35 : decode cX12_leastOf 35 = .ok (.invokevirtual 157, 3) := by decide +kernel
theorem dX12_leastOf_38 : decode cX12_leastOf 38 = .ok (.goto 10, 3) := by decide +kernel
theorem dX12_leastOf_41 : decode cX12_leastOf 41 = .ok (.aload_n 0, 1) := by decide +kernel
theorem dX12_leastOf_42 : decode cX12_leastOf 42 = .ok (.iload 4, 2) := by decide +kernel
theorem dX12_leastOf_44 : decode cX12_leastOf 44 = .ok (.iload_n 1, 1) := by decide +kernel
theorem dX12_leastOf_45 : decode cX12_leastOf 45 = .ok (.invokevirtual 157, 3) := by decide +kernel
theorem dX12_leastOf_48 : decode cX12_leastOf 48 = .ok (.invokestatic 94, 3) := by decide +kernel
theorem dX12_leastOf_51 : decode cX12_leastOf 51 = .ok (.istore_n 3, 1) := by decide +kernel
theorem dX12_leastOf_52 : decode cX12_leastOf 52 = .ok (.iinc 4 1, 3) := by decide +kernel
theorem dX12_leastOf_55 : decode cX12_leastOf 55 = .ok (.goto (-49), 3) := by decide +kernel
theorem dX12_leastOf_58 : decode cX12_leastOf 58 = .ok (.iload_n 3, 1) := by decide +kernel
theorem dX12_leastOf_59 : decode cX12_leastOf 59 = .ok (.ldc 131, 2) := by decide +kernel
theorem dX12_leastOf_61 : decode cX12_leastOf 61 = .ok (.if_icmp .ne 9, 3) := by decide +kernel
theorem dX12_leastOf_64 : decode cX12_leastOf 64 = .ok (.ldc2_w 197, 3) := by decide +kernel
theorem dX12_leastOf_67 : decode cX12_leastOf 67 = .ok (.goto 5, 3) := by decide +kernel
theorem dX12_leastOf_70 : decode cX12_leastOf 70 = .ok (.iload_n 3, 1) := by decide +kernel
theorem dX12_leastOf_71 : decode cX12_leastOf 71 = .ok (.i2l, 1) := by decide +kernel
theorem dX12_leastOf_72 : decode cX12_leastOf 72 = .ok (.lreturn, 1) := by decide +kernel
theorem dX12_least__0 : decode cX12_least_ 0 = .ok (.iload_n 2, 1) := by decide +kernel
theorem dX12_least__1 : decode cX12_least_ 1 = .ok (.ifCond .ne 11, 3) := by decide +kernel
theorem dX12_least__4 : decode cX12_least_ 4 = .ok (.aload_n 0, 1) := by decide +kernel
theorem dX12_least__5 : decode cX12_least_ 5 = .ok (.iload_n 1, 1) := by decide +kernel
theorem dX12_least__6 : decode cX12_least_ 6 = .ok (.invokevirtual 187, 3) := by decide +kernel
theorem dX12_least__9 : decode cX12_least_ 9 = .ok (.ifCond .ne 16, 3) := by decide +kernel
theorem dX12_least__12 : decode cX12_least_ 12 = .ok (.iload_n 2, 1) := by decide +kernel
theorem dX12_least__13 : decode cX12_least_ 13 = .ok (.iconst 1, 1) := by decide +kernel
theorem dX12_least__14 : decode cX12_least_ 14 = .ok (.if_icmp .ne 15, 3) := by decide +kernel
theorem dX12_least__17 : decode cX12_least_ 17 = .ok (.aload_n 0, 1) := by decide +kernel
theorem dX12_least__18 : decode cX12_least_ 18 = .ok (.iload_n 1, 1) := by decide +kernel
theorem dX12_least__19 : decode cX12_least_ 19 = .ok (.invokevirtual 190, 3) := by decide +kernel
theorem dX12_least__22 : decode cX12_least_ 22 = .ok (.ifCond .eq 7, 3) := by decide +kernel
theorem dX12_least__25 : decode cX12_least_ 25 = .ok (.iconst 1, 1) := by decide +kernel
theorem dX12_least__26 : decode cX12_least_ 26 = .ok (.goto 4, 3) := by decide +kernel
theorem dX12_least__29 : decode cX12_least_ 29 = .ok (.iconst 0, 1) := by decide +kernel
theorem dX12_least__30 : decode cX12_least_ 30 = .ok (.istore_n 3, 1) := by decide +kernel
theorem dX12_least__31 : decode cX12_least_ 31 = .ok (.iload_n 3, 1) := by decide +kernel
theorem dX12_least__32 : decode cX12_least_ 32 = .ok (.ifCond .eq 12, 3) := by decide +kernel
theorem dX12_least__35 : decode cX12_least_ 35 = .ok (.aload_n 0, 1) := by decide +kernel
theorem dX12_least__36 : decode cX12_least_ 36 = .ok (.iload_n 1, 1) := by decide +kernel
theorem dX12_least__37 : decode cX12_least_ 37 = .ok (.iload_n 2, 1) := by decide +kernel
theorem dX12_least__38 : decode cX12_least_ 38 = .ok (.invokevirtual 290, 3) := by decide +kernel
theorem dX12_least__41 : decode cX12_least_ 41 = .ok (.goto 6, 3) := by decide +kernel
theorem dX12_least__44 : decode cX12_least_ 44 = .ok (.ldc2_w 197, 3) := by decide +kernel
theorem dX12_least__47 : decode cX12_least_ 47 = .ok (.lreturn, 1) := by decide +kernel
theorem dX12_loss_0 : decode cX12_loss 0 = .ok (.aload_n 0, 1) := by decide +kernel
theorem dX12_loss_1 : decode cX12_loss 1 = .ok (.invokevirtual 199, 3) := by decide +kernel
theorem dX12_loss_4 : decode cX12_loss 4 = .ok (.aload_n 0, 1) := by decide +kernel
theorem dX12_loss_5 : decode cX12_loss 5 = .ok (.iload_n 1, 1) := by decide +kernel
theorem dX12_loss_6 : decode cX12_loss 6 = .ok (.invokevirtual 202, 3) := by decide +kernel
theorem dX12_loss_9 : decode cX12_loss 9 = .ok (.ifCond .ne 7, 3) := by decide +kernel
theorem dX12_loss_12 : decode cX12_loss 12 = .ok (.ldc2_w 197, 3) := by decide +kernel
theorem dX12_loss_15 : decode cX12_loss 15 = .ok (.lreturn, 1) := by decide +kernel
theorem dX12_loss_16 : decode cX12_loss 16 = .ok (.aload_n 0, 1) := by decide +kernel
theorem dX12_loss_17 : decode cX12_loss 17 = .ok (.getfield 34, 3) := by decide +kernel
theorem dX12_loss_20 : decode cX12_loss 20 = .ok (.aload_n 0, 1) := by decide +kernel
theorem dX12_loss_21 : decode cX12_loss 21 = .ok (.getfield 40, 3) := by decide +kernel
theorem dX12_loss_24 : decode cX12_loss 24 = .ok (.iload_n 1, 1) := by decide +kernel
theorem dX12_loss_25 : decode cX12_loss 25 = .ok (.iaload, 1) := by decide +kernel
theorem dX12_loss_26 : decode cX12_loss 26 = .ok (.iaload, 1) := by decide +kernel
theorem dX12_loss_27 : decode cX12_loss 27 = .ok (.i2l, 1) := by decide +kernel
theorem dX12_loss_28 : decode cX12_loss 28 = .ok (.lstore_n 2, 1) := by decide +kernel
theorem dX12_loss_29 : decode cX12_loss 29 = .ok (.iconst 0, 1) := by decide +kernel
theorem dX12_loss_30 : decode cX12_loss 30 = .ok (.istore 4, 2) := by decide +kernel
theorem dX12_loss_32 : decode cX12_loss 32 = .ok (.iload 4, 2) := by decide +kernel
theorem dX12_loss_34 : decode cX12_loss 34 = .ok (.aload_n 0, 1) := by decide +kernel
theorem dX12_loss_35 : decode cX12_loss 35 = .ok (.invokevirtual 60, 3) := by decide +kernel
theorem dX12_loss_38 : decode cX12_loss 38 = .ok (.if_icmp .ge 19, 3) := by decide +kernel
theorem dX12_loss_41 : decode cX12_loss 41 = .ok (.lload_n 2, 1) := by decide +kernel
theorem dX12_loss_42 : decode cX12_loss 42 = .ok (.aload_n 0, 1) := by decide +kernel
theorem dX12_loss_43 : decode cX12_loss 43 = .ok (.iload 4, 2) := by decide +kernel
theorem dX12_loss_45 : decode cX12_loss 45 = .ok (.iconst 0, 1) := by decide +kernel
theorem dX12_loss_46 : decode cX12_loss 46 = .ok (.invokevirtual 290, 3) := by decide +kernel
theorem dX12_loss_49 : decode cX12_loss 49 = .ok (.lsub, 1) := by decide +kernel
theorem dX12_loss_50 : decode cX12_loss 50 = .ok (.lstore_n 2, 1) := by decide +kernel
theorem dX12_loss_51 : decode cX12_loss 51 = .ok (.iinc 4 1, 3) := by decide +kernel
theorem dX12_loss_54 : decode cX12_loss 54 = .ok (.goto (-22), 3) := by decide +kernel
theorem dX12_loss_57 : decode cX12_loss 57 = .ok (.lload_n 2, 1) := by decide +kernel
theorem dX12_loss_58 : decode cX12_loss 58 = .ok (.lreturn, 1) := by decide +kernel
theorem dX12_dearest_0 : decode cX12_dearest 0 = .ok (.aload_n 0, 1) := by decide +kernel
theorem dX12_dearest_1 : decode cX12_dearest 1 = .ok (.invokevirtual 199, 3) := by decide +kernel
theorem dX12_dearest_4 : decode cX12_dearest 4 = .ok (.aload_n 0, 1) := by decide +kernel
theorem dX12_dearest_5 : decode cX12_dearest 5 = .ok (.iload_n 1, 1) := by decide +kernel
theorem dX12_dearest_6 : decode cX12_dearest 6 = .ok (.invokevirtual 202, 3) := by decide +kernel
theorem dX12_dearest_9 : decode cX12_dearest 9 = .ok (.ifCond .eq 25, 3) := by decide +kernel
theorem dX12_dearest_12 : decode cX12_dearest 12 = .ok (.aload_n 0, 1) := by decide +kernel
theorem dX12_dearest_13 : decode cX12_dearest 13 = .ok (.invokevirtual 60, 3) := by decide +kernel
theorem dX12_dearest_16 : decode cX12_dearest 16 = .ok (.ifCond .le 18, 3) := by decide +kernel
theorem dX12_dearest_19 : decode cX12_dearest 19 = .ok (.aload_n 0, 1) := by decide +kernel
theorem dX12_dearest_20 : decode cX12_dearest 20 = .ok (.aload_n 0, 1) := by decide +kernel
theorem dX12_dearest_21 : decode cX12_dearest 21 = .ok (.getfield 40, 3) := by decide +kernel
theorem dX12_dearest_24 : decode cX12_dearest 24 = .ok (.iload_n 1, 1) := by decide +kernel
theorem dX12_dearest_25 : decode cX12_dearest 25 = .ok (.iaload, 1) := by decide +kernel
theorem dX12_dearest_26 : decode cX12_dearest 26 = .ok (.iconst 1, 1) := by decide +kernel
theorem dX12_dearest_27 : decode cX12_dearest 27 = .ok (.iconst 0, 1) := by decide +kernel
theorem dX12_dearest_28 : decode cX12_dearest 28 = .ok (.invokevirtual 229, 3) := by decide +kernel
theorem dX12_dearest_31 : decode cX12_dearest 31 = .ok (.goto 6, 3) := by decide +kernel
theorem dX12_dearest_34 : decode cX12_dearest 34 = .ok (.ldc2_w 197, 3) := by decide +kernel
theorem dX12_dearest_37 : decode cX12_dearest 37 = .ok (.lreturn, 1) := by decide +kernel
theorem dX12_apart_0 : decode cX12_apart 0 = .ok (.iload_n 1, 1) := by decide +kernel
theorem dX12_apart_1 : decode cX12_apart 1 = .ok (.invokestatic 181, 3) := by decide +kernel
theorem dX12_apart_4 : decode cX12_apart 4 = .ok (.ifCond .eq 10, 3) := by decide +kernel
theorem dX12_apart_7 : decode cX12_apart 7 = .ok (.iload_n 2, 1) := by decide +kernel
theorem dX12_apart_8 : decode cX12_apart 8 = .ok (.invokestatic 181, 3) := by decide +kernel
theorem dX12_apart_11 : decode cX12_apart 11 = .ok (.ifCond .ne 6, 3) := by decide +kernel
theorem dX12_apart_14 : decode cX12_apart 14 = .ok (.bipush (-2), 2) := by decide +kernel
theorem dX12_apart_16 : decode cX12_apart 16 = .ok (.ireturn, 1) := by decide +kernel
theorem dX12_apart_17 : decode cX12_apart 17 = .ok (.aload_n 0, 1) := by decide +kernel
theorem dX12_apart_18 : decode cX12_apart 18 = .ok (.invokevirtual 199, 3) := by decide +kernel
theorem dX12_apart_21 : decode cX12_apart 21 = .ok (.aload_n 0, 1) := by decide +kernel
theorem dX12_apart_22 : decode cX12_apart 22 = .ok (.iload_n 1, 1) := by decide +kernel
theorem dX12_apart_23 : decode cX12_apart 23 = .ok (.invokevirtual 202, 3) := by decide +kernel
theorem dX12_apart_26 : decode cX12_apart 26 = .ok (.ifCond .eq 11, 3) := by decide +kernel
theorem dX12_apart_29 : decode cX12_apart 29 = .ok (.aload_n 0, 1) := by decide +kernel
theorem dX12_apart_30 : decode cX12_apart 30 = .ok (.iload_n 2, 1) := by decide +kernel
theorem dX12_apart_31 : decode cX12_apart 31 = .ok (.invokevirtual 202, 3) := by decide +kernel
theorem dX12_apart_34 : decode cX12_apart 34 = .ok (.ifCond .ne 5, 3) := by decide +kernel
theorem dX12_apart_37 : decode cX12_apart 37 = .ok (.iconst (-1), 1) := by decide +kernel
theorem dX12_apart_38 : decode cX12_apart 38 = .ok (.ireturn, 1) := by decide +kernel
theorem dX12_apart_39 : decode cX12_apart 39 = .ok (.iconst 0, 1) := by decide +kernel
theorem dX12_apart_40 : decode cX12_apart 40 = .ok (.istore_n 3, 1) := by decide +kernel
theorem dX12_apart_41 : decode cX12_apart 41 = .ok (.iconst 0, 1) := by decide +kernel
theorem dX12_apart_42 : decode cX12_apart 42 = .ok (.istore 4, 2) := by decide +kernel
theorem dX12_apart_44 : decode cX12_apart 44 = .ok (.iload 4, 2) := by decide +kernel
theorem dX12_apart_46 : decode cX12_apart 46 = .ok (.aload_n 0, 1) := by decide +kernel
theorem dX12_apart_47 : decode cX12_apart 47 = .ok (.invokevirtual 60, 3) := by decide +kernel
theorem dX12_apart_50 : decode cX12_apart 50 = .ok (.if_icmp .ge 44, 3) := by decide +kernel
theorem dX12_apart_53 : decode cX12_apart 53 = .ok (.iload_n 3, 1) := by decide +kernel
theorem dX12_apart_54 : decode cX12_apart 54 = .ok (.aload_n 0, 1) := by decide +kernel
theorem dX12_apart_55 : decode cX12_apart 55 = .ok (.aload_n 0, 1) := by decide +kernel
theorem dX12_apart_56 : decode cX12_apart 56 = .ok (.getfield 40, 3) := by decide +kernel
theorem dX12_apart_59 : decode cX12_apart 59 = .ok (.iload_n 1, 1) := by decide +kernel
theorem dX12_apart_60 : decode cX12_apart 60 = .ok (.iaload, 1) := by decide +kernel
theorem dX12_apart_61 : decode cX12_apart 61 = .ok (.iload 4, 2) := by decide +kernel
theorem dX12_apart_63 : decode cX12_apart 63 = .ok (.invokevirtual 205, 3) := by decide +kernel
theorem dX12_apart_66 : decode cX12_apart 66 = .ok (.aload_n 0, 1) := by decide +kernel
theorem dX12_apart_67 : decode cX12_apart 67 = .ok (.aload_n 0, 1) := by decide +kernel
theorem dX12_apart_68 : decode cX12_apart 68 = .ok (.getfield 40, 3) := by decide +kernel
theorem dX12_apart_71 : decode cX12_apart 71 = .ok (.iload_n 2, 1) := by decide +kernel
theorem dX12_apart_72 : decode cX12_apart 72 = .ok (.iaload, 1) := by decide +kernel
theorem dX12_apart_73 : decode cX12_apart 73 = .ok (.iload 4, 2) := by decide +kernel
theorem dX12_apart_75 : decode cX12_apart 75 = .ok (.invokevirtual 205, 3) := by decide +kernel
theorem dX12_apart_78 : decode cX12_apart 78 = .ok (.if_icmp .ne 7, 3) := by decide +kernel
theorem dX12_apart_81 : decode cX12_apart 81 = .ok (.iconst 0, 1) := by decide +kernel
theorem dX12_apart_82 : decode cX12_apart 82 = .ok (.goto 4, 3) := by decide +kernel
theorem dX12_apart_85 : decode cX12_apart 85 = .ok (.iconst 1, 1) := by decide +kernel
theorem dX12_apart_86 : decode cX12_apart 86 = .ok (.iadd, 1) := by decide +kernel
theorem dX12_apart_87 : decode cX12_apart 87 = .ok (.istore_n 3, 1) := by decide +kernel
theorem dX12_apart_88 : decode cX12_apart 88 = .ok (.iinc 4 1, 3) := by decide +kernel
theorem dX12_apart_91 : decode cX12_apart 91 = .ok (.goto (-47), 3) := by decide +kernel
theorem dX12_apart_94 : decode cX12_apart 94 = .ok (.iload_n 3, 1) := by decide +kernel
theorem dX12_apart_95 : decode cX12_apart 95 = .ok (.ireturn, 1) := by decide +kernel
theorem dX12_whoHad_0 : decode cX12_whoHad 0 = .ok (.iconst 0, 1) := by decide +kernel
theorem dX12_whoHad_1 : decode cX12_whoHad 1 = .ok (.istore_n 3, 1) := by decide +kernel
theorem dX12_whoHad_2 : decode cX12_whoHad 2 = .ok (.iload_n 3, 1) := by decide +kernel
theorem dX12_whoHad_3 : decode cX12_whoHad 3 = .ok (.aload_n 0, 1) := by decide +kernel
theorem dX12_whoHad_4 : decode cX12_whoHad 4 = .ok (.invokevirtual 60, 3) := by decide +kernel
theorem dX12_whoHad_7 : decode cX12_whoHad 7 = .ok (.if_icmp .ge 21, 3) := by decide +kernel
theorem dX12_whoHad_10 : decode cX12_whoHad 10 = .ok (.aload_n 0, 1) := by decide +kernel
theorem dX12_whoHad_11 : decode cX12_whoHad 11 = .ok (.iload_n 1, 1) := by decide +kernel
theorem dX12_whoHad_12 : decode cX12_whoHad 12 = .ok (.iload_n 3, 1) := by decide +kernel
theorem dX12_whoHad_13 : decode cX12_whoHad 13 = .ok (.invokevirtual 205, 3) := by decide +kernel
theorem dX12_whoHad_16 : decode cX12_whoHad 16 = .ok (.iload_n 2, 1) := by decide +kernel
theorem dX12_whoHad_17 : decode cX12_whoHad 17 = .ok (.if_icmp .ne 5, 3) := by decide +kernel
theorem dX12_whoHad_20 : decode cX12_whoHad 20 = .ok (.iload_n 3, 1) := by decide +kernel
theorem dX12_whoHad_21 : decode cX12_whoHad 21 = .ok (.ireturn, 1) := by decide +kernel
theorem dX12_whoHad_22 : decode cX12_whoHad 22 = .ok (.iinc 3 1, 3) := by decide +kernel
theorem dX12_whoHad_25 : decode cX12_whoHad 25 = .ok (.goto (-23), 3) := by decide +kernel
theorem dX12_whoHad_28 : decode cX12_whoHad 28 = .ok (.iconst (-1), 1) := by decide +kernel
theorem dX12_whoHad_29 : decode cX12_whoHad 29 = .ok (.ireturn, 1) := by decide +kernel
theorem dX12_laysRounds_0 : decode cX12_laysRounds 0 = .ok (.aload_n 0, 1) := by decide +kernel
theorem dX12_laysRounds_1 : decode cX12_laysRounds 1 = .ok (.iconst 0, 1) := by decide +kernel
theorem dX12_laysRounds_2 : decode cX12_laysRounds 2 = .ok (.putfield 293, 3) := by decide +kernel
theorem dX12_laysRounds_5 : decode cX12_laysRounds 5 = .ok (.aload_n 0, 1) := by decide +kernel
theorem dX12_laysRounds_6 : decode cX12_laysRounds 6 = .ok (.iconst 0, 1) := by decide +kernel
theorem dX12_laysRounds_7 : decode cX12_laysRounds 7 = .ok (.putfield 296, 3) := by decide +kernel
theorem dX12_laysRounds_10 : decode cX12_laysRounds 10 = .ok (.aload_n 0, 1) := by decide +kernel
theorem dX12_laysRounds_11 : decode cX12_laysRounds 11 = .ok (.iconst 0, 1) := by decide +kernel
theorem dX12_laysRounds_12 : decode cX12_laysRounds 12 = .ok (.putfield 299, 3) := by decide +kernel
theorem dX12_laysRounds_15 : decode cX12_laysRounds 15 = .ok (.aload_n 0, 1) := by decide +kernel
theorem dX12_laysRounds_16 : decode cX12_laysRounds 16 = .ok (.iconst 0, 1) := by decide +kernel
theorem dX12_laysRounds_17 : decode cX12_laysRounds 17 = .ok (.putfield 302, 3) := by decide +kernel
theorem dX12_laysRounds_20 : decode cX12_laysRounds 20 = .ok (.aload_n 0, 1) := by decide +kernel
theorem dX12_laysRounds_21 : decode cX12_laysRounds 21 = .ok (.iconst 0, 1) := by decide +kernel
theorem dX12_laysRounds_22 : decode cX12_laysRounds 22 = .ok (.putfield 305, 3) := by decide +kernel
theorem dX12_laysRounds_25 : decode cX12_laysRounds 25 = .ok (.iconst 0, 1) := by decide +kernel
theorem dX12_laysRounds_26 : decode cX12_laysRounds 26 = .ok (.istore_n 3, 1) := by decide +kernel
theorem dX12_laysRounds_27 : decode cX12_laysRounds 27 = .ok (.iload_n 3, 1) := by decide +kernel
theorem dX12_laysRounds_28 : decode cX12_laysRounds 28 = .ok (.iconst 2, 1) := by decide +kernel
theorem dX12_laysRounds_29 : decode cX12_laysRounds 29 = .ok (.if_icmp .ge 233, 3) := by decide +kernel
theorem dX12_laysRounds_32 : decode cX12_laysRounds 32 = .ok (.iconst 0, 1) := by decide +kernel
theorem dX12_laysRounds_33 : decode cX12_laysRounds 33 = .ok (.istore 4, 2) := by decide +kernel
theorem dX12_laysRounds_35 : decode cX12_laysRounds 35 = .ok (.iload 4, 2) := by decide +kernel
theorem dX12_laysRounds_37 : decode cX12_laysRounds 37 = .ok (.aload_n 0, 1) := by decide +kernel
theorem dX12_laysRounds_38 : decode cX12_laysRounds 38 = .ok (.invokevirtual 60, 3) := by decide +kernel
theorem dX12_laysRounds_41 : decode cX12_laysRounds 41 = .ok (.if_icmp .ge 215, 3) := by decide +kernel
theorem dX12_laysRounds_44 : decode cX12_laysRounds 44 = .ok (.aload_n 0, 1) := by decide +kernel
theorem dX12_laysRounds_45 : decode cX12_laysRounds 45 = .ok (.iload_n 1, 1) := by decide +kernel
theorem dX12_laysRounds_46 : decode cX12_laysRounds 46 = .ok (.iload 4, 2) := by decide +kernel
theorem dX12_laysRounds_48 : decode cX12_laysRounds 48 = .ok (.invokevirtual 205, 3) := by decide +kernel
theorem dX12_laysRounds_51 : decode cX12_laysRounds 51 = .ok (.aload_n 0, 1) := by decide +kernel
theorem dX12_laysRounds_52 : decode cX12_laysRounds 52 = .ok (.iload_n 2, 1) := by decide +kernel
theorem dX12_laysRounds_53 : decode cX12_laysRounds 53 = .ok (.iload 4, 2) := by decide +kernel
theorem dX12_laysRounds_55 : decode cX12_laysRounds 55 = .ok (.invokevirtual 205, 3) := by decide +kernel
theorem dX12_laysRounds_58 : decode cX12_laysRounds 58 = .ok (.if_icmp .ne 7, 3) := by decide +kernel
theorem dX12_laysRounds_61 : decode cX12_laysRounds 61 = .ok (.iconst 1, 1) := by decide +kernel
theorem dX12_laysRounds_62 : decode cX12_laysRounds 62 = .ok (.goto 4, 3) := by decide +kernel
theorem dX12_laysRounds_65 : decode cX12_laysRounds 65 = .ok (.iconst 0, 1) := by decide +kernel
theorem dX12_laysRounds_66 : decode cX12_laysRounds 66 = .ok (.istore 5, 2) := by decide +kernel
theorem dX12_laysRounds_68 : decode cX12_laysRounds 68 = .ok (.iload_n 3, 1) := by decide +kernel
theorem dX12_laysRounds_69 : decode cX12_laysRounds 69 = .ok (.iconst 1, 1) := by decide +kernel
theorem dX12_laysRounds_70 : decode cX12_laysRounds 70 = .ok (.if_icmp .eq 19, 3) := by decide +kernel
theorem dX12_laysRounds_73 : decode cX12_laysRounds 73 = .ok (.aload_n 0, 1) := by decide +kernel
theorem dX12_laysRounds_74 : decode cX12_laysRounds 74 = .ok (.iload_n 2, 1) := by decide +kernel
theorem dX12_laysRounds_75 : decode cX12_laysRounds 75 = .ok (.aload_n 0, 1) := by decide +kernel
theorem dX12_laysRounds_76 : decode cX12_laysRounds 76 = .ok (.iload_n 1, 1) := by decide +kernel
theorem dX12_laysRounds_77 : decode cX12_laysRounds 77 = .ok (.iload 4, 2) := by decide +kernel
theorem dX12_laysRounds_79 : decode cX12_laysRounds 79 = .ok (.invokevirtual 205, 3) := by decide +kernel
theorem dX12_laysRounds_82 : decode cX12_laysRounds 82 = .ok (.invokevirtual 308, 3) := by decide +kernel
theorem dX12_laysRounds_85 : decode cX12_laysRounds 85 = .ok (.iconst (-1), 1) := by decide +kernel
theorem dX12_laysRounds_86 : decode cX12_laysRounds 86 = .ok (.if_icmp .ne 7, 3) := by decide +kernel
theorem dX12_laysRounds_89 : decode cX12_laysRounds 89 = .ok (.iconst 1, 1) := by decide +kernel
theorem dX12_laysRounds_90 : decode cX12_laysRounds 90 = .ok (.goto 4, 3) := by decide +kernel
theorem dX12_laysRounds_93 : decode cX12_laysRounds 93 = .ok (.iconst 0, 1) := by decide +kernel
theorem dX12_laysRounds_94 : decode cX12_laysRounds 94 = .ok (.istore 6, 2) := by decide +kernel
theorem dX12_laysRounds_96 : decode cX12_laysRounds 96 = .ok (.iload 5, 2) := by decide +kernel
theorem dX12_laysRounds_98 : decode cX12_laysRounds 98 = .ok (.ifCond .ne 152, 3) := by decide +kernel
theorem dX12_laysRounds_101 : decode cX12_laysRounds 101 = .ok (.iload 6, 2) := by decide +kernel
theorem dX12_laysRounds_103 : decode cX12_laysRounds 103 = .ok (.ifCond .eq 147, 3) := by decide +kernel
theorem dX12_laysRounds_106 : decode cX12_laysRounds 106 = .ok (.aload_n 0, 1) := by decide +kernel
theorem dX12_laysRounds_107 : decode cX12_laysRounds 107 = .ok (.getfield 305, 3) := by decide +kernel
theorem dX12_laysRounds_110 : decode cX12_laysRounds 110 = .ok (.iload 4, 2) := by decide +kernel
theorem dX12_laysRounds_112 : decode cX12_laysRounds 112 = .ok (.invokestatic 164, 3) := by decide +kernel
theorem dX12_laysRounds_115 : decode cX12_laysRounds 115 = .ok (.ifCond .eq 6, 3) := by decide +kernel
theorem dX12_laysRounds_118 : decode cX12_laysRounds 118 = .ok (.goto 132, 3) := by decide +kernel
theorem dX12_laysRounds_121 : decode cX12_laysRounds 121 = .ok (.iconst 0, 1) := by decide +kernel
theorem dX12_laysRounds_122 : decode cX12_laysRounds 122 = .ok (.istore 7, 2) := by decide +kernel
theorem dX12_laysRounds_124 : decode cX12_laysRounds 124 = .ok (.iload 4, 2) := by decide +kernel
theorem dX12_laysRounds_126 : decode cX12_laysRounds 126 = .ok (.istore 8, 2) := by decide +kernel
theorem dX12_laysRounds_128 : decode cX12_laysRounds 128 = .ok (.iload 8, 2) := by decide +kernel
theorem dX12_laysRounds_130 : decode cX12_laysRounds 130 = .ok (.iconst (-1), 1) := by decide +kernel
theorem dX12_laysRounds_131 : decode cX12_laysRounds 131 = .ok (.if_icmp .eq 48, 3) := by decide +kernel
theorem dX12_laysRounds_134 : decode cX12_laysRounds 134 = .ok (.aload_n 0, 1) := by decide +kernel
theorem dX12_laysRounds_135 : decode cX12_laysRounds 135 = .ok (.getfield 305, 3) := by decide +kernel
theorem dX12_laysRounds_138 : decode cX12_laysRounds 138 = .ok (.iload 8, 2) := by decide +kernel
theorem dX12_laysRounds_140 : decode cX12_laysRounds 140 = .ok (.invokestatic 164, 3) := by decide +kernel
theorem dX12_laysRounds_143 : decode cX12_laysRounds 143 = .ok (.ifCond .ne 36, 3) := by decide +kernel
theorem dX12_laysRounds_146 : decode cX12_laysRounds 146 = .ok (.aload_n 0, 1) := by decide +kernel
theorem dX12_laysRounds_147 : decode cX12_laysRounds 147 = .ok (.dup, 1) := by decide +kernel
theorem dX12_laysRounds_148 : decode cX12_laysRounds 148 = .ok (.getfield 305, 3) := by decide +kernel
theorem dX12_laysRounds_151 : decode cX12_laysRounds 151 = .ok (.iconst 1, 1) := by decide +kernel
theorem dX12_laysRounds_152 : decode cX12_laysRounds 152 = .ok (.iload 8, 2) := by decide +kernel
theorem dX12_laysRounds_154 : decode cX12_laysRounds 154 = .ok (.ishl, 1) := by decide +kernel
theorem dX12_laysRounds_155 : decode cX12_laysRounds 155 = .ok (.ior, 1) := by decide +kernel
theorem dX12_laysRounds_156 : decode cX12_laysRounds 156 = .ok (.putfield 305, 3) := by decide +kernel
theorem dX12_laysRounds_159 : decode cX12_laysRounds 159 = .ok (.iinc 7 1, 3) := by decide +kernel
theorem dX12_laysRounds_162 : decode cX12_laysRounds 162 = .ok (.aload_n 0, 1) := by decide +kernel
theorem dX12_laysRounds_163 : decode cX12_laysRounds 163 = .ok (.iload_n 1, 1) := by decide +kernel
theorem dX12_laysRounds_164 : decode cX12_laysRounds 164 = .ok (.aload_n 0, 1) := by decide +kernel
theorem dX12_laysRounds_165 : decode cX12_laysRounds 165 = .ok (.iload_n 2, 1) := by decide +kernel
theorem dX12_laysRounds_166 : decode cX12_laysRounds 166 = .ok (.iload 8, 2) := by decide +kernel
theorem dX12_laysRounds_168 : decode cX12_laysRounds 168 = .ok (.invokevirtual 205, 3) := by decide +kernel
theorem dX12_laysRounds_171 : decode cX12_laysRounds 171 = .ok (.invokevirtual 308, 3) := by decide +kernel
theorem dX12_laysRounds_174 : decode cX12_laysRounds 174 = .ok (.istore 8, 2) := by decide +kernel
theorem dX12_laysRounds_176 : decode cX12_laysRounds 176 = .ok (.goto (-48), 3) := by decide +kernel
theorem dX12_laysRounds_179 : decode cX12_laysRounds 179 = .ok (.aload_n 0, 1) := by decide +kernel
theorem dX12_laysRounds_180 : decode cX12_laysRounds 180 = .ok (.dup, 1) := by decide +kernel
theorem dX12_laysRounds_181 : decode cX12_laysRounds 181 = .ok (.getfield 296, 3) := by decide +kernel
theorem dX12_laysRounds_184 : decode cX12_laysRounds 184 = .ok (.iload_n 3, 1) := by decide +kernel
theorem dX12_laysRounds_185 : decode cX12_laysRounds 185 = .ok (.ifCond .ne 7, 3) := by decide +kernel
theorem dX12_laysRounds_188 : decode cX12_laysRounds 188 = .ok (.iconst 1, 1) := by decide +kernel
theorem dX12_laysRounds_189 : decode cX12_laysRounds 189 = .ok (.goto 4, 3) := by decide +kernel
theorem dX12_laysRounds_192 : decode cX12_laysRounds 192 = .ok (.iconst 0, 1) := by decide +kernel
theorem dX12_laysRounds_193 : decode cX12_laysRounds 193 = .ok (.iadd, 1) := by decide +kernel
theorem dX12_laysRounds_194 : decode cX12_laysRounds 194 = .ok (.putfield 296, 3) := by decide +kernel
theorem dX12_laysRounds_197 : decode cX12_laysRounds 197 = .ok (.aload_n 0, 1) := by decide +kernel
theorem dX12_laysRounds_198 : decode cX12_laysRounds 198 = .ok (.dup, 1) := by decide +kernel
theorem dX12_laysRounds_199 : decode cX12_laysRounds 199 = .ok (.getfield 293, 3) := by decide +kernel
theorem dX12_laysRounds_202 : decode cX12_laysRounds 202 = .ok (.iload_n 3, 1) := by decide +kernel
theorem dX12_laysRounds_203 : decode cX12_laysRounds 203 = .ok (.ifCond .ne 7, 3) := by decide +kernel
theorem dX12_laysRounds_206 : decode cX12_laysRounds 206 = .ok (.iconst 0, 1) := by decide +kernel
theorem dX12_laysRounds_207 : decode cX12_laysRounds 207 = .ok (.goto 4, 3) := by decide +kernel
theorem dX12_laysRounds_210 : decode cX12_laysRounds 210 = .ok (.iconst 1, 1) := by decide +kernel
theorem dX12_laysRounds_211 : decode cX12_laysRounds 211 = .ok (.iadd, 1) := by decide +kernel
theorem dX12_laysRounds_212 : decode cX12_laysRounds 212 = .ok (.putfield 293, 3) := by decide +kernel
theorem dX12_laysRounds_215 : decode cX12_laysRounds 215 = .ok (.aload_n 0, 1) := by decide +kernel
theorem dX12_laysRounds_216 : decode cX12_laysRounds 216 = .ok (.dup, 1) := by decide +kernel
theorem dX12_laysRounds_217 : decode cX12_laysRounds 217 = .ok (.getfield 302, 3) := by decide +kernel
theorem dX12_laysRounds_220 : decode cX12_laysRounds 220 = .ok (.iload_n 3, 1) := by decide +kernel
theorem dX12_laysRounds_221 : decode cX12_laysRounds 221 = .ok (.ifCond .ne 8, 3) := by decide +kernel
theorem dX12_laysRounds_224 : decode cX12_laysRounds 224 = .ok (.iload 7, 2) := by decide +kernel
theorem dX12_laysRounds_226 : decode cX12_laysRounds 226 = .ok (.goto 7, 3) := by decide +kernel
theorem dX12_laysRounds_229 : decode cX12_laysRounds 229 = .ok (.iload 7, 2) := by decide +kernel
theorem dX12_laysRounds_231 : decode cX12_laysRounds 231 = .ok (.iconst 1, 1) := by decide +kernel
theorem dX12_laysRounds_232 : decode cX12_laysRounds 232 = .ok (.isub, 1) := by decide +kernel
theorem dX12_laysRounds_233 : decode cX12_laysRounds 233 = .ok (.iadd, 1) := by decide +kernel
theorem dX12_laysRounds_234 : decode cX12_laysRounds 234 = .ok (.putfield 302, 3) := by decide +kernel
theorem dX12_laysRounds_237 : decode cX12_laysRounds 237 = .ok (.aload_n 0, 1) := by decide +kernel
theorem dX12_laysRounds_238 : decode cX12_laysRounds 238 = .ok (.aload_n 0, 1) := by decide +kernel
theorem dX12_laysRounds_239 : decode cX12_laysRounds 239 = .ok (.getfield 299, 3) := by decide +kernel
theorem dX12_laysRounds_242 : decode cX12_laysRounds 242 = .ok (.iload 7, 2) := by decide +kernel
theorem dX12_laysRounds_244 : decode cX12_laysRounds 244 = .ok (.invokestatic 311, 3) := by decide +kernel
theorem dX12_laysRounds_247 : decode cX12_laysRounds 247 = .ok (.putfield 299, 3) := by decide +kernel
theorem dX12_laysRounds_250 : decode cX12_laysRounds 250 = .ok (.iinc 4 1, 3) := by decide +kernel
theorem dX12_laysRounds_253 : decode cX12_laysRounds 253 = .ok (.goto (-218), 3) := by decide +kernel
theorem dX12_laysRounds_256 : decode cX12_laysRounds 256 = .ok (.iinc 3 1, 3) := by decide +kernel
theorem dX12_laysRounds_259 : decode cX12_laysRounds 259 = .ok (.goto (-232), 3) := by decide +kernel
theorem dX12_laysRounds_262 : decode cX12_laysRounds 262 = .ok (.return_, 1) := by decide +kernel
theorem dX12_rounds_0 : decode cX12_rounds 0 = .ok (.iload_n 1, 1) := by decide +kernel
theorem dX12_rounds_1 : decode cX12_rounds 1 = .ok (.invokestatic 181, 3) := by decide +kernel
theorem dX12_rounds_4 : decode cX12_rounds 4 = .ok (.ifCond .eq 22, 3) := by decide +kernel
theorem dX12_rounds_7 : decode cX12_rounds 7 = .ok (.iload_n 2, 1) := by decide +kernel
theorem dX12_rounds_8 : decode cX12_rounds 8 = .ok (.invokestatic 181, 3) := by decide +kernel
theorem dX12_rounds_11 : decode cX12_rounds 11 = .ok (.ifCond .eq 15, 3) := by decide +kernel
theorem dX12_rounds_14 : decode cX12_rounds 14 = .ok (.iload_n 3, 1) := by decide +kernel
theorem dX12_rounds_15 : decode cX12_rounds 15 = .ok (.i2l, 1) := by decide +kernel
theorem dX12_rounds_16 : decode cX12_rounds 16 = .ok (.lconst 0, 1) := by decide +kernel
theorem dX12_rounds_17 : decode cX12_rounds 17 = .ok (.ldc2_w 233, 3) := by decide +kernel
theorem dX12_rounds_20 : decode cX12_rounds 20 = .ok (.invokestatic 64, 3) := by decide +kernel
theorem dX12_rounds_23 : decode cX12_rounds 23 = .ok (.ifCond .ne 6, 3) := by decide +kernel
theorem dX12_rounds_26 : decode cX12_rounds 26 = .ok (.bipush (-2), 2) := by decide +kernel
theorem dX12_rounds_28 : decode cX12_rounds 28 = .ok (.ireturn, 1) := by decide +kernel
theorem dX12_rounds_29 : decode cX12_rounds 29 = .ok (.aload_n 0, 1) := by decide +kernel
theorem dX12_rounds_30 : decode cX12_rounds 30 = .ok (.invokevirtual 199, 3) := by decide +kernel
theorem dX12_rounds_33 : decode cX12_rounds 33 = .ok (.aload_n 0, 1) := by decide +kernel
theorem dX12_rounds_34 : decode cX12_rounds 34 = .ok (.iload_n 1, 1) := by decide +kernel
theorem dX12_rounds_35 : decode cX12_rounds 35 = .ok (.invokevirtual 202, 3) := by decide +kernel
theorem dX12_rounds_38 : decode cX12_rounds 38 = .ok (.ifCond .eq 11, 3) := by decide +kernel
theorem dX12_rounds_41 : decode cX12_rounds 41 = .ok (.aload_n 0, 1) := by decide +kernel
theorem dX12_rounds_42 : decode cX12_rounds 42 = .ok (.iload_n 2, 1) := by decide +kernel
theorem dX12_rounds_43 : decode cX12_rounds 43 = .ok (.invokevirtual 202, 3) := by decide +kernel
theorem dX12_rounds_46 : decode cX12_rounds 46 = .ok (.ifCond .ne 5, 3) := by decide +kernel
theorem dX12_rounds_49 : decode cX12_rounds 49 = .ok (.iconst (-1), 1) := by decide +kernel
theorem dX12_rounds_50 : decode cX12_rounds 50 = .ok (.ireturn, 1) := by decide +kernel
theorem dX12_rounds_51 : decode cX12_rounds 51 = .ok (.aload_n 0, 1) := by decide +kernel
theorem dX12_rounds_52 : decode cX12_rounds 52 = .ok (.aload_n 0, 1) := by decide +kernel
theorem dX12_rounds_53 : decode cX12_rounds 53 = .ok (.getfield 40, 3) := by decide +kernel
theorem dX12_rounds_56 : decode cX12_rounds 56 = .ok (.iload_n 1, 1) := by decide +kernel
theorem dX12_rounds_57 : decode cX12_rounds 57 = .ok (.iaload, 1) := by decide +kernel
theorem dX12_rounds_58 : decode cX12_rounds 58 = .ok (.aload_n 0, 1) := by decide +kernel
theorem dX12_rounds_59 : decode cX12_rounds 59 = .ok (.getfield 40, 3) := by decide +kernel
theorem dX12_rounds_62 : decode cX12_rounds 62 = .ok (.iload_n 2, 1) := by decide +kernel
theorem dX12_rounds_63 : decode cX12_rounds 63 = .ok (.iaload, 1) := by decide +kernel
theorem dX12_rounds_64 : decode cX12_rounds 64 = .ok (.invokevirtual 313, 3) := by decide +kernel
theorem dX12_rounds_67 : decode cX12_rounds 67 = .ok (.iload_n 3, 1) := by decide +kernel
theorem dX12_rounds_68 : decode cX12_rounds 68 = .ok (.ifCond .ne 10, 3) := by decide +kernel
theorem dX12_rounds_71 : decode cX12_rounds 71 = .ok (.aload_n 0, 1) := by decide +kernel
theorem dX12_rounds_72 : decode cX12_rounds 72 = .ok (.getfield 293, 3) := by decide +kernel
theorem dX12_rounds_75 : decode cX12_rounds 75 = .ok (.goto 31, 3) := by decide +kernel
theorem dX12_rounds_78 : decode cX12_rounds 78 = .ok (.iload_n 3, 1) := by decide +kernel
theorem dX12_rounds_79 : decode cX12_rounds 79 = .ok (.iconst 1, 1) := by decide +kernel
theorem dX12_rounds_80 : decode cX12_rounds 80 = .ok (.if_icmp .ne 10, 3) := by decide +kernel
theorem dX12_rounds_83 : decode cX12_rounds 83 = .ok (.aload_n 0, 1) := by decide +kernel
theorem dX12_rounds_84 : decode cX12_rounds 84 = .ok (.getfield 296, 3) := by decide +kernel
theorem dX12_rounds_87 : decode cX12_rounds 87 = .ok (.goto 19, 3) := by decide +kernel
theorem dX12_rounds_90 : decode cX12_rounds 90 = .ok (.iload_n 3, 1) := by decide +kernel
theorem dX12_rounds_91 : decode cX12_rounds 91 = .ok (.iconst 2, 1) := by decide +kernel
theorem dX12_rounds_92 : decode cX12_rounds 92 = .ok (.if_icmp .ne 10, 3) := by decide +kernel
theorem dX12_rounds_95 : decode cX12_rounds 95 = .ok (.aload_n 0, 1) := by decide +kernel
theorem dX12_rounds_96 : decode cX12_rounds 96 = .ok (.getfield 299, 3) := by decide +kernel
theorem dX12_rounds_99 : decode cX12_rounds 99 = .ok (.goto 7, 3) := by decide +kernel
theorem dX12_rounds_102 : decode cX12_rounds 102 = .ok (.aload_n 0, 1) := by decide +kernel
theorem dX12_rounds_103 : decode cX12_rounds 103 = .ok (.getfield 302, 3) := by decide +kernel
theorem dX12_rounds_106 : decode cX12_rounds 106 = .ok (.ireturn, 1) := by decide +kernel
theorem dX12_move_0 : decode cX12_move 0 = .ok (.aload_n 0, 1) := by decide +kernel
theorem dX12_move_1 : decode cX12_move 1 = .ok (.invokevirtual 173, 3) := by decide +kernel
theorem dX12_move_4 : decode cX12_move 4 = .ok (.iconst (-1), 1) := by decide +kernel
theorem dX12_move_5 : decode cX12_move 5 = .ok (.istore_n 3, 1) := by decide +kernel
theorem dX12_move_6 : decode cX12_move 6 = .ok (.iconst 0, 1) := by decide +kernel
theorem dX12_move_7 : decode cX12_move 7 = .ok (.istore 4, 2) := by decide +kernel
theorem dX12_move_9 : decode cX12_move 9 = .ok (.iload 4, 2) := by decide +kernel
theorem dX12_move_11 : decode cX12_move 11 = .ok (.aload_n 0, 1) := by decide +kernel
theorem dX12_move_12 : decode cX12_move 12 = .ok (.getfield 154, 3) := by decide +kernel
theorem dX12_move_15 : decode cX12_move 15 = .ok (.if_icmp .ge 27, 3) := by decide +kernel
theorem dX12_move_18 : decode cX12_move 18 = .ok (.aload_n 0, 1) := by decide +kernel
theorem dX12_move_19 : decode cX12_move 19 = .ok (.getfield 31, 3) := by decide +kernel
theorem dX12_move_22 : decode cX12_move 22 = .ok (.iload 4, 2) := by decide +kernel
theorem dX12_move_24 : decode cX12_move 24 = .ok (.iaload, 1) := by decide +kernel
theorem dX12_move_25 : decode cX12_move 25 = .ok (.iload_n 1, 1) := by decide +kernel
theorem dX12_move_26 : decode cX12_move 26 = .ok (.if_icmp .ne 8, 3) := by decide +kernel
theorem dX12_move_29 : decode cX12_move 29 = .ok (.iload 4, 2) := by decide +kernel
theorem dX12_move_31 : decode cX12_move 31 = .ok (.goto 4, 3) := by decide +kernel
theorem dX12_move_34 : decode cX12_move 34 = .ok (.iload_n 3, 1) := by decide +kernel
theorem dX12_move_35 : decode cX12_move 35 = .ok (.istore_n 3, 1) := by decide +kernel
theorem dX12_move_36 : decode cX12_move 36 = .ok (.iinc 4 1, 3) := by decide +kernel
theorem dX12_move_39 : decode cX12_move 39 = .ok (.goto (-30), 3) := by decide +kernel
theorem dX12_move_42 : decode cX12_move 42 = .ok (.iload_n 3, 1) := by decide +kernel
theorem dX12_move_43 : decode cX12_move 43 = .ok (.iconst (-1), 1) := by decide +kernel
theorem dX12_move_44 : decode cX12_move 44 = .ok (.if_icmp .eq 15, 3) := by decide +kernel
theorem dX12_move_47 : decode cX12_move 47 = .ok (.iload_n 2, 1) := by decide +kernel
theorem dX12_move_48 : decode cX12_move 48 = .ok (.i2l, 1) := by decide +kernel
theorem dX12_move_49 : decode cX12_move 49 = .ok (.lconst 0, 1) := by decide +kernel
theorem dX12_move_50 : decode cX12_move 50 = .ok (.ldc2_w 281, 3) := by decide +kernel
theorem dX12_move_53 : decode cX12_move 53 = .ok (.invokestatic 64, 3) := by decide +kernel
theorem dX12_move_56 : decode cX12_move 56 = .ok (.ifCond .ne 7, 3) := by decide +kernel
theorem dX12_move_59 : decode cX12_move 59 = .ok (.ldc2_w 197, 3) := by decide +kernel
theorem dX12_move_62 : decode cX12_move 62 = .ok (.lreturn, 1) := by decide +kernel
theorem dX12_move_63 : decode cX12_move 63 = .ok (.iconst (-1), 1) := by decide +kernel
theorem dX12_move_64 : decode cX12_move 64 = .ok (.istore 4, 2) := by decide +kernel
theorem dX12_move_66 : decode cX12_move 66 = .ok (.iconst 0, 1) := by decide +kernel
theorem dX12_move_67 : decode cX12_move 67 = .ok (.istore 5, 2) := by decide +kernel
theorem dX12_move_69 : decode cX12_move 69 = .ok (.iconst 0, 1) := by decide +kernel
theorem dX12_move_70 : decode cX12_move 70 = .ok (.istore 6, 2) := by decide +kernel
theorem dX12_move_72 : decode cX12_move 72 = .ok (.iload 6, 2) := by decide +kernel
theorem dX12_move_74 : decode cX12_move 74 = .ok (.aload_n 0, 1) := by decide +kernel
theorem dX12_move_75 : decode cX12_move 75 = .ok (.getfield 154, 3) := by decide +kernel
theorem dX12_move_78 : decode cX12_move 78 = .ok (.if_icmp .ge 132, 3) := by decide +kernel
theorem dX12_move_81 : decode cX12_move 81 = .ok (.aload_n 0, 1) := by decide +kernel
theorem dX12_move_82 : decode cX12_move 82 = .ok (.iload_n 3, 1) := by decide +kernel
theorem dX12_move_83 : decode cX12_move 83 = .ok (.iload 6, 2) := by decide +kernel
theorem dX12_move_85 : decode cX12_move 85 = .ok (.invokevirtual 313, 3) := by decide +kernel
theorem dX12_move_88 : decode cX12_move 88 = .ok (.aload_n 0, 1) := by decide +kernel
theorem dX12_move_89 : decode cX12_move 89 = .ok (.getfield 293, 3) := by decide +kernel
theorem dX12_move_92 : decode cX12_move 92 = .ok (.aload_n 0, 1) := by decide +kernel
theorem dX12_move_93 : decode cX12_move 93 = .ok (.getfield 296, 3) := by decide +kernel
theorem dX12_move_96 : decode cX12_move 96 = .ok (.iadd, 1) := by decide +kernel
theorem dX12_move_97 : decode cX12_move 97 = .ok (.iconst 1, 1) := by decide +kernel
theorem dX12_move_98 : decode cX12_move 98 = .ok (.if_icmp .eq 6, 3) := by decide +kernel
theorem dX12_move_101 : decode cX12_move 101 = .ok (.goto 103, 3) := by decide +kernel
theorem dX12_move_104 : decode cX12_move 104 = .ok (.iload 4, 2) := by decide +kernel
theorem dX12_move_106 : decode cX12_move 106 = .ok (.iconst (-1), 1) := by decide +kernel
theorem dX12_move_107 : decode cX12_move 107 = .ok (.if_icmp .ne 7, 3) := by decide +kernel
theorem dX12_move_110 : decode cX12_move 110 = .ok (.iconst (-1), 1) := by decide +kernel
theorem dX12_move_111 : decode cX12_move 111 = .ok (.goto 76, 3) := by decide +kernel
theorem dX12_move_114 : decode cX12_move 114 = .ok (.aload_n 0, 1) := by decide +kernel
theorem dX12_move_115 : decode cX12_move 115 = .ok (.getfield 34, 3) := by decide +kernel
theorem dX12_move_118 : decode cX12_move 118 = .ok (.iload 6, 2) := by decide +kernel
theorem dX12_move_120 : decode cX12_move 120 = .ok (.iaload, 1) := by decide +kernel
theorem dX12_move_121 : decode cX12_move 121 = .ok (.aload_n 0, 1) := by decide +kernel
theorem dX12_move_122 : decode cX12_move 122 = .ok (.getfield 34, 3) := by decide +kernel
theorem dX12_move_125 : decode cX12_move 125 = .ok (.iload 4, 2) := by decide +kernel
theorem dX12_move_127 : decode cX12_move 127 = .ok (.iaload, 1) := by decide +kernel
theorem dX12_move_128 : decode cX12_move 128 = .ok (.if_icmp .eq 21, 3) := by decide +kernel
theorem dX12_move_131 : decode cX12_move 131 = .ok (.aload_n 0, 1) := by decide +kernel
theorem dX12_move_132 : decode cX12_move 132 = .ok (.getfield 34, 3) := by decide +kernel
theorem dX12_move_135 : decode cX12_move 135 = .ok (.iload 6, 2) := by decide +kernel
theorem dX12_move_137 : decode cX12_move 137 = .ok (.iaload, 1) := by decide +kernel
theorem dX12_move_138 : decode cX12_move 138 = .ok (.aload_n 0, 1) := by decide +kernel
theorem dX12_move_139 : decode cX12_move 139 = .ok (.getfield 34, 3) := by decide +kernel
theorem dX12_move_142 : decode cX12_move 142 = .ok (.iload 4, 2) := by decide +kernel
theorem dX12_move_144 : decode cX12_move 144 = .ok (.iaload, 1) := by decide +kernel
theorem dX12_move_145 : decode cX12_move 145 = .ok (.isub, 1) := by decide +kernel
theorem dX12_move_146 : decode cX12_move 146 = .ok (.goto 41, 3) := by decide +kernel
theorem dX12_move_149 : decode cX12_move 149 = .ok (.aload_n 0, 1) := by decide +kernel
theorem dX12_move_150 : decode cX12_move 150 = .ok (.getfield 305, 3) := by decide +kernel
theorem dX12_move_153 : decode cX12_move 153 = .ok (.invokestatic 316, 3) := by decide +kernel
theorem dX12_move_156 : decode cX12_move 156 = .ok (.iload 5, 2) := by decide +kernel
theorem dX12_move_158 : decode cX12_move 158 = .ok (.invokestatic 316, 3) := by decide +kernel
theorem dX12_move_161 : decode cX12_move 161 = .ok (.if_icmp .eq 19, 3) := by decide +kernel
theorem dX12_move_164 : decode cX12_move 164 = .ok (.aload_n 0, 1) := by decide +kernel
theorem dX12_move_165 : decode cX12_move 165 = .ok (.getfield 305, 3) := by decide +kernel
theorem dX12_move_168 : decode cX12_move 168 = .ok (.invokestatic 316, 3) := by decide +kernel
theorem dX12_move_171 : decode cX12_move 171 = .ok (.iload 5, 2) := by decide +kernel
theorem dX12_move_173 : decode cX12_move 173 = .ok (.invokestatic 316, 3) := by decide +kernel
theorem dX12_move_176 : decode cX12_move 176 = .ok (.isub, 1) := by decide +kernel
theorem dX12_move_177 : decode cX12_move 177 = .ok (.goto 10, 3) := by decide +kernel
theorem dX12_move_180 : decode cX12_move 180 = .ok (.aload_n 0, 1) := by decide +kernel
theorem dX12_move_181 : decode cX12_move 181 = .ok (.getfield 305, 3) := by decide +kernel
theorem dX12_move_184 : decode cX12_move 184 = .ok (.iload 5, 2) := by decide +kernel
theorem dX12_move_186 : decode cX12_move 186 = .ok (.isub, 1) := by decide +kernel
theorem dX12_move_187 : decode cX12_move 187 = .ok (.istore 7, 2) := by decide +kernel
theorem dX12_move_189 : decode cX12_move 189 = .ok (.iload 7, 2) := by decide +kernel
theorem dX12_move_191 : decode cX12_move 191 = .ok (.ifCond .ge 13, 3) := by decide +kernel
theorem dX12_move_194 : decode cX12_move 194 = .ok (.iload 6, 2) := by decide +kernel
theorem dX12_move_196 : decode cX12_move 196 = .ok (.istore 4, 2) := by decide +kernel
theorem dX12_move_198 : decode cX12_move 198 = .ok (.aload_n 0, 1) := by decide +kernel
theorem dX12_move_199 : decode cX12_move 199 = .ok (.getfield 305, 3) := by decide +kernel
theorem dX12_move_202 : decode cX12_move 202 = .ok (.istore 5, 2) := by decide +kernel
theorem dX12_move_204 : decode cX12_move 204 = .ok (.iinc 6 1, 3) := by decide +kernel
theorem dX12_move_207 : decode cX12_move 207 = .ok (.goto (-135), 3) := by decide +kernel
theorem dX12_move_210 : decode cX12_move 210 = .ok (.iload 4, 2) := by decide +kernel
theorem dX12_move_212 : decode cX12_move 212 = .ok (.iconst (-1), 1) := by decide +kernel
theorem dX12_move_213 : decode cX12_move 213 = .ok (.if_icmp .ne 9, 3) := by decide +kernel
theorem dX12_move_216 : decode cX12_move 216 = .ok (.ldc2_w 197, 3) := by decide +kernel
theorem dX12_move_219 : decode cX12_move 219 = .ok (.goto 42, 3) := by decide +kernel
theorem dX12_move_222 : decode cX12_move 222 = .ok (.iload_n 2, 1) := by decide +kernel
theorem dX12_move_223 : decode cX12_move 223 = .ok (.ifCond .ne 21, 3) := by decide +kernel
theorem dX12_move_226 : decode cX12_move 226 = .ok (.aload_n 0, 1) := by decide +kernel
theorem dX12_move_227 : decode cX12_move 227 = .ok (.getfield 34, 3) := by decide +kernel
theorem dX12_move_230 : decode cX12_move 230 = .ok (.iload 4, 2) := by decide +kernel
theorem dX12_move_232 : decode cX12_move 232 = .ok (.iaload, 1) := by decide +kernel
theorem dX12_move_233 : decode cX12_move 233 = .ok (.aload_n 0, 1) := by decide +kernel
theorem dX12_move_234 : decode cX12_move 234 = .ok (.getfield 34, 3) := by decide +kernel
theorem dX12_move_237 : decode cX12_move 237 = .ok (.iload_n 3, 1) := by decide +kernel
theorem dX12_move_238 : decode cX12_move 238 = .ok (.iaload, 1) := by decide +kernel
theorem dX12_move_239 : decode cX12_move 239 = .ok (.isub, 1) := by decide +kernel
theorem dX12_move_240 : decode cX12_move 240 = .ok (.i2l, 1) := by decide +kernel
theorem dX12_move_241 : decode cX12_move 241 = .ok (.goto 20, 3) := by decide +kernel
theorem dX12_move_244 : decode cX12_move 244 = .ok (.iload_n 2, 1) := by decide +kernel
theorem dX12_move_245 : decode cX12_move 245 = .ok (.iconst 1, 1) := by decide +kernel
theorem dX12_move_246 : decode cX12_move 246 = .ok (.if_icmp .ne 12, 3) := by decide +kernel
theorem dX12_move_249 : decode cX12_move 249 = .ok (.iload 5, 2) := by decide +kernel
theorem dX12_move_251 : decode cX12_move 251 = .ok (.invokestatic 316, 3) := by decide +kernel
theorem dX12_move_254 : decode cX12_move 254 = .ok (.i2l, 1) := by decide +kernel
theorem dX12_move_255 : decode cX12_move 255 = .ok (.goto 6, 3) := by decide +kernel
theorem dX12_move_258 : decode cX12_move 258 = .ok (.iload 5, 2) := by decide +kernel
theorem dX12_move_260 : decode cX12_move 260 = .ok (.i2l, 1) := by decide +kernel
theorem dX12_move_261 : decode cX12_move 261 = .ok (.lreturn, 1) := by decide +kernel
theorem dX12_manyUpTo_0 : decode cX12_manyUpTo 0 = .ok (.iconst 0, 1) := by decide +kernel
theorem dX12_manyUpTo_1 : decode cX12_manyUpTo 1 = .ok (.istore_n 2, 1) := by decide +kernel
theorem dX12_manyUpTo_2 : decode cX12_manyUpTo 2 = .ok (.iconst 0, 1) := by decide +kernel
theorem dX12_manyUpTo_3 : decode cX12_manyUpTo 3 = .ok (.istore_n 3, 1) := by decide +kernel
theorem dX12_manyUpTo_4 : decode cX12_manyUpTo 4 = .ok (.iload_n 3, 1) := by decide +kernel
theorem dX12_manyUpTo_5 : decode cX12_manyUpTo 5 = .ok (.aload_n 0, 1) := by decide +kernel
theorem dX12_manyUpTo_6 : decode cX12_manyUpTo 6 = .ok (.getfield 154, 3) := by decide +kernel
theorem dX12_manyUpTo_9 : decode cX12_manyUpTo 9 = .ok (.if_icmp .ge 27, 3) := by decide +kernel
theorem dX12_manyUpTo_12 : decode cX12_manyUpTo 12 = .ok (.iload_n 2, 1) := by decide +kernel
theorem dX12_manyUpTo_13 : decode cX12_manyUpTo 13 = .ok (.aload_n 0, 1) := by decide +kernel
theorem dX12_manyUpTo_14 : decode cX12_manyUpTo 14 = .ok (.getfield 34, 3) := by decide +kernel
theorem dX12_manyUpTo_17 : decode cX12_manyUpTo 17 = .ok (.iload_n 3, 1) := by decide +kernel
theorem dX12_manyUpTo_18 : decode cX12_manyUpTo 18 = .ok (.iaload, 1) := by decide +kernel
theorem dX12_manyUpTo_19 : decode cX12_manyUpTo 19 = .ok (.iload_n 1, 1) := by decide +kernel
theorem dX12_manyUpTo_20 : decode cX12_manyUpTo 20 = .ok (.if_icmp .gt 7, 3) := by decide +kernel
theorem dX12_manyUpTo_23 : decode cX12_manyUpTo 23 = .ok (.iconst 1, 1) := by decide +kernel
theorem dX12_manyUpTo_24 : decode cX12_manyUpTo 24 = .ok (.goto 4, 3) := by decide +kernel
theorem dX12_manyUpTo_27 : decode cX12_manyUpTo 27 = .ok (.iconst 0, 1) := by decide +kernel
theorem dX12_manyUpTo_28 : decode cX12_manyUpTo 28 = .ok (.iadd, 1) := by decide +kernel
theorem dX12_manyUpTo_29 : decode cX12_manyUpTo 29 = .ok (.istore_n 2, 1) := by decide +kernel
theorem dX12_manyUpTo_30 : decode cX12_manyUpTo 30 = .ok (.iinc 3 1, 3) := by decide +kernel
theorem dX12_manyUpTo_33 : decode cX12_manyUpTo 33 = .ok (.goto (-29), 3) := by decide +kernel
theorem dX12_manyUpTo_36 : decode cX12_manyUpTo 36 = .ok (.iload_n 2, 1) := by decide +kernel
theorem dX12_manyUpTo_37 : decode cX12_manyUpTo 37 = .ok (.ireturn, 1) := by decide +kernel
theorem dX12_middle_0 : decode cX12_middle 0 = .ok (.aload_n 0, 1) := by decide +kernel
theorem dX12_middle_1 : decode cX12_middle 1 = .ok (.invokevirtual 173, 3) := by decide +kernel
theorem dX12_middle_4 : decode cX12_middle 4 = .ok (.aload_n 0, 1) := by decide +kernel
theorem dX12_middle_5 : decode cX12_middle 5 = .ok (.getfield 154, 3) := by decide +kernel
theorem dX12_middle_8 : decode cX12_middle 8 = .ok (.ifCond .ne 7, 3) := by decide +kernel
theorem dX12_middle_11 : decode cX12_middle 11 = .ok (.ldc2_w 197, 3) := by decide +kernel
theorem dX12_middle_14 : decode cX12_middle 14 = .ok (.lreturn, 1) := by decide +kernel
theorem dX12_middle_15 : decode cX12_middle 15 = .ok (.aload_n 0, 1) := by decide +kernel
theorem dX12_middle_16 : decode cX12_middle 16 = .ok (.getfield 154, 3) := by decide +kernel
theorem dX12_middle_19 : decode cX12_middle 19 = .ok (.iconst 1, 1) := by decide +kernel
theorem dX12_middle_20 : decode cX12_middle 20 = .ok (.isub, 1) := by decide +kernel
theorem dX12_middle_21 : decode cX12_middle 21 = .ok (.iconst 2, 1) := by decide +kernel
theorem dX12_middle_22 : decode cX12_middle 22 = .ok (.idiv, 1) := by decide +kernel
theorem dX12_middle_23 : decode cX12_middle 23 = .ok (.istore_n 1, 1) := by decide +kernel
theorem dX12_middle_24 : decode cX12_middle 24 = .ok (.aload_n 0, 1) := by decide +kernel
theorem dX12_middle_25 : decode cX12_middle 25 = .ok (.getfield 34, 3) := by decide +kernel
theorem dX12_middle_28 : decode cX12_middle 28 = .ok (.aload_n 0, 1) := by decide +kernel
theorem dX12_middle_29 : decode cX12_middle 29 = .ok (.invokevirtual 212, 3) := by decide +kernel
theorem dX12_middle_32 : decode cX12_middle 32 = .ok (.iaload, 1) := by decide +kernel
theorem dX12_middle_33 : decode cX12_middle 33 = .ok (.istore_n 2, 1) := by decide +kernel
theorem dX12_middle_34 : decode cX12_middle 34 = .ok (.iload_n 2, 1) := by decide +kernel
theorem dX12_middle_35 : decode cX12_middle 35 = .ok (.istore_n 3, 1) := by decide +kernel
theorem dX12_middle_36 : decode cX12_middle 36 = .ok (.iconst 0, 1) := by decide +kernel
theorem dX12_middle_37 : decode cX12_middle 37 = .ok (.istore 4, 2) := by decide +kernel
theorem dX12_middle_39 : decode cX12_middle 39 = .ok (.iload 4, 2) := by decide +kernel
theorem dX12_middle_41 : decode cX12_middle 41 = .ok (.aload_n 0, 1) := by decide +kernel
theorem dX12_middle_42 : decode cX12_middle 42 = .ok (.getfield 154, 3) := by decide +kernel
theorem dX12_middle_45 : decode cX12_middle 45 = .ok (.if_icmp .ge 21, 3) := by decide +kernel
theorem dX12_middle_48 : decode cX12_middle 48 = .ok (.iload_n 3, 1) := by decide +kernel
theorem dX12_middle_49 : decode cX12_middle 49 = .ok (.aload_n 0, 1) := by decide +kernel
theorem dX12_middle_50 : decode cX12_middle 50 = .ok (.getfield 34, 3) := by decide +kernel
theorem dX12_middle_53 : decode cX12_middle 53 = .ok (.iload 4, 2) := by decide +kernel
theorem dX12_middle_55 : decode cX12_middle 55 = .ok (.iaload, 1) := by decide +kernel
theorem dX12_middle_56 : decode cX12_middle 56 = .ok (.invokestatic 311, 3) := by decide +kernel
theorem dX12_middle_59 : decode cX12_middle 59 = .ok (.istore_n 3, 1) := by decide +kernel
theorem dX12_middle_60 : decode cX12_middle 60 = .ok (.iinc 4 1, 3) := by decide +kernel
theorem dX12_middle_63 : decode cX12_middle 63 = .ok (.goto (-24), 3) := by decide +kernel
theorem dX12_middle_66 : decode cX12_middle 66 = .ok (.iload_n 2, 1) := by decide +kernel
theorem dX12_middle_67 : decode cX12_middle 67 = .ok (.iload_n 3, 1) := by decide +kernel
theorem dX12_middle_68 : decode cX12_middle 68 = .ok (.if_icmp .ge 36, 3) := by decide +kernel
theorem dX12_middle_71 : decode cX12_middle 71 = .ok (.iload_n 2, 1) := by decide +kernel
theorem dX12_middle_72 : decode cX12_middle 72 = .ok (.iload_n 3, 1) := by decide +kernel
theorem dX12_middle_73 : decode cX12_middle 73 = .ok (.iadd, 1) := by decide +kernel
theorem dX12_middle_74 : decode cX12_middle 74 = .ok (.iconst 2, 1) := by decide +kernel
theorem dX12_middle_75 : decode cX12_middle 75 = .ok (.invokestatic 320, 3) := by decide +kernel
theorem dX12_middle_78 : decode cX12_middle 78 = .ok (.istore 4, 2) := by decide +kernel
theorem dX12_middle_80 : decode cX12_middle 80 = .ok (.aload_n 0, 1) := by decide +kernel
theorem dX12_middle_81 : decode cX12_middle 81 = .ok (.iload 4, 2) := by decide +kernel
theorem dX12_middle_83 : decode cX12_middle 83 = .ok (.invokevirtual 323, 3) := by decide +kernel
theorem dX12_middle_86 : decode cX12_middle 86 = .ok (.iload_n 1, 1) := by decide +kernel
theorem dX12_middle_87 : decode cX12_middle 87 = .ok (.if_icmp .le 9, 3) := by decide +kernel
theorem dX12_middle_90 : decode cX12_middle 90 = .ok (.iload 4, 2) := by decide +kernel
theorem dX12_middle_92 : decode cX12_middle 92 = .ok (.istore_n 3, 1) := by decide +kernel
theorem dX12_middle_93 : decode cX12_middle 93 = .ok (.goto 8, 3) := by decide +kernel
theorem dX12_middle_96 : decode cX12_middle 96 = .ok (.iload 4, 2) := by decide +kernel
theorem dX12_middle_98 : decode cX12_middle 98 = .ok (.iconst 1, 1) := by decide +kernel
theorem dX12_middle_99 : decode cX12_middle 99 = .ok (.iadd, 1) := by decide +kernel
theorem dX12_middle_100 : decode cX12_middle 100 = .ok (.istore_n 2, 1) := by decide +kernel
theorem dX12_middle_101 : decode cX12_middle 101 = .ok (.goto (-35), 3) := by decide +kernel
theorem dX12_middle_104 : decode cX12_middle 104 = .ok (.iload_n 2, 1) := by decide +kernel
theorem dX12_middle_105 : decode cX12_middle 105 = .ok (.i2l, 1) := by decide +kernel
theorem dX12_middle_106 : decode cX12_middle 106 = .ok (.lreturn, 1) := by decide +kernel
theorem dX12_often_0 : decode cX12_often 0 = .ok (.aload_n 0, 1) := by decide +kernel
theorem dX12_often_1 : decode cX12_often 1 = .ok (.iload_n 1, 1) := by decide +kernel
theorem dX12_often_2 : decode cX12_often 2 = .ok (.invokevirtual 187, 3) := by decide +kernel
theorem dX12_often_5 : decode cX12_often 5 = .ok (.ifCond .eq 23, 3) := by decide +kernel
theorem dX12_often_8 : decode cX12_often 8 = .ok (.aload_n 0, 1) := by decide +kernel
theorem dX12_often_9 : decode cX12_often 9 = .ok (.iload_n 2, 1) := by decide +kernel
theorem dX12_often_10 : decode cX12_often 10 = .ok (.invokevirtual 190, 3) := by decide +kernel
theorem dX12_often_13 : decode cX12_often 13 = .ok (.ifCond .eq 15, 3) := by decide +kernel
theorem dX12_often_16 : decode cX12_often 16 = .ok (.iload_n 3, 1) := by decide +kernel
theorem dX12_often_17 : decode cX12_often 17 = .ok (.i2l, 1) := by decide +kernel
theorem dX12_often_18 : decode cX12_often 18 = .ok (.lconst 1, 1) := by decide +kernel
theorem dX12_often_19 : decode cX12_often 19 = .ok (.ldc2_w 326, 3) := by decide +kernel
theorem dX12_often_22 : decode cX12_often 22 = .ok (.invokestatic 64, 3) := by decide +kernel
theorem dX12_often_25 : decode cX12_often 25 = .ok (.ifCond .ne 6, 3) := by decide +kernel
theorem dX12_often_28 : decode cX12_often 28 = .ok (.bipush (-2), 2) := by decide +kernel
theorem dX12_often_30 : decode cX12_often 30 = .ok (.ireturn, 1) := by decide +kernel
theorem dX12_often_31 : decode cX12_often 31 = .ok (.aload_n 0, 1) := by decide +kernel
theorem dX12_often_32 : decode cX12_often 32 = .ok (.invokevirtual 199, 3) := by decide +kernel
theorem dX12_often_35 : decode cX12_often 35 = .ok (.iconst 0, 1) := by decide +kernel
theorem dX12_often_36 : decode cX12_often 36 = .ok (.istore 4, 2) := by decide +kernel
theorem dX12_often_38 : decode cX12_often 38 = .ok (.iconst 0, 1) := by decide +kernel
theorem dX12_often_39 : decode cX12_often 39 = .ok (.istore 5, 2) := by decide +kernel
theorem dX12_often_41 : decode cX12_often 41 = .ok (.iload 5, 2) := by decide +kernel
theorem dX12_often_43 : decode cX12_often 43 = .ok (.iload_n 3, 1) := by decide +kernel
theorem dX12_often_44 : decode cX12_often 44 = .ok (.if_icmp .ge 44, 3) := by decide +kernel
theorem dX12_often_47 : decode cX12_often 47 = .ok (.iload 5, 2) := by decide +kernel
theorem dX12_often_49 : decode cX12_often 49 = .ok (.aload_n 0, 1) := by decide +kernel
theorem dX12_often_50 : decode cX12_often 50 = .ok (.getfield 176, 3) := by decide +kernel
theorem dX12_often_53 : decode cX12_often 53 = .ok (.if_icmp .ge 35, 3) := by decide +kernel
theorem dX12_often_56 : decode cX12_often 56 = .ok (.iload 4, 2) := by decide +kernel
theorem dX12_often_58 : decode cX12_often 58 = .ok (.aload_n 0, 1) := by decide +kernel
theorem dX12_often_59 : decode cX12_often 59 = .ok (.aload_n 0, 1) := by decide +kernel
theorem dX12_often_60 : decode cX12_often 60 = .ok (.getfield 40, 3) := by decide +kernel
theorem dX12_often_63 : decode cX12_often 63 = .ok (.iload 5, 2) := by decide +kernel
theorem dX12_often_65 : decode cX12_often 65 = .ok (.iaload, 1) := by decide +kernel
theorem dX12_often_66 : decode cX12_often 66 = .ok (.iload_n 1, 1) := by decide +kernel
theorem dX12_often_67 : decode cX12_often 67 = .ok (.invokevirtual 205, 3) := by decide +kernel
theorem dX12_often_70 : decode cX12_often 70 = .ok (.iload_n 2, 1) := by decide +kernel
theorem dX12_often_71 : decode cX12_often 71 = .ok (.if_icmp .ne 7, 3) := by decide +kernel
theorem dX12_often_74 : decode cX12_often 74 = .ok (.iconst 1, 1) := by decide +kernel
theorem dX12_often_75 : decode cX12_often 75 = .ok (.goto 4, 3) := by decide +kernel
theorem dX12_often_78 : decode cX12_often 78 = .ok (.iconst 0, 1) := by decide +kernel
theorem dX12_often_79 : decode cX12_often 79 = .ok (.iadd, 1) := by decide +kernel
theorem dX12_often_80 : decode cX12_often 80 = .ok (.istore 4, 2) := by decide +kernel
theorem dX12_often_82 : decode cX12_often 82 = .ok (.iinc 5 1, 3) := by decide +kernel
theorem dX12_often_85 : decode cX12_often 85 = .ok (.goto (-44), 3) := by decide +kernel
theorem dX12_often_88 : decode cX12_often 88 = .ok (.iload 4, 2) := by decide +kernel
theorem dX12_often_90 : decode cX12_often 90 = .ok (.ireturn, 1) := by decide +kernel
theorem dX12_bits_0 : decode cX12_bits 0 = .ok (.iconst 0, 1) := by decide +kernel
theorem dX12_bits_1 : decode cX12_bits 1 = .ok (.istore_n 1, 1) := by decide +kernel
theorem dX12_bits_2 : decode cX12_bits 2 = .ok (.iconst 0, 1) := by decide +kernel
theorem dX12_bits_3 : decode cX12_bits 3 = .ok (.istore_n 2, 1) := by decide +kernel
theorem dX12_bits_4 : decode cX12_bits 4 = .ok (.iload_n 2, 1) := by decide +kernel
theorem dX12_bits_5 : decode cX12_bits 5 = .ok (.bipush 8, 2) := by decide +kernel
theorem dX12_bits_7 : decode cX12_bits 7 = .ok (.if_icmp .ge 17, 3) := by decide +kernel
theorem dX12_bits_10 : decode cX12_bits 10 = .ok (.iload_n 1, 1) := by decide +kernel
theorem dX12_bits_11 : decode cX12_bits 11 = .ok (.iload_n 0, 1) := by decide +kernel
theorem dX12_bits_12 : decode cX12_bits 12 = .ok (.iload_n 2, 1) := by decide +kernel
theorem dX12_bits_13 : decode cX12_bits 13 = .ok (.ishr, 1) := by decide +kernel
theorem dX12_bits_14 : decode cX12_bits 14 = .ok (.iconst 1, 1) := by decide +kernel
theorem dX12_bits_15 : decode cX12_bits 15 = .ok (.iand, 1) := by decide +kernel
theorem dX12_bits_16 : decode cX12_bits 16 = .ok (.iadd, 1) := by decide +kernel
theorem dX12_bits_17 : decode cX12_bits 17 = .ok (.istore_n 1, 1) := by decide +kernel
theorem dX12_bits_18 : decode cX12_bits 18 = .ok (.iinc 2 1, 3) := by decide +kernel
theorem dX12_bits_21 : decode cX12_bits 21 = .ok (.goto (-17), 3) := by decide +kernel
theorem dX12_bits_24 : decode cX12_bits 24 = .ok (.iload_n 1, 1) := by decide +kernel
theorem dX12_bits_25 : decode cX12_bits 25 = .ok (.ireturn, 1) := by decide +kernel
theorem dX12_blocked_0 : decode cX12_blocked 0 = .ok (.iconst 1, 1) := by decide +kernel
theorem dX12_blocked_1 : decode cX12_blocked 1 = .ok (.istore_n 1, 1) := by decide +kernel
theorem dX12_blocked_2 : decode cX12_blocked 2 = .ok (.iload_n 1, 1) := by decide +kernel
theorem dX12_blocked_3 : decode cX12_blocked 3 = .ok (.iconst 1, 1) := by decide +kernel
theorem dX12_blocked_4 : decode cX12_blocked 4 = .ok (.aload_n 0, 1) := by decide +kernel
theorem dX12_blocked_5 : decode cX12_blocked 5 = .ok (.invokevirtual 60, 3) := by decide +kernel
theorem dX12_blocked_8 : decode cX12_blocked 8 = .ok (.ishl, 1) := by decide +kernel
theorem dX12_blocked_9 : decode cX12_blocked 9 = .ok (.if_icmp .ge 89, 3) := by decide +kernel
theorem dX12_blocked_12 : decode cX12_blocked 12 = .ok (.iconst 0, 1) := by decide +kernel
theorem dX12_blocked_13 : decode cX12_blocked 13 = .ok (.istore_n 2, 1) := by decide +kernel
theorem dX12_blocked_14 : decode cX12_blocked 14 = .ok (.iconst 0, 1) := by decide +kernel
theorem dX12_blocked_15 : decode cX12_blocked 15 = .ok (.istore_n 3, 1) := by decide +kernel
theorem dX12_blocked_16 : decode cX12_blocked 16 = .ok (.iload_n 3, 1) := by decide +kernel
theorem dX12_blocked_17 : decode cX12_blocked 17 = .ok (.aload_n 0, 1) := by decide +kernel
theorem dX12_blocked_18 : decode cX12_blocked 18 = .ok (.invokevirtual 60, 3) := by decide +kernel
theorem dX12_blocked_21 : decode cX12_blocked 21 = .ok (.if_icmp .ge 58, 3) := by decide +kernel
theorem dX12_blocked_24 : decode cX12_blocked 24 = .ok (.iconst 0, 1) := by decide +kernel
theorem dX12_blocked_25 : decode cX12_blocked 25 = .ok (.istore 4, 2) := by decide +kernel
theorem dX12_blocked_27 : decode cX12_blocked 27 = .ok (.iload 4, 2) := by decide +kernel
theorem dX12_blocked_29 : decode cX12_blocked 29 = .ok (.aload_n 0, 1) := by decide +kernel
theorem dX12_blocked_30 : decode cX12_blocked 30 = .ok (.invokevirtual 68, 3) := by decide +kernel
theorem dX12_blocked_33 : decode cX12_blocked 33 = .ok (.if_icmp .ge 40, 3) := by decide +kernel
theorem dX12_blocked_36 : decode cX12_blocked 36 = .ok (.iload_n 2, 1) := by decide +kernel
theorem dX12_blocked_37 : decode cX12_blocked 37 = .ok (.iload_n 1, 1) := by decide +kernel
theorem dX12_blocked_38 : decode cX12_blocked 38 = .ok (.iload_n 3, 1) := by decide +kernel
theorem dX12_blocked_39 : decode cX12_blocked 39 = .ok (.invokestatic 164, 3) := by decide +kernel
theorem dX12_blocked_42 : decode cX12_blocked 42 = .ok (.ifCond .eq 22, 3) := by decide +kernel
theorem dX12_blocked_45 : decode cX12_blocked 45 = .ok (.aload_n 0, 1) := by decide +kernel
theorem dX12_blocked_46 : decode cX12_blocked 46 = .ok (.iload_n 3, 1) := by decide +kernel
theorem dX12_blocked_47 : decode cX12_blocked 47 = .ok (.iload 4, 2) := by decide +kernel
theorem dX12_blocked_49 : decode cX12_blocked 49 = .ok (.invokevirtual 157, 3) := by decide +kernel
theorem dX12_blocked_52 : decode cX12_blocked 52 = .ok (.ldc 131, 2) := by decide +kernel
theorem dX12_blocked_54 : decode cX12_blocked 54 = .ok (.if_icmp .eq 10, 3) := by decide +kernel
theorem dX12_blocked_57 : decode cX12_blocked 57 = .ok (.iconst 1, 1) := by decide +kernel
theorem dX12_blocked_58 : decode cX12_blocked 58 = .ok (.iload 4, 2) := by decide +kernel
theorem dX12_blocked_60 : decode cX12_blocked 60 = .ok (.ishl, 1) := by decide +kernel
theorem dX12_blocked_61 : decode cX12_blocked 61 = .ok (.goto 4, 3) := by decide +kernel
theorem dX12_blocked_64 : decode cX12_blocked 64 = .ok (.iconst 0, 1) := by decide +kernel
theorem dX12_blocked_65 : decode cX12_blocked 65 = .ok (.ior, 1) := by decide +kernel
theorem dX12_blocked_66 : decode cX12_blocked 66 = .ok (.istore_n 2, 1) := by decide +kernel
theorem dX12_blocked_67 : decode cX12_blocked 67 = .ok (.iinc 4 1, 3) := by decide +kernel
theorem dX12_blocked_70 : decode cX12_blocked 70 = .ok (.goto (-43), 3) := by decide +kernel
theorem dX12_blocked_73 : decode cX12_blocked 73 = .ok (.iinc 3 1, 3) := by decide +kernel
theorem dX12_blocked_76 : decode cX12_blocked 76 = .ok (.goto (-60), 3) := by decide +kernel
theorem dX12_blocked_79 : decode cX12_blocked 79 = .ok (.iload_n 2, 1) := by decide +kernel
theorem dX12_blocked_80 : decode cX12_blocked 80 = .ok (.invokestatic 316, 3) := by decide +kernel
theorem dX12_blocked_83 : decode cX12_blocked 83 = .ok (.iload_n 1, 1) := by decide +kernel
theorem dX12_blocked_84 : decode cX12_blocked 84 = .ok (.invokestatic 316, 3) := by decide +kernel
theorem dX12_blocked_87 : decode cX12_blocked 87 = .ok (.if_icmp .ge 5, 3) := by decide +kernel
theorem dX12_blocked_90 : decode cX12_blocked 90 = .ok (.iload_n 1, 1) := by decide +kernel
theorem dX12_blocked_91 : decode cX12_blocked 91 = .ok (.ireturn, 1) := by decide +kernel
theorem dX12_blocked_92 : decode cX12_blocked 92 = .ok (.iinc 1 1, 3) := by decide +kernel
theorem dX12_blocked_95 : decode cX12_blocked 95 = .ok (.goto (-93), 3) := by decide +kernel
theorem dX12_blocked_98 : decode cX12_blocked 98 = .ok (.iconst 0, 1) := by decide +kernel
theorem dX12_blocked_99 : decode cX12_blocked 99 = .ok (.ireturn, 1) := by decide +kernel
theorem dX12_lessOf_0 : decode cX12_lessOf 0 = .ok (.aload_n 0, 1) := by decide +kernel
theorem dX12_lessOf_1 : decode cX12_lessOf 1 = .ok (.iload_n 1, 1) := by decide +kernel
theorem dX12_lessOf_2 : decode cX12_lessOf 2 = .ok (.iload_n 2, 1) := by decide +kernel
theorem dX12_lessOf_3 : decode cX12_lessOf 3 = .ok (.invokevirtual 157, 3) := by decide +kernel
theorem dX12_lessOf_6 : decode cX12_lessOf 6 = .ok (.aload_n 0, 1) := by decide +kernel
theorem dX12_lessOf_7 : decode cX12_lessOf 7 = .ok (.iload_n 1, 1) := by decide +kernel
theorem dX12_lessOf_8 : decode cX12_lessOf 8 = .ok (.iconst 0, 1) := by decide +kernel
theorem dX12_lessOf_9 : decode cX12_lessOf 9 = .ok (.invokevirtual 290, 3) := by decide +kernel
theorem dX12_lessOf_12 : decode cX12_lessOf 12 = .ok (.l2i, 1) := by decide +kernel
theorem dX12_lessOf_13 : decode cX12_lessOf 13 = .ok (.isub, 1) := by decide +kernel
theorem dX12_lessOf_14 : decode cX12_lessOf 14 = .ok (.ireturn, 1) := by decide +kernel
theorem dX12_reducedOf_0 : decode cX12_reducedOf 0 = .ok (.ldc 131, 2) := by decide +kernel
theorem dX12_reducedOf_2 : decode cX12_reducedOf 2 = .ok (.istore_n 3, 1) := by decide +kernel
theorem dX12_reducedOf_3 : decode cX12_reducedOf 3 = .ok (.iconst 0, 1) := by decide +kernel
theorem dX12_reducedOf_4 : decode cX12_reducedOf 4 = .ok (.istore 4, 2) := by decide +kernel
theorem dX12_reducedOf_6 : decode cX12_reducedOf 6 = .ok (.iload 4, 2) := by decide +kernel
theorem dX12_reducedOf_8 : decode cX12_reducedOf 8 = .ok (.aload_n 0, 1) := by decide +kernel
theorem dX12_reducedOf_9 : decode cX12_reducedOf 9 = .ok (.invokevirtual 60, 3) := by decide +kernel
theorem dX12_reducedOf_12 : decode cX12_reducedOf 12 = .ok (.if_icmp .ge 37, 3) := by decide +kernel
theorem dX12_reducedOf_15 : decode cX12_reducedOf 15 = .ok (.aload_n 0, 1) := by decide +kernel
theorem dX12_reducedOf_16 : decode cX12_reducedOf 16 = .ok (.iload 4, 2) := by decide +kernel
theorem dX12_reducedOf_18 : decode cX12_reducedOf 18 = .ok (.iload_n 2, 1) := by decide +kernel
theorem dX12_reducedOf_19 : decode cX12_reducedOf 19 = .ok (.invokevirtual 157, 3) := by decide +kernel
theorem dX12_reducedOf_22 : decode cX12_reducedOf 22 = .ok (.ldc 131, 2) := by decide +kernel
theorem dX12_reducedOf_24 : decode cX12_reducedOf 24 = .ok (.if_icmp .ne 7, 3) := by decide +kernel
theorem dX12_reducedOf_27 : decode cX12_reducedOf 27 = .ok (.iload_n 3, 1) := by decide +kernel
theorem dX12_reducedOf_28 : decode cX12_reducedOf 28 = .ok (.goto 14, 3) := by decide +kernel
theorem dX12_reducedOf_31 : decode cX12_reducedOf 31 = .ok (.iload_n 3, 1) := by decide +kernel
theorem dX12_reducedOf_32 : decode cX12_reducedOf 32 = .ok (.aload_n 0, 1) := by decide +kernel
theorem dX12_reducedOf_33 : decode cX12_reducedOf 33 = .ok (.iload 4, 2) := by decide +kernel
theorem dX12_reducedOf_35 : decode cX12_reducedOf 35 = .ok (.iload_n 2, 1) := by decide +kernel
theorem dX12_reducedOf_36 : decode cX12_reducedOf 36 = .ok (.invokevirtual 328, 3) := by decide +kernel
theorem dX12_reducedOf_39 : decode cX12_reducedOf 39 = .ok (.invokestatic 94, 3) := by decide +kernel
theorem dX12_reducedOf_42 : decode cX12_reducedOf 42 = .ok (.istore_n 3, 1) := by decide +kernel
theorem dX12_reducedOf_43 : decode cX12_reducedOf 43 = .ok (.iinc 4 1, 3) := by decide +kernel
theorem dX12_reducedOf_46 : decode cX12_reducedOf 46 = .ok (.goto (-40), 3) := by decide +kernel
theorem dX12_reducedOf_49 : decode cX12_reducedOf 49 = .ok (.aload_n 0, 1) := by decide +kernel
theorem dX12_reducedOf_50 : decode cX12_reducedOf 50 = .ok (.iload_n 1, 1) := by decide +kernel
theorem dX12_reducedOf_51 : decode cX12_reducedOf 51 = .ok (.iload_n 2, 1) := by decide +kernel
theorem dX12_reducedOf_52 : decode cX12_reducedOf 52 = .ok (.invokevirtual 328, 3) := by decide +kernel
theorem dX12_reducedOf_55 : decode cX12_reducedOf 55 = .ok (.iload_n 3, 1) := by decide +kernel
theorem dX12_reducedOf_56 : decode cX12_reducedOf 56 = .ok (.isub, 1) := by decide +kernel
theorem dX12_reducedOf_57 : decode cX12_reducedOf 57 = .ok (.i2l, 1) := by decide +kernel
theorem dX12_reducedOf_58 : decode cX12_reducedOf 58 = .ok (.lreturn, 1) := by decide +kernel
theorem dX12_reduced_0 : decode cX12_reduced 0 = .ok (.aload_n 0, 1) := by decide +kernel
theorem dX12_reduced_1 : decode cX12_reduced 1 = .ok (.iload_n 1, 1) := by decide +kernel
theorem dX12_reduced_2 : decode cX12_reduced 2 = .ok (.invokevirtual 187, 3) := by decide +kernel
theorem dX12_reduced_5 : decode cX12_reduced 5 = .ok (.ifCond .eq 11, 3) := by decide +kernel
theorem dX12_reduced_8 : decode cX12_reduced 8 = .ok (.aload_n 0, 1) := by decide +kernel
theorem dX12_reduced_9 : decode cX12_reduced 9 = .ok (.iload_n 2, 1) := by decide +kernel
theorem dX12_reduced_10 : decode cX12_reduced 10 = .ok (.invokevirtual 190, 3) := by decide +kernel
theorem dX12_reduced_13 : decode cX12_reduced 13 = .ok (.ifCond .ne 7, 3) := by decide +kernel
theorem dX12_reduced_16 : decode cX12_reduced 16 = .ok (.ldc2_w 197, 3) := by decide +kernel
theorem dX12_reduced_19 : decode cX12_reduced 19 = .ok (.lreturn, 1) := by decide +kernel
theorem dX12_reduced_20 : decode cX12_reduced 20 = .ok (.aload_n 0, 1) := by decide +kernel
theorem dX12_reduced_21 : decode cX12_reduced 21 = .ok (.iload_n 1, 1) := by decide +kernel
theorem dX12_reduced_22 : decode cX12_reduced 22 = .ok (.iload_n 2, 1) := by decide +kernel
theorem dX12_reduced_23 : decode cX12_reduced 23 = .ok (.invokevirtual 157, 3) := by decide +kernel
theorem dX12_reduced_26 : decode cX12_reduced 26 = .ok (.ldc 131, 2) := by decide +kernel
theorem dX12_reduced_28 : decode cX12_reduced 28 = .ok (.if_icmp .ne 9, 3) := by decide +kernel
theorem dX12_reduced_31 : decode cX12_reduced 31 = .ok (.ldc2_w 185, 3) := by decide +kernel
theorem dX12_reduced_34 : decode cX12_reduced 34 = .ok (.goto 9, 3) := by decide +kernel
theorem dX12_reduced_37 : decode cX12_reduced 37 = .ok (.aload_n 0, 1) := by decide +kernel
theorem dX12_reduced_38 : decode cX12_reduced 38 = .ok (.iload_n 1, 1) := by decide +kernel
theorem dX12_reduced_39 : decode cX12_reduced 39 = .ok (.iload_n 2, 1) := by decide +kernel
theorem dX12_reduced_40 : decode cX12_reduced 40 = .ok (.invokevirtual 331, 3) := by decide +kernel
theorem dX12_reduced_43 : decode cX12_reduced 43 = .ok (.lreturn, 1) := by decide +kernel
theorem dX12_noughts_0 : decode cX12_noughts 0 = .ok (.iconst 0, 1) := by decide +kernel
theorem dX12_noughts_1 : decode cX12_noughts 1 = .ok (.istore_n 1, 1) := by decide +kernel
theorem dX12_noughts_2 : decode cX12_noughts 2 = .ok (.iconst 0, 1) := by decide +kernel
theorem dX12_noughts_3 : decode cX12_noughts 3 = .ok (.istore_n 2, 1) := by decide +kernel
theorem dX12_noughts_4 : decode cX12_noughts 4 = .ok (.iload_n 2, 1) := by decide +kernel
theorem dX12_noughts_5 : decode cX12_noughts 5 = .ok (.aload_n 0, 1) := by decide +kernel
theorem dX12_noughts_6 : decode cX12_noughts 6 = .ok (.invokevirtual 60, 3) := by decide +kernel
theorem dX12_noughts_9 : decode cX12_noughts 9 = .ok (.if_icmp .ge 55, 3) := by decide +kernel
theorem dX12_noughts_12 : decode cX12_noughts 12 = .ok (.iconst 0, 1) := by decide +kernel
theorem dX12_noughts_13 : decode cX12_noughts 13 = .ok (.istore_n 3, 1) := by decide +kernel
theorem dX12_noughts_14 : decode cX12_noughts 14 = .ok (.iload_n 3, 1) := by decide +kernel
theorem dX12_noughts_15 : decode cX12_noughts 15 = .ok (.aload_n 0, 1) := by decide +kernel
theorem dX12_noughts_16 : decode cX12_noughts 16 = .ok (.invokevirtual 68, 3) := by decide +kernel
theorem dX12_noughts_19 : decode cX12_noughts 19 = .ok (.if_icmp .ge 39, 3) := by decide +kernel
theorem dX12_noughts_22 : decode cX12_noughts 22 = .ok (.iload_n 1, 1) := by decide +kernel
theorem dX12_noughts_23 : decode cX12_noughts 23 = .ok (.aload_n 0, 1) := by decide +kernel
theorem dX12_noughts_24 : decode cX12_noughts 24 = .ok (.iload_n 2, 1) := by decide +kernel
theorem dX12_noughts_25 : decode cX12_noughts 25 = .ok (.iload_n 3, 1) := by decide +kernel
theorem dX12_noughts_26 : decode cX12_noughts 26 = .ok (.invokevirtual 157, 3) := by decide +kernel
theorem dX12_noughts_29 : decode cX12_noughts 29 = .ok (.ldc 131, 2) := by decide +kernel
theorem dX12_noughts_31 : decode cX12_noughts 31 = .ok (.if_icmp .eq 18, 3) := by decide +kernel
theorem dX12_noughts_34 : decode cX12_noughts 34 = .ok (.aload_n 0, 1) := by decide +kernel
theorem dX12_noughts_35 : decode cX12_noughts 35 = .ok (.iload_n 2, 1) := by decide +kernel
theorem dX12_noughts_36 : decode cX12_noughts 36 = .ok (.iload_n 3, 1) := by decide +kernel
theorem dX12_noughts_37 : decode cX12_noughts 37 = .ok (.invokevirtual 331, 3) := by decide +kernel
theorem dX12_noughts_40 : decode cX12_noughts 40 = .ok (.lconst 0, 1) := by decide +kernel
theorem dX12_noughts_41 : decode cX12_noughts 41 = .ok (.lcmp, 1) := by decide +kernel
theorem dX12_noughts_42 : decode cX12_noughts 42 = .ok (.ifCond .ne 7, 3) := by decide +kernel
theorem dX12_noughts_45 : decode cX12_noughts 45 = .ok (.iconst 1, 1) := by decide +kernel
theorem dX12_noughts_46 : decode cX12_noughts 46 = .ok (.goto 4, 3) := by decide +kernel
theorem dX12_noughts_49 : decode cX12_noughts 49 = .ok (.iconst 0, 1) := by decide +kernel
theorem dX12_noughts_50 : decode cX12_noughts 50 = .ok (.iadd, 1) := by decide +kernel
theorem dX12_noughts_51 : decode cX12_noughts 51 = .ok (.istore_n 1, 1) := by decide +kernel
theorem dX12_noughts_52 : decode cX12_noughts 52 = .ok (.iinc 3 1, 3) := by decide +kernel
theorem dX12_noughts_55 : decode cX12_noughts 55 = .ok (.goto (-41), 3) := by decide +kernel
theorem dX12_noughts_58 : decode cX12_noughts 58 = .ok (.iinc 2 1, 3) := by decide +kernel
theorem dX12_noughts_61 : decode cX12_noughts 61 = .ok (.goto (-57), 3) := by decide +kernel
theorem dX12_noughts_64 : decode cX12_noughts 64 = .ok (.iload_n 1, 1) := by decide +kernel
theorem dX12_noughts_65 : decode cX12_noughts 65 = .ok (.ireturn, 1) := by decide +kernel
theorem dX12_remembers_0 : decode cX12_remembers 0 = .ok (.iconst 0, 1) := by decide +kernel
theorem dX12_remembers_1 : decode cX12_remembers 1 = .ok (.istore_n 1, 1) := by decide +kernel
theorem dX12_remembers_2 : decode cX12_remembers 2 = .ok (.iload_n 1, 1) := by decide +kernel
theorem dX12_remembers_3 : decode cX12_remembers 3 = .ok (.bipush 58, 2) := by decide +kernel
theorem dX12_remembers_5 : decode cX12_remembers 5 = .ok (.if_icmp .ge 21, 3) := by decide +kernel
theorem dX12_remembers_8 : decode cX12_remembers 8 = .ok (.aload_n 0, 1) := by decide +kernel
theorem dX12_remembers_9 : decode cX12_remembers 9 = .ok (.getfield 53, 3) := by decide +kernel
theorem dX12_remembers_12 : decode cX12_remembers 12 = .ok (.iload_n 1, 1) := by decide +kernel
theorem dX12_remembers_13 : decode cX12_remembers 13 = .ok (.aload_n 0, 1) := by decide +kernel
theorem dX12_remembers_14 : decode cX12_remembers 14 = .ok (.getfield 11, 3) := by decide +kernel
theorem dX12_remembers_17 : decode cX12_remembers 17 = .ok (.iload_n 1, 1) := by decide +kernel
theorem dX12_remembers_18 : decode cX12_remembers 18 = .ok (.iaload, 1) := by decide +kernel
theorem dX12_remembers_19 : decode cX12_remembers 19 = .ok (.iastore, 1) := by decide +kernel
theorem dX12_remembers_20 : decode cX12_remembers 20 = .ok (.iinc 1 1, 3) := by decide +kernel
theorem dX12_remembers_23 : decode cX12_remembers 23 = .ok (.goto (-21), 3) := by decide +kernel
theorem dX12_remembers_26 : decode cX12_remembers 26 = .ok (.return_, 1) := by decide +kernel
theorem dX12_keeps_0 : decode cX12_keeps 0 = .ok (.iconst 0, 1) := by decide +kernel
theorem dX12_keeps_1 : decode cX12_keeps 1 = .ok (.istore_n 1, 1) := by decide +kernel
theorem dX12_keeps_2 : decode cX12_keeps 2 = .ok (.iconst 0, 1) := by decide +kernel
theorem dX12_keeps_3 : decode cX12_keeps 3 = .ok (.istore_n 2, 1) := by decide +kernel
theorem dX12_keeps_4 : decode cX12_keeps 4 = .ok (.iload_n 2, 1) := by decide +kernel
theorem dX12_keeps_5 : decode cX12_keeps 5 = .ok (.bipush 58, 2) := by decide +kernel
theorem dX12_keeps_7 : decode cX12_keeps 7 = .ok (.if_icmp .ge 34, 3) := by decide +kernel
theorem dX12_keeps_10 : decode cX12_keeps 10 = .ok (.iload_n 1, 1) := by decide +kernel
theorem dX12_keeps_11 : decode cX12_keeps 11 = .ok (.ifCond .ne 18, 3) := by decide +kernel
theorem dX12_keeps_14 : decode cX12_keeps 14 = .ok (.aload_n 0, 1) := by decide +kernel
theorem dX12_keeps_15 : decode cX12_keeps 15 = .ok (.getfield 53, 3) := by decide +kernel
theorem dX12_keeps_18 : decode cX12_keeps 18 = .ok (.iload_n 2, 1) := by decide +kernel
theorem dX12_keeps_19 : decode cX12_keeps 19 = .ok (.iaload, 1) := by decide +kernel
theorem dX12_keeps_20 : decode cX12_keeps 20 = .ok (.aload_n 0, 1) := by decide +kernel
theorem dX12_keeps_21 : decode cX12_keeps 21 = .ok (.getfield 11, 3) := by decide +kernel
theorem dX12_keeps_24 : decode cX12_keeps 24 = .ok (.iload_n 2, 1) := by decide +kernel
theorem dX12_keeps_25 : decode cX12_keeps 25 = .ok (.iaload, 1) := by decide +kernel
theorem dX12_keeps_26 : decode cX12_keeps 26 = .ok (.if_icmp .eq 7, 3) := by decide +kernel
theorem dX12_keeps_29 : decode cX12_keeps 29 = .ok (.iconst 1, 1) := by decide +kernel
theorem dX12_keeps_30 : decode cX12_keeps 30 = .ok (.goto 4, 3) := by decide +kernel
theorem dX12_keeps_33 : decode cX12_keeps 33 = .ok (.iconst 0, 1) := by decide +kernel
theorem dX12_keeps_34 : decode cX12_keeps 34 = .ok (.istore_n 1, 1) := by decide +kernel
theorem dX12_keeps_35 : decode cX12_keeps 35 = .ok (.iinc 2 1, 3) := by decide +kernel
theorem dX12_keeps_38 : decode cX12_keeps 38 = .ok (.goto (-34), 3) := by decide +kernel
theorem dX12_keeps_41 : decode cX12_keeps 41 = .ok (.iload_n 1, 1) := by decide +kernel
theorem dX12_keeps_42 : decode cX12_keeps 42 = .ok (.ifCond .ne 5, 3) := by decide +kernel
theorem dX12_keeps_45 : decode cX12_keeps 45 = .ok (.iconst 0, 1) := by decide +kernel
theorem dX12_keeps_46 : decode cX12_keeps 46 = .ok (.ireturn, 1) := by decide +kernel
theorem dX12_keeps_47 : decode cX12_keeps 47 = .ok (.aload_n 0, 1) := by decide +kernel
theorem dX12_keeps_48 : decode cX12_keeps 48 = .ok (.getfield 147, 3) := by decide +kernel
theorem dX12_keeps_51 : decode cX12_keeps 51 = .ok (.bipush 10, 2) := by decide +kernel
theorem dX12_keeps_53 : decode cX12_keeps 53 = .ok (.if_icmp .ne 43, 3) := by decide +kernel
theorem dX12_keeps_56 : decode cX12_keeps 56 = .ok (.iconst 0, 1) := by decide +kernel
theorem dX12_keeps_57 : decode cX12_keeps 57 = .ok (.istore_n 2, 1) := by decide +kernel
theorem dX12_keeps_58 : decode cX12_keeps 58 = .ok (.iload_n 2, 1) := by decide +kernel
theorem dX12_keeps_59 : decode cX12_keeps 59 = .ok (.sipush 522, 3) := by decide +kernel
theorem dX12_keeps_62 : decode cX12_keeps 62 = .ok (.if_icmp .ge 24, 3) := by decide +kernel
theorem dX12_keeps_65 : decode cX12_keeps 65 = .ok (.aload_n 0, 1) := by decide +kernel
theorem dX12_keeps_66 : decode cX12_keeps 66 = .ok (.getfield 17, 3) := by decide +kernel
theorem dX12_keeps_69 : decode cX12_keeps 69 = .ok (.iload_n 2, 1) := by decide +kernel
theorem dX12_keeps_70 : decode cX12_keeps 70 = .ok (.aload_n 0, 1) := by decide +kernel
theorem dX12_keeps_71 : decode cX12_keeps 71 = .ok (.getfield 17, 3) := by decide +kernel
theorem dX12_keeps_74 : decode cX12_keeps 74 = .ok (.iload_n 2, 1) := by decide +kernel
theorem dX12_keeps_75 : decode cX12_keeps 75 = .ok (.bipush 58, 2) := by decide +kernel
theorem dX12_keeps_77 : decode cX12_keeps 77 = .ok (.iadd, 1) := by decide +kernel
theorem dX12_keeps_78 : decode cX12_keeps 78 = .ok (.iaload, 1) := by decide +kernel
theorem dX12_keeps_79 : decode cX12_keeps 79 = .ok (.iastore, 1) := by decide +kernel
theorem dX12_keeps_80 : decode cX12_keeps 80 = .ok (.iinc 2 1, 3) := by decide +kernel
theorem dX12_keeps_83 : decode cX12_keeps 83 = .ok (.goto (-25), 3) := by decide +kernel
theorem dX12_keeps_86 : decode cX12_keeps 86 = .ok (.aload_n 0, 1) := by decide +kernel
theorem dX12_keeps_87 : decode cX12_keeps 87 = .ok (.dup, 1) := by decide +kernel
theorem dX12_keeps_88 : decode cX12_keeps 88 = .ok (.getfield 147, 3) := by decide +kernel
theorem dX12_keeps_91 : decode cX12_keeps 91 = .ok (.iconst 1, 1) := by decide +kernel
theorem dX12_keeps_92 : decode cX12_keeps 92 = .ok (.isub, 1) := by decide +kernel
theorem dX12_keeps_93 : decode cX12_keeps 93 = .ok (.putfield 147, 3) := by decide +kernel
theorem dX12_keeps_96 : decode cX12_keeps 96 = .ok (.iconst 0, 1) := by decide +kernel
theorem dX12_keeps_97 : decode cX12_keeps 97 = .ok (.istore_n 2, 1) := by decide +kernel
theorem dX12_keeps_98 : decode cX12_keeps 98 = .ok (.iload_n 2, 1) := by decide +kernel
theorem dX12_keeps_99 : decode cX12_keeps 99 = .ok (.bipush 58, 2) := by decide +kernel
theorem dX12_keeps_101 : decode cX12_keeps 101 = .ok (.if_icmp .ge 29, 3) := by decide +kernel
theorem dX12_keeps_104 : decode cX12_keeps 104 = .ok (.aload_n 0, 1) := by decide +kernel
theorem dX12_keeps_105 : decode cX12_keeps 105 = .ok (.getfield 17, 3) := by decide +kernel
theorem dX12_keeps_108 : decode cX12_keeps 108 = .ok (.bipush 58, 2) := by decide +kernel
theorem dX12_keeps_110 : decode cX12_keeps 110 = .ok (.aload_n 0, 1) := by decide +kernel
theorem dX12_keeps_111 : decode cX12_keeps 111 = .ok (.getfield 147, 3) := by decide +kernel
theorem dX12_keeps_114 : decode cX12_keeps 114 = .ok (.imul, 1) := by decide +kernel
theorem dX12_keeps_115 : decode cX12_keeps 115 = .ok (.iload_n 2, 1) := by decide +kernel
theorem dX12_keeps_116 : decode cX12_keeps 116 = .ok (.iadd, 1) := by decide +kernel
theorem dX12_keeps_117 : decode cX12_keeps 117 = .ok (.aload_n 0, 1) := by decide +kernel
theorem dX12_keeps_118 : decode cX12_keeps 118 = .ok (.getfield 53, 3) := by decide +kernel
theorem dX12_keeps_121 : decode cX12_keeps 121 = .ok (.iload_n 2, 1) := by decide +kernel
theorem dX12_keeps_122 : decode cX12_keeps 122 = .ok (.iaload, 1) := by decide +kernel
theorem dX12_keeps_123 : decode cX12_keeps 123 = .ok (.iastore, 1) := by decide +kernel
theorem dX12_keeps_124 : decode cX12_keeps 124 = .ok (.iinc 2 1, 3) := by decide +kernel
theorem dX12_keeps_127 : decode cX12_keeps 127 = .ok (.goto (-29), 3) := by decide +kernel
theorem dX12_keeps_130 : decode cX12_keeps 130 = .ok (.aload_n 0, 1) := by decide +kernel
theorem dX12_keeps_131 : decode cX12_keeps 131 = .ok (.dup, 1) := by decide +kernel
theorem dX12_keeps_132 : decode cX12_keeps 132 = .ok (.getfield 147, 3) := by decide +kernel
theorem dX12_keeps_135 : decode cX12_keeps 135 = .ok (.iconst 1, 1) := by decide +kernel
theorem dX12_keeps_136 : decode cX12_keeps 136 = .ok (.iadd, 1) := by decide +kernel
theorem dX12_keeps_137 : decode cX12_keeps 137 = .ok (.putfield 147, 3) := by decide +kernel
theorem dX12_keeps_140 : decode cX12_keeps 140 = .ok (.iconst 1, 1) := by decide +kernel
theorem dX12_keeps_141 : decode cX12_keeps 141 = .ok (.ireturn, 1) := by decide +kernel
theorem dX12_becomes_0 : decode cX12_becomes 0 = .ok (.aload_n 0, 1) := by decide +kernel
theorem dX12_becomes_1 : decode cX12_becomes 1 = .ok (.invokevirtual 334, 3) := by decide +kernel
theorem dX12_becomes_4 : decode cX12_becomes 4 = .ok (.aload_n 0, 1) := by decide +kernel
theorem dX12_becomes_5 : decode cX12_becomes 5 = .ok (.getfield 11, 3) := by decide +kernel
theorem dX12_becomes_8 : decode cX12_becomes 8 = .ok (.iload_n 1, 1) := by decide +kernel
theorem dX12_becomes_9 : decode cX12_becomes 9 = .ok (.iload_n 2, 1) := by decide +kernel
theorem dX12_becomes_10 : decode cX12_becomes 10 = .ok (.invokestatic 56, 3) := by decide +kernel
theorem dX12_becomes_13 : decode cX12_becomes 13 = .ok (.iload_n 3, 1) := by decide +kernel
theorem dX12_becomes_14 : decode cX12_becomes 14 = .ok (.iastore, 1) := by decide +kernel
theorem dX12_becomes_15 : decode cX12_becomes 15 = .ok (.aload_n 0, 1) := by decide +kernel
theorem dX12_becomes_16 : decode cX12_becomes 16 = .ok (.invokevirtual 337, 3) := by decide +kernel
theorem dX12_becomes_19 : decode cX12_becomes 19 = .ok (.ifCond .eq 7, 3) := by decide +kernel
theorem dX12_becomes_22 : decode cX12_becomes 22 = .ok (.iconst 1, 1) := by decide +kernel
theorem dX12_becomes_23 : decode cX12_becomes 23 = .ok (.goto 4, 3) := by decide +kernel
theorem dX12_becomes_26 : decode cX12_becomes 26 = .ok (.iconst 0, 1) := by decide +kernel
theorem dX12_becomes_27 : decode cX12_becomes 27 = .ok (.ireturn, 1) := by decide +kernel
theorem dX12_sets_0 : decode cX12_sets 0 = .ok (.aload_n 0, 1) := by decide +kernel
theorem dX12_sets_1 : decode cX12_sets 1 = .ok (.iload_n 1, 1) := by decide +kernel
theorem dX12_sets_2 : decode cX12_sets 2 = .ok (.invokevirtual 187, 3) := by decide +kernel
theorem dX12_sets_5 : decode cX12_sets 5 = .ok (.ifCond .eq 29, 3) := by decide +kernel
theorem dX12_sets_8 : decode cX12_sets 8 = .ok (.aload_n 0, 1) := by decide +kernel
theorem dX12_sets_9 : decode cX12_sets 9 = .ok (.iload_n 2, 1) := by decide +kernel
theorem dX12_sets_10 : decode cX12_sets 10 = .ok (.invokevirtual 190, 3) := by decide +kernel
theorem dX12_sets_13 : decode cX12_sets 13 = .ok (.ifCond .eq 21, 3) := by decide +kernel
theorem dX12_sets_16 : decode cX12_sets 16 = .ok (.iload_n 3, 1) := by decide +kernel
theorem dX12_sets_17 : decode cX12_sets 17 = .ok (.i2l, 1) := by decide +kernel
theorem dX12_sets_18 : decode cX12_sets 18 = .ok (.invokestatic 215, 3) := by decide +kernel
theorem dX12_sets_21 : decode cX12_sets 21 = .ok (.ifCond .eq 13, 3) := by decide +kernel
theorem dX12_sets_24 : decode cX12_sets 24 = .ok (.aload_n 0, 1) := by decide +kernel
theorem dX12_sets_25 : decode cX12_sets 25 = .ok (.iload_n 1, 1) := by decide +kernel
theorem dX12_sets_26 : decode cX12_sets 26 = .ok (.iload_n 2, 1) := by decide +kernel
theorem dX12_sets_27 : decode cX12_sets 27 = .ok (.iload_n 3, 1) := by decide +kernel
theorem dX12_sets_28 : decode cX12_sets 28 = .ok (.invokevirtual 340, 3) := by decide +kernel
theorem dX12_sets_31 : decode cX12_sets 31 = .ok (.goto 5, 3) := by decide +kernel
theorem dX12_sets_34 : decode cX12_sets 34 = .ok (.bipush (-2), 2) := by decide +kernel
theorem dX12_sets_36 : decode cX12_sets 36 = .ok (.ireturn, 1) := by decide +kernel
theorem dX12_bars_0 : decode cX12_bars 0 = .ok (.aload_n 0, 1) := by decide +kernel
theorem dX12_bars_1 : decode cX12_bars 1 = .ok (.iload_n 1, 1) := by decide +kernel
theorem dX12_bars_2 : decode cX12_bars 2 = .ok (.invokevirtual 187, 3) := by decide +kernel
theorem dX12_bars_5 : decode cX12_bars 5 = .ok (.ifCond .eq 22, 3) := by decide +kernel
theorem dX12_bars_8 : decode cX12_bars 8 = .ok (.aload_n 0, 1) := by decide +kernel
theorem dX12_bars_9 : decode cX12_bars 9 = .ok (.iload_n 2, 1) := by decide +kernel
theorem dX12_bars_10 : decode cX12_bars 10 = .ok (.invokevirtual 190, 3) := by decide +kernel
theorem dX12_bars_13 : decode cX12_bars 13 = .ok (.ifCond .eq 14, 3) := by decide +kernel
theorem dX12_bars_16 : decode cX12_bars 16 = .ok (.aload_n 0, 1) := by decide +kernel
theorem dX12_bars_17 : decode cX12_bars 17 = .ok (.iload_n 1, 1) := by decide +kernel
theorem dX12_bars_18 : decode cX12_bars 18 = .ok (.iload_n 2, 1) := by decide +kernel
theorem dX12_bars_19 : decode cX12_bars 19 = .ok (.ldc 131, 2) := by decide +kernel
theorem dX12_bars_21 : decode cX12_bars 21 = .ok (.invokevirtual 340, 3) := by decide +kernel
theorem dX12_bars_24 : decode cX12_bars 24 = .ok (.goto 5, 3) := by decide +kernel
theorem dX12_bars_27 : decode cX12_bars 27 = .ok (.bipush (-2), 2) := by decide +kernel
theorem dX12_bars_29 : decode cX12_bars 29 = .ok (.ireturn, 1) := by decide +kernel
theorem dX12_tilts_0 : decode cX12_tilts 0 = .ok (.iload_n 3, 1) := by decide +kernel
theorem dX12_tilts_1 : decode cX12_tilts 1 = .ok (.ifCond .ne 11, 3) := by decide +kernel
theorem dX12_tilts_4 : decode cX12_tilts 4 = .ok (.aload_n 0, 1) := by decide +kernel
theorem dX12_tilts_5 : decode cX12_tilts 5 = .ok (.iload_n 1, 1) := by decide +kernel
theorem dX12_tilts_6 : decode cX12_tilts 6 = .ok (.invokevirtual 187, 3) := by decide +kernel
theorem dX12_tilts_9 : decode cX12_tilts 9 = .ok (.ifCond .ne 16, 3) := by decide +kernel
theorem dX12_tilts_12 : decode cX12_tilts 12 = .ok (.iload_n 3, 1) := by decide +kernel
theorem dX12_tilts_13 : decode cX12_tilts 13 = .ok (.iconst 1, 1) := by decide +kernel
theorem dX12_tilts_14 : decode cX12_tilts 14 = .ok (.if_icmp .ne 15, 3) := by decide +kernel
theorem dX12_tilts_17 : decode cX12_tilts 17 = .ok (.aload_n 0, 1) := by decide +kernel
theorem dX12_tilts_18 : decode cX12_tilts 18 = .ok (.iload_n 1, 1) := by decide +kernel
theorem dX12_tilts_19 : decode cX12_tilts 19 = .ok (.invokevirtual 190, 3) := by decide +kernel
theorem dX12_tilts_22 : decode cX12_tilts 22 = .ok (.ifCond .eq 7, 3) := by decide +kernel
theorem dX12_tilts_25 : decode cX12_tilts 25 = .ok (.iconst 1, 1) := by decide +kernel
theorem dX12_tilts_26 : decode cX12_tilts 26 = .ok (.goto 4, 3) := by decide +kernel
theorem dX12_tilts_29 : decode cX12_tilts 29 = .ok (.iconst 0, 1) := by decide +kernel
theorem dX12_tilts_30 : decode cX12_tilts 30 = .ok (.istore 4, 2) := by decide +kernel
theorem dX12_tilts_32 : decode cX12_tilts 32 = .ok (.iload 4, 2) := by decide +kernel
theorem dX12_tilts_34 : decode cX12_tilts 34 = .ok (.ifCond .ne 6, 3) := by decide +kernel
theorem dX12_tilts_37 : decode cX12_tilts 37 = .ok (.bipush (-2), 2) := by decide +kernel
theorem dX12_tilts_39 : decode cX12_tilts 39 = .ok (.ireturn, 1) := by decide +kernel
theorem dX12_tilts_40 : decode cX12_tilts 40 = .ok (.iload_n 3, 1) := by decide +kernel
theorem dX12_tilts_41 : decode cX12_tilts 41 = .ok (.ifCond .ne 10, 3) := by decide +kernel
theorem dX12_tilts_44 : decode cX12_tilts 44 = .ok (.aload_n 0, 1) := by decide +kernel
theorem dX12_tilts_45 : decode cX12_tilts 45 = .ok (.invokevirtual 68, 3) := by decide +kernel
theorem dX12_tilts_48 : decode cX12_tilts 48 = .ok (.goto 7, 3) := by decide +kernel
theorem dX12_tilts_51 : decode cX12_tilts 51 = .ok (.aload_n 0, 1) := by decide +kernel
theorem dX12_tilts_52 : decode cX12_tilts 52 = .ok (.invokevirtual 60, 3) := by decide +kernel
theorem dX12_tilts_55 : decode cX12_tilts 55 = .ok (.istore 5, 2) := by decide +kernel
theorem dX12_tilts_57 : decode cX12_tilts 57 = .ok (.iconst 0, 1) := by decide +kernel
theorem dX12_tilts_58 : decode cX12_tilts 58 = .ok (.istore 6, 2) := by decide +kernel
theorem dX12_tilts_60 : decode cX12_tilts 60 = .ok (.iload 6, 2) := by decide +kernel
theorem dX12_tilts_62 : decode cX12_tilts 62 = .ok (.iload 5, 2) := by decide +kernel
theorem dX12_tilts_64 : decode cX12_tilts 64 = .ok (.if_icmp .ge 54, 3) := by decide +kernel
theorem dX12_tilts_67 : decode cX12_tilts 67 = .ok (.iload_n 3, 1) := by decide +kernel
theorem dX12_tilts_68 : decode cX12_tilts 68 = .ok (.ifCond .ne 13, 3) := by decide +kernel
theorem dX12_tilts_71 : decode cX12_tilts 71 = .ok (.aload_n 0, 1) := by decide +kernel
theorem dX12_tilts_72 : decode cX12_tilts 72 = .ok (.iload_n 1, 1) := by decide +kernel
theorem dX12_tilts_73 : decode cX12_tilts 73 = .ok (.iload 6, 2) := by decide +kernel
theorem dX12_tilts_75 : decode cX12_tilts 75 = .ok (.invokevirtual 157, 3) := by decide +kernel
theorem dX12_tilts_78 : decode cX12_tilts 78 = .ok (.goto 10, 3) := by decide +kernel
theorem dX12_tilts_81 : decode cX12_tilts 81 = .ok (.aload_n 0, 1) := by decide +kernel
theorem dX12_tilts_82 : decode cX12_tilts 82 = .ok (.iload 6, 2) := by decide +kernel
theorem dX12_tilts_84 : decode cX12_tilts 84 = .ok (.iload_n 1, 1) := by decide +kernel
theorem dX12_tilts_85 : decode cX12_tilts 85 = .ok (.invokevirtual 157, 3) := by decide +kernel
theorem dX12_tilts_88 : decode cX12_tilts 88 = .ok (.istore 7, 2) := by decide +kernel
theorem dX12_tilts_90 : decode cX12_tilts 90 = .ok (.iload 7, 2) := by decide +kernel
theorem dX12_tilts_92 : decode cX12_tilts 92 = .ok (.ldc 131, 2) := by decide +kernel
theorem dX12_tilts_94 : decode cX12_tilts 94 = .ok (.if_icmp .eq 18, 3) := by decide +kernel
theorem dX12_tilts_97 : decode cX12_tilts 97 = .ok (.iload 7, 2) := by decide +kernel
theorem dX12_tilts_99 : decode cX12_tilts 99 = .ok (.i2l, 1) := by decide +kernel
theorem dX12_tilts_100 : decode cX12_tilts 100 = .ok (.iload_n 2, 1) := by decide +kernel
theorem dX12_tilts_101 : decode cX12_tilts 101 = .ok (.i2l, 1) := by decide +kernel
theorem dX12_tilts_102 : decode cX12_tilts 102 = .ok (.ladd, 1) := by decide +kernel
theorem dX12_tilts_103 : decode cX12_tilts 103 = .ok (.invokestatic 215, 3) := by decide +kernel
theorem dX12_tilts_106 : decode cX12_tilts 106 = .ok (.ifCond .ne 6, 3) := by decide +kernel
theorem dX12_tilts_109 : decode cX12_tilts 109 = .ok (.bipush (-5), 2) := by decide +kernel
theorem dX12_tilts_111 : decode cX12_tilts 111 = .ok (.ireturn, 1) := by decide +kernel
theorem dX12_tilts_112 : decode cX12_tilts 112 = .ok (.iinc 6 1, 3) := by decide +kernel
theorem dX12_tilts_115 : decode cX12_tilts 115 = .ok (.goto (-55), 3) := by decide +kernel
theorem dX12_tilts_118 : decode cX12_tilts 118 = .ok (.aload_n 0, 1) := by decide +kernel
theorem dX12_tilts_119 : decode cX12_tilts 119 = .ok (.invokevirtual 334, 3) := by decide +kernel
theorem dX12_tilts_122 : decode cX12_tilts 122 = .ok (.iconst 0, 1) := by decide +kernel
theorem dX12_tilts_123 : decode cX12_tilts 123 = .ok (.istore 6, 2) := by decide +kernel
theorem dX12_tilts_125 : decode cX12_tilts 125 = .ok (.iconst 0, 1) := by decide +kernel
theorem dX12_tilts_126 : decode cX12_tilts 126 = .ok (.istore 7, 2) := by decide +kernel
theorem dX12_tilts_128 : decode cX12_tilts 128 = .ok (.iload 7, 2) := by decide +kernel
theorem dX12_tilts_130 : decode cX12_tilts 130 = .ok (.iload 5, 2) := by decide +kernel
theorem dX12_tilts_132 : decode cX12_tilts 132 = .ok (.if_icmp .ge 56, 3) := by decide +kernel
theorem dX12_tilts_135 : decode cX12_tilts 135 = .ok (.iload_n 3, 1) := by decide +kernel
theorem dX12_tilts_136 : decode cX12_tilts 136 = .ok (.ifCond .ne 12, 3) := by decide +kernel
theorem dX12_tilts_139 : decode cX12_tilts 139 = .ok (.iload_n 1, 1) := by decide +kernel
theorem dX12_tilts_140 : decode cX12_tilts 140 = .ok (.iload 7, 2) := by decide +kernel
theorem dX12_tilts_142 : decode cX12_tilts 142 = .ok (.invokestatic 56, 3) := by decide +kernel
theorem dX12_tilts_145 : decode cX12_tilts 145 = .ok (.goto 9, 3) := by decide +kernel
theorem dX12_tilts_148 : decode cX12_tilts 148 = .ok (.iload 7, 2) := by decide +kernel
theorem dX12_tilts_150 : decode cX12_tilts 150 = .ok (.iload_n 1, 1) := by decide +kernel
theorem dX12_tilts_151 : decode cX12_tilts 151 = .ok (.invokestatic 56, 3) := by decide +kernel
theorem dX12_tilts_154 : decode cX12_tilts 154 = .ok (.istore 8, 2) := by decide +kernel
theorem dX12_tilts_156 : decode cX12_tilts 156 = .ok (.aload_n 0, 1) := by decide +kernel
theorem dX12_tilts_157 : decode cX12_tilts 157 = .ok (.getfield 11, 3) := by decide +kernel
theorem dX12_tilts_160 : decode cX12_tilts 160 = .ok (.iload 8, 2) := by decide +kernel
theorem dX12_tilts_162 : decode cX12_tilts 162 = .ok (.iaload, 1) := by decide +kernel
theorem dX12_tilts_163 : decode cX12_tilts 163 = .ok (.ldc 131, 2) := by decide +kernel
theorem dX12_tilts_165 : decode cX12_tilts 165 = .ok (.if_icmp .eq 17, 3) := by decide +kernel
theorem dX12_tilts_168 : decode cX12_tilts 168 = .ok (.aload_n 0, 1) := by decide +kernel
theorem dX12_tilts_169 : decode cX12_tilts 169 = .ok (.getfield 11, 3) := by decide +kernel
theorem dX12_tilts_172 : decode cX12_tilts 172 = .ok (.iload 8, 2) := by decide +kernel
theorem dX12_tilts_174 : decode cX12_tilts 174 = .ok (.dup2, 1) := by decide +kernel
theorem dX12_tilts_175 : decode cX12_tilts 175 = .ok (.iaload, 1) := by decide +kernel
theorem dX12_tilts_176 : decode cX12_tilts 176 = .ok (.iload_n 2, 1) := by decide +kernel
theorem dX12_tilts_177 : decode cX12_tilts 177 = .ok (.iadd, 1) := by decide +kernel
theorem dX12_tilts_178 : decode cX12_tilts 178 = .ok (.iastore, 1) := by decide +kernel
theorem dX12_tilts_179 : decode cX12_tilts 179 = .ok (.iinc 6 1, 3) := by decide +kernel
theorem dX12_tilts_182 : decode cX12_tilts 182 = .ok (.iinc 7 1, 3) := by decide +kernel
theorem dX12_tilts_185 : decode cX12_tilts 185 = .ok (.goto (-57), 3) := by decide +kernel
theorem dX12_tilts_188 : decode cX12_tilts 188 = .ok (.aload_n 0, 1) := by decide +kernel
theorem dX12_tilts_189 : decode cX12_tilts 189 = .ok (.invokevirtual 337, 3) := by decide +kernel
theorem dX12_tilts_192 : decode cX12_tilts 192 = .ok (.pop, 1) := by decide +kernel
theorem dX12_tilts_193 : decode cX12_tilts 193 = .ok (.iload 6, 2) := by decide +kernel
theorem dX12_tilts_195 : decode cX12_tilts 195 = .ok (.ireturn, 1) := by decide +kernel
theorem dX12_comes_0 : decode cX12_comes 0 = .ok (.iload_n 1, 1) := by decide +kernel
theorem dX12_comes_1 : decode cX12_comes 1 = .ok (.i2l, 1) := by decide +kernel
theorem dX12_comes_2 : decode cX12_comes 2 = .ok (.lconst 0, 1) := by decide +kernel
theorem dX12_comes_3 : decode cX12_comes 3 = .ok (.lconst 1, 1) := by decide +kernel
theorem dX12_comes_4 : decode cX12_comes 4 = .ok (.invokestatic 64, 3) := by decide +kernel
theorem dX12_comes_7 : decode cX12_comes 7 = .ok (.ifCond .eq 11, 3) := by decide +kernel
theorem dX12_comes_10 : decode cX12_comes 10 = .ok (.iload_n 2, 1) := by decide +kernel
theorem dX12_comes_11 : decode cX12_comes 11 = .ok (.i2l, 1) := by decide +kernel
theorem dX12_comes_12 : decode cX12_comes 12 = .ok (.invokestatic 215, 3) := by decide +kernel
theorem dX12_comes_15 : decode cX12_comes 15 = .ok (.ifCond .ne 6, 3) := by decide +kernel
theorem dX12_comes_18 : decode cX12_comes 18 = .ok (.bipush (-2), 2) := by decide +kernel
theorem dX12_comes_20 : decode cX12_comes 20 = .ok (.ireturn, 1) := by decide +kernel
theorem dX12_comes_21 : decode cX12_comes 21 = .ok (.iload_n 1, 1) := by decide +kernel
theorem dX12_comes_22 : decode cX12_comes 22 = .ok (.ifCond .ne 15, 3) := by decide +kernel
theorem dX12_comes_25 : decode cX12_comes 25 = .ok (.aload_n 0, 1) := by decide +kernel
theorem dX12_comes_26 : decode cX12_comes 26 = .ok (.invokevirtual 60, 3) := by decide +kernel
theorem dX12_comes_29 : decode cX12_comes 29 = .ok (.bipush 7, 2) := by decide +kernel
theorem dX12_comes_31 : decode cX12_comes 31 = .ok (.if_icmp .ne 18, 3) := by decide +kernel
theorem dX12_comes_34 : decode cX12_comes 34 = .ok (.goto 12, 3) := by decide +kernel
theorem dX12_comes_37 : decode cX12_comes 37 = .ok (.aload_n 0, 1) := by decide +kernel
theorem dX12_comes_38 : decode cX12_comes 38 = .ok (.invokevirtual 68, 3) := by decide +kernel
theorem dX12_comes_41 : decode cX12_comes 41 = .ok (.bipush 8, 2) := by decide +kernel
theorem dX12_comes_43 : decode cX12_comes 43 = .ok (.if_icmp .ne 6, 3) := by decide +kernel
theorem dX12_comes_46 : decode cX12_comes 46 = .ok (.bipush (-5), 2) := by decide +kernel
theorem dX12_comes_48 : decode cX12_comes 48 = .ok (.ireturn, 1) := by decide +kernel
theorem dX12_comes_49 : decode cX12_comes 49 = .ok (.aload_n 0, 1) := by decide +kernel
theorem dX12_comes_50 : decode cX12_comes 50 = .ok (.invokevirtual 334, 3) := by decide +kernel
theorem dX12_comes_53 : decode cX12_comes 53 = .ok (.iconst 0, 1) := by decide +kernel
theorem dX12_comes_54 : decode cX12_comes 54 = .ok (.istore_n 3, 1) := by decide +kernel
theorem dX12_comes_55 : decode cX12_comes 55 = .ok (.iload_n 3, 1) := by decide +kernel
theorem dX12_comes_56 : decode cX12_comes 56 = .ok (.iload_n 1, 1) := by decide +kernel
theorem dX12_comes_57 : decode cX12_comes 57 = .ok (.ifCond .ne 10, 3) := by decide +kernel
theorem dX12_comes_60 : decode cX12_comes 60 = .ok (.aload_n 0, 1) := by decide +kernel
theorem dX12_comes_61 : decode cX12_comes 61 = .ok (.invokevirtual 68, 3) := by decide +kernel
theorem dX12_comes_64 : decode cX12_comes 64 = .ok (.goto 7, 3) := by decide +kernel
theorem dX12_comes_67 : decode cX12_comes 67 = .ok (.aload_n 0, 1) := by decide +kernel
theorem dX12_comes_68 : decode cX12_comes 68 = .ok (.invokevirtual 60, 3) := by decide +kernel
theorem dX12_comes_71 : decode cX12_comes 71 = .ok (.if_icmp .ge 38, 3) := by decide +kernel
theorem dX12_comes_74 : decode cX12_comes 74 = .ok (.aload_n 0, 1) := by decide +kernel
theorem dX12_comes_75 : decode cX12_comes 75 = .ok (.getfield 11, 3) := by decide +kernel
theorem dX12_comes_78 : decode cX12_comes 78 = .ok (.iload_n 1, 1) := by decide +kernel
theorem dX12_comes_79 : decode cX12_comes 79 = .ok (.ifCond .ne 14, 3) := by decide +kernel
theorem dX12_comes_82 : decode cX12_comes 82 = .ok (.aload_n 0, 1) := by decide +kernel
theorem dX12_comes_83 : decode cX12_comes 83 = .ok (.invokevirtual 60, 3) := by decide +kernel
theorem dX12_comes_86 : decode cX12_comes 86 = .ok (.iload_n 3, 1) := by decide +kernel
theorem dX12_comes_87 : decode cX12_comes 87 = .ok (.invokestatic 56, 3) := by decide +kernel
theorem dX12_comes_90 : decode cX12_comes 90 = .ok (.goto 11, 3) := by decide +kernel
theorem dX12_comes_93 : decode cX12_comes 93 = .ok (.iload_n 3, 1) := by decide +kernel
theorem dX12_comes_94 : decode cX12_comes 94 = .ok (.aload_n 0, 1) := by decide +kernel
theorem dX12_comes_95 : decode cX12_comes 95 = .ok (.invokevirtual 68, 3) := by decide +kernel
theorem dX12_comes_98 : decode cX12_comes 98 = .ok (.invokestatic 56, 3) := by decide +kernel
theorem dX12_comes_101 : decode cX12_comes 101 = .ok (.iload_n 2, 1) := by decide +kernel
theorem dX12_comes_102 : decode cX12_comes 102 = .ok (.iastore, 1) := by decide +kernel
theorem dX12_comes_103 : decode cX12_comes 103 = .ok (.iinc 3 1, 3) := by decide +kernel
theorem dX12_comes_106 : decode cX12_comes 106 = .ok (.goto (-51), 3) := by decide +kernel
theorem dX12_comes_109 : decode cX12_comes 109 = .ok (.aload_n 0, 1) := by decide +kernel
theorem dX12_comes_110 : decode cX12_comes 110 = .ok (.getfield 11, 3) := by decide +kernel
theorem dX12_comes_113 : decode cX12_comes 113 = .ok (.iload_n 1, 1) := by decide +kernel
theorem dX12_comes_114 : decode cX12_comes 114 = .ok (.dup2, 1) := by decide +kernel
theorem dX12_comes_115 : decode cX12_comes 115 = .ok (.iaload, 1) := by decide +kernel
theorem dX12_comes_116 : decode cX12_comes 116 = .ok (.iconst 1, 1) := by decide +kernel
theorem dX12_comes_117 : decode cX12_comes 117 = .ok (.iadd, 1) := by decide +kernel
theorem dX12_comes_118 : decode cX12_comes 118 = .ok (.iastore, 1) := by decide +kernel
theorem dX12_comes_119 : decode cX12_comes 119 = .ok (.aload_n 0, 1) := by decide +kernel
theorem dX12_comes_120 : decode cX12_comes 120 = .ok (.invokevirtual 337, 3) := by decide +kernel
theorem dX12_comes_123 : decode cX12_comes 123 = .ok (.pop, 1) := by decide +kernel
theorem dX12_comes_124 : decode cX12_comes 124 = .ok (.aload_n 0, 1) := by decide +kernel
theorem dX12_comes_125 : decode cX12_comes 125 = .ok (.getfield 11, 3) := by decide +kernel
theorem dX12_comes_128 : decode cX12_comes 128 = .ok (.iload_n 1, 1) := by decide +kernel
theorem dX12_comes_129 : decode cX12_comes 129 = .ok (.iaload, 1) := by decide +kernel
theorem dX12_comes_130 : decode cX12_comes 130 = .ok (.iconst 1, 1) := by decide +kernel
theorem dX12_comes_131 : decode cX12_comes 131 = .ok (.isub, 1) := by decide +kernel
theorem dX12_comes_132 : decode cX12_comes 132 = .ok (.ireturn, 1) := by decide +kernel
theorem dX12_goes_0 : decode cX12_goes 0 = .ok (.iload_n 2, 1) := by decide +kernel
theorem dX12_goes_1 : decode cX12_goes 1 = .ok (.ifCond .ne 11, 3) := by decide +kernel
theorem dX12_goes_4 : decode cX12_goes 4 = .ok (.aload_n 0, 1) := by decide +kernel
theorem dX12_goes_5 : decode cX12_goes 5 = .ok (.iload_n 1, 1) := by decide +kernel
theorem dX12_goes_6 : decode cX12_goes 6 = .ok (.invokevirtual 187, 3) := by decide +kernel
theorem dX12_goes_9 : decode cX12_goes 9 = .ok (.ifCond .ne 16, 3) := by decide +kernel
theorem dX12_goes_12 : decode cX12_goes 12 = .ok (.iload_n 2, 1) := by decide +kernel
theorem dX12_goes_13 : decode cX12_goes 13 = .ok (.iconst 1, 1) := by decide +kernel
theorem dX12_goes_14 : decode cX12_goes 14 = .ok (.if_icmp .ne 15, 3) := by decide +kernel
theorem dX12_goes_17 : decode cX12_goes 17 = .ok (.aload_n 0, 1) := by decide +kernel
theorem dX12_goes_18 : decode cX12_goes 18 = .ok (.iload_n 1, 1) := by decide +kernel
theorem dX12_goes_19 : decode cX12_goes 19 = .ok (.invokevirtual 190, 3) := by decide +kernel
theorem dX12_goes_22 : decode cX12_goes 22 = .ok (.ifCond .eq 7, 3) := by decide +kernel
theorem dX12_goes_25 : decode cX12_goes 25 = .ok (.iconst 1, 1) := by decide +kernel
theorem dX12_goes_26 : decode cX12_goes 26 = .ok (.goto 4, 3) := by decide +kernel
theorem dX12_goes_29 : decode cX12_goes 29 = .ok (.iconst 0, 1) := by decide +kernel
theorem dX12_goes_30 : decode cX12_goes 30 = .ok (.istore_n 3, 1) := by decide +kernel
theorem dX12_goes_31 : decode cX12_goes 31 = .ok (.iload_n 3, 1) := by decide +kernel
theorem dX12_goes_32 : decode cX12_goes 32 = .ok (.ifCond .ne 6, 3) := by decide +kernel
theorem dX12_goes_35 : decode cX12_goes 35 = .ok (.bipush (-2), 2) := by decide +kernel
theorem dX12_goes_37 : decode cX12_goes 37 = .ok (.ireturn, 1) := by decide +kernel
theorem dX12_goes_38 : decode cX12_goes 38 = .ok (.aload_n 0, 1) := by decide +kernel
theorem dX12_goes_39 : decode cX12_goes 39 = .ok (.invokevirtual 334, 3) := by decide +kernel
theorem dX12_goes_42 : decode cX12_goes 42 = .ok (.aload_n 0, 1) := by decide +kernel
theorem dX12_goes_43 : decode cX12_goes 43 = .ok (.getfield 11, 3) := by decide +kernel
theorem dX12_goes_46 : decode cX12_goes 46 = .ok (.iload_n 2, 1) := by decide +kernel
theorem dX12_goes_47 : decode cX12_goes 47 = .ok (.dup2, 1) := by decide +kernel
theorem dX12_goes_48 : decode cX12_goes 48 = .ok (.iaload, 1) := by decide +kernel
theorem dX12_goes_49 : decode cX12_goes 49 = .ok (.iconst 1, 1) := by decide +kernel
theorem dX12_goes_50 : decode cX12_goes 50 = .ok (.isub, 1) := by decide +kernel
theorem dX12_goes_51 : decode cX12_goes 51 = .ok (.iastore, 1) := by decide +kernel
theorem dX12_goes_52 : decode cX12_goes 52 = .ok (.iconst 0, 1) := by decide +kernel
theorem dX12_goes_53 : decode cX12_goes 53 = .ok (.istore 4, 2) := by decide +kernel
theorem dX12_goes_55 : decode cX12_goes 55 = .ok (.iload 4, 2) := by decide +kernel
theorem dX12_goes_57 : decode cX12_goes 57 = .ok (.bipush 7, 2) := by decide +kernel
theorem dX12_goes_59 : decode cX12_goes 59 = .ok (.if_icmp .ge 127, 3) := by decide +kernel
theorem dX12_goes_62 : decode cX12_goes 62 = .ok (.iconst 0, 1) := by decide +kernel
theorem dX12_goes_63 : decode cX12_goes 63 = .ok (.istore 5, 2) := by decide +kernel
theorem dX12_goes_65 : decode cX12_goes 65 = .ok (.iload 5, 2) := by decide +kernel
theorem dX12_goes_67 : decode cX12_goes 67 = .ok (.bipush 8, 2) := by decide +kernel
theorem dX12_goes_69 : decode cX12_goes 69 = .ok (.if_icmp .ge 111, 3) := by decide +kernel
theorem dX12_goes_72 : decode cX12_goes 72 = .ok (.iload 4, 2) := by decide +kernel
theorem dX12_goes_74 : decode cX12_goes 74 = .ok (.aload_n 0, 1) := by decide +kernel
theorem dX12_goes_75 : decode cX12_goes 75 = .ok (.invokevirtual 60, 3) := by decide +kernel
theorem dX12_goes_78 : decode cX12_goes 78 = .ok (.if_icmp .ge 16, 3) := by decide +kernel
theorem dX12_goes_81 : decode cX12_goes 81 = .ok (.iload 5, 2) := by decide +kernel
theorem dX12_goes_83 : decode cX12_goes 83 = .ok (.aload_n 0, 1) := by decide +kernel
theorem dX12_goes_84 : decode cX12_goes 84 = .ok (.invokevirtual 68, 3) := by decide +kernel
theorem dX12_goes_87 : decode cX12_goes 87 = .ok (.if_icmp .ge 7, 3) := by decide +kernel
theorem dX12_goes_90 : decode cX12_goes 90 = .ok (.iconst 1, 1) := by decide +kernel
theorem dX12_goes_91 : decode cX12_goes 91 = .ok (.goto 4, 3) := by decide +kernel
theorem dX12_goes_94 : decode cX12_goes 94 = .ok (.iconst 0, 1) := by decide +kernel
theorem dX12_goes_95 : decode cX12_goes 95 = .ok (.istore 6, 2) := by decide +kernel
theorem dX12_goes_97 : decode cX12_goes 97 = .ok (.iload_n 2, 1) := by decide +kernel
theorem dX12_goes_98 : decode cX12_goes 98 = .ok (.ifCond .ne 26, 3) := by decide +kernel
theorem dX12_goes_101 : decode cX12_goes 101 = .ok (.iload 4, 2) := by decide +kernel
theorem dX12_goes_103 : decode cX12_goes 103 = .ok (.iload_n 1, 1) := by decide +kernel
theorem dX12_goes_104 : decode cX12_goes 104 = .ok (.if_icmp .ge 8, 3) := by decide +kernel
theorem dX12_goes_107 : decode cX12_goes 107 = .ok (.iload 4, 2) := by decide +kernel
theorem dX12_goes_109 : decode cX12_goes 109 = .ok (.goto 7, 3) := by decide +kernel
theorem dX12_goes_112 : decode cX12_goes 112 = .ok (.iload 4, 2) := by decide +kernel
theorem dX12_goes_114 : decode cX12_goes 114 = .ok (.iconst 1, 1) := by decide +kernel
theorem dX12_goes_115 : decode cX12_goes 115 = .ok (.iadd, 1) := by decide +kernel
theorem dX12_goes_116 : decode cX12_goes 116 = .ok (.iload 5, 2) := by decide +kernel
theorem dX12_goes_118 : decode cX12_goes 118 = .ok (.invokestatic 56, 3) := by decide +kernel
theorem dX12_goes_121 : decode cX12_goes 121 = .ok (.goto 23, 3) := by decide +kernel
theorem dX12_goes_124 : decode cX12_goes 124 = .ok (.iload 4, 2) := by decide +kernel
theorem dX12_goes_126 : decode cX12_goes 126 = .ok (.iload 5, 2) := by decide +kernel
theorem dX12_goes_128 : decode cX12_goes 128 = .ok (.iload_n 1, 1) := by decide +kernel
theorem dX12_goes_129 : decode cX12_goes 129 = .ok (.if_icmp .ge 8, 3) := by decide +kernel
theorem dX12_goes_132 : decode cX12_goes 132 = .ok (.iload 5, 2) := by decide +kernel
theorem dX12_goes_134 : decode cX12_goes 134 = .ok (.goto 7, 3) := by decide +kernel
theorem dX12_goes_137 : decode cX12_goes 137 = .ok (.iload 5, 2) := by decide +kernel
theorem dX12_goes_139 : decode cX12_goes 139 = .ok (.iconst 1, 1) := by decide +kernel
theorem dX12_goes_140 : decode cX12_goes 140 = .ok (.iadd, 1) := by decide +kernel
theorem dX12_goes_141 : decode cX12_goes 141 = .ok (.invokestatic 56, 3) := by decide +kernel
theorem dX12_goes_144 : decode cX12_goes 144 = .ok (.istore 7, 2) := by decide +kernel
theorem dX12_goes_146 : decode cX12_goes 146 = .ok (.aload_n 0, 1) := by decide +kernel
theorem dX12_goes_147 : decode cX12_goes 147 = .ok (.getfield 11, 3) := by decide +kernel
theorem dX12_goes_150 : decode cX12_goes 150 = .ok (.iload 4, 2) := by decide +kernel
theorem dX12_goes_152 : decode cX12_goes 152 = .ok (.iload 5, 2) := by decide +kernel
theorem dX12_goes_154 : decode cX12_goes 154 = .ok (.invokestatic 56, 3) := by decide +kernel
theorem dX12_goes_157 : decode cX12_goes 157 = .ok (.iload 6, 2) := by decide +kernel
theorem dX12_goes_159 : decode cX12_goes 159 = .ok (.ifCond .eq 13, 3) := by decide +kernel
theorem dX12_goes_162 : decode cX12_goes 162 = .ok (.aload_n 0, 1) := by decide +kernel
theorem dX12_goes_163 : decode cX12_goes 163 = .ok (.getfield 53, 3) := by decide +kernel
theorem dX12_goes_166 : decode cX12_goes 166 = .ok (.iload 7, 2) := by decide +kernel
theorem dX12_goes_168 : decode cX12_goes 168 = .ok (.iaload, 1) := by decide +kernel
theorem dX12_goes_169 : decode cX12_goes 169 = .ok (.goto 4, 3) := by decide +kernel
theorem dX12_goes_172 : decode cX12_goes 172 = .ok (.iconst 0, 1) := by decide +kernel
theorem dX12_goes_173 : decode cX12_goes 173 = .ok (.iastore, 1) := by decide +kernel
theorem dX12_goes_174 : decode cX12_goes 174 = .ok (.iinc 5 1, 3) := by decide +kernel
theorem dX12_goes_177 : decode cX12_goes 177 = .ok (.goto (-112), 3) := by decide +kernel
theorem dX12_goes_180 : decode cX12_goes 180 = .ok (.iinc 4 1, 3) := by decide +kernel
theorem dX12_goes_183 : decode cX12_goes 183 = .ok (.goto (-128), 3) := by decide +kernel
theorem dX12_goes_186 : decode cX12_goes 186 = .ok (.aload_n 0, 1) := by decide +kernel
theorem dX12_goes_187 : decode cX12_goes 187 = .ok (.invokevirtual 337, 3) := by decide +kernel
theorem dX12_goes_190 : decode cX12_goes 190 = .ok (.pop, 1) := by decide +kernel
theorem dX12_goes_191 : decode cX12_goes 191 = .ok (.aload_n 0, 1) := by decide +kernel
theorem dX12_goes_192 : decode cX12_goes 192 = .ok (.getfield 11, 3) := by decide +kernel
theorem dX12_goes_195 : decode cX12_goes 195 = .ok (.iload_n 2, 1) := by decide +kernel
theorem dX12_goes_196 : decode cX12_goes 196 = .ok (.iaload, 1) := by decide +kernel
theorem dX12_goes_197 : decode cX12_goes 197 = .ok (.ireturn, 1) := by decide +kernel
theorem dX12_turn_0 : decode cX12_turn 0 = .ok (.aload_n 0, 1) := by decide +kernel
theorem dX12_turn_1 : decode cX12_turn 1 = .ok (.iload_n 1, 1) := by decide +kernel
theorem dX12_turn_2 : decode cX12_turn 2 = .ok (.invokevirtual 187, 3) := by decide +kernel
theorem dX12_turn_5 : decode cX12_turn 5 = .ok (.ifCond .eq 11, 3) := by decide +kernel
theorem dX12_turn_8 : decode cX12_turn 8 = .ok (.aload_n 0, 1) := by decide +kernel
theorem dX12_turn_9 : decode cX12_turn 9 = .ok (.iload_n 2, 1) := by decide +kernel
theorem dX12_turn_10 : decode cX12_turn 10 = .ok (.invokevirtual 187, 3) := by decide +kernel
theorem dX12_turn_13 : decode cX12_turn 13 = .ok (.ifCond .ne 6, 3) := by decide +kernel
theorem dX12_turn_16 : decode cX12_turn 16 = .ok (.bipush (-2), 2) := by decide +kernel
theorem dX12_turn_18 : decode cX12_turn 18 = .ok (.ireturn, 1) := by decide +kernel
theorem dX12_turn_19 : decode cX12_turn 19 = .ok (.aload_n 0, 1) := by decide +kernel
theorem dX12_turn_20 : decode cX12_turn 20 = .ok (.invokevirtual 334, 3) := by decide +kernel
theorem dX12_turn_23 : decode cX12_turn 23 = .ok (.iconst 0, 1) := by decide +kernel
theorem dX12_turn_24 : decode cX12_turn 24 = .ok (.istore_n 3, 1) := by decide +kernel
theorem dX12_turn_25 : decode cX12_turn 25 = .ok (.iload_n 3, 1) := by decide +kernel
theorem dX12_turn_26 : decode cX12_turn 26 = .ok (.aload_n 0, 1) := by decide +kernel
theorem dX12_turn_27 : decode cX12_turn 27 = .ok (.invokevirtual 68, 3) := by decide +kernel
theorem dX12_turn_30 : decode cX12_turn 30 = .ok (.if_icmp .ge 49, 3) := by decide +kernel
theorem dX12_turn_33 : decode cX12_turn 33 = .ok (.aload_n 0, 1) := by decide +kernel
theorem dX12_turn_34 : decode cX12_turn 34 = .ok (.getfield 11, 3) := by decide +kernel
theorem dX12_turn_37 : decode cX12_turn 37 = .ok (.iload_n 1, 1) := by decide +kernel
theorem dX12_turn_38 : decode cX12_turn 38 = .ok (.iload_n 3, 1) := by decide +kernel
theorem dX12_turn_39 : decode cX12_turn 39 = .ok (.invokestatic 56, 3) := by decide +kernel
theorem dX12_turn_42 : decode cX12_turn 42 = .ok (.aload_n 0, 1) := by decide +kernel
theorem dX12_turn_43 : decode cX12_turn 43 = .ok (.getfield 53, 3) := by decide +kernel
theorem dX12_turn_46 : decode cX12_turn 46 = .ok (.iload_n 2, 1) := by decide +kernel
theorem dX12_turn_47 : decode cX12_turn 47 = .ok (.iload_n 3, 1) := by decide +kernel
theorem dX12_turn_48 : decode cX12_turn 48 = .ok (.invokestatic 56, 3) := by decide +kernel
theorem dX12_turn_51 : decode cX12_turn 51 = .ok (.iaload, 1) := by decide +kernel
theorem dX12_turn_52 : decode cX12_turn 52 = .ok (.iastore, 1) := by decide +kernel
theorem dX12_turn_53 : decode cX12_turn 53 = .ok (.aload_n 0, 1) := by decide +kernel
theorem dX12_turn_54 : decode cX12_turn 54 = .ok (.getfield 11, 3) := by decide +kernel
theorem dX12_turn_57 : decode cX12_turn 57 = .ok (.iload_n 2, 1) := by decide +kernel
theorem dX12_turn_58 : decode cX12_turn 58 = .ok (.iload_n 3, 1) := by decide +kernel
theorem dX12_turn_59 : decode cX12_turn 59 = .ok (.invokestatic 56, 3) := by decide +kernel
theorem dX12_turn_62 : decode cX12_turn 62 = .ok (.aload_n 0, 1) := by decide +kernel
theorem dX12_turn_63 : decode cX12_turn 63 = .ok (.getfield 53, 3) := by decide +kernel
theorem dX12_turn_66 : decode cX12_turn 66 = .ok (.iload_n 1, 1) := by decide +kernel
theorem dX12_turn_67 : decode cX12_turn 67 = .ok (.iload_n 3, 1) := by decide +kernel
theorem dX12_turn_68 : decode cX12_turn 68 = .ok (.invokestatic 56, 3) := by decide +kernel
theorem dX12_turn_71 : decode cX12_turn 71 = .ok (.iaload, 1) := by decide +kernel
theorem dX12_turn_72 : decode cX12_turn 72 = .ok (.iastore, 1) := by decide +kernel
theorem dX12_turn_73 : decode cX12_turn 73 = .ok (.iinc 3 1, 3) := by decide +kernel
theorem dX12_turn_76 : decode cX12_turn 76 = .ok (.goto (-51), 3) := by decide +kernel
theorem dX12_turn_79 : decode cX12_turn 79 = .ok (.aload_n 0, 1) := by decide +kernel
theorem dX12_turn_80 : decode cX12_turn 80 = .ok (.invokevirtual 337, 3) := by decide +kernel
theorem dX12_turn_83 : decode cX12_turn 83 = .ok (.ifCond .eq 7, 3) := by decide +kernel
theorem dX12_turn_86 : decode cX12_turn 86 = .ok (.iconst 1, 1) := by decide +kernel
theorem dX12_turn_87 : decode cX12_turn 87 = .ok (.goto 4, 3) := by decide +kernel
theorem dX12_turn_90 : decode cX12_turn 90 = .ok (.iconst 0, 1) := by decide +kernel
theorem dX12_turn_91 : decode cX12_turn 91 = .ok (.ireturn, 1) := by decide +kernel
theorem dX12_undo_0 : decode cX12_undo 0 = .ok (.aload_n 0, 1) := by decide +kernel
theorem dX12_undo_1 : decode cX12_undo 1 = .ok (.getfield 147, 3) := by decide +kernel
theorem dX12_undo_4 : decode cX12_undo 4 = .ok (.ifCond .ne 5, 3) := by decide +kernel
theorem dX12_undo_7 : decode cX12_undo 7 = .ok (.iconst (-1), 1) := by decide +kernel
theorem dX12_undo_8 : decode cX12_undo 8 = .ok (.ireturn, 1) := by decide +kernel
theorem dX12_undo_9 : decode cX12_undo 9 = .ok (.aload_n 0, 1) := by decide +kernel
theorem dX12_undo_10 : decode cX12_undo 10 = .ok (.dup, 1) := by decide +kernel
theorem dX12_undo_11 : decode cX12_undo 11 = .ok (.getfield 147, 3) := by decide +kernel
theorem dX12_undo_14 : decode cX12_undo 14 = .ok (.iconst 1, 1) := by decide +kernel
theorem dX12_undo_15 : decode cX12_undo 15 = .ok (.isub, 1) := by decide +kernel
theorem dX12_undo_16 : decode cX12_undo 16 = .ok (.putfield 147, 3) := by decide +kernel
theorem dX12_undo_19 : decode cX12_undo 19 = .ok (.iconst 0, 1) := by decide +kernel
theorem dX12_undo_20 : decode cX12_undo 20 = .ok (.istore_n 1, 1) := by decide +kernel
theorem dX12_undo_21 : decode cX12_undo 21 = .ok (.iload_n 1, 1) := by decide +kernel
theorem dX12_undo_22 : decode cX12_undo 22 = .ok (.bipush 58, 2) := by decide +kernel
theorem dX12_undo_24 : decode cX12_undo 24 = .ok (.if_icmp .ge 29, 3) := by decide +kernel
theorem dX12_undo_27 : decode cX12_undo 27 = .ok (.aload_n 0, 1) := by decide +kernel
theorem dX12_undo_28 : decode cX12_undo 28 = .ok (.getfield 11, 3) := by decide +kernel
theorem dX12_undo_31 : decode cX12_undo 31 = .ok (.iload_n 1, 1) := by decide +kernel
theorem dX12_undo_32 : decode cX12_undo 32 = .ok (.aload_n 0, 1) := by decide +kernel
theorem dX12_undo_33 : decode cX12_undo 33 = .ok (.getfield 17, 3) := by decide +kernel
theorem dX12_undo_36 : decode cX12_undo 36 = .ok (.bipush 58, 2) := by decide +kernel
theorem dX12_undo_38 : decode cX12_undo 38 = .ok (.aload_n 0, 1) := by decide +kernel
theorem dX12_undo_39 : decode cX12_undo 39 = .ok (.getfield 147, 3) := by decide +kernel
theorem dX12_undo_42 : decode cX12_undo 42 = .ok (.imul, 1) := by decide +kernel
theorem dX12_undo_43 : decode cX12_undo 43 = .ok (.iload_n 1, 1) := by decide +kernel
theorem dX12_undo_44 : decode cX12_undo 44 = .ok (.iadd, 1) := by decide +kernel
theorem dX12_undo_45 : decode cX12_undo 45 = .ok (.iaload, 1) := by decide +kernel
theorem dX12_undo_46 : decode cX12_undo 46 = .ok (.iastore, 1) := by decide +kernel
theorem dX12_undo_47 : decode cX12_undo 47 = .ok (.iinc 1 1, 3) := by decide +kernel
theorem dX12_undo_50 : decode cX12_undo 50 = .ok (.goto (-29), 3) := by decide +kernel
theorem dX12_undo_53 : decode cX12_undo 53 = .ok (.aload_n 0, 1) := by decide +kernel
theorem dX12_undo_54 : decode cX12_undo 54 = .ok (.getfield 147, 3) := by decide +kernel
theorem dX12_undo_57 : decode cX12_undo 57 = .ok (.ireturn, 1) := by decide +kernel
