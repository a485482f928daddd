theorem dX11_init_0 : decode cX11_init 0 = .ok (.aload_n 0, 1) := by decide +kernel
theorem dX11_init_1 : decode cX11_init 1 = .ok (.invokespecial 5, 3) := by decide +kernel
theorem dX11_init_4 : decode cX11_init 4 = .ok (.aload_n 0, 1) := by decide +kernel
theorem dX11_init_5 : decode cX11_init 5 = .ok (.new 11, 3) := by decide +kernel
theorem dX11_init_8 : decode cX11_init 8 = .ok (.dup, 1) := by decide +kernel
theorem dX11_init_9 : decode cX11_init 9 = .ok (.invokespecial 13, 3) := by decide +kernel
theorem dX11_init_12 : decode cX11_init 12 = .ok (.putfield 14, 3) := by decide +kernel
theorem dX11_init_15 : decode cX11_init 15 = .ok (.aload_n 0, 1) := by decide +kernel
theorem dX11_init_16 : decode cX11_init 16 = .ok (.new 18, 3) := by decide +kernel
theorem dX11_init_19 : decode cX11_init 19 = .ok (.dup, 1) := by decide +kernel
theorem dX11_init_20 : decode cX11_init 20 = .ok (.invokespecial 20, 3) := by decide +kernel
theorem dX11_init_23 : decode cX11_init 23 = .ok (.putfield 21, 3) := by decide +kernel
theorem dX11_init_26 : decode cX11_init 26 = .ok (.aload_n 0, 1) := by decide +kernel
theorem dX11_init_27 : decode cX11_init 27 = .ok (.new 25, 3) := by decide +kernel
theorem dX11_init_30 : decode cX11_init 30 = .ok (.dup, 1) := by decide +kernel
theorem dX11_init_31 : decode cX11_init 31 = .ok (.aload_n 0, 1) := by decide +kernel
theorem dX11_init_32 : decode cX11_init 32 = .ok (.getfield 21, 3) := by decide +kernel
theorem dX11_init_35 : decode cX11_init 35 = .ok (.invokespecial 27, 3) := by decide +kernel
theorem dX11_init_38 : decode cX11_init 38 = .ok (.putfield 30, 3) := by decide +kernel
theorem dX11_init_41 : decode cX11_init 41 = .ok (.aload_n 0, 1) := by decide +kernel
theorem dX11_init_42 : decode cX11_init 42 = .ok (.new 34, 3) := by decide +kernel
theorem dX11_init_45 : decode cX11_init 45 = .ok (.dup, 1) := by decide +kernel
theorem dX11_init_46 : decode cX11_init 46 = .ok (.aload_n 0, 1) := by decide +kernel
theorem dX11_init_47 : decode cX11_init 47 = .ok (.getfield 21, 3) := by decide +kernel
theorem dX11_init_50 : decode cX11_init 50 = .ok (.aload_n 0, 1) := by decide +kernel
theorem dX11_init_51 : decode cX11_init 51 = .ok (.getfield 30, 3) := by decide +kernel
theorem dX11_init_54 : decode cX11_init 54 = .ok (.invokespecial 36, 3) := by decide +kernel
theorem dX11_init_57 : decode cX11_init 57 = .ok (.putfield 39, 3) := by decide +kernel
theorem dX11_init_60 : decode cX11_init 60 = .ok (.aload_n 0, 1) := by decide +kernel
theorem dX11_init_61 : decode cX11_init 61 = .ok (.new 18, 3) := by decide +kernel
theorem dX11_init_64 : decode cX11_init 64 = .ok (.dup, 1) := by decide +kernel
theorem dX11_init_65 : decode cX11_init 65 = .ok (.invokespecial 20, 3) := by decide +kernel
theorem dX11_init_68 : decode cX11_init 68 = .ok (.putfield 43, 3) := by decide +kernel
theorem dX11_init_71 : decode cX11_init 71 = .ok (.aload_n 0, 1) := by decide +kernel
theorem dX11_init_72 : decode cX11_init 72 = .ok (.new 25, 3) := by decide +kernel
theorem dX11_init_75 : decode cX11_init 75 = .ok (.dup, 1) := by decide +kernel
theorem dX11_init_76 : decode cX11_init 76 = .ok (.aload_n 0, 1) := by decide +kernel
theorem dX11_init_77 : decode cX11_init 77 = .ok (.getfield 43, 3) := by decide +kernel
theorem dX11_init_80 : decode cX11_init 80 = .ok (.invokespecial 27, 3) := by decide +kernel
theorem dX11_init_83 : decode cX11_init 83 = .ok (.putfield 46, 3) := by decide +kernel
theorem dX11_init_86 : decode cX11_init 86 = .ok (.aload_n 0, 1) := by decide +kernel
theorem dX11_init_87 : decode cX11_init 87 = .ok (.new 49, 3) := by decide +kernel
theorem dX11_init_90 : decode cX11_init 90 = .ok (.dup, 1) := by decide +kernel
theorem dX11_init_91 : decode cX11_init 91 = .ok (.aload_n 0, 1) := by decide +kernel
theorem dX11_init_92 : decode cX11_init 92 = .ok (.getfield 14, 3) := by decide +kernel
theorem dX11_init_95 : decode cX11_init 95 = .ok (.aload_n 0, 1) := by decide +kernel
theorem dX11_init_96 : decode cX11_init 96 = .ok (.getfield 43, 3) := by decide +kernel
theorem dX11_init_99 : decode cX11_init 99 = .ok (.invokespecial 51, 3) := by decide +kernel
theorem dX11_init_102 : decode cX11_init 102 = .ok (.putfield 54, 3) := by decide +kernel
theorem dX11_init_105 : decode cX11_init 105 = .ok (.aload_n 0, 1) := by decide +kernel
theorem dX11_init_106 : decode cX11_init 106 = .ok (.new 58, 3) := by decide +kernel
theorem dX11_init_109 : decode cX11_init 109 = .ok (.dup, 1) := by decide +kernel
theorem dX11_init_110 : decode cX11_init 110 = .ok (.invokespecial 60, 3) := by decide +kernel
theorem dX11_init_113 : decode cX11_init 113 = .ok (.putfield 61, 3) := by decide +kernel
theorem dX11_init_116 : decode cX11_init 116 = .ok (.aload_n 0, 1) := by decide +kernel
theorem dX11_init_117 : decode cX11_init 117 = .ok (.new 65, 3) := by decide +kernel
theorem dX11_init_120 : decode cX11_init 120 = .ok (.dup, 1) := by decide +kernel
theorem dX11_init_121 : decode cX11_init 121 = .ok (.aload_n 0, 1) := by decide +kernel
theorem dX11_init_122 : decode cX11_init 122 = .ok (.getfield 21, 3) := by decide +kernel
theorem dX11_init_125 : decode cX11_init 125 = .ok (.aload_n 0, 1) := by decide +kernel
theorem dX11_init_126 : decode cX11_init 126 = .ok (.getfield 43, 3) := by decide +kernel
theorem dX11_init_129 : decode cX11_init 129 = .ok (.aload_n 0, 1) := by decide +kernel
theorem dX11_init_130 : decode cX11_init 130 = .ok (.getfield 46, 3) := by decide +kernel
theorem dX11_init_133 : decode cX11_init 133 = .ok (.invokespecial 67, 3) := by decide +kernel
theorem dX11_init_136 : decode cX11_init 136 = .ok (.putfield 70, 3) := by decide +kernel
theorem dX11_init_139 : decode cX11_init 139 = .ok (.aload_n 0, 1) := by decide +kernel
theorem dX11_init_140 : decode cX11_init 140 = .ok (.new 74, 3) := by decide +kernel
theorem dX11_init_143 : decode cX11_init 143 = .ok (.dup, 1) := by decide +kernel
theorem dX11_init_144 : decode cX11_init 144 = .ok (.aload_n 0, 1) := by decide +kernel
theorem dX11_init_145 : decode cX11_init 145 = .ok (.getfield 21, 3) := by decide +kernel
theorem dX11_init_148 : decode cX11_init 148 = .ok (.invokespecial 76, 3) := by decide +kernel
theorem dX11_init_151 : decode cX11_init 151 = .ok (.putfield 77, 3) := by decide +kernel
theorem dX11_init_154 : decode cX11_init 154 = .ok (.aload_n 0, 1) := by decide +kernel
theorem dX11_init_155 : decode cX11_init 155 = .ok (.new 81, 3) := by decide +kernel
theorem dX11_init_158 : decode cX11_init 158 = .ok (.dup, 1) := by decide +kernel
theorem dX11_init_159 : decode cX11_init 159 = .ok (.aload_n 0, 1) := by decide +kernel
theorem dX11_init_160 : decode cX11_init 160 = .ok (.getfield 21, 3) := by decide +kernel
theorem dX11_init_163 : decode cX11_init 163 = .ok (.invokespecial 83, 3) := by decide +kernel
theorem dX11_init_166 : decode cX11_init 166 = .ok (.putfield 84, 3) := by decide +kernel
theorem dX11_init_169 : decode cX11_init 169 = .ok (.aload_n 0, 1) := by decide +kernel
theorem dX11_init_170 : decode cX11_init 170 = .ok (.new 88, 3) := by decide +kernel
theorem dX11_init_173 : decode cX11_init 173 = .ok (.dup, 1) := by decide +kernel
theorem dX11_init_174 : decode cX11_init 174 = .ok (.aload_n 0, 1) := by decide +kernel
theorem dX11_init_175 : decode cX11_init 175 = .ok (.getfield 21, 3) := by decide +kernel
theorem dX11_init_178 : decode cX11_init 178 = .ok (.invokespecial 90, 3) := by decide +kernel
theorem dX11_init_181 : decode cX11_init 181 = .ok (.putfield 91, 3) := by decide +kernel
theorem dX11_init_184 : decode cX11_init 184 = .ok (.aload_n 0, 1) := by decide +kernel
theorem dX11_init_185 : decode cX11_init 185 = .ok (.new 95, 3) := by decide +kernel
theorem dX11_init_188 : decode cX11_init 188 = .ok (.dup, 1) := by decide +kernel
theorem dX11_init_189 : decode cX11_init 189 = .ok (.invokespecial 97, 3) := by decide +kernel
theorem dX11_init_192 : decode cX11_init 192 = .ok (.putfield 98, 3) := by decide +kernel
theorem dX11_init_195 : decode cX11_init 195 = .ok (.aload_n 0, 1) := by decide +kernel
theorem dX11_init_196 : decode cX11_init 196 = .ok (.bipush 7, 2) := by decide +kernel
theorem dX11_init_198 : decode cX11_init 198 = .ok (.newarray .int, 2) := by decide +kernel
theorem dX11_init_200 : decode cX11_init 200 = .ok (.putfield 102, 3) := by decide +kernel
theorem dX11_init_203 : decode cX11_init 203 = .ok (.aload_n 0, 1) := by decide +kernel
theorem dX11_init_204 : decode cX11_init 204 = .ok (.bipush 7, 2) := by decide +kernel
theorem dX11_init_206 : decode cX11_init 206 = .ok (.newarray .int, 2) := by decide +kernel
theorem dX11_init_208 : decode cX11_init 208 = .ok (.putfield 106, 3) := by decide +kernel
theorem dX11_init_211 : decode cX11_init 211 = .ok (.aload_n 0, 1) := by decide +kernel
theorem dX11_init_212 : decode cX11_init 212 = .ok (.getfield 30, 3) := by decide +kernel
theorem dX11_init_215 : decode cX11_init 215 = .ok (.invokevirtual 109, 3) := by decide +kernel
theorem dX11_init_218 : decode cX11_init 218 = .ok (.return_, 1) := by decide +kernel
theorem dX11_feed_0 : decode cX11_feed 0 = .ok (.aload_n 0, 1) := by decide +kernel
theorem dX11_feed_1 : decode cX11_feed 1 = .ok (.getfield 14, 3) := by decide +kernel
theorem dX11_feed_4 : decode cX11_feed 4 = .ok (.bipush 20, 2) := by decide +kernel
theorem dX11_feed_6 : decode cX11_feed 6 = .ok (.invokevirtual 112, 3) := by decide +kernel
theorem dX11_feed_9 : decode cX11_feed 9 = .ok (.ifCond .ne 5, 3) := by decide +kernel
theorem dX11_feed_12 : decode cX11_feed 12 = .ok (.iconst (-1), 1) := by decide +kernel
theorem dX11_feed_13 : decode cX11_feed 13 = .ok (.ireturn, 1) := by decide +kernel
theorem dX11_feed_14 : decode cX11_feed 14 = .ok (.aload_n 0, 1) := by decide +kernel
theorem dX11_feed_15 : decode cX11_feed 15 = .ok (.getfield 14, 3) := by decide +kernel
theorem dX11_feed_18 : decode cX11_feed 18 = .ok (.iload_n 1, 1) := by decide +kernel
theorem dX11_feed_19 : decode cX11_feed 19 = .ok (.invokevirtual 116, 3) := by decide +kernel
theorem dX11_feed_22 : decode cX11_feed 22 = .ok (.aload_n 0, 1) := by decide +kernel
theorem dX11_feed_23 : decode cX11_feed 23 = .ok (.getfield 14, 3) := by decide +kernel
theorem dX11_feed_26 : decode cX11_feed 26 = .ok (.iload_n 2, 1) := by decide +kernel
theorem dX11_feed_27 : decode cX11_feed 27 = .ok (.invokevirtual 116, 3) := by decide +kernel
theorem dX11_feed_30 : decode cX11_feed 30 = .ok (.aload_n 0, 1) := by decide +kernel
theorem dX11_feed_31 : decode cX11_feed 31 = .ok (.getfield 14, 3) := by decide +kernel
theorem dX11_feed_34 : decode cX11_feed 34 = .ok (.iload_n 3, 1) := by decide +kernel
theorem dX11_feed_35 : decode cX11_feed 35 = .ok (.invokevirtual 116, 3) := by decide +kernel
theorem dX11_feed_38 : decode cX11_feed 38 = .ok (.aload_n 0, 1) := by decide +kernel
theorem dX11_feed_39 : decode cX11_feed 39 = .ok (.getfield 14, 3) := by decide +kernel
theorem dX11_feed_42 : decode cX11_feed 42 = .ok (.iload 4, 2) := by decide +kernel
theorem dX11_feed_44 : decode cX11_feed 44 = .ok (.invokevirtual 116, 3) := by decide +kernel
theorem dX11_feed_47 : decode cX11_feed 47 = .ok (.aload_n 0, 1) := by decide +kernel
theorem dX11_feed_48 : decode cX11_feed 48 = .ok (.getfield 14, 3) := by decide +kernel
theorem dX11_feed_51 : decode cX11_feed 51 = .ok (.iload 5, 2) := by decide +kernel
theorem dX11_feed_53 : decode cX11_feed 53 = .ok (.invokevirtual 116, 3) := by decide +kernel
theorem dX11_feed_56 : decode cX11_feed 56 = .ok (.aload_n 0, 1) := by decide +kernel
theorem dX11_feed_57 : decode cX11_feed 57 = .ok (.getfield 14, 3) := by decide +kernel
theorem dX11_feed_60 : decode cX11_feed 60 = .ok (.getfield 120, 3) := by decide +kernel
theorem dX11_feed_63 : decode cX11_feed 63 = .ok (.ireturn, 1) := by decide +kernel
theorem dX11_end_0 : decode cX11_end 0 = .ok (.aload_n 0, 1) := by decide +kernel
theorem dX11_end_1 : decode cX11_end 1 = .ok (.getfield 14, 3) := by decide +kernel
theorem dX11_end_4 : decode cX11_end 4 = .ok (.iload_n 1, 1) := by decide +kernel
theorem dX11_end_5 : decode cX11_end 5 = .ok (.invokevirtual 124, 3) := by decide +kernel
theorem dX11_end_8 : decode cX11_end 8 = .ok (.ifCond .eq 7, 3) := by decide +kernel
theorem dX11_end_11 : decode cX11_end 11 = .ok (.iload_n 1, 1) := by decide +kernel
theorem dX11_end_12 : decode cX11_end 12 = .ok (.goto 4, 3) := by decide +kernel
theorem dX11_end_15 : decode cX11_end 15 = .ok (.iconst (-1), 1) := by decide +kernel
theorem dX11_end_16 : decode cX11_end 16 = .ok (.ireturn, 1) := by decide +kernel
theorem dX11_table_0 : decode cX11_table 0 = .ok (.aload_n 0, 1) := by decide +kernel
theorem dX11_table_1 : decode cX11_table 1 = .ok (.getfield 54, 3) := by decide +kernel
theorem dX11_table_4 : decode cX11_table 4 = .ok (.invokevirtual 127, 3) := by decide +kernel
theorem dX11_table_7 : decode cX11_table 7 = .ok (.istore_n 1, 1) := by decide +kernel
theorem dX11_table_8 : decode cX11_table 8 = .ok (.aload_n 0, 1) := by decide +kernel
theorem dX11_table_9 : decode cX11_table 9 = .ok (.getfield 14, 3) := by decide +kernel
theorem dX11_table_12 : decode cX11_table 12 = .ok (.iconst 0, 1) := by decide +kernel
theorem dX11_table_13 : decode cX11_table 13 = .ok (.invokevirtual 124, 3) := by decide +kernel
theorem dX11_table_16 : decode cX11_table 16 = .ok (.pop, 1) := by decide +kernel
theorem dX11_table_17 : decode cX11_table 17 = .ok (.iload_n 1, 1) := by decide +kernel
theorem dX11_table_18 : decode cX11_table 18 = .ok (.ifCond .ne 6, 3) := by decide +kernel
theorem dX11_table_21 : decode cX11_table 21 = .ok (.bipush (-4), 2) := by decide +kernel
theorem dX11_table_23 : decode cX11_table 23 = .ok (.ireturn, 1) := by decide +kernel
theorem dX11_table_24 : decode cX11_table 24 = .ok (.aload_n 0, 1) := by decide +kernel
theorem dX11_table_25 : decode cX11_table 25 = .ok (.getfield 21, 3) := by decide +kernel
theorem dX11_table_28 : decode cX11_table 28 = .ok (.aload_n 0, 1) := by decide +kernel
theorem dX11_table_29 : decode cX11_table 29 = .ok (.getfield 43, 3) := by decide +kernel
theorem dX11_table_32 : decode cX11_table 32 = .ok (.invokevirtual 131, 3) := by decide +kernel
theorem dX11_table_35 : decode cX11_table 35 = .ok (.aload_n 0, 1) := by decide +kernel
theorem dX11_table_36 : decode cX11_table 36 = .ok (.getfield 61, 3) := by decide +kernel
theorem dX11_table_39 : decode cX11_table 39 = .ok (.invokevirtual 134, 3) := by decide +kernel
theorem dX11_table_42 : decode cX11_table 42 = .ok (.aload_n 0, 1) := by decide +kernel
theorem dX11_table_43 : decode cX11_table 43 = .ok (.invokevirtual 137, 3) := by decide +kernel
theorem dX11_table_46 : decode cX11_table 46 = .ok (.aload_n 0, 1) := by decide +kernel
theorem dX11_table_47 : decode cX11_table 47 = .ok (.getfield 21, 3) := by decide +kernel
theorem dX11_table_50 : decode cX11_table 50 = .ok (.getfield 140, 3) := by decide +kernel
theorem dX11_table_53 : decode cX11_table 53 = .ok (.ireturn, 1) := by decide +kernel
theorem dX11_fault_0 : decode cX11_fault 0 = .ok (.iload_n 1, 1) := by decide +kernel
theorem dX11_fault_1 : decode cX11_fault 1 = .ok (.ifCond .ne 11, 3) := by decide +kernel
theorem dX11_fault_4 : decode cX11_fault 4 = .ok (.aload_n 0, 1) := by decide +kernel
theorem dX11_fault_5 : decode cX11_fault 5 = .ok (.getfield 54, 3) := by decide +kernel
theorem dX11_fault_8 : decode cX11_fault 8 = .ok (.getfield 143, 3) := by decide +kernel
theorem dX11_fault_11 : decode cX11_fault 11 = .ok (.ireturn, 1) := by decide +kernel
theorem dX11_fault_12 : decode cX11_fault 12 = .ok (.iload_n 1, 1) := by decide +kernel
theorem dX11_fault_13 : decode cX11_fault 13 = .ok (.iconst 1, 1) := by decide +kernel
theorem dX11_fault_14 : decode cX11_fault 14 = .ok (.if_icmp .ne 13, 3) := by decide +kernel
theorem dX11_fault_17 : decode cX11_fault 17 = .ok (.aload_n 0, 1) := by decide +kernel
theorem dX11_fault_18 : decode cX11_fault 18 = .ok (.getfield 54, 3) := by decide +kernel
theorem dX11_fault_21 : decode cX11_fault 21 = .ok (.getfield 146, 3) := by decide +kernel
theorem dX11_fault_24 : decode cX11_fault 24 = .ok (.goto 4, 3) := by decide +kernel
theorem dX11_fault_27 : decode cX11_fault 27 = .ok (.iconst (-1), 1) := by decide +kernel
theorem dX11_fault_28 : decode cX11_fault 28 = .ok (.ireturn, 1) := by decide +kernel
theorem dX11_count_0 : decode cX11_count 0 = .ok (.iload_n 1, 1) := by decide +kernel
theorem dX11_count_1 : decode cX11_count 1 = .ok (.tableswitch 87 0 5 #[39, 47, 55, 63, 71, 79], 39) := by decide +kernel
theorem dX11_count_40 : decode cX11_count 40 = .ok (.aload_n 0, 1) := by decide +kernel
theorem dX11_count_41 : decode cX11_count 41 = .ok (.getfield 21, 3) := by decide +kernel
theorem dX11_count_44 : decode cX11_count 44 = .ok (.getfield 140, 3) := by decide +kernel
theorem dX11_count_47 : decode cX11_count 47 = .ok (.ireturn, 1) := by decide +kernel
theorem dX11_count_48 : decode cX11_count 48 = .ok (.aload_n 0, 1) := by decide +kernel
theorem dX11_count_49 : decode cX11_count 49 = .ok (.getfield 21, 3) := by decide +kernel
theorem dX11_count_52 : decode cX11_count 52 = .ok (.getfield 149, 3) := by decide +kernel
theorem dX11_count_55 : decode cX11_count 55 = .ok (.ireturn, 1) := by decide +kernel
theorem dX11_count_56 : decode cX11_count 56 = .ok (.aload_n 0, 1) := by decide +kernel
theorem dX11_count_57 : decode cX11_count 57 = .ok (.getfield 21, 3) := by decide +kernel
theorem dX11_count_60 : decode cX11_count 60 = .ok (.invokevirtual 152, 3) := by decide +kernel
theorem dX11_count_63 : decode cX11_count 63 = .ok (.ireturn, 1) := by decide +kernel
theorem dX11_count_64 : decode cX11_count 64 = .ok (.aload_n 0, 1) := by decide +kernel
theorem dX11_count_65 : decode cX11_count 65 = .ok (.getfield 30, 3) := by decide +kernel
theorem dX11_count_68 : decode cX11_count 68 = .ok (.invokevirtual 156, 3) := by decide +kernel
theorem dX11_count_71 : decode cX11_count 71 = .ok (.ireturn, 1) := by decide +kernel
theorem dX11_count_72 : decode cX11_count 72 = .ok (.aload_n 0, 1) := by decide +kernel
theorem dX11_count_73 : decode cX11_count 73 = .ok (.getfield 61, 3) := by decide +kernel
theorem dX11_count_76 : decode cX11_count 76 = .ok (.getfield 159, 3) := by decide +kernel
theorem dX11_count_79 : decode cX11_count 79 = .ok (.ireturn, 1) := by decide +kernel
theorem dX11_count_80 : decode cX11_count 80 = .ok (.aload_n 0, 1) := by decide +kernel
theorem dX11_count_81 : decode cX11_count 81 = .ok (.getfield 14, 3) := by decide +kernel
theorem dX11_count_84 : decode cX11_count 84 = .ok (.getfield 120, 3) := by decide +kernel
theorem dX11_count_87 : decode cX11_count 87 = .ok (.ireturn, 1) := by decide +kernel
theorem dX11_count_88 : decode cX11_count 88 = .ok (.iconst (-1), 1) := by decide +kernel
theorem dX11_count_89 : decode cX11_count 89 = .ok (.ireturn, 1) := by decide +kernel
theorem dX11_cost_0 : decode cX11_cost 0 = .ok (.aload_n 0, 1) := by decide +kernel
theorem dX11_cost_1 : decode cX11_cost 1 = .ok (.getfield 21, 3) := by decide +kernel
theorem dX11_cost_4 : decode cX11_cost 4 = .ok (.iload_n 1, 1) := by decide +kernel
theorem dX11_cost_5 : decode cX11_cost 5 = .ok (.iload_n 2, 1) := by decide +kernel
theorem dX11_cost_6 : decode cX11_cost 6 = .ok (.invokevirtual 162, 3) := by decide +kernel
theorem dX11_cost_9 : decode cX11_cost 9 = .ok (.ifCond .eq 15, 3) := by decide +kernel
theorem dX11_cost_12 : decode cX11_cost 12 = .ok (.aload_n 0, 1) := by decide +kernel
theorem dX11_cost_13 : decode cX11_cost 13 = .ok (.getfield 21, 3) := by decide +kernel
theorem dX11_cost_16 : decode cX11_cost 16 = .ok (.iload_n 1, 1) := by decide +kernel
theorem dX11_cost_17 : decode cX11_cost 17 = .ok (.iload_n 2, 1) := by decide +kernel
theorem dX11_cost_18 : decode cX11_cost 18 = .ok (.invokevirtual 166, 3) := by decide +kernel
theorem dX11_cost_21 : decode cX11_cost 21 = .ok (.goto 6, 3) := by decide +kernel
theorem dX11_cost_24 : decode cX11_cost 24 = .ok (.ldc2_w 170, 3) := by decide +kernel
theorem dX11_cost_27 : decode cX11_cost 27 = .ok (.lreturn, 1) := by decide +kernel
theorem dX11_sum_0 : decode cX11_sum 0 = .ok (.iload_n 1, 1) := by decide +kernel
theorem dX11_sum_1 : decode cX11_sum 1 = .ok (.invokestatic 172, 3) := by decide +kernel
theorem dX11_sum_4 : decode cX11_sum 4 = .ok (.ifCond .eq 14, 3) := by decide +kernel
theorem dX11_sum_7 : decode cX11_sum 7 = .ok (.aload_n 0, 1) := by decide +kernel
theorem dX11_sum_8 : decode cX11_sum 8 = .ok (.getfield 39, 3) := by decide +kernel
theorem dX11_sum_11 : decode cX11_sum 11 = .ok (.iload_n 1, 1) := by decide +kernel
theorem dX11_sum_12 : decode cX11_sum 12 = .ok (.invokevirtual 175, 3) := by decide +kernel
theorem dX11_sum_15 : decode cX11_sum 15 = .ok (.goto 6, 3) := by decide +kernel
theorem dX11_sum_18 : decode cX11_sum 18 = .ok (.ldc2_w 170, 3) := by decide +kernel
theorem dX11_sum_21 : decode cX11_sum 21 = .ok (.lreturn, 1) := by decide +kernel
theorem dX11_job_0 : decode cX11_job 0 = .ok (.iload_n 1, 1) := by decide +kernel
theorem dX11_job_1 : decode cX11_job 1 = .ok (.invokestatic 172, 3) := by decide +kernel
theorem dX11_job_4 : decode cX11_job 4 = .ok (.ifCond .eq 14, 3) := by decide +kernel
theorem dX11_job_7 : decode cX11_job 7 = .ok (.aload_n 0, 1) := by decide +kernel
theorem dX11_job_8 : decode cX11_job 8 = .ok (.getfield 21, 3) := by decide +kernel
theorem dX11_job_11 : decode cX11_job 11 = .ok (.iload_n 2, 1) := by decide +kernel
theorem dX11_job_12 : decode cX11_job 12 = .ok (.invokevirtual 179, 3) := by decide +kernel
theorem dX11_job_15 : decode cX11_job 15 = .ok (.ifCond .ne 6, 3) := by decide +kernel
theorem dX11_job_18 : decode cX11_job 18 = .ok (.bipush (-2), 2) := by decide +kernel
theorem dX11_job_20 : decode cX11_job 20 = .ok (.ireturn, 1) := by decide +kernel
theorem dX11_job_21 : decode cX11_job 21 = .ok (.aload_n 0, 1) := by decide +kernel
theorem dX11_job_22 : decode cX11_job 22 = .ok (.getfield 39, 3) := by decide +kernel
theorem dX11_job_25 : decode cX11_job 25 = .ok (.iload_n 1, 1) := by decide +kernel
theorem dX11_job_26 : decode cX11_job 26 = .ok (.aload_n 0, 1) := by decide +kernel
theorem dX11_job_27 : decode cX11_job 27 = .ok (.getfield 102, 3) := by decide +kernel
theorem dX11_job_30 : decode cX11_job 30 = .ok (.invokevirtual 182, 3) := by decide +kernel
theorem dX11_job_33 : decode cX11_job 33 = .ok (.ifCond .eq 12, 3) := by decide +kernel
theorem dX11_job_36 : decode cX11_job 36 = .ok (.aload_n 0, 1) := by decide +kernel
theorem dX11_job_37 : decode cX11_job 37 = .ok (.getfield 102, 3) := by decide +kernel
theorem dX11_job_40 : decode cX11_job 40 = .ok (.iload_n 2, 1) := by decide +kernel
theorem dX11_job_41 : decode cX11_job 41 = .ok (.iaload, 1) := by decide +kernel
theorem dX11_job_42 : decode cX11_job 42 = .ok (.goto 4, 3) := by decide +kernel
theorem dX11_job_45 : decode cX11_job 45 = .ok (.iconst (-1), 1) := by decide +kernel
theorem dX11_job_46 : decode cX11_job 46 = .ok (.ireturn, 1) := by decide +kernel
theorem dX11_ties_0 : decode cX11_ties 0 = .ok (.iload_n 1, 1) := by decide +kernel
theorem dX11_ties_1 : decode cX11_ties 1 = .ok (.invokestatic 172, 3) := by decide +kernel
theorem dX11_ties_4 : decode cX11_ties 4 = .ok (.ifCond .ne 6, 3) := by decide +kernel
theorem dX11_ties_7 : decode cX11_ties 7 = .ok (.bipush (-2), 2) := by decide +kernel
theorem dX11_ties_9 : decode cX11_ties 9 = .ok (.ireturn, 1) := by decide +kernel
theorem dX11_ties_10 : decode cX11_ties 10 = .ok (.aload_n 0, 1) := by decide +kernel
theorem dX11_ties_11 : decode cX11_ties 11 = .ok (.getfield 39, 3) := by decide +kernel
theorem dX11_ties_14 : decode cX11_ties 14 = .ok (.iload_n 1, 1) := by decide +kernel
theorem dX11_ties_15 : decode cX11_ties 15 = .ok (.invokevirtual 175, 3) := by decide +kernel
theorem dX11_ties_18 : decode cX11_ties 18 = .ok (.lstore_n 2, 1) := by decide +kernel
theorem dX11_ties_19 : decode cX11_ties 19 = .ok (.lload_n 2, 1) := by decide +kernel
theorem dX11_ties_20 : decode cX11_ties 20 = .ok (.ldc2_w 170, 3) := by decide +kernel
theorem dX11_ties_23 : decode cX11_ties 23 = .ok (.lcmp, 1) := by decide +kernel
theorem dX11_ties_24 : decode cX11_ties 24 = .ok (.ifCond .ne 7, 3) := by decide +kernel
theorem dX11_ties_27 : decode cX11_ties 27 = .ok (.iconst (-1), 1) := by decide +kernel
theorem dX11_ties_28 : decode cX11_ties 28 = .ok (.goto 11, 3) := by decide +kernel
theorem dX11_ties_31 : decode cX11_ties 31 = .ok (.aload_n 0, 1) := by decide +kernel
theorem dX11_ties_32 : decode cX11_ties 32 = .ok (.getfield 30, 3) := by decide +kernel
theorem dX11_ties_35 : decode cX11_ties 35 = .ok (.lload_n 2, 1) := by decide +kernel
theorem dX11_ties_36 : decode cX11_ties 36 = .ok (.invokevirtual 186, 3) := by decide +kernel
theorem dX11_ties_39 : decode cX11_ties 39 = .ok (.ireturn, 1) := by decide +kernel
theorem dX11_under_0 : decode cX11_under 0 = .ok (.aload_n 0, 1) := by decide +kernel
theorem dX11_under_1 : decode cX11_under 1 = .ok (.getfield 30, 3) := by decide +kernel
theorem dX11_under_4 : decode cX11_under 4 = .ok (.lload_n 1, 1) := by decide +kernel
theorem dX11_under_5 : decode cX11_under 5 = .ok (.invokevirtual 190, 3) := by decide +kernel
theorem dX11_under_8 : decode cX11_under 8 = .ok (.ireturn, 1) := by decide +kernel
theorem dX11_place_0 : decode cX11_place 0 = .ok (.aload_n 0, 1) := by decide +kernel
theorem dX11_place_1 : decode cX11_place 1 = .ok (.getfield 21, 3) := by decide +kernel
theorem dX11_place_4 : decode cX11_place 4 = .ok (.iload_n 1, 1) := by decide +kernel
theorem dX11_place_5 : decode cX11_place 5 = .ok (.aload_n 0, 1) := by decide +kernel
theorem dX11_place_6 : decode cX11_place 6 = .ok (.getfield 102, 3) := by decide +kernel
theorem dX11_place_9 : decode cX11_place 9 = .ok (.invokevirtual 193, 3) := by decide +kernel
theorem dX11_place_12 : decode cX11_place 12 = .ok (.ifCond .eq 17, 3) := by decide +kernel
theorem dX11_place_15 : decode cX11_place 15 = .ok (.aload_n 0, 1) := by decide +kernel
theorem dX11_place_16 : decode cX11_place 16 = .ok (.getfield 30, 3) := by decide +kernel
theorem dX11_place_19 : decode cX11_place 19 = .ok (.aload_n 0, 1) := by decide +kernel
theorem dX11_place_20 : decode cX11_place 20 = .ok (.getfield 102, 3) := by decide +kernel
theorem dX11_place_23 : decode cX11_place 23 = .ok (.invokevirtual 196, 3) := by decide +kernel
theorem dX11_place_26 : decode cX11_place 26 = .ok (.goto 4, 3) := by decide +kernel
theorem dX11_place_29 : decode cX11_place 29 = .ok (.iconst (-1), 1) := by decide +kernel
theorem dX11_place_30 : decode cX11_place 30 = .ok (.ireturn, 1) := by decide +kernel
theorem dX11_drawn_0 : decode cX11_drawn 0 = .ok (.aload_n 0, 1) := by decide +kernel
theorem dX11_drawn_1 : decode cX11_drawn 1 = .ok (.getfield 30, 3) := by decide +kernel
theorem dX11_drawn_4 : decode cX11_drawn 4 = .ok (.invokevirtual 156, 3) := by decide +kernel
theorem dX11_drawn_7 : decode cX11_drawn 7 = .ok (.istore_n 3, 1) := by decide +kernel
theorem dX11_drawn_8 : decode cX11_drawn 8 = .ok (.iload_n 3, 1) := by decide +kernel
theorem dX11_drawn_9 : decode cX11_drawn 9 = .ok (.ifCond .gt 5, 3) := by decide +kernel
theorem dX11_drawn_12 : decode cX11_drawn 12 = .ok (.iconst (-1), 1) := by decide +kernel
theorem dX11_drawn_13 : decode cX11_drawn 13 = .ok (.ireturn, 1) := by decide +kernel
theorem dX11_drawn_14 : decode cX11_drawn 14 = .ok (.lload_n 1, 1) := by decide +kernel
theorem dX11_drawn_15 : decode cX11_drawn 15 = .ok (.ldc2_w 200, 3) := by decide +kernel
theorem dX11_drawn_18 : decode cX11_drawn 18 = .ok (.lmul, 1) := by decide +kernel
theorem dX11_drawn_19 : decode cX11_drawn 19 = .ok (.ldc2_w 202, 3) := by decide +kernel
theorem dX11_drawn_22 : decode cX11_drawn 22 = .ok (.ladd, 1) := by decide +kernel
theorem dX11_drawn_23 : decode cX11_drawn 23 = .ok (.lstore 4, 2) := by decide +kernel
theorem dX11_drawn_25 : decode cX11_drawn 25 = .ok (.lload 4, 2) := by decide +kernel
theorem dX11_drawn_27 : decode cX11_drawn 27 = .ok (.bipush 33, 2) := by decide +kernel
theorem dX11_drawn_29 : decode cX11_drawn 29 = .ok (.lushr, 1) := by decide +kernel
theorem dX11_drawn_30 : decode cX11_drawn 30 = .ok (.iload_n 3, 1) := by decide +kernel
theorem dX11_drawn_31 : decode cX11_drawn 31 = .ok (.i2l, 1) := by decide +kernel
theorem dX11_drawn_32 : decode cX11_drawn 32 = .ok (.lrem, 1) := by decide +kernel
theorem dX11_drawn_33 : decode cX11_drawn 33 = .ok (.l2i, 1) := by decide +kernel
theorem dX11_drawn_34 : decode cX11_drawn 34 = .ok (.ireturn, 1) := by decide +kernel
theorem dX11_middle_0 : decode cX11_middle 0 = .ok (.aload_n 0, 1) := by decide +kernel
theorem dX11_middle_1 : decode cX11_middle 1 = .ok (.getfield 30, 3) := by decide +kernel
theorem dX11_middle_4 : decode cX11_middle 4 = .ok (.invokevirtual 156, 3) := by decide +kernel
theorem dX11_middle_7 : decode cX11_middle 7 = .ok (.istore_n 1, 1) := by decide +kernel
theorem dX11_middle_8 : decode cX11_middle 8 = .ok (.iload_n 1, 1) := by decide +kernel
theorem dX11_middle_9 : decode cX11_middle 9 = .ok (.ifCond .ne 9, 3) := by decide +kernel
theorem dX11_middle_12 : decode cX11_middle 12 = .ok (.ldc2_w 170, 3) := by decide +kernel
theorem dX11_middle_15 : decode cX11_middle 15 = .ok (.goto 15, 3) := by decide +kernel
theorem dX11_middle_18 : decode cX11_middle 18 = .ok (.aload_n 0, 1) := by decide +kernel
theorem dX11_middle_19 : decode cX11_middle 19 = .ok (.getfield 39, 3) := by decide +kernel
theorem dX11_middle_22 : decode cX11_middle 22 = .ok (.iload_n 1, 1) := by decide +kernel
theorem dX11_middle_23 : decode cX11_middle 23 = .ok (.iconst 1, 1) := by decide +kernel
theorem dX11_middle_24 : decode cX11_middle 24 = .ok (.isub, 1) := by decide +kernel
theorem dX11_middle_25 : decode cX11_middle 25 = .ok (.iconst 2, 1) := by decide +kernel
theorem dX11_middle_26 : decode cX11_middle 26 = .ok (.idiv, 1) := by decide +kernel
theorem dX11_middle_27 : decode cX11_middle 27 = .ok (.invokevirtual 204, 3) := by decide +kernel
theorem dX11_middle_30 : decode cX11_middle 30 = .ok (.lreturn, 1) := by decide +kernel
theorem dX11_loss_0 : decode cX11_loss 0 = .ok (.iload_n 1, 1) := by decide +kernel
theorem dX11_loss_1 : decode cX11_loss 1 = .ok (.invokestatic 172, 3) := by decide +kernel
theorem dX11_loss_4 : decode cX11_loss 4 = .ok (.ifCond .eq 14, 3) := by decide +kernel
theorem dX11_loss_7 : decode cX11_loss 7 = .ok (.aload_n 0, 1) := by decide +kernel
theorem dX11_loss_8 : decode cX11_loss 8 = .ok (.getfield 39, 3) := by decide +kernel
theorem dX11_loss_11 : decode cX11_loss 11 = .ok (.iload_n 1, 1) := by decide +kernel
theorem dX11_loss_12 : decode cX11_loss 12 = .ok (.invokevirtual 175, 3) := by decide +kernel
theorem dX11_loss_15 : decode cX11_loss 15 = .ok (.goto 6, 3) := by decide +kernel
theorem dX11_loss_18 : decode cX11_loss 18 = .ok (.ldc2_w 170, 3) := by decide +kernel
theorem dX11_loss_21 : decode cX11_loss 21 = .ok (.lstore_n 2, 1) := by decide +kernel
theorem dX11_loss_22 : decode cX11_loss 22 = .ok (.lload_n 2, 1) := by decide +kernel
theorem dX11_loss_23 : decode cX11_loss 23 = .ok (.ldc2_w 170, 3) := by decide +kernel
theorem dX11_loss_26 : decode cX11_loss 26 = .ok (.lcmp, 1) := by decide +kernel
theorem dX11_loss_27 : decode cX11_loss 27 = .ok (.ifCond .ne 7, 3) := by decide +kernel
theorem dX11_loss_30 : decode cX11_loss 30 = .ok (.ldc2_w 170, 3) := by decide +kernel
theorem dX11_loss_33 : decode cX11_loss 33 = .ok (.lreturn, 1) := by decide +kernel
theorem dX11_loss_34 : decode cX11_loss 34 = .ok (.iconst 0, 1) := by decide +kernel
theorem dX11_loss_35 : decode cX11_loss 35 = .ok (.istore 4, 2) := by decide +kernel
theorem dX11_loss_37 : decode cX11_loss 37 = .ok (.iload 4, 2) := by decide +kernel
theorem dX11_loss_39 : decode cX11_loss 39 = .ok (.aload_n 0, 1) := by decide +kernel
theorem dX11_loss_40 : decode cX11_loss 40 = .ok (.getfield 21, 3) := by decide +kernel
theorem dX11_loss_43 : decode cX11_loss 43 = .ok (.getfield 140, 3) := by decide +kernel
theorem dX11_loss_46 : decode cX11_loss 46 = .ok (.if_icmp .ge 22, 3) := by decide +kernel
theorem dX11_loss_49 : decode cX11_loss 49 = .ok (.lload_n 2, 1) := by decide +kernel
theorem dX11_loss_50 : decode cX11_loss 50 = .ok (.aload_n 0, 1) := by decide +kernel
theorem dX11_loss_51 : decode cX11_loss 51 = .ok (.getfield 21, 3) := by decide +kernel
theorem dX11_loss_54 : decode cX11_loss 54 = .ok (.iload 4, 2) := by decide +kernel
theorem dX11_loss_56 : decode cX11_loss 56 = .ok (.iconst 0, 1) := by decide +kernel
theorem dX11_loss_57 : decode cX11_loss 57 = .ok (.invokevirtual 207, 3) := by decide +kernel
theorem dX11_loss_60 : decode cX11_loss 60 = .ok (.lsub, 1) := by decide +kernel
theorem dX11_loss_61 : decode cX11_loss 61 = .ok (.lstore_n 2, 1) := by decide +kernel
theorem dX11_loss_62 : decode cX11_loss 62 = .ok (.iinc 4 1, 3) := by decide +kernel
theorem dX11_loss_65 : decode cX11_loss 65 = .ok (.goto (-28), 3) := by decide +kernel
theorem dX11_loss_68 : decode cX11_loss 68 = .ok (.lload_n 2, 1) := by decide +kernel
theorem dX11_loss_69 : decode cX11_loss 69 = .ok (.lreturn, 1) := by decide +kernel
theorem dX11_dearest_0 : decode cX11_dearest 0 = .ok (.aload_n 0, 1) := by decide +kernel
theorem dX11_dearest_1 : decode cX11_dearest 1 = .ok (.getfield 21, 3) := by decide +kernel
theorem dX11_dearest_4 : decode cX11_dearest 4 = .ok (.getfield 140, 3) := by decide +kernel
theorem dX11_dearest_7 : decode cX11_dearest 7 = .ok (.ifCond .eq 25, 3) := by decide +kernel
theorem dX11_dearest_10 : decode cX11_dearest 10 = .ok (.iload_n 1, 1) := by decide +kernel
theorem dX11_dearest_11 : decode cX11_dearest 11 = .ok (.invokestatic 172, 3) := by decide +kernel
theorem dX11_dearest_14 : decode cX11_dearest 14 = .ok (.ifCond .eq 18, 3) := by decide +kernel
theorem dX11_dearest_17 : decode cX11_dearest 17 = .ok (.aload_n 0, 1) := by decide +kernel
theorem dX11_dearest_18 : decode cX11_dearest 18 = .ok (.getfield 39, 3) := by decide +kernel
theorem dX11_dearest_21 : decode cX11_dearest 21 = .ok (.iload_n 1, 1) := by decide +kernel
theorem dX11_dearest_22 : decode cX11_dearest 22 = .ok (.aload_n 0, 1) := by decide +kernel
theorem dX11_dearest_23 : decode cX11_dearest 23 = .ok (.getfield 102, 3) := by decide +kernel
theorem dX11_dearest_26 : decode cX11_dearest 26 = .ok (.invokevirtual 182, 3) := by decide +kernel
theorem dX11_dearest_29 : decode cX11_dearest 29 = .ok (.ifCond .ne 7, 3) := by decide +kernel
theorem dX11_dearest_32 : decode cX11_dearest 32 = .ok (.ldc2_w 170, 3) := by decide +kernel
theorem dX11_dearest_35 : decode cX11_dearest 35 = .ok (.lreturn, 1) := by decide +kernel
theorem dX11_dearest_36 : decode cX11_dearest 36 = .ok (.aload_n 0, 1) := by decide +kernel
theorem dX11_dearest_37 : decode cX11_dearest 37 = .ok (.getfield 21, 3) := by decide +kernel
theorem dX11_dearest_40 : decode cX11_dearest 40 = .ok (.aload_n 0, 1) := by decide +kernel
theorem dX11_dearest_41 : decode cX11_dearest 41 = .ok (.getfield 102, 3) := by decide +kernel
theorem dX11_dearest_44 : decode cX11_dearest 44 = .ok (.invokevirtual 210, 3) := by decide +kernel
theorem dX11_dearest_47 : decode cX11_dearest 47 = .ok (.lreturn, 1) := by decide +kernel
theorem dX11_apart_0 : decode cX11_apart 0 = .ok (.iload_n 1, 1) := by decide +kernel
theorem dX11_apart_1 : decode cX11_apart 1 = .ok (.invokestatic 172, 3) := by decide +kernel
theorem dX11_apart_4 : decode cX11_apart 4 = .ok (.ifCond .eq 10, 3) := by decide +kernel
theorem dX11_apart_7 : decode cX11_apart 7 = .ok (.iload_n 2, 1) := by decide +kernel
theorem dX11_apart_8 : decode cX11_apart 8 = .ok (.invokestatic 172, 3) := by decide +kernel
theorem dX11_apart_11 : decode cX11_apart 11 = .ok (.ifCond .ne 6, 3) := by decide +kernel
theorem dX11_apart_14 : decode cX11_apart 14 = .ok (.bipush (-2), 2) := by decide +kernel
theorem dX11_apart_16 : decode cX11_apart 16 = .ok (.ireturn, 1) := by decide +kernel
theorem dX11_apart_17 : decode cX11_apart 17 = .ok (.aload_n 0, 1) := by decide +kernel
theorem dX11_apart_18 : decode cX11_apart 18 = .ok (.getfield 39, 3) := by decide +kernel
theorem dX11_apart_21 : decode cX11_apart 21 = .ok (.iload_n 1, 1) := by decide +kernel
theorem dX11_apart_22 : decode cX11_apart 22 = .ok (.aload_n 0, 1) := by decide +kernel
theorem dX11_apart_23 : decode cX11_apart 23 = .ok (.getfield 102, 3) := by decide +kernel
theorem dX11_apart_26 : decode cX11_apart 26 = .ok (.invokevirtual 182, 3) := by decide +kernel
theorem dX11_apart_29 : decode cX11_apart 29 = .ok (.ifCond .eq 18, 3) := by decide +kernel
theorem dX11_apart_32 : decode cX11_apart 32 = .ok (.aload_n 0, 1) := by decide +kernel
theorem dX11_apart_33 : decode cX11_apart 33 = .ok (.getfield 39, 3) := by decide +kernel
theorem dX11_apart_36 : decode cX11_apart 36 = .ok (.iload_n 2, 1) := by decide +kernel
theorem dX11_apart_37 : decode cX11_apart 37 = .ok (.aload_n 0, 1) := by decide +kernel
theorem dX11_apart_38 : decode cX11_apart 38 = .ok (.getfield 106, 3) := by decide +kernel
theorem dX11_apart_41 : decode cX11_apart 41 = .ok (.invokevirtual 182, 3) := by decide +kernel
theorem dX11_apart_44 : decode cX11_apart 44 = .ok (.ifCond .ne 5, 3) := by decide +kernel
theorem dX11_apart_47 : decode cX11_apart 47 = .ok (.iconst (-1), 1) := by decide +kernel
theorem dX11_apart_48 : decode cX11_apart 48 = .ok (.ireturn, 1) := by decide +kernel
theorem dX11_apart_49 : decode cX11_apart 49 = .ok (.iconst 0, 1) := by decide +kernel
theorem dX11_apart_50 : decode cX11_apart 50 = .ok (.istore_n 3, 1) := by decide +kernel
theorem dX11_apart_51 : decode cX11_apart 51 = .ok (.iconst 0, 1) := by decide +kernel
theorem dX11_apart_52 : decode cX11_apart 52 = .ok (.istore 4, 2) := by decide +kernel
theorem dX11_apart_54 : decode cX11_apart 54 = .ok (.iload 4, 2) := by decide +kernel
theorem dX11_apart_56 : decode cX11_apart 56 = .ok (.aload_n 0, 1) := by decide +kernel
theorem dX11_apart_57 : decode cX11_apart 57 = .ok (.getfield 21, 3) := by decide +kernel
theorem dX11_apart_60 : decode cX11_apart 60 = .ok (.getfield 140, 3) := by decide +kernel
theorem dX11_apart_63 : decode cX11_apart 63 = .ok (.if_icmp .ge 29, 3) := by decide +kernel
theorem dX11_apart_66 : decode cX11_apart 66 = .ok (.aload_n 0, 1) := by decide +kernel
theorem dX11_apart_67 : decode cX11_apart 67 = .ok (.getfield 102, 3) := by decide +kernel
theorem dX11_apart_70 : decode cX11_apart 70 = .ok (.iload 4, 2) := by decide +kernel
theorem dX11_apart_72 : decode cX11_apart 72 = .ok (.iaload, 1) := by decide +kernel
theorem dX11_apart_73 : decode cX11_apart 73 = .ok (.aload_n 0, 1) := by decide +kernel
theorem dX11_apart_74 : decode cX11_apart 74 = .ok (.getfield 106, 3) := by decide +kernel
theorem dX11_apart_77 : decode cX11_apart 77 = .ok (.iload 4, 2) := by decide +kernel
theorem dX11_apart_79 : decode cX11_apart 79 = .ok (.iaload, 1) := by decide +kernel
theorem dX11_apart_80 : decode cX11_apart 80 = .ok (.if_icmp .eq 6, 3) := by decide +kernel
theorem dX11_apart_83 : decode cX11_apart 83 = .ok (.iinc 3 1, 3) := by decide +kernel
theorem dX11_apart_86 : decode cX11_apart 86 = .ok (.iinc 4 1, 3) := by decide +kernel
theorem dX11_apart_89 : decode cX11_apart 89 = .ok (.goto (-35), 3) := by decide +kernel
theorem dX11_apart_92 : decode cX11_apart 92 = .ok (.iload_n 3, 1) := by decide +kernel
theorem dX11_apart_93 : decode cX11_apart 93 = .ok (.ireturn, 1) := by decide +kernel
theorem dX11_rounds_0 : decode cX11_rounds 0 = .ok (.iload_n 1, 1) := by decide +kernel
theorem dX11_rounds_1 : decode cX11_rounds 1 = .ok (.invokestatic 172, 3) := by decide +kernel
theorem dX11_rounds_4 : decode cX11_rounds 4 = .ok (.ifCond .eq 19, 3) := by decide +kernel
theorem dX11_rounds_7 : decode cX11_rounds 7 = .ok (.iload_n 2, 1) := by decide +kernel
theorem dX11_rounds_8 : decode cX11_rounds 8 = .ok (.invokestatic 172, 3) := by decide +kernel
theorem dX11_rounds_11 : decode cX11_rounds 11 = .ok (.ifCond .eq 12, 3) := by decide +kernel
theorem dX11_rounds_14 : decode cX11_rounds 14 = .ok (.iload_n 3, 1) := by decide +kernel
theorem dX11_rounds_15 : decode cX11_rounds 15 = .ok (.ifCond .lt 8, 3) := by decide +kernel
theorem dX11_rounds_18 : decode cX11_rounds 18 = .ok (.iload_n 3, 1) := by decide +kernel
theorem dX11_rounds_19 : decode cX11_rounds 19 = .ok (.iconst 3, 1) := by decide +kernel
theorem dX11_rounds_20 : decode cX11_rounds 20 = .ok (.if_icmp .le 6, 3) := by decide +kernel
theorem dX11_rounds_23 : decode cX11_rounds 23 = .ok (.bipush (-2), 2) := by decide +kernel
theorem dX11_rounds_25 : decode cX11_rounds 25 = .ok (.ireturn, 1) := by decide +kernel
theorem dX11_rounds_26 : decode cX11_rounds 26 = .ok (.aload_n 0, 1) := by decide +kernel
theorem dX11_rounds_27 : decode cX11_rounds 27 = .ok (.getfield 39, 3) := by decide +kernel
theorem dX11_rounds_30 : decode cX11_rounds 30 = .ok (.iload_n 1, 1) := by decide +kernel
theorem dX11_rounds_31 : decode cX11_rounds 31 = .ok (.aload_n 0, 1) := by decide +kernel
theorem dX11_rounds_32 : decode cX11_rounds 32 = .ok (.getfield 102, 3) := by decide +kernel
theorem dX11_rounds_35 : decode cX11_rounds 35 = .ok (.invokevirtual 182, 3) := by decide +kernel
theorem dX11_rounds_38 : decode cX11_rounds 38 = .ok (.ifCond .eq 18, 3) := by decide +kernel
theorem dX11_rounds_41 : decode cX11_rounds 41 = .ok (.aload_n 0, 1) := by decide +kernel
theorem dX11_rounds_42 : decode cX11_rounds 42 = .ok (.getfield 39, 3) := by decide +kernel
theorem dX11_rounds_45 : decode cX11_rounds 45 = .ok (.iload_n 2, 1) := by decide +kernel
theorem dX11_rounds_46 : decode cX11_rounds 46 = .ok (.aload_n 0, 1) := by decide +kernel
theorem dX11_rounds_47 : decode cX11_rounds 47 = .ok (.getfield 106, 3) := by decide +kernel
theorem dX11_rounds_50 : decode cX11_rounds 50 = .ok (.invokevirtual 182, 3) := by decide +kernel
theorem dX11_rounds_53 : decode cX11_rounds 53 = .ok (.ifCond .ne 5, 3) := by decide +kernel
theorem dX11_rounds_56 : decode cX11_rounds 56 = .ok (.iconst (-1), 1) := by decide +kernel
theorem dX11_rounds_57 : decode cX11_rounds 57 = .ok (.ireturn, 1) := by decide +kernel
theorem dX11_rounds_58 : decode cX11_rounds 58 = .ok (.aload_n 0, 1) := by decide +kernel
theorem dX11_rounds_59 : decode cX11_rounds 59 = .ok (.getfield 98, 3) := by decide +kernel
theorem dX11_rounds_62 : decode cX11_rounds 62 = .ok (.aload_n 0, 1) := by decide +kernel
theorem dX11_rounds_63 : decode cX11_rounds 63 = .ok (.getfield 102, 3) := by decide +kernel
theorem dX11_rounds_66 : decode cX11_rounds 66 = .ok (.aload_n 0, 1) := by decide +kernel
theorem dX11_rounds_67 : decode cX11_rounds 67 = .ok (.getfield 106, 3) := by decide +kernel
theorem dX11_rounds_70 : decode cX11_rounds 70 = .ok (.aload_n 0, 1) := by decide +kernel
theorem dX11_rounds_71 : decode cX11_rounds 71 = .ok (.getfield 21, 3) := by decide +kernel
theorem dX11_rounds_74 : decode cX11_rounds 74 = .ok (.getfield 140, 3) := by decide +kernel
theorem dX11_rounds_77 : decode cX11_rounds 77 = .ok (.invokevirtual 214, 3) := by decide +kernel
theorem dX11_rounds_80 : decode cX11_rounds 80 = .ok (.iload_n 3, 1) := by decide +kernel
theorem dX11_rounds_81 : decode cX11_rounds 81 = .ok (.tableswitch 51 0 2 #[27, 35, 43], 27) := by decide +kernel
theorem dX11_rounds_108 : decode cX11_rounds 108 = .ok (.aload_n 0, 1) := by decide +kernel
theorem dX11_rounds_109 : decode cX11_rounds 109 = .ok (.getfield 98, 3) := by decide +kernel
theorem dX11_rounds_112 : decode cX11_rounds 112 = .ok (.getfield 218, 3) := by decide +kernel
theorem dX11_rounds_115 : decode cX11_rounds 115 = .ok (.ireturn, 1) := by decide +kernel
theorem dX11_rounds_116 : decode cX11_rounds 116 = .ok (.aload_n 0, 1) := by decide +kernel
theorem dX11_rounds_117 : decode cX11_rounds 117 = .ok (.getfield 98, 3) := by decide +kernel
theorem dX11_rounds_120 : decode cX11_rounds 120 = .ok (.getfield 221, 3) := by decide +kernel
theorem dX11_rounds_123 : decode cX11_rounds 123 = .ok (.ireturn, 1) := by decide +kernel
theorem dX11_rounds_124 : decode cX11_rounds 124 = .ok (.aload_n 0, 1) := by decide +kernel
theorem dX11_rounds_125 : decode cX11_rounds 125 = .ok (.getfield 98, 3) := by decide +kernel
theorem dX11_rounds_128 : decode cX11_rounds 128 = .ok (.getfield 224, 3) := by decide +kernel
theorem dX11_rounds_131 : decode cX11_rounds 131 = .ok (.ireturn, 1) := by decide +kernel
theorem dX11_rounds_132 : decode cX11_rounds 132 = .ok (.aload_n 0, 1) := by decide +kernel
theorem dX11_rounds_133 : decode cX11_rounds 133 = .ok (.getfield 98, 3) := by decide +kernel
theorem dX11_rounds_136 : decode cX11_rounds 136 = .ok (.getfield 227, 3) := by decide +kernel
theorem dX11_rounds_139 : decode cX11_rounds 139 = .ok (.ireturn, 1) := by decide +kernel
theorem dX11_often_0 : decode cX11_often 0 = .ok (.aload_n 0, 1) := by decide +kernel
theorem dX11_often_1 : decode cX11_often 1 = .ok (.getfield 21, 3) := by decide +kernel
theorem dX11_often_4 : decode cX11_often 4 = .ok (.iload_n 1, 1) := by decide +kernel
theorem dX11_often_5 : decode cX11_often 5 = .ok (.iload_n 2, 1) := by decide +kernel
theorem dX11_often_6 : decode cX11_often 6 = .ok (.invokevirtual 162, 3) := by decide +kernel
theorem dX11_often_9 : decode cX11_often 9 = .ok (.ifCond .eq 15, 3) := by decide +kernel
theorem dX11_often_12 : decode cX11_often 12 = .ok (.iload_n 3, 1) := by decide +kernel
theorem dX11_often_13 : decode cX11_often 13 = .ok (.iconst 1, 1) := by decide +kernel
theorem dX11_often_14 : decode cX11_often 14 = .ok (.if_icmp .lt 10, 3) := by decide +kernel
theorem dX11_often_17 : decode cX11_often 17 = .ok (.iload_n 3, 1) := by decide +kernel
theorem dX11_often_18 : decode cX11_often 18 = .ok (.sipush 200, 3) := by decide +kernel
theorem dX11_often_21 : decode cX11_often 21 = .ok (.if_icmp .le 6, 3) := by decide +kernel
theorem dX11_often_24 : decode cX11_often 24 = .ok (.bipush (-2), 2) := by decide +kernel
theorem dX11_often_26 : decode cX11_often 26 = .ok (.ireturn, 1) := by decide +kernel
theorem dX11_often_27 : decode cX11_often 27 = .ok (.aload_n 0, 1) := by decide +kernel
theorem dX11_often_28 : decode cX11_often 28 = .ok (.getfield 39, 3) := by decide +kernel
theorem dX11_often_31 : decode cX11_often 31 = .ok (.iload_n 1, 1) := by decide +kernel
theorem dX11_often_32 : decode cX11_often 32 = .ok (.iload_n 2, 1) := by decide +kernel
theorem dX11_often_33 : decode cX11_often 33 = .ok (.iload_n 3, 1) := by decide +kernel
theorem dX11_often_34 : decode cX11_often 34 = .ok (.invokevirtual 230, 3) := by decide +kernel
theorem dX11_often_37 : decode cX11_often 37 = .ok (.ireturn, 1) := by decide +kernel
theorem dX11_forced_0 : decode cX11_forced 0 = .ok (.aload_n 0, 1) := by decide +kernel
theorem dX11_forced_1 : decode cX11_forced 1 = .ok (.getfield 21, 3) := by decide +kernel
theorem dX11_forced_4 : decode cX11_forced 4 = .ok (.iload_n 1, 1) := by decide +kernel
theorem dX11_forced_5 : decode cX11_forced 5 = .ok (.iload_n 2, 1) := by decide +kernel
theorem dX11_forced_6 : decode cX11_forced 6 = .ok (.invokevirtual 162, 3) := by decide +kernel
theorem dX11_forced_9 : decode cX11_forced 9 = .ok (.ifCond .ne 7, 3) := by decide +kernel
theorem dX11_forced_12 : decode cX11_forced 12 = .ok (.ldc2_w 170, 3) := by decide +kernel
theorem dX11_forced_15 : decode cX11_forced 15 = .ok (.lreturn, 1) := by decide +kernel
theorem dX11_forced_16 : decode cX11_forced 16 = .ok (.aload_n 0, 1) := by decide +kernel
theorem dX11_forced_17 : decode cX11_forced 17 = .ok (.iload_n 1, 1) := by decide +kernel
theorem dX11_forced_18 : decode cX11_forced 18 = .ok (.iload_n 2, 1) := by decide +kernel
theorem dX11_forced_19 : decode cX11_forced 19 = .ok (.invokevirtual 234, 3) := by decide +kernel
theorem dX11_forced_22 : decode cX11_forced 22 = .ok (.aload_n 0, 1) := by decide +kernel
theorem dX11_forced_23 : decode cX11_forced 23 = .ok (.getfield 46, 3) := by decide +kernel
theorem dX11_forced_26 : decode cX11_forced 26 = .ok (.invokevirtual 238, 3) := by decide +kernel
theorem dX11_forced_29 : decode cX11_forced 29 = .ok (.lreturn, 1) := by decide +kernel
theorem dX11_without_0 : decode cX11_without 0 = .ok (.aload_n 0, 1) := by decide +kernel
theorem dX11_without_1 : decode cX11_without 1 = .ok (.getfield 21, 3) := by decide +kernel
theorem dX11_without_4 : decode cX11_without 4 = .ok (.iload_n 1, 1) := by decide +kernel
theorem dX11_without_5 : decode cX11_without 5 = .ok (.iload_n 2, 1) := by decide +kernel
theorem dX11_without_6 : decode cX11_without 6 = .ok (.invokevirtual 162, 3) := by decide +kernel
theorem dX11_without_9 : decode cX11_without 9 = .ok (.ifCond .ne 7, 3) := by decide +kernel
theorem dX11_without_12 : decode cX11_without 12 = .ok (.ldc2_w 170, 3) := by decide +kernel
theorem dX11_without_15 : decode cX11_without 15 = .ok (.lreturn, 1) := by decide +kernel
theorem dX11_without_16 : decode cX11_without 16 = .ok (.aload_n 0, 1) := by decide +kernel
theorem dX11_without_17 : decode cX11_without 17 = .ok (.iload_n 1, 1) := by decide +kernel
theorem dX11_without_18 : decode cX11_without 18 = .ok (.iload_n 2, 1) := by decide +kernel
theorem dX11_without_19 : decode cX11_without 19 = .ok (.ldc2_w 242, 3) := by decide +kernel
theorem dX11_without_22 : decode cX11_without 22 = .ok (.invokevirtual 244, 3) := by decide +kernel
theorem dX11_without_25 : decode cX11_without 25 = .ok (.aload_n 0, 1) := by decide +kernel
theorem dX11_without_26 : decode cX11_without 26 = .ok (.getfield 46, 3) := by decide +kernel
theorem dX11_without_29 : decode cX11_without 29 = .ok (.invokevirtual 238, 3) := by decide +kernel
theorem dX11_without_32 : decode cX11_without 32 = .ok (.lreturn, 1) := by decide +kernel
theorem dX11_stays_0 : decode cX11_stays 0 = .ok (.aload_n 0, 1) := by decide +kernel
theorem dX11_stays_1 : decode cX11_stays 1 = .ok (.getfield 21, 3) := by decide +kernel
theorem dX11_stays_4 : decode cX11_stays 4 = .ok (.iload_n 1, 1) := by decide +kernel
theorem dX11_stays_5 : decode cX11_stays 5 = .ok (.iload_n 2, 1) := by decide +kernel
theorem dX11_stays_6 : decode cX11_stays 6 = .ok (.invokevirtual 162, 3) := by decide +kernel
theorem dX11_stays_9 : decode cX11_stays 9 = .ok (.ifCond .eq 33, 3) := by decide +kernel
theorem dX11_stays_12 : decode cX11_stays 12 = .ok (.aload_n 0, 1) := by decide +kernel
theorem dX11_stays_13 : decode cX11_stays 13 = .ok (.getfield 21, 3) := by decide +kernel
theorem dX11_stays_16 : decode cX11_stays 16 = .ok (.iload_n 1, 1) := by decide +kernel
theorem dX11_stays_17 : decode cX11_stays 17 = .ok (.iload_n 2, 1) := by decide +kernel
theorem dX11_stays_18 : decode cX11_stays 18 = .ok (.invokevirtual 166, 3) := by decide +kernel
theorem dX11_stays_21 : decode cX11_stays 21 = .ok (.ldc2_w 242, 3) := by decide +kernel
theorem dX11_stays_24 : decode cX11_stays 24 = .ok (.lcmp, 1) := by decide +kernel
theorem dX11_stays_25 : decode cX11_stays 25 = .ok (.ifCond .eq 17, 3) := by decide +kernel
theorem dX11_stays_28 : decode cX11_stays 28 = .ok (.aload_n 0, 1) := by decide +kernel
theorem dX11_stays_29 : decode cX11_stays 29 = .ok (.getfield 30, 3) := by decide +kernel
theorem dX11_stays_32 : decode cX11_stays 32 = .ok (.aload_n 0, 1) := by decide +kernel
theorem dX11_stays_33 : decode cX11_stays 33 = .ok (.getfield 102, 3) := by decide +kernel
theorem dX11_stays_36 : decode cX11_stays 36 = .ok (.invokevirtual 248, 3) := by decide +kernel
theorem dX11_stays_39 : decode cX11_stays 39 = .ok (.ifCond .ne 7, 3) := by decide +kernel
theorem dX11_stays_42 : decode cX11_stays 42 = .ok (.ldc2_w 170, 3) := by decide +kernel
theorem dX11_stays_45 : decode cX11_stays 45 = .ok (.lreturn, 1) := by decide +kernel
theorem dX11_stays_46 : decode cX11_stays 46 = .ok (.aload_n 0, 1) := by decide +kernel
theorem dX11_stays_47 : decode cX11_stays 47 = .ok (.getfield 102, 3) := by decide +kernel
theorem dX11_stays_50 : decode cX11_stays 50 = .ok (.iload_n 1, 1) := by decide +kernel
theorem dX11_stays_51 : decode cX11_stays 51 = .ok (.iaload, 1) := by decide +kernel
theorem dX11_stays_52 : decode cX11_stays 52 = .ok (.iload_n 2, 1) := by decide +kernel
theorem dX11_stays_53 : decode cX11_stays 53 = .ok (.if_icmp .ne 7, 3) := by decide +kernel
theorem dX11_stays_56 : decode cX11_stays 56 = .ok (.iconst 1, 1) := by decide +kernel
theorem dX11_stays_57 : decode cX11_stays 57 = .ok (.goto 4, 3) := by decide +kernel
theorem dX11_stays_60 : decode cX11_stays 60 = .ok (.iconst 0, 1) := by decide +kernel
theorem dX11_stays_61 : decode cX11_stays 61 = .ok (.istore 4, 2) := by decide +kernel
theorem dX11_stays_63 : decode cX11_stays 63 = .ok (.iload_n 3, 1) := by decide +kernel
theorem dX11_stays_64 : decode cX11_stays 64 = .ok (.iload 4, 2) := by decide +kernel
theorem dX11_stays_66 : decode cX11_stays 66 = .ok (.ifCond .eq 7, 3) := by decide +kernel
theorem dX11_stays_69 : decode cX11_stays 69 = .ok (.iconst 1, 1) := by decide +kernel
theorem dX11_stays_70 : decode cX11_stays 70 = .ok (.goto 4, 3) := by decide +kernel
theorem dX11_stays_73 : decode cX11_stays 73 = .ok (.iconst 0, 1) := by decide +kernel
theorem dX11_stays_74 : decode cX11_stays 74 = .ok (.if_icmp .eq 7, 3) := by decide +kernel
theorem dX11_stays_77 : decode cX11_stays 77 = .ok (.ldc2_w 170, 3) := by decide +kernel
theorem dX11_stays_80 : decode cX11_stays 80 = .ok (.lreturn, 1) := by decide +kernel
theorem dX11_stays_81 : decode cX11_stays 81 = .ok (.iload 4, 2) := by decide +kernel
theorem dX11_stays_83 : decode cX11_stays 83 = .ok (.ifCond .eq 12, 3) := by decide +kernel
theorem dX11_stays_86 : decode cX11_stays 86 = .ok (.aload_n 0, 1) := by decide +kernel
theorem dX11_stays_87 : decode cX11_stays 87 = .ok (.iload_n 1, 1) := by decide +kernel
theorem dX11_stays_88 : decode cX11_stays 88 = .ok (.iload_n 2, 1) := by decide +kernel
theorem dX11_stays_89 : decode cX11_stays 89 = .ok (.invokevirtual 252, 3) := by decide +kernel
theorem dX11_stays_92 : decode cX11_stays 92 = .ok (.goto 9, 3) := by decide +kernel
theorem dX11_stays_95 : decode cX11_stays 95 = .ok (.aload_n 0, 1) := by decide +kernel
theorem dX11_stays_96 : decode cX11_stays 96 = .ok (.iload_n 1, 1) := by decide +kernel
theorem dX11_stays_97 : decode cX11_stays 97 = .ok (.iload_n 2, 1) := by decide +kernel
theorem dX11_stays_98 : decode cX11_stays 98 = .ok (.invokevirtual 255, 3) := by decide +kernel
theorem dX11_stays_101 : decode cX11_stays 101 = .ok (.lstore 5, 2) := by decide +kernel
theorem dX11_stays_103 : decode cX11_stays 103 = .ok (.lload 5, 2) := by decide +kernel
theorem dX11_stays_105 : decode cX11_stays 105 = .ok (.ldc2_w 170, 3) := by decide +kernel
theorem dX11_stays_108 : decode cX11_stays 108 = .ok (.lcmp, 1) := by decide +kernel
theorem dX11_stays_109 : decode cX11_stays 109 = .ok (.ifCond .ne 7, 3) := by decide +kernel
theorem dX11_stays_112 : decode cX11_stays 112 = .ok (.ldc2_w 170, 3) := by decide +kernel
theorem dX11_stays_115 : decode cX11_stays 115 = .ok (.lreturn, 1) := by decide +kernel
theorem dX11_stays_116 : decode cX11_stays 116 = .ok (.lload 5, 2) := by decide +kernel
theorem dX11_stays_118 : decode cX11_stays 118 = .ok (.aload_n 0, 1) := by decide +kernel
theorem dX11_stays_119 : decode cX11_stays 119 = .ok (.getfield 30, 3) := by decide +kernel
theorem dX11_stays_122 : decode cX11_stays 122 = .ok (.invokevirtual 238, 3) := by decide +kernel
theorem dX11_stays_125 : decode cX11_stays 125 = .ok (.lsub, 1) := by decide +kernel
theorem dX11_stays_126 : decode cX11_stays 126 = .ok (.lstore 7, 2) := by decide +kernel
theorem dX11_stays_128 : decode cX11_stays 128 = .ok (.aload_n 0, 1) := by decide +kernel
theorem dX11_stays_129 : decode cX11_stays 129 = .ok (.getfield 21, 3) := by decide +kernel
theorem dX11_stays_132 : decode cX11_stays 132 = .ok (.iload_n 1, 1) := by decide +kernel
theorem dX11_stays_133 : decode cX11_stays 133 = .ok (.iload_n 2, 1) := by decide +kernel
theorem dX11_stays_134 : decode cX11_stays 134 = .ok (.invokevirtual 166, 3) := by decide +kernel
theorem dX11_stays_137 : decode cX11_stays 137 = .ok (.iload 4, 2) := by decide +kernel
theorem dX11_stays_139 : decode cX11_stays 139 = .ok (.ifCond .eq 8, 3) := by decide +kernel
theorem dX11_stays_142 : decode cX11_stays 142 = .ok (.lload 7, 2) := by decide +kernel
theorem dX11_stays_144 : decode cX11_stays 144 = .ok (.goto 6, 3) := by decide +kernel
theorem dX11_stays_147 : decode cX11_stays 147 = .ok (.lload 7, 2) := by decide +kernel
theorem dX11_stays_149 : decode cX11_stays 149 = .ok (.lneg, 1) := by decide +kernel
theorem dX11_stays_150 : decode cX11_stays 150 = .ok (.ladd, 1) := by decide +kernel
theorem dX11_stays_151 : decode cX11_stays 151 = .ok (.lreturn, 1) := by decide +kernel
theorem dX11_would_0 : decode cX11_would 0 = .ok (.aload_n 0, 1) := by decide +kernel
theorem dX11_would_1 : decode cX11_would 1 = .ok (.getfield 21, 3) := by decide +kernel
theorem dX11_would_4 : decode cX11_would 4 = .ok (.iload_n 1, 1) := by decide +kernel
theorem dX11_would_5 : decode cX11_would 5 = .ok (.iload_n 2, 1) := by decide +kernel
theorem dX11_would_6 : decode cX11_would 6 = .ok (.invokevirtual 162, 3) := by decide +kernel
theorem dX11_would_9 : decode cX11_would 9 = .ok (.ifCond .eq 11, 3) := by decide +kernel
theorem dX11_would_12 : decode cX11_would 12 = .ok (.iload_n 3, 1) := by decide +kernel
theorem dX11_would_13 : decode cX11_would 13 = .ok (.i2l, 1) := by decide +kernel
theorem dX11_would_14 : decode cX11_would 14 = .ok (.invokestatic 258, 3) := by decide +kernel
theorem dX11_would_17 : decode cX11_would 17 = .ok (.ifCond .ne 7, 3) := by decide +kernel
theorem dX11_would_20 : decode cX11_would 20 = .ok (.ldc2_w 170, 3) := by decide +kernel
theorem dX11_would_23 : decode cX11_would 23 = .ok (.lreturn, 1) := by decide +kernel
theorem dX11_would_24 : decode cX11_would 24 = .ok (.aload_n 0, 1) := by decide +kernel
theorem dX11_would_25 : decode cX11_would 25 = .ok (.iload_n 1, 1) := by decide +kernel
theorem dX11_would_26 : decode cX11_would 26 = .ok (.iload_n 2, 1) := by decide +kernel
theorem dX11_would_27 : decode cX11_would 27 = .ok (.iload_n 3, 1) := by decide +kernel
theorem dX11_would_28 : decode cX11_would 28 = .ok (.i2l, 1) := by decide +kernel
theorem dX11_would_29 : decode cX11_would 29 = .ok (.invokevirtual 244, 3) := by decide +kernel
theorem dX11_would_32 : decode cX11_would 32 = .ok (.aload_n 0, 1) := by decide +kernel
theorem dX11_would_33 : decode cX11_would 33 = .ok (.getfield 46, 3) := by decide +kernel
theorem dX11_would_36 : decode cX11_would 36 = .ok (.invokevirtual 238, 3) := by decide +kernel
theorem dX11_would_39 : decode cX11_would 39 = .ok (.lreturn, 1) := by decide +kernel
theorem dX11_ever_0 : decode cX11_ever 0 = .ok (.aload_n 0, 1) := by decide +kernel
theorem dX11_ever_1 : decode cX11_ever 1 = .ok (.getfield 21, 3) := by decide +kernel
theorem dX11_ever_4 : decode cX11_ever 4 = .ok (.iload_n 1, 1) := by decide +kernel
theorem dX11_ever_5 : decode cX11_ever 5 = .ok (.invokevirtual 179, 3) := by decide +kernel
theorem dX11_ever_8 : decode cX11_ever 8 = .ok (.ifCond .ne 6, 3) := by decide +kernel
theorem dX11_ever_11 : decode cX11_ever 11 = .ok (.bipush (-2), 2) := by decide +kernel
theorem dX11_ever_13 : decode cX11_ever 13 = .ok (.ireturn, 1) := by decide +kernel
theorem dX11_ever_14 : decode cX11_ever 14 = .ok (.aload_n 0, 1) := by decide +kernel
theorem dX11_ever_15 : decode cX11_ever 15 = .ok (.getfield 30, 3) := by decide +kernel
theorem dX11_ever_18 : decode cX11_ever 18 = .ok (.invokevirtual 238, 3) := by decide +kernel
theorem dX11_ever_21 : decode cX11_ever 21 = .ok (.lstore_n 2, 1) := by decide +kernel
theorem dX11_ever_22 : decode cX11_ever 22 = .ok (.iconst 0, 1) := by decide +kernel
theorem dX11_ever_23 : decode cX11_ever 23 = .ok (.istore 4, 2) := by decide +kernel
theorem dX11_ever_25 : decode cX11_ever 25 = .ok (.iconst 0, 1) := by decide +kernel
theorem dX11_ever_26 : decode cX11_ever 26 = .ok (.istore 5, 2) := by decide +kernel
theorem dX11_ever_28 : decode cX11_ever 28 = .ok (.iload 5, 2) := by decide +kernel
theorem dX11_ever_30 : decode cX11_ever 30 = .ok (.aload_n 0, 1) := by decide +kernel
theorem dX11_ever_31 : decode cX11_ever 31 = .ok (.getfield 21, 3) := by decide +kernel
theorem dX11_ever_34 : decode cX11_ever 34 = .ok (.getfield 149, 3) := by decide +kernel
theorem dX11_ever_37 : decode cX11_ever 37 = .ok (.if_icmp .ge 38, 3) := by decide +kernel
theorem dX11_ever_40 : decode cX11_ever 40 = .ok (.lload_n 2, 1) := by decide +kernel
theorem dX11_ever_41 : decode cX11_ever 41 = .ok (.ldc2_w 170, 3) := by decide +kernel
theorem dX11_ever_44 : decode cX11_ever 44 = .ok (.lcmp, 1) := by decide +kernel
theorem dX11_ever_45 : decode cX11_ever 45 = .ok (.ifCond .eq 30, 3) := by decide +kernel
theorem dX11_ever_48 : decode cX11_ever 48 = .ok (.aload_n 0, 1) := by decide +kernel
theorem dX11_ever_49 : decode cX11_ever 49 = .ok (.iload_n 1, 1) := by decide +kernel
theorem dX11_ever_50 : decode cX11_ever 50 = .ok (.iload 5, 2) := by decide +kernel
theorem dX11_ever_52 : decode cX11_ever 52 = .ok (.invokevirtual 255, 3) := by decide +kernel
theorem dX11_ever_55 : decode cX11_ever 55 = .ok (.lload_n 2, 1) := by decide +kernel
theorem dX11_ever_56 : decode cX11_ever 56 = .ok (.lcmp, 1) := by decide +kernel
theorem dX11_ever_57 : decode cX11_ever 57 = .ok (.ifCond .ne 12, 3) := by decide +kernel
theorem dX11_ever_60 : decode cX11_ever 60 = .ok (.iload 4, 2) := by decide +kernel
theorem dX11_ever_62 : decode cX11_ever 62 = .ok (.iconst 1, 1) := by decide +kernel
theorem dX11_ever_63 : decode cX11_ever 63 = .ok (.iload 5, 2) := by decide +kernel
theorem dX11_ever_65 : decode cX11_ever 65 = .ok (.ishl, 1) := by decide +kernel
theorem dX11_ever_66 : decode cX11_ever 66 = .ok (.ior, 1) := by decide +kernel
theorem dX11_ever_67 : decode cX11_ever 67 = .ok (.istore 4, 2) := by decide +kernel
theorem dX11_ever_69 : decode cX11_ever 69 = .ok (.iinc 5 1, 3) := by decide +kernel
theorem dX11_ever_72 : decode cX11_ever 72 = .ok (.goto (-44), 3) := by decide +kernel
theorem dX11_ever_75 : decode cX11_ever 75 = .ok (.iload 4, 2) := by decide +kernel
theorem dX11_ever_77 : decode cX11_ever 77 = .ok (.ireturn, 1) := by decide +kernel
theorem dX11_only_0 : decode cX11_only 0 = .ok (.iload_n 1, 1) := by decide +kernel
theorem dX11_only_1 : decode cX11_only 1 = .ok (.ifCond .lt 16, 3) := by decide +kernel
theorem dX11_only_4 : decode cX11_only 4 = .ok (.iload_n 1, 1) := by decide +kernel
theorem dX11_only_5 : decode cX11_only 5 = .ok (.iconst 1, 1) := by decide +kernel
theorem dX11_only_6 : decode cX11_only 6 = .ok (.aload_n 0, 1) := by decide +kernel
theorem dX11_only_7 : decode cX11_only 7 = .ok (.getfield 21, 3) := by decide +kernel
theorem dX11_only_10 : decode cX11_only 10 = .ok (.getfield 149, 3) := by decide +kernel
theorem dX11_only_13 : decode cX11_only 13 = .ok (.ishl, 1) := by decide +kernel
theorem dX11_only_14 : decode cX11_only 14 = .ok (.if_icmp .lt 7, 3) := by decide +kernel
theorem dX11_only_17 : decode cX11_only 17 = .ok (.ldc2_w 170, 3) := by decide +kernel
theorem dX11_only_20 : decode cX11_only 20 = .ok (.lreturn, 1) := by decide +kernel
theorem dX11_only_21 : decode cX11_only 21 = .ok (.aload_n 0, 1) := by decide +kernel
theorem dX11_only_22 : decode cX11_only 22 = .ok (.getfield 43, 3) := by decide +kernel
theorem dX11_only_25 : decode cX11_only 25 = .ok (.aload_n 0, 1) := by decide +kernel
theorem dX11_only_26 : decode cX11_only 26 = .ok (.getfield 21, 3) := by decide +kernel
theorem dX11_only_29 : decode cX11_only 29 = .ok (.invokevirtual 131, 3) := by decide +kernel
theorem dX11_only_32 : decode cX11_only 32 = .ok (.iconst 0, 1) := by decide +kernel
theorem dX11_only_33 : decode cX11_only 33 = .ok (.istore_n 2, 1) := by decide +kernel
theorem dX11_only_34 : decode cX11_only 34 = .ok (.iload_n 2, 1) := by decide +kernel
theorem dX11_only_35 : decode cX11_only 35 = .ok (.aload_n 0, 1) := by decide +kernel
theorem dX11_only_36 : decode cX11_only 36 = .ok (.getfield 21, 3) := by decide +kernel
theorem dX11_only_39 : decode cX11_only 39 = .ok (.getfield 149, 3) := by decide +kernel
theorem dX11_only_42 : decode cX11_only 42 = .ok (.if_icmp .ge 25, 3) := by decide +kernel
theorem dX11_only_45 : decode cX11_only 45 = .ok (.iload_n 1, 1) := by decide +kernel
theorem dX11_only_46 : decode cX11_only 46 = .ok (.iload_n 2, 1) := by decide +kernel
theorem dX11_only_47 : decode cX11_only 47 = .ok (.ishr, 1) := by decide +kernel
theorem dX11_only_48 : decode cX11_only 48 = .ok (.iconst 1, 1) := by decide +kernel
theorem dX11_only_49 : decode cX11_only 49 = .ok (.iand, 1) := by decide +kernel
theorem dX11_only_50 : decode cX11_only 50 = .ok (.ifCond .ne 11, 3) := by decide +kernel
theorem dX11_only_53 : decode cX11_only 53 = .ok (.aload_n 0, 1) := by decide +kernel
theorem dX11_only_54 : decode cX11_only 54 = .ok (.getfield 43, 3) := by decide +kernel
theorem dX11_only_57 : decode cX11_only 57 = .ok (.iload_n 2, 1) := by decide +kernel
theorem dX11_only_58 : decode cX11_only 58 = .ok (.invokevirtual 262, 3) := by decide +kernel
theorem dX11_only_61 : decode cX11_only 61 = .ok (.iinc 2 1, 3) := by decide +kernel
theorem dX11_only_64 : decode cX11_only 64 = .ok (.goto (-30), 3) := by decide +kernel
theorem dX11_only_67 : decode cX11_only 67 = .ok (.aload_n 0, 1) := by decide +kernel
theorem dX11_only_68 : decode cX11_only 68 = .ok (.getfield 46, 3) := by decide +kernel
theorem dX11_only_71 : decode cX11_only 71 = .ok (.invokevirtual 109, 3) := by decide +kernel
theorem dX11_only_74 : decode cX11_only 74 = .ok (.aload_n 0, 1) := by decide +kernel
theorem dX11_only_75 : decode cX11_only 75 = .ok (.getfield 46, 3) := by decide +kernel
theorem dX11_only_78 : decode cX11_only 78 = .ok (.invokevirtual 238, 3) := by decide +kernel
theorem dX11_only_81 : decode cX11_only 81 = .ok (.lreturn, 1) := by decide +kernel
theorem dX11_blocked_0 : decode cX11_blocked 0 = .ok (.iconst 1, 1) := by decide +kernel
theorem dX11_blocked_1 : decode cX11_blocked 1 = .ok (.aload_n 0, 1) := by decide +kernel
theorem dX11_blocked_2 : decode cX11_blocked 2 = .ok (.getfield 21, 3) := by decide +kernel
theorem dX11_blocked_5 : decode cX11_blocked 5 = .ok (.getfield 140, 3) := by decide +kernel
theorem dX11_blocked_8 : decode cX11_blocked 8 = .ok (.ishl, 1) := by decide +kernel
theorem dX11_blocked_9 : decode cX11_blocked 9 = .ok (.istore_n 1, 1) := by decide +kernel
theorem dX11_blocked_10 : decode cX11_blocked 10 = .ok (.iconst 1, 1) := by decide +kernel
theorem dX11_blocked_11 : decode cX11_blocked 11 = .ok (.istore_n 2, 1) := by decide +kernel
theorem dX11_blocked_12 : decode cX11_blocked 12 = .ok (.iload_n 2, 1) := by decide +kernel
theorem dX11_blocked_13 : decode cX11_blocked 13 = .ok (.iload_n 1, 1) := by decide +kernel
theorem dX11_blocked_14 : decode cX11_blocked 14 = .ok (.if_icmp .ge 29, 3) := by decide +kernel
theorem dX11_blocked_17 : decode cX11_blocked 17 = .ok (.aload_n 0, 1) := by decide +kernel
theorem dX11_blocked_18 : decode cX11_blocked 18 = .ok (.getfield 21, 3) := by decide +kernel
theorem dX11_blocked_21 : decode cX11_blocked 21 = .ok (.iload_n 2, 1) := by decide +kernel
theorem dX11_blocked_22 : decode cX11_blocked 22 = .ok (.invokevirtual 265, 3) := by decide +kernel
theorem dX11_blocked_25 : decode cX11_blocked 25 = .ok (.invokestatic 269, 3) := by decide +kernel
theorem dX11_blocked_28 : decode cX11_blocked 28 = .ok (.iload_n 2, 1) := by decide +kernel
theorem dX11_blocked_29 : decode cX11_blocked 29 = .ok (.invokestatic 269, 3) := by decide +kernel
theorem dX11_blocked_32 : decode cX11_blocked 32 = .ok (.if_icmp .ge 5, 3) := by decide +kernel
theorem dX11_blocked_35 : decode cX11_blocked 35 = .ok (.iload_n 2, 1) := by decide +kernel
theorem dX11_blocked_36 : decode cX11_blocked 36 = .ok (.ireturn, 1) := by decide +kernel
theorem dX11_blocked_37 : decode cX11_blocked 37 = .ok (.iinc 2 1, 3) := by decide +kernel
theorem dX11_blocked_40 : decode cX11_blocked 40 = .ok (.goto (-28), 3) := by decide +kernel
theorem dX11_blocked_43 : decode cX11_blocked 43 = .ok (.iconst 0, 1) := by decide +kernel
theorem dX11_blocked_44 : decode cX11_blocked 44 = .ok (.ireturn, 1) := by decide +kernel
theorem dX11_price_0 : decode cX11_price 0 = .ok (.aload_n 0, 1) := by decide +kernel
theorem dX11_price_1 : decode cX11_price 1 = .ok (.getfield 21, 3) := by decide +kernel
theorem dX11_price_4 : decode cX11_price 4 = .ok (.iload_n 1, 1) := by decide +kernel
theorem dX11_price_5 : decode cX11_price 5 = .ok (.invokevirtual 274, 3) := by decide +kernel
theorem dX11_price_8 : decode cX11_price 8 = .ok (.ifCond .ne 7, 3) := by decide +kernel
theorem dX11_price_11 : decode cX11_price 11 = .ok (.ldc2_w 170, 3) := by decide +kernel
theorem dX11_price_14 : decode cX11_price 14 = .ok (.lreturn, 1) := by decide +kernel
theorem dX11_price_15 : decode cX11_price 15 = .ok (.aload_n 0, 1) := by decide +kernel
theorem dX11_price_16 : decode cX11_price 16 = .ok (.getfield 43, 3) := by decide +kernel
theorem dX11_price_19 : decode cX11_price 19 = .ok (.aload_n 0, 1) := by decide +kernel
theorem dX11_price_20 : decode cX11_price 20 = .ok (.getfield 21, 3) := by decide +kernel
theorem dX11_price_23 : decode cX11_price 23 = .ok (.invokevirtual 131, 3) := by decide +kernel
theorem dX11_price_26 : decode cX11_price 26 = .ok (.aload_n 0, 1) := by decide +kernel
theorem dX11_price_27 : decode cX11_price 27 = .ok (.getfield 43, 3) := by decide +kernel
theorem dX11_price_30 : decode cX11_price 30 = .ok (.iload_n 1, 1) := by decide +kernel
theorem dX11_price_31 : decode cX11_price 31 = .ok (.invokevirtual 262, 3) := by decide +kernel
theorem dX11_price_34 : decode cX11_price 34 = .ok (.aload_n 0, 1) := by decide +kernel
theorem dX11_price_35 : decode cX11_price 35 = .ok (.getfield 46, 3) := by decide +kernel
theorem dX11_price_38 : decode cX11_price 38 = .ok (.invokevirtual 109, 3) := by decide +kernel
theorem dX11_price_41 : decode cX11_price 41 = .ok (.aload_n 0, 1) := by decide +kernel
theorem dX11_price_42 : decode cX11_price 42 = .ok (.getfield 46, 3) := by decide +kernel
theorem dX11_price_45 : decode cX11_price 45 = .ok (.invokevirtual 238, 3) := by decide +kernel
theorem dX11_price_48 : decode cX11_price 48 = .ok (.aload_n 0, 1) := by decide +kernel
theorem dX11_price_49 : decode cX11_price 49 = .ok (.getfield 30, 3) := by decide +kernel
theorem dX11_price_52 : decode cX11_price 52 = .ok (.invokevirtual 238, 3) := by decide +kernel
theorem dX11_price_55 : decode cX11_price 55 = .ok (.invokestatic 277, 3) := by decide +kernel
theorem dX11_price_58 : decode cX11_price 58 = .ok (.lreturn, 1) := by decide +kernel
theorem dX11_pay_0 : decode cX11_pay 0 = .ok (.aload_n 0, 1) := by decide +kernel
theorem dX11_pay_1 : decode cX11_pay 1 = .ok (.getfield 21, 3) := by decide +kernel
theorem dX11_pay_4 : decode cX11_pay 4 = .ok (.iload_n 1, 1) := by decide +kernel
theorem dX11_pay_5 : decode cX11_pay 5 = .ok (.invokevirtual 179, 3) := by decide +kernel
theorem dX11_pay_8 : decode cX11_pay 8 = .ok (.ifCond .eq 17, 3) := by decide +kernel
theorem dX11_pay_11 : decode cX11_pay 11 = .ok (.aload_n 0, 1) := by decide +kernel
theorem dX11_pay_12 : decode cX11_pay 12 = .ok (.getfield 30, 3) := by decide +kernel
theorem dX11_pay_15 : decode cX11_pay 15 = .ok (.aload_n 0, 1) := by decide +kernel
theorem dX11_pay_16 : decode cX11_pay 16 = .ok (.getfield 102, 3) := by decide +kernel
theorem dX11_pay_19 : decode cX11_pay 19 = .ok (.invokevirtual 248, 3) := by decide +kernel
theorem dX11_pay_22 : decode cX11_pay 22 = .ok (.ifCond .ne 7, 3) := by decide +kernel
theorem dX11_pay_25 : decode cX11_pay 25 = .ok (.ldc2_w 170, 3) := by decide +kernel
theorem dX11_pay_28 : decode cX11_pay 28 = .ok (.lreturn, 1) := by decide +kernel
theorem dX11_pay_29 : decode cX11_pay 29 = .ok (.aload_n 0, 1) := by decide +kernel
theorem dX11_pay_30 : decode cX11_pay 30 = .ok (.getfield 43, 3) := by decide +kernel
theorem dX11_pay_33 : decode cX11_pay 33 = .ok (.aload_n 0, 1) := by decide +kernel
theorem dX11_pay_34 : decode cX11_pay 34 = .ok (.getfield 21, 3) := by decide +kernel
theorem dX11_pay_37 : decode cX11_pay 37 = .ok (.invokevirtual 131, 3) := by decide +kernel
theorem dX11_pay_40 : decode cX11_pay 40 = .ok (.aload_n 0, 1) := by decide +kernel
theorem dX11_pay_41 : decode cX11_pay 41 = .ok (.getfield 43, 3) := by decide +kernel
theorem dX11_pay_44 : decode cX11_pay 44 = .ok (.iload_n 1, 1) := by decide +kernel
theorem dX11_pay_45 : decode cX11_pay 45 = .ok (.invokevirtual 281, 3) := by decide +kernel
theorem dX11_pay_48 : decode cX11_pay 48 = .ok (.aload_n 0, 1) := by decide +kernel
theorem dX11_pay_49 : decode cX11_pay 49 = .ok (.getfield 46, 3) := by decide +kernel
theorem dX11_pay_52 : decode cX11_pay 52 = .ok (.invokevirtual 109, 3) := by decide +kernel
theorem dX11_pay_55 : decode cX11_pay 55 = .ok (.aload_n 0, 1) := by decide +kernel
theorem dX11_pay_56 : decode cX11_pay 56 = .ok (.getfield 46, 3) := by decide +kernel
theorem dX11_pay_59 : decode cX11_pay 59 = .ok (.invokevirtual 238, 3) := by decide +kernel
theorem dX11_pay_62 : decode cX11_pay 62 = .ok (.lstore_n 2, 1) := by decide +kernel
theorem dX11_pay_63 : decode cX11_pay 63 = .ok (.aload_n 0, 1) := by decide +kernel
theorem dX11_pay_64 : decode cX11_pay 64 = .ok (.getfield 43, 3) := by decide +kernel
theorem dX11_pay_67 : decode cX11_pay 67 = .ok (.aload_n 0, 1) := by decide +kernel
theorem dX11_pay_68 : decode cX11_pay 68 = .ok (.getfield 102, 3) := by decide +kernel
theorem dX11_pay_71 : decode cX11_pay 71 = .ok (.iload_n 1, 1) := by decide +kernel
theorem dX11_pay_72 : decode cX11_pay 72 = .ok (.iaload, 1) := by decide +kernel
theorem dX11_pay_73 : decode cX11_pay 73 = .ok (.invokevirtual 262, 3) := by decide +kernel
theorem dX11_pay_76 : decode cX11_pay 76 = .ok (.aload_n 0, 1) := by decide +kernel
theorem dX11_pay_77 : decode cX11_pay 77 = .ok (.getfield 46, 3) := by decide +kernel
theorem dX11_pay_80 : decode cX11_pay 80 = .ok (.invokevirtual 109, 3) := by decide +kernel
theorem dX11_pay_83 : decode cX11_pay 83 = .ok (.aload_n 0, 1) := by decide +kernel
theorem dX11_pay_84 : decode cX11_pay 84 = .ok (.getfield 46, 3) := by decide +kernel
theorem dX11_pay_87 : decode cX11_pay 87 = .ok (.invokevirtual 238, 3) := by decide +kernel
theorem dX11_pay_90 : decode cX11_pay 90 = .ok (.lload_n 2, 1) := by decide +kernel
theorem dX11_pay_91 : decode cX11_pay 91 = .ok (.invokestatic 277, 3) := by decide +kernel
theorem dX11_pay_94 : decode cX11_pay 94 = .ok (.lreturn, 1) := by decide +kernel
theorem dX11_first_0 : decode cX11_first 0 = .ok (.iload_n 1, 1) := by decide +kernel
theorem dX11_first_1 : decode cX11_first 1 = .ok (.invokestatic 284, 3) := by decide +kernel
theorem dX11_first_4 : decode cX11_first 4 = .ok (.ifCond .eq 24, 3) := by decide +kernel
theorem dX11_first_7 : decode cX11_first 7 = .ok (.iload_n 3, 1) := by decide +kernel
theorem dX11_first_8 : decode cX11_first 8 = .ok (.ifCond .lt 20, 3) := by decide +kernel
theorem dX11_first_11 : decode cX11_first 11 = .ok (.iload_n 3, 1) := by decide +kernel
theorem dX11_first_12 : decode cX11_first 12 = .ok (.iconst 1, 1) := by decide +kernel
theorem dX11_first_13 : decode cX11_first 13 = .ok (.if_icmp .gt 15, 3) := by decide +kernel
theorem dX11_first_16 : decode cX11_first 16 = .ok (.aload_n 0, 1) := by decide +kernel
theorem dX11_first_17 : decode cX11_first 17 = .ok (.getfield 70, 3) := by decide +kernel
theorem dX11_first_20 : decode cX11_first 20 = .ok (.iload_n 1, 1) := by decide +kernel
theorem dX11_first_21 : decode cX11_first 21 = .ok (.iload_n 2, 1) := by decide +kernel
theorem dX11_first_22 : decode cX11_first 22 = .ok (.invokevirtual 287, 3) := by decide +kernel
theorem dX11_first_25 : decode cX11_first 25 = .ok (.ifCond .ne 7, 3) := by decide +kernel
theorem dX11_first_28 : decode cX11_first 28 = .ok (.ldc2_w 170, 3) := by decide +kernel
theorem dX11_first_31 : decode cX11_first 31 = .ok (.lreturn, 1) := by decide +kernel
theorem dX11_first_32 : decode cX11_first 32 = .ok (.iload_n 3, 1) := by decide +kernel
theorem dX11_first_33 : decode cX11_first 33 = .ok (.ifCond .ne 15, 3) := by decide +kernel
theorem dX11_first_36 : decode cX11_first 36 = .ok (.aload_n 0, 1) := by decide +kernel
theorem dX11_first_37 : decode cX11_first 37 = .ok (.getfield 70, 3) := by decide +kernel
theorem dX11_first_40 : decode cX11_first 40 = .ok (.iload_n 1, 1) := by decide +kernel
theorem dX11_first_41 : decode cX11_first 41 = .ok (.iload_n 2, 1) := by decide +kernel
theorem dX11_first_42 : decode cX11_first 42 = .ok (.invokevirtual 290, 3) := by decide +kernel
theorem dX11_first_45 : decode cX11_first 45 = .ok (.goto 17, 3) := by decide +kernel
theorem dX11_first_48 : decode cX11_first 48 = .ok (.aload_n 0, 1) := by decide +kernel
theorem dX11_first_49 : decode cX11_first 49 = .ok (.getfield 21, 3) := by decide +kernel
theorem dX11_first_52 : decode cX11_first 52 = .ok (.aload_n 0, 1) := by decide +kernel
theorem dX11_first_53 : decode cX11_first 53 = .ok (.getfield 70, 3) := by decide +kernel
theorem dX11_first_56 : decode cX11_first 56 = .ok (.getfield 293, 3) := by decide +kernel
theorem dX11_first_59 : decode cX11_first 59 = .ok (.invokevirtual 296, 3) := by decide +kernel
theorem dX11_first_62 : decode cX11_first 62 = .ok (.lreturn, 1) := by decide +kernel
theorem dX11_firstJob_0 : decode cX11_firstJob 0 = .ok (.iload_n 1, 1) := by decide +kernel
theorem dX11_firstJob_1 : decode cX11_firstJob 1 = .ok (.invokestatic 284, 3) := by decide +kernel
theorem dX11_firstJob_4 : decode cX11_firstJob 4 = .ok (.ifCond .eq 14, 3) := by decide +kernel
theorem dX11_firstJob_7 : decode cX11_firstJob 7 = .ok (.aload_n 0, 1) := by decide +kernel
theorem dX11_firstJob_8 : decode cX11_firstJob 8 = .ok (.getfield 21, 3) := by decide +kernel
theorem dX11_firstJob_11 : decode cX11_firstJob 11 = .ok (.iload_n 3, 1) := by decide +kernel
theorem dX11_firstJob_12 : decode cX11_firstJob 12 = .ok (.invokevirtual 179, 3) := by decide +kernel
theorem dX11_firstJob_15 : decode cX11_firstJob 15 = .ok (.ifCond .ne 6, 3) := by decide +kernel
theorem dX11_firstJob_18 : decode cX11_firstJob 18 = .ok (.bipush (-2), 2) := by decide +kernel
theorem dX11_firstJob_20 : decode cX11_firstJob 20 = .ok (.ireturn, 1) := by decide +kernel
theorem dX11_firstJob_21 : decode cX11_firstJob 21 = .ok (.aload_n 0, 1) := by decide +kernel
theorem dX11_firstJob_22 : decode cX11_firstJob 22 = .ok (.getfield 70, 3) := by decide +kernel
theorem dX11_firstJob_25 : decode cX11_firstJob 25 = .ok (.iload_n 1, 1) := by decide +kernel
theorem dX11_firstJob_26 : decode cX11_firstJob 26 = .ok (.iload_n 2, 1) := by decide +kernel
theorem dX11_firstJob_27 : decode cX11_firstJob 27 = .ok (.invokevirtual 287, 3) := by decide +kernel
theorem dX11_firstJob_30 : decode cX11_firstJob 30 = .ok (.ifCond .eq 15, 3) := by decide +kernel
theorem dX11_firstJob_33 : decode cX11_firstJob 33 = .ok (.aload_n 0, 1) := by decide +kernel
theorem dX11_firstJob_34 : decode cX11_firstJob 34 = .ok (.getfield 70, 3) := by decide +kernel
theorem dX11_firstJob_37 : decode cX11_firstJob 37 = .ok (.getfield 293, 3) := by decide +kernel
theorem dX11_firstJob_40 : decode cX11_firstJob 40 = .ok (.iload_n 3, 1) := by decide +kernel
theorem dX11_firstJob_41 : decode cX11_firstJob 41 = .ok (.iaload, 1) := by decide +kernel
theorem dX11_firstJob_42 : decode cX11_firstJob 42 = .ok (.goto 4, 3) := by decide +kernel
theorem dX11_firstJob_45 : decode cX11_firstJob 45 = .ok (.iconst (-1), 1) := by decide +kernel
theorem dX11_firstJob_46 : decode cX11_firstJob 46 = .ok (.ireturn, 1) := by decide +kernel
theorem dX11_greedy_0 : decode cX11_greedy 0 = .ok (.iload_n 1, 1) := by decide +kernel
theorem dX11_greedy_1 : decode cX11_greedy 1 = .ok (.ifCond .lt 8, 3) := by decide +kernel
theorem dX11_greedy_4 : decode cX11_greedy 4 = .ok (.iload_n 1, 1) := by decide +kernel
theorem dX11_greedy_5 : decode cX11_greedy 5 = .ok (.iconst 1, 1) := by decide +kernel
theorem dX11_greedy_6 : decode cX11_greedy 6 = .ok (.if_icmp .le 7, 3) := by decide +kernel
theorem dX11_greedy_9 : decode cX11_greedy 9 = .ok (.ldc2_w 170, 3) := by decide +kernel
theorem dX11_greedy_12 : decode cX11_greedy 12 = .ok (.lreturn, 1) := by decide +kernel
theorem dX11_greedy_13 : decode cX11_greedy 13 = .ok (.aload_n 0, 1) := by decide +kernel
theorem dX11_greedy_14 : decode cX11_greedy 14 = .ok (.getfield 77, 3) := by decide +kernel
theorem dX11_greedy_17 : decode cX11_greedy 17 = .ok (.invokevirtual 298, 3) := by decide +kernel
theorem dX11_greedy_20 : decode cX11_greedy 20 = .ok (.iload_n 1, 1) := by decide +kernel
theorem dX11_greedy_21 : decode cX11_greedy 21 = .ok (.ifCond .ne 13, 3) := by decide +kernel
theorem dX11_greedy_24 : decode cX11_greedy 24 = .ok (.aload_n 0, 1) := by decide +kernel
theorem dX11_greedy_25 : decode cX11_greedy 25 = .ok (.getfield 77, 3) := by decide +kernel
theorem dX11_greedy_28 : decode cX11_greedy 28 = .ok (.getfield 301, 3) := by decide +kernel
theorem dX11_greedy_31 : decode cX11_greedy 31 = .ok (.goto 11, 3) := by decide +kernel
theorem dX11_greedy_34 : decode cX11_greedy 34 = .ok (.aload_n 0, 1) := by decide +kernel
theorem dX11_greedy_35 : decode cX11_greedy 35 = .ok (.getfield 77, 3) := by decide +kernel
theorem dX11_greedy_38 : decode cX11_greedy 38 = .ok (.getfield 305, 3) := by decide +kernel
theorem dX11_greedy_41 : decode cX11_greedy 41 = .ok (.i2l, 1) := by decide +kernel
theorem dX11_greedy_42 : decode cX11_greedy 42 = .ok (.lreturn, 1) := by decide +kernel
theorem dX11_greedyJob_0 : decode cX11_greedyJob 0 = .ok (.aload_n 0, 1) := by decide +kernel
theorem dX11_greedyJob_1 : decode cX11_greedyJob 1 = .ok (.getfield 21, 3) := by decide +kernel
theorem dX11_greedyJob_4 : decode cX11_greedyJob 4 = .ok (.iload_n 1, 1) := by decide +kernel
theorem dX11_greedyJob_5 : decode cX11_greedyJob 5 = .ok (.invokevirtual 179, 3) := by decide +kernel
theorem dX11_greedyJob_8 : decode cX11_greedyJob 8 = .ok (.ifCond .ne 6, 3) := by decide +kernel
theorem dX11_greedyJob_11 : decode cX11_greedyJob 11 = .ok (.bipush (-2), 2) := by decide +kernel
theorem dX11_greedyJob_13 : decode cX11_greedyJob 13 = .ok (.ireturn, 1) := by decide +kernel
theorem dX11_greedyJob_14 : decode cX11_greedyJob 14 = .ok (.aload_n 0, 1) := by decide +kernel
theorem dX11_greedyJob_15 : decode cX11_greedyJob 15 = .ok (.getfield 77, 3) := by decide +kernel
theorem dX11_greedyJob_18 : decode cX11_greedyJob 18 = .ok (.invokevirtual 298, 3) := by decide +kernel
theorem dX11_greedyJob_21 : decode cX11_greedyJob 21 = .ok (.aload_n 0, 1) := by decide +kernel
theorem dX11_greedyJob_22 : decode cX11_greedyJob 22 = .ok (.getfield 77, 3) := by decide +kernel
theorem dX11_greedyJob_25 : decode cX11_greedyJob 25 = .ok (.getfield 308, 3) := by decide +kernel
theorem dX11_greedyJob_28 : decode cX11_greedyJob 28 = .ok (.iload_n 1, 1) := by decide +kernel
theorem dX11_greedyJob_29 : decode cX11_greedyJob 29 = .ok (.iaload, 1) := by decide +kernel
theorem dX11_greedyJob_30 : decode cX11_greedyJob 30 = .ok (.ireturn, 1) := by decide +kernel
theorem dX11_mended_0 : decode cX11_mended 0 = .ok (.iload_n 1, 1) := by decide +kernel
theorem dX11_mended_1 : decode cX11_mended 1 = .ok (.ifCond .lt 8, 3) := by decide +kernel
theorem dX11_mended_4 : decode cX11_mended 4 = .ok (.iload_n 1, 1) := by decide +kernel
theorem dX11_mended_5 : decode cX11_mended 5 = .ok (.iconst 1, 1) := by decide +kernel
theorem dX11_mended_6 : decode cX11_mended 6 = .ok (.if_icmp .le 7, 3) := by decide +kernel
theorem dX11_mended_9 : decode cX11_mended 9 = .ok (.ldc2_w 170, 3) := by decide +kernel
theorem dX11_mended_12 : decode cX11_mended 12 = .ok (.lreturn, 1) := by decide +kernel
theorem dX11_mended_13 : decode cX11_mended 13 = .ok (.aload_n 0, 1) := by decide +kernel
theorem dX11_mended_14 : decode cX11_mended 14 = .ok (.getfield 77, 3) := by decide +kernel
theorem dX11_mended_17 : decode cX11_mended 17 = .ok (.invokevirtual 298, 3) := by decide +kernel
theorem dX11_mended_20 : decode cX11_mended 20 = .ok (.aload_n 0, 1) := by decide +kernel
theorem dX11_mended_21 : decode cX11_mended 21 = .ok (.getfield 77, 3) := by decide +kernel
theorem dX11_mended_24 : decode cX11_mended 24 = .ok (.getfield 305, 3) := by decide +kernel
theorem dX11_mended_27 : decode cX11_mended 27 = .ok (.aload_n 0, 1) := by decide +kernel
theorem dX11_mended_28 : decode cX11_mended 28 = .ok (.getfield 21, 3) := by decide +kernel
theorem dX11_mended_31 : decode cX11_mended 31 = .ok (.getfield 140, 3) := by decide +kernel
theorem dX11_mended_34 : decode cX11_mended 34 = .ok (.if_icmp .ge 7, 3) := by decide +kernel
theorem dX11_mended_37 : decode cX11_mended 37 = .ok (.ldc2_w 170, 3) := by decide +kernel
theorem dX11_mended_40 : decode cX11_mended 40 = .ok (.lreturn, 1) := by decide +kernel
theorem dX11_mended_41 : decode cX11_mended 41 = .ok (.aload_n 0, 1) := by decide +kernel
theorem dX11_mended_42 : decode cX11_mended 42 = .ok (.getfield 77, 3) := by decide +kernel
theorem dX11_mended_45 : decode cX11_mended 45 = .ok (.invokevirtual 311, 3) := by decide +kernel
theorem dX11_mended_48 : decode cX11_mended 48 = .ok (.iload_n 1, 1) := by decide +kernel
theorem dX11_mended_49 : decode cX11_mended 49 = .ok (.ifCond .ne 13, 3) := by decide +kernel
theorem dX11_mended_52 : decode cX11_mended 52 = .ok (.aload_n 0, 1) := by decide +kernel
theorem dX11_mended_53 : decode cX11_mended 53 = .ok (.getfield 77, 3) := by decide +kernel
theorem dX11_mended_56 : decode cX11_mended 56 = .ok (.getfield 301, 3) := by decide +kernel
theorem dX11_mended_59 : decode cX11_mended 59 = .ok (.goto 11, 3) := by decide +kernel
theorem dX11_mended_62 : decode cX11_mended 62 = .ok (.aload_n 0, 1) := by decide +kernel
theorem dX11_mended_63 : decode cX11_mended 63 = .ok (.getfield 77, 3) := by decide +kernel
theorem dX11_mended_66 : decode cX11_mended 66 = .ok (.getfield 314, 3) := by decide +kernel
theorem dX11_mended_69 : decode cX11_mended 69 = .ok (.i2l, 1) := by decide +kernel
theorem dX11_mended_70 : decode cX11_mended 70 = .ok (.lreturn, 1) := by decide +kernel
theorem dX11_auction_0 : decode cX11_auction 0 = .ok (.iload_n 1, 1) := by decide +kernel
theorem dX11_auction_1 : decode cX11_auction 1 = .ok (.invokestatic 315, 3) := by decide +kernel
theorem dX11_auction_4 : decode cX11_auction 4 = .ok (.ifCond .eq 12, 3) := by decide +kernel
theorem dX11_auction_7 : decode cX11_auction 7 = .ok (.iload_n 2, 1) := by decide +kernel
theorem dX11_auction_8 : decode cX11_auction 8 = .ok (.ifCond .lt 8, 3) := by decide +kernel
theorem dX11_auction_11 : decode cX11_auction 11 = .ok (.iload_n 2, 1) := by decide +kernel
theorem dX11_auction_12 : decode cX11_auction 12 = .ok (.iconst 2, 1) := by decide +kernel
theorem dX11_auction_13 : decode cX11_auction 13 = .ok (.if_icmp .le 7, 3) := by decide +kernel
theorem dX11_auction_16 : decode cX11_auction 16 = .ok (.ldc2_w 170, 3) := by decide +kernel
theorem dX11_auction_19 : decode cX11_auction 19 = .ok (.lreturn, 1) := by decide +kernel
theorem dX11_auction_20 : decode cX11_auction 20 = .ok (.aload_n 0, 1) := by decide +kernel
theorem dX11_auction_21 : decode cX11_auction 21 = .ok (.getfield 84, 3) := by decide +kernel
theorem dX11_auction_24 : decode cX11_auction 24 = .ok (.iload_n 1, 1) := by decide +kernel
theorem dX11_auction_25 : decode cX11_auction 25 = .ok (.invokevirtual 318, 3) := by decide +kernel
theorem dX11_auction_28 : decode cX11_auction 28 = .ok (.iload_n 2, 1) := by decide +kernel
theorem dX11_auction_29 : decode cX11_auction 29 = .ok (.ifCond .ne 12, 3) := by decide +kernel
theorem dX11_auction_32 : decode cX11_auction 32 = .ok (.aload_n 0, 1) := by decide +kernel
theorem dX11_auction_33 : decode cX11_auction 33 = .ok (.getfield 84, 3) := by decide +kernel
theorem dX11_auction_36 : decode cX11_auction 36 = .ok (.getfield 321, 3) := by decide +kernel
theorem dX11_auction_39 : decode cX11_auction 39 = .ok (.i2l, 1) := by decide +kernel
theorem dX11_auction_40 : decode cX11_auction 40 = .ok (.lreturn, 1) := by decide +kernel
theorem dX11_auction_41 : decode cX11_auction 41 = .ok (.iload_n 2, 1) := by decide +kernel
theorem dX11_auction_42 : decode cX11_auction 42 = .ok (.iconst 2, 1) := by decide +kernel
theorem dX11_auction_43 : decode cX11_auction 43 = .ok (.if_icmp .ne 11, 3) := by decide +kernel
theorem dX11_auction_46 : decode cX11_auction 46 = .ok (.aload_n 0, 1) := by decide +kernel
theorem dX11_auction_47 : decode cX11_auction 47 = .ok (.getfield 84, 3) := by decide +kernel
theorem dX11_auction_50 : decode cX11_auction 50 = .ok (.invokevirtual 324, 3) := by decide +kernel
theorem dX11_auction_53 : decode cX11_auction 53 = .ok (.lreturn, 1) := by decide +kernel
theorem dX11_auction_54 : decode cX11_auction 54 = .ok (.aload_n 0, 1) := by decide +kernel
theorem dX11_auction_55 : decode cX11_auction 55 = .ok (.getfield 84, 3) := by decide +kernel
theorem dX11_auction_58 : decode cX11_auction 58 = .ok (.getfield 326, 3) := by decide +kernel
theorem dX11_auction_61 : decode cX11_auction 61 = .ok (.ifCond .ne 7, 3) := by decide +kernel
theorem dX11_auction_64 : decode cX11_auction 64 = .ok (.lconst 1, 1) := by decide +kernel
theorem dX11_auction_65 : decode cX11_auction 65 = .ok (.goto 4, 3) := by decide +kernel
theorem dX11_auction_68 : decode cX11_auction 68 = .ok (.lconst 0, 1) := by decide +kernel
theorem dX11_auction_69 : decode cX11_auction 69 = .ok (.lreturn, 1) := by decide +kernel
theorem dX11_auctionPrice_0 : decode cX11_auctionPrice 0 = .ok (.iload_n 1, 1) := by decide +kernel
theorem dX11_auctionPrice_1 : decode cX11_auctionPrice 1 = .ok (.invokestatic 315, 3) := by decide +kernel
theorem dX11_auctionPrice_4 : decode cX11_auctionPrice 4 = .ok (.ifCond .eq 14, 3) := by decide +kernel
theorem dX11_auctionPrice_7 : decode cX11_auctionPrice 7 = .ok (.aload_n 0, 1) := by decide +kernel
theorem dX11_auctionPrice_8 : decode cX11_auctionPrice 8 = .ok (.getfield 21, 3) := by decide +kernel
theorem dX11_auctionPrice_11 : decode cX11_auctionPrice 11 = .ok (.iload_n 2, 1) := by decide +kernel
theorem dX11_auctionPrice_12 : decode cX11_auctionPrice 12 = .ok (.invokevirtual 274, 3) := by decide +kernel
theorem dX11_auctionPrice_15 : decode cX11_auctionPrice 15 = .ok (.ifCond .ne 6, 3) := by decide +kernel
theorem dX11_auctionPrice_18 : decode cX11_auctionPrice 18 = .ok (.bipush (-2), 2) := by decide +kernel
theorem dX11_auctionPrice_20 : decode cX11_auctionPrice 20 = .ok (.ireturn, 1) := by decide +kernel
theorem dX11_auctionPrice_21 : decode cX11_auctionPrice 21 = .ok (.aload_n 0, 1) := by decide +kernel
theorem dX11_auctionPrice_22 : decode cX11_auctionPrice 22 = .ok (.getfield 84, 3) := by decide +kernel
theorem dX11_auctionPrice_25 : decode cX11_auctionPrice 25 = .ok (.iload_n 1, 1) := by decide +kernel
theorem dX11_auctionPrice_26 : decode cX11_auctionPrice 26 = .ok (.invokevirtual 318, 3) := by decide +kernel
theorem dX11_auctionPrice_29 : decode cX11_auctionPrice 29 = .ok (.aload_n 0, 1) := by decide +kernel
theorem dX11_auctionPrice_30 : decode cX11_auctionPrice 30 = .ok (.getfield 84, 3) := by decide +kernel
theorem dX11_auctionPrice_33 : decode cX11_auctionPrice 33 = .ok (.getfield 329, 3) := by decide +kernel
theorem dX11_auctionPrice_36 : decode cX11_auctionPrice 36 = .ok (.iload_n 2, 1) := by decide +kernel
theorem dX11_auctionPrice_37 : decode cX11_auctionPrice 37 = .ok (.laload, 1) := by decide +kernel
theorem dX11_auctionPrice_38 : decode cX11_auctionPrice 38 = .ok (.l2i, 1) := by decide +kernel
theorem dX11_auctionPrice_39 : decode cX11_auctionPrice 39 = .ok (.ireturn, 1) := by decide +kernel
theorem dX11_auctionJob_0 : decode cX11_auctionJob 0 = .ok (.iload_n 1, 1) := by decide +kernel
theorem dX11_auctionJob_1 : decode cX11_auctionJob 1 = .ok (.invokestatic 315, 3) := by decide +kernel
theorem dX11_auctionJob_4 : decode cX11_auctionJob 4 = .ok (.ifCond .eq 14, 3) := by decide +kernel
theorem dX11_auctionJob_7 : decode cX11_auctionJob 7 = .ok (.aload_n 0, 1) := by decide +kernel
theorem dX11_auctionJob_8 : decode cX11_auctionJob 8 = .ok (.getfield 21, 3) := by decide +kernel
theorem dX11_auctionJob_11 : decode cX11_auctionJob 11 = .ok (.iload_n 2, 1) := by decide +kernel
theorem dX11_auctionJob_12 : decode cX11_auctionJob 12 = .ok (.invokevirtual 179, 3) := by decide +kernel
theorem dX11_auctionJob_15 : decode cX11_auctionJob 15 = .ok (.ifCond .ne 6, 3) := by decide +kernel
theorem dX11_auctionJob_18 : decode cX11_auctionJob 18 = .ok (.bipush (-2), 2) := by decide +kernel
theorem dX11_auctionJob_20 : decode cX11_auctionJob 20 = .ok (.ireturn, 1) := by decide +kernel
theorem dX11_auctionJob_21 : decode cX11_auctionJob 21 = .ok (.aload_n 0, 1) := by decide +kernel
theorem dX11_auctionJob_22 : decode cX11_auctionJob 22 = .ok (.getfield 84, 3) := by decide +kernel
theorem dX11_auctionJob_25 : decode cX11_auctionJob 25 = .ok (.iload_n 1, 1) := by decide +kernel
theorem dX11_auctionJob_26 : decode cX11_auctionJob 26 = .ok (.invokevirtual 318, 3) := by decide +kernel
theorem dX11_auctionJob_29 : decode cX11_auctionJob 29 = .ok (.aload_n 0, 1) := by decide +kernel
theorem dX11_auctionJob_30 : decode cX11_auctionJob 30 = .ok (.getfield 84, 3) := by decide +kernel
theorem dX11_auctionJob_33 : decode cX11_auctionJob 33 = .ok (.getfield 333, 3) := by decide +kernel
theorem dX11_auctionJob_36 : decode cX11_auctionJob 36 = .ok (.iload_n 2, 1) := by decide +kernel
theorem dX11_auctionJob_37 : decode cX11_auctionJob 37 = .ok (.iaload, 1) := by decide +kernel
theorem dX11_auctionJob_38 : decode cX11_auctionJob 38 = .ok (.ireturn, 1) := by decide +kernel
theorem dX11_move_0 : decode cX11_move 0 = .ok (.iload_n 2, 1) := by decide +kernel
theorem dX11_move_1 : decode cX11_move 1 = .ok (.ifCond .lt 37, 3) := by decide +kernel
theorem dX11_move_4 : decode cX11_move 4 = .ok (.iload_n 2, 1) := by decide +kernel
theorem dX11_move_5 : decode cX11_move 5 = .ok (.iconst 2, 1) := by decide +kernel
theorem dX11_move_6 : decode cX11_move 6 = .ok (.if_icmp .gt 32, 3) := by decide +kernel
theorem dX11_move_9 : decode cX11_move 9 = .ok (.aload_n 0, 1) := by decide +kernel
theorem dX11_move_10 : decode cX11_move 10 = .ok (.getfield 21, 3) := by decide +kernel
theorem dX11_move_13 : decode cX11_move 13 = .ok (.iload_n 1, 1) := by decide +kernel
theorem dX11_move_14 : decode cX11_move 14 = .ok (.aload_n 0, 1) := by decide +kernel
theorem dX11_move_15 : decode cX11_move 15 = .ok (.getfield 102, 3) := by decide +kernel
theorem dX11_move_18 : decode cX11_move 18 = .ok (.invokevirtual 193, 3) := by decide +kernel
theorem dX11_move_21 : decode cX11_move 21 = .ok (.ifCond .eq 17, 3) := by decide +kernel
theorem dX11_move_24 : decode cX11_move 24 = .ok (.aload_n 0, 1) := by decide +kernel
theorem dX11_move_25 : decode cX11_move 25 = .ok (.getfield 91, 3) := by decide +kernel
theorem dX11_move_28 : decode cX11_move 28 = .ok (.aload_n 0, 1) := by decide +kernel
theorem dX11_move_29 : decode cX11_move 29 = .ok (.getfield 102, 3) := by decide +kernel
theorem dX11_move_32 : decode cX11_move 32 = .ok (.invokevirtual 334, 3) := by decide +kernel
theorem dX11_move_35 : decode cX11_move 35 = .ok (.ifCond .ne 7, 3) := by decide +kernel
theorem dX11_move_38 : decode cX11_move 38 = .ok (.ldc2_w 170, 3) := by decide +kernel
theorem dX11_move_41 : decode cX11_move 41 = .ok (.lreturn, 1) := by decide +kernel
theorem dX11_move_42 : decode cX11_move 42 = .ok (.iload_n 2, 1) := by decide +kernel
theorem dX11_move_43 : decode cX11_move 43 = .ok (.ifCond .ne 11, 3) := by decide +kernel
theorem dX11_move_46 : decode cX11_move 46 = .ok (.aload_n 0, 1) := by decide +kernel
theorem dX11_move_47 : decode cX11_move 47 = .ok (.getfield 91, 3) := by decide +kernel
theorem dX11_move_50 : decode cX11_move 50 = .ok (.getfield 337, 3) := by decide +kernel
theorem dX11_move_53 : decode cX11_move 53 = .ok (.lreturn, 1) := by decide +kernel
theorem dX11_move_54 : decode cX11_move 54 = .ok (.iload_n 2, 1) := by decide +kernel
theorem dX11_move_55 : decode cX11_move 55 = .ok (.iconst 1, 1) := by decide +kernel
theorem dX11_move_56 : decode cX11_move 56 = .ok (.if_icmp .ne 17, 3) := by decide +kernel
theorem dX11_move_59 : decode cX11_move 59 = .ok (.aload_n 0, 1) := by decide +kernel
theorem dX11_move_60 : decode cX11_move 60 = .ok (.getfield 91, 3) := by decide +kernel
theorem dX11_move_63 : decode cX11_move 63 = .ok (.getfield 340, 3) := by decide +kernel
theorem dX11_move_66 : decode cX11_move 66 = .ok (.invokestatic 269, 3) := by decide +kernel
theorem dX11_move_69 : decode cX11_move 69 = .ok (.i2l, 1) := by decide +kernel
theorem dX11_move_70 : decode cX11_move 70 = .ok (.goto 11, 3) := by decide +kernel
theorem dX11_move_73 : decode cX11_move 73 = .ok (.aload_n 0, 1) := by decide +kernel
theorem dX11_move_74 : decode cX11_move 74 = .ok (.getfield 91, 3) := by decide +kernel
theorem dX11_move_77 : decode cX11_move 77 = .ok (.getfield 340, 3) := by decide +kernel
theorem dX11_move_80 : decode cX11_move 80 = .ok (.i2l, 1) := by decide +kernel
theorem dX11_move_81 : decode cX11_move 81 = .ok (.lreturn, 1) := by decide +kernel
theorem dX11_least_0 : decode cX11_least 0 = .ok (.aload_n 0, 1) := by decide +kernel
theorem dX11_least_1 : decode cX11_least 1 = .ok (.getfield 21, 3) := by decide +kernel
theorem dX11_least_4 : decode cX11_least 4 = .ok (.iload_n 1, 1) := by decide +kernel
theorem dX11_least_5 : decode cX11_least 5 = .ok (.iload_n 2, 1) := by decide +kernel
theorem dX11_least_6 : decode cX11_least 6 = .ok (.invokevirtual 343, 3) := by decide +kernel
theorem dX11_least_9 : decode cX11_least 9 = .ok (.ifCond .ne 7, 3) := by decide +kernel
theorem dX11_least_12 : decode cX11_least 12 = .ok (.ldc2_w 170, 3) := by decide +kernel
theorem dX11_least_15 : decode cX11_least 15 = .ok (.lreturn, 1) := by decide +kernel
theorem dX11_least_16 : decode cX11_least 16 = .ok (.aload_n 0, 1) := by decide +kernel
theorem dX11_least_17 : decode cX11_least 17 = .ok (.getfield 21, 3) := by decide +kernel
theorem dX11_least_20 : decode cX11_least 20 = .ok (.iload_n 1, 1) := by decide +kernel
theorem dX11_least_21 : decode cX11_least 21 = .ok (.iload_n 2, 1) := by decide +kernel
theorem dX11_least_22 : decode cX11_least 22 = .ok (.invokevirtual 207, 3) := by decide +kernel
theorem dX11_least_25 : decode cX11_least 25 = .ok (.lstore_n 3, 1) := by decide +kernel
theorem dX11_least_26 : decode cX11_least 26 = .ok (.lload_n 3, 1) := by decide +kernel
theorem dX11_least_27 : decode cX11_least 27 = .ok (.ldc2_w 242, 3) := by decide +kernel
theorem dX11_least_30 : decode cX11_least 30 = .ok (.lcmp, 1) := by decide +kernel
theorem dX11_least_31 : decode cX11_least 31 = .ok (.ifCond .ne 9, 3) := by decide +kernel
theorem dX11_least_34 : decode cX11_least 34 = .ok (.ldc2_w 170, 3) := by decide +kernel
theorem dX11_least_37 : decode cX11_least 37 = .ok (.goto 4, 3) := by decide +kernel
theorem dX11_least_40 : decode cX11_least 40 = .ok (.lload_n 3, 1) := by decide +kernel
theorem dX11_least_41 : decode cX11_least 41 = .ok (.lreturn, 1) := by decide +kernel
theorem dX11_reduced_0 : decode cX11_reduced 0 = .ok (.aload_n 0, 1) := by decide +kernel
theorem dX11_reduced_1 : decode cX11_reduced 1 = .ok (.getfield 21, 3) := by decide +kernel
theorem dX11_reduced_4 : decode cX11_reduced 4 = .ok (.iload_n 1, 1) := by decide +kernel
theorem dX11_reduced_5 : decode cX11_reduced 5 = .ok (.iload_n 2, 1) := by decide +kernel
theorem dX11_reduced_6 : decode cX11_reduced 6 = .ok (.invokevirtual 162, 3) := by decide +kernel
theorem dX11_reduced_9 : decode cX11_reduced 9 = .ok (.ifCond .eq 15, 3) := by decide +kernel
theorem dX11_reduced_12 : decode cX11_reduced 12 = .ok (.aload_n 0, 1) := by decide +kernel
theorem dX11_reduced_13 : decode cX11_reduced 13 = .ok (.getfield 21, 3) := by decide +kernel
theorem dX11_reduced_16 : decode cX11_reduced 16 = .ok (.iload_n 1, 1) := by decide +kernel
theorem dX11_reduced_17 : decode cX11_reduced 17 = .ok (.iload_n 2, 1) := by decide +kernel
theorem dX11_reduced_18 : decode cX11_reduced 18 = .ok (.invokevirtual 346, 3) := by decide +kernel
theorem dX11_reduced_21 : decode cX11_reduced 21 = .ok (.goto 6, 3) := by decide +kernel
theorem dX11_reduced_24 : decode cX11_reduced 24 = .ok (.ldc2_w 170, 3) := by decide +kernel
theorem dX11_reduced_27 : decode cX11_reduced 27 = .ok (.lreturn, 1) := by decide +kernel
theorem dX11_noughts_0 : decode cX11_noughts 0 = .ok (.iconst 0, 1) := by decide +kernel
theorem dX11_noughts_1 : decode cX11_noughts 1 = .ok (.istore_n 1, 1) := by decide +kernel
theorem dX11_noughts_2 : decode cX11_noughts 2 = .ok (.iconst 0, 1) := by decide +kernel
theorem dX11_noughts_3 : decode cX11_noughts 3 = .ok (.istore_n 2, 1) := by decide +kernel
theorem dX11_noughts_4 : decode cX11_noughts 4 = .ok (.iload_n 2, 1) := by decide +kernel
theorem dX11_noughts_5 : decode cX11_noughts 5 = .ok (.aload_n 0, 1) := by decide +kernel
theorem dX11_noughts_6 : decode cX11_noughts 6 = .ok (.getfield 21, 3) := by decide +kernel
theorem dX11_noughts_9 : decode cX11_noughts 9 = .ok (.getfield 140, 3) := by decide +kernel
theorem dX11_noughts_12 : decode cX11_noughts 12 = .ok (.if_icmp .ge 45, 3) := by decide +kernel
theorem dX11_noughts_15 : decode cX11_noughts 15 = .ok (.iconst 0, 1) := by decide +kernel
theorem dX11_noughts_16 : decode cX11_noughts 16 = .ok (.istore_n 3, 1) := by decide +kernel
theorem dX11_noughts_17 : decode cX11_noughts 17 = .ok (.iload_n 3, 1) := by decide +kernel
theorem dX11_noughts_18 : decode cX11_noughts 18 = .ok (.aload_n 0, 1) := by decide +kernel
theorem dX11_noughts_19 : decode cX11_noughts 19 = .ok (.getfield 21, 3) := by decide +kernel
theorem dX11_noughts_22 : decode cX11_noughts 22 = .ok (.getfield 149, 3) := by decide +kernel
theorem dX11_noughts_25 : decode cX11_noughts 25 = .ok (.if_icmp .ge 26, 3) := by decide +kernel
theorem dX11_noughts_28 : decode cX11_noughts 28 = .ok (.aload_n 0, 1) := by decide +kernel
theorem dX11_noughts_29 : decode cX11_noughts 29 = .ok (.getfield 21, 3) := by decide +kernel
theorem dX11_noughts_32 : decode cX11_noughts 32 = .ok (.iload_n 2, 1) := by decide +kernel
theorem dX11_noughts_33 : decode cX11_noughts 33 = .ok (.iload_n 3, 1) := by decide +kernel
theorem dX11_noughts_34 : decode cX11_noughts 34 = .ok (.invokevirtual 346, 3) := by decide +kernel
theorem dX11_noughts_37 : decode cX11_noughts 37 = .ok (.lconst 0, 1) := by decide +kernel
theorem dX11_noughts_38 : decode cX11_noughts 38 = .ok (.lcmp, 1) := by decide +kernel
theorem dX11_noughts_39 : decode cX11_noughts 39 = .ok (.ifCond .ne 6, 3) := by decide +kernel
theorem dX11_noughts_42 : decode cX11_noughts 42 = .ok (.iinc 1 1, 3) := by decide +kernel
theorem dX11_noughts_45 : decode cX11_noughts 45 = .ok (.iinc 3 1, 3) := by decide +kernel
theorem dX11_noughts_48 : decode cX11_noughts 48 = .ok (.goto (-31), 3) := by decide +kernel
theorem dX11_noughts_51 : decode cX11_noughts 51 = .ok (.iinc 2 1, 3) := by decide +kernel
theorem dX11_noughts_54 : decode cX11_noughts 54 = .ok (.goto (-50), 3) := by decide +kernel
theorem dX11_noughts_57 : decode cX11_noughts 57 = .ok (.iload_n 1, 1) := by decide +kernel
theorem dX11_noughts_58 : decode cX11_noughts 58 = .ok (.ireturn, 1) := by decide +kernel
theorem dX11_sets_0 : decode cX11_sets 0 = .ok (.aload_n 0, 1) := by decide +kernel
theorem dX11_sets_1 : decode cX11_sets 1 = .ok (.getfield 21, 3) := by decide +kernel
theorem dX11_sets_4 : decode cX11_sets 4 = .ok (.iload_n 1, 1) := by decide +kernel
theorem dX11_sets_5 : decode cX11_sets 5 = .ok (.iload_n 2, 1) := by decide +kernel
theorem dX11_sets_6 : decode cX11_sets 6 = .ok (.invokevirtual 162, 3) := by decide +kernel
theorem dX11_sets_9 : decode cX11_sets 9 = .ok (.ifCond .eq 11, 3) := by decide +kernel
theorem dX11_sets_12 : decode cX11_sets 12 = .ok (.iload_n 3, 1) := by decide +kernel
theorem dX11_sets_13 : decode cX11_sets 13 = .ok (.i2l, 1) := by decide +kernel
theorem dX11_sets_14 : decode cX11_sets 14 = .ok (.invokestatic 258, 3) := by decide +kernel
theorem dX11_sets_17 : decode cX11_sets 17 = .ok (.ifCond .ne 6, 3) := by decide +kernel
theorem dX11_sets_20 : decode cX11_sets 20 = .ok (.bipush (-2), 2) := by decide +kernel
theorem dX11_sets_22 : decode cX11_sets 22 = .ok (.ireturn, 1) := by decide +kernel
theorem dX11_sets_23 : decode cX11_sets 23 = .ok (.aload_n 0, 1) := by decide +kernel
theorem dX11_sets_24 : decode cX11_sets 24 = .ok (.iload_n 1, 1) := by decide +kernel
theorem dX11_sets_25 : decode cX11_sets 25 = .ok (.iload_n 2, 1) := by decide +kernel
theorem dX11_sets_26 : decode cX11_sets 26 = .ok (.iload_n 3, 1) := by decide +kernel
theorem dX11_sets_27 : decode cX11_sets 27 = .ok (.i2l, 1) := by decide +kernel
theorem dX11_sets_28 : decode cX11_sets 28 = .ok (.invokevirtual 349, 3) := by decide +kernel
theorem dX11_sets_31 : decode cX11_sets 31 = .ok (.ireturn, 1) := by decide +kernel
theorem dX11_bars_0 : decode cX11_bars 0 = .ok (.aload_n 0, 1) := by decide +kernel
theorem dX11_bars_1 : decode cX11_bars 1 = .ok (.getfield 21, 3) := by decide +kernel
theorem dX11_bars_4 : decode cX11_bars 4 = .ok (.iload_n 1, 1) := by decide +kernel
theorem dX11_bars_5 : decode cX11_bars 5 = .ok (.iload_n 2, 1) := by decide +kernel
theorem dX11_bars_6 : decode cX11_bars 6 = .ok (.invokevirtual 162, 3) := by decide +kernel
theorem dX11_bars_9 : decode cX11_bars 9 = .ok (.ifCond .eq 15, 3) := by decide +kernel
theorem dX11_bars_12 : decode cX11_bars 12 = .ok (.aload_n 0, 1) := by decide +kernel
theorem dX11_bars_13 : decode cX11_bars 13 = .ok (.iload_n 1, 1) := by decide +kernel
theorem dX11_bars_14 : decode cX11_bars 14 = .ok (.iload_n 2, 1) := by decide +kernel
theorem dX11_bars_15 : decode cX11_bars 15 = .ok (.ldc2_w 242, 3) := by decide +kernel
theorem dX11_bars_18 : decode cX11_bars 18 = .ok (.invokevirtual 349, 3) := by decide +kernel
theorem dX11_bars_21 : decode cX11_bars 21 = .ok (.goto 5, 3) := by decide +kernel
theorem dX11_bars_24 : decode cX11_bars 24 = .ok (.bipush (-2), 2) := by decide +kernel
theorem dX11_bars_26 : decode cX11_bars 26 = .ok (.ireturn, 1) := by decide +kernel
theorem dX11_tilts_0 : decode cX11_tilts 0 = .ok (.aload_n 0, 1) := by decide +kernel
theorem dX11_tilts_1 : decode cX11_tilts 1 = .ok (.getfield 21, 3) := by decide +kernel
theorem dX11_tilts_4 : decode cX11_tilts 4 = .ok (.iload_n 1, 1) := by decide +kernel
theorem dX11_tilts_5 : decode cX11_tilts 5 = .ok (.iload_n 3, 1) := by decide +kernel
theorem dX11_tilts_6 : decode cX11_tilts 6 = .ok (.invokevirtual 343, 3) := by decide +kernel
theorem dX11_tilts_9 : decode cX11_tilts 9 = .ok (.ifCond .ne 6, 3) := by decide +kernel
theorem dX11_tilts_12 : decode cX11_tilts 12 = .ok (.bipush (-2), 2) := by decide +kernel
theorem dX11_tilts_14 : decode cX11_tilts 14 = .ok (.ireturn, 1) := by decide +kernel
theorem dX11_tilts_15 : decode cX11_tilts 15 = .ok (.aload_n 0, 1) := by decide +kernel
theorem dX11_tilts_16 : decode cX11_tilts 16 = .ok (.getfield 21, 3) := by decide +kernel
theorem dX11_tilts_19 : decode cX11_tilts 19 = .ok (.iload_n 1, 1) := by decide +kernel
theorem dX11_tilts_20 : decode cX11_tilts 20 = .ok (.iload_n 2, 1) := by decide +kernel
theorem dX11_tilts_21 : decode cX11_tilts 21 = .ok (.i2l, 1) := by decide +kernel
theorem dX11_tilts_22 : decode cX11_tilts 22 = .ok (.iload_n 3, 1) := by decide +kernel
theorem dX11_tilts_23 : decode cX11_tilts 23 = .ok (.invokevirtual 353, 3) := by decide +kernel
theorem dX11_tilts_26 : decode cX11_tilts 26 = .ok (.ifCond .ne 6, 3) := by decide +kernel
theorem dX11_tilts_29 : decode cX11_tilts 29 = .ok (.bipush (-5), 2) := by decide +kernel
theorem dX11_tilts_31 : decode cX11_tilts 31 = .ok (.ireturn, 1) := by decide +kernel
theorem dX11_tilts_32 : decode cX11_tilts 32 = .ok (.aload_n 0, 1) := by decide +kernel
theorem dX11_tilts_33 : decode cX11_tilts 33 = .ok (.getfield 21, 3) := by decide +kernel
theorem dX11_tilts_36 : decode cX11_tilts 36 = .ok (.iload_n 1, 1) := by decide +kernel
theorem dX11_tilts_37 : decode cX11_tilts 37 = .ok (.iload_n 3, 1) := by decide +kernel
theorem dX11_tilts_38 : decode cX11_tilts 38 = .ok (.invokevirtual 357, 3) := by decide +kernel
theorem dX11_tilts_41 : decode cX11_tilts 41 = .ok (.istore 4, 2) := by decide +kernel
theorem dX11_tilts_43 : decode cX11_tilts 43 = .ok (.iload 4, 2) := by decide +kernel
theorem dX11_tilts_45 : decode cX11_tilts 45 = .ok (.ifCond .le 33, 3) := by decide +kernel
theorem dX11_tilts_48 : decode cX11_tilts 48 = .ok (.iload_n 2, 1) := by decide +kernel
theorem dX11_tilts_49 : decode cX11_tilts 49 = .ok (.ifCond .eq 29, 3) := by decide +kernel
theorem dX11_tilts_52 : decode cX11_tilts 52 = .ok (.aload_n 0, 1) := by decide +kernel
theorem dX11_tilts_53 : decode cX11_tilts 53 = .ok (.getfield 61, 3) := by decide +kernel
theorem dX11_tilts_56 : decode cX11_tilts 56 = .ok (.aload_n 0, 1) := by decide +kernel
theorem dX11_tilts_57 : decode cX11_tilts 57 = .ok (.getfield 21, 3) := by decide +kernel
theorem dX11_tilts_60 : decode cX11_tilts 60 = .ok (.invokevirtual 361, 3) := by decide +kernel
theorem dX11_tilts_63 : decode cX11_tilts 63 = .ok (.aload_n 0, 1) := by decide +kernel
theorem dX11_tilts_64 : decode cX11_tilts 64 = .ok (.getfield 21, 3) := by decide +kernel
theorem dX11_tilts_67 : decode cX11_tilts 67 = .ok (.iload_n 1, 1) := by decide +kernel
theorem dX11_tilts_68 : decode cX11_tilts 68 = .ok (.iload_n 2, 1) := by decide +kernel
theorem dX11_tilts_69 : decode cX11_tilts 69 = .ok (.i2l, 1) := by decide +kernel
theorem dX11_tilts_70 : decode cX11_tilts 70 = .ok (.iload_n 3, 1) := by decide +kernel
theorem dX11_tilts_71 : decode cX11_tilts 71 = .ok (.invokevirtual 364, 3) := by decide +kernel
theorem dX11_tilts_74 : decode cX11_tilts 74 = .ok (.aload_n 0, 1) := by decide +kernel
theorem dX11_tilts_75 : decode cX11_tilts 75 = .ok (.invokevirtual 137, 3) := by decide +kernel
theorem dX11_tilts_78 : decode cX11_tilts 78 = .ok (.iload 4, 2) := by decide +kernel
theorem dX11_tilts_80 : decode cX11_tilts 80 = .ok (.ireturn, 1) := by decide +kernel
theorem dX11_comes_0 : decode cX11_comes 0 = .ok (.iload_n 1, 1) := by decide +kernel
theorem dX11_comes_1 : decode cX11_comes 1 = .ok (.invokestatic 368, 3) := by decide +kernel
theorem dX11_comes_4 : decode cX11_comes 4 = .ok (.ifCond .eq 11, 3) := by decide +kernel
theorem dX11_comes_7 : decode cX11_comes 7 = .ok (.iload_n 2, 1) := by decide +kernel
theorem dX11_comes_8 : decode cX11_comes 8 = .ok (.i2l, 1) := by decide +kernel
theorem dX11_comes_9 : decode cX11_comes 9 = .ok (.invokestatic 258, 3) := by decide +kernel
theorem dX11_comes_12 : decode cX11_comes 12 = .ok (.ifCond .ne 6, 3) := by decide +kernel
theorem dX11_comes_15 : decode cX11_comes 15 = .ok (.bipush (-2), 2) := by decide +kernel
theorem dX11_comes_17 : decode cX11_comes 17 = .ok (.ireturn, 1) := by decide +kernel
theorem dX11_comes_18 : decode cX11_comes 18 = .ok (.iload_n 1, 1) := by decide +kernel
theorem dX11_comes_19 : decode cX11_comes 19 = .ok (.ifCond .ne 8, 3) := by decide +kernel
theorem dX11_comes_22 : decode cX11_comes 22 = .ok (.bipush 7, 2) := by decide +kernel
theorem dX11_comes_24 : decode cX11_comes 24 = .ok (.goto 5, 3) := by decide +kernel
theorem dX11_comes_27 : decode cX11_comes 27 = .ok (.bipush 8, 2) := by decide +kernel
theorem dX11_comes_29 : decode cX11_comes 29 = .ok (.istore_n 3, 1) := by decide +kernel
theorem dX11_comes_30 : decode cX11_comes 30 = .ok (.aload_n 0, 1) := by decide +kernel
theorem dX11_comes_31 : decode cX11_comes 31 = .ok (.getfield 21, 3) := by decide +kernel
theorem dX11_comes_34 : decode cX11_comes 34 = .ok (.iload_n 1, 1) := by decide +kernel
theorem dX11_comes_35 : decode cX11_comes 35 = .ok (.invokevirtual 371, 3) := by decide +kernel
theorem dX11_comes_38 : decode cX11_comes 38 = .ok (.istore 4, 2) := by decide +kernel
theorem dX11_comes_40 : decode cX11_comes 40 = .ok (.iload 4, 2) := by decide +kernel
theorem dX11_comes_42 : decode cX11_comes 42 = .ok (.iload_n 3, 1) := by decide +kernel
theorem dX11_comes_43 : decode cX11_comes 43 = .ok (.if_icmp .lt 6, 3) := by decide +kernel
theorem dX11_comes_46 : decode cX11_comes 46 = .ok (.bipush (-5), 2) := by decide +kernel
theorem dX11_comes_48 : decode cX11_comes 48 = .ok (.ireturn, 1) := by decide +kernel
theorem dX11_comes_49 : decode cX11_comes 49 = .ok (.aload_n 0, 1) := by decide +kernel
theorem dX11_comes_50 : decode cX11_comes 50 = .ok (.getfield 61, 3) := by decide +kernel
theorem dX11_comes_53 : decode cX11_comes 53 = .ok (.aload_n 0, 1) := by decide +kernel
theorem dX11_comes_54 : decode cX11_comes 54 = .ok (.getfield 21, 3) := by decide +kernel
theorem dX11_comes_57 : decode cX11_comes 57 = .ok (.invokevirtual 361, 3) := by decide +kernel
theorem dX11_comes_60 : decode cX11_comes 60 = .ok (.iload_n 1, 1) := by decide +kernel
theorem dX11_comes_61 : decode cX11_comes 61 = .ok (.ifCond .ne 15, 3) := by decide +kernel
theorem dX11_comes_64 : decode cX11_comes 64 = .ok (.aload_n 0, 1) := by decide +kernel
theorem dX11_comes_65 : decode cX11_comes 65 = .ok (.getfield 21, 3) := by decide +kernel
theorem dX11_comes_68 : decode cX11_comes 68 = .ok (.iload_n 2, 1) := by decide +kernel
theorem dX11_comes_69 : decode cX11_comes 69 = .ok (.i2l, 1) := by decide +kernel
theorem dX11_comes_70 : decode cX11_comes 70 = .ok (.invokevirtual 374, 3) := by decide +kernel
theorem dX11_comes_73 : decode cX11_comes 73 = .ok (.goto 12, 3) := by decide +kernel
theorem dX11_comes_76 : decode cX11_comes 76 = .ok (.aload_n 0, 1) := by decide +kernel
theorem dX11_comes_77 : decode cX11_comes 77 = .ok (.getfield 21, 3) := by decide +kernel
theorem dX11_comes_80 : decode cX11_comes 80 = .ok (.iload_n 2, 1) := by decide +kernel
theorem dX11_comes_81 : decode cX11_comes 81 = .ok (.i2l, 1) := by decide +kernel
theorem dX11_comes_82 : decode cX11_comes 82 = .ok (.invokevirtual 378, 3) := by decide +kernel
theorem dX11_comes_85 : decode cX11_comes 85 = .ok (.aload_n 0, 1) := by decide +kernel
theorem dX11_comes_86 : decode cX11_comes 86 = .ok (.invokevirtual 137, 3) := by decide +kernel
theorem dX11_comes_89 : decode cX11_comes 89 = .ok (.iload 4, 2) := by decide +kernel
theorem dX11_comes_91 : decode cX11_comes 91 = .ok (.ireturn, 1) := by decide +kernel
theorem dX11_goes_0 : decode cX11_goes 0 = .ok (.aload_n 0, 1) := by decide +kernel
theorem dX11_goes_1 : decode cX11_goes 1 = .ok (.getfield 21, 3) := by decide +kernel
theorem dX11_goes_4 : decode cX11_goes 4 = .ok (.iload_n 1, 1) := by decide +kernel
theorem dX11_goes_5 : decode cX11_goes 5 = .ok (.iload_n 2, 1) := by decide +kernel
theorem dX11_goes_6 : decode cX11_goes 6 = .ok (.invokevirtual 343, 3) := by decide +kernel
theorem dX11_goes_9 : decode cX11_goes 9 = .ok (.ifCond .ne 6, 3) := by decide +kernel
theorem dX11_goes_12 : decode cX11_goes 12 = .ok (.bipush (-2), 2) := by decide +kernel
theorem dX11_goes_14 : decode cX11_goes 14 = .ok (.ireturn, 1) := by decide +kernel
theorem dX11_goes_15 : decode cX11_goes 15 = .ok (.aload_n 0, 1) := by decide +kernel
theorem dX11_goes_16 : decode cX11_goes 16 = .ok (.getfield 61, 3) := by decide +kernel
theorem dX11_goes_19 : decode cX11_goes 19 = .ok (.aload_n 0, 1) := by decide +kernel
theorem dX11_goes_20 : decode cX11_goes 20 = .ok (.getfield 21, 3) := by decide +kernel
theorem dX11_goes_23 : decode cX11_goes 23 = .ok (.invokevirtual 361, 3) := by decide +kernel
theorem dX11_goes_26 : decode cX11_goes 26 = .ok (.iload_n 2, 1) := by decide +kernel
theorem dX11_goes_27 : decode cX11_goes 27 = .ok (.ifCond .ne 14, 3) := by decide +kernel
theorem dX11_goes_30 : decode cX11_goes 30 = .ok (.aload_n 0, 1) := by decide +kernel
theorem dX11_goes_31 : decode cX11_goes 31 = .ok (.getfield 21, 3) := by decide +kernel
theorem dX11_goes_34 : decode cX11_goes 34 = .ok (.iload_n 1, 1) := by decide +kernel
theorem dX11_goes_35 : decode cX11_goes 35 = .ok (.invokevirtual 281, 3) := by decide +kernel
theorem dX11_goes_38 : decode cX11_goes 38 = .ok (.goto 11, 3) := by decide +kernel
theorem dX11_goes_41 : decode cX11_goes 41 = .ok (.aload_n 0, 1) := by decide +kernel
theorem dX11_goes_42 : decode cX11_goes 42 = .ok (.getfield 21, 3) := by decide +kernel
theorem dX11_goes_45 : decode cX11_goes 45 = .ok (.iload_n 1, 1) := by decide +kernel
theorem dX11_goes_46 : decode cX11_goes 46 = .ok (.invokevirtual 381, 3) := by decide +kernel
theorem dX11_goes_49 : decode cX11_goes 49 = .ok (.aload_n 0, 1) := by decide +kernel
theorem dX11_goes_50 : decode cX11_goes 50 = .ok (.invokevirtual 137, 3) := by decide +kernel
theorem dX11_goes_53 : decode cX11_goes 53 = .ok (.aload_n 0, 1) := by decide +kernel
theorem dX11_goes_54 : decode cX11_goes 54 = .ok (.getfield 21, 3) := by decide +kernel
theorem dX11_goes_57 : decode cX11_goes 57 = .ok (.iload_n 2, 1) := by decide +kernel
theorem dX11_goes_58 : decode cX11_goes 58 = .ok (.invokevirtual 371, 3) := by decide +kernel
theorem dX11_goes_61 : decode cX11_goes 61 = .ok (.ireturn, 1) := by decide +kernel
theorem dX11_turn_0 : decode cX11_turn 0 = .ok (.aload_n 0, 1) := by decide +kernel
theorem dX11_turn_1 : decode cX11_turn 1 = .ok (.getfield 21, 3) := by decide +kernel
theorem dX11_turn_4 : decode cX11_turn 4 = .ok (.iload_n 1, 1) := by decide +kernel
theorem dX11_turn_5 : decode cX11_turn 5 = .ok (.invokevirtual 179, 3) := by decide +kernel
theorem dX11_turn_8 : decode cX11_turn 8 = .ok (.ifCond .eq 14, 3) := by decide +kernel
theorem dX11_turn_11 : decode cX11_turn 11 = .ok (.aload_n 0, 1) := by decide +kernel
theorem dX11_turn_12 : decode cX11_turn 12 = .ok (.getfield 21, 3) := by decide +kernel
theorem dX11_turn_15 : decode cX11_turn 15 = .ok (.iload_n 2, 1) := by decide +kernel
theorem dX11_turn_16 : decode cX11_turn 16 = .ok (.invokevirtual 179, 3) := by decide +kernel
theorem dX11_turn_19 : decode cX11_turn 19 = .ok (.ifCond .ne 6, 3) := by decide +kernel
theorem dX11_turn_22 : decode cX11_turn 22 = .ok (.bipush (-2), 2) := by decide +kernel
theorem dX11_turn_24 : decode cX11_turn 24 = .ok (.ireturn, 1) := by decide +kernel
theorem dX11_turn_25 : decode cX11_turn 25 = .ok (.aload_n 0, 1) := by decide +kernel
theorem dX11_turn_26 : decode cX11_turn 26 = .ok (.getfield 21, 3) := by decide +kernel
theorem dX11_turn_29 : decode cX11_turn 29 = .ok (.iload_n 1, 1) := by decide +kernel
theorem dX11_turn_30 : decode cX11_turn 30 = .ok (.iload_n 2, 1) := by decide +kernel
theorem dX11_turn_31 : decode cX11_turn 31 = .ok (.invokevirtual 384, 3) := by decide +kernel
theorem dX11_turn_34 : decode cX11_turn 34 = .ok (.ifCond .eq 5, 3) := by decide +kernel
theorem dX11_turn_37 : decode cX11_turn 37 = .ok (.iconst 0, 1) := by decide +kernel
theorem dX11_turn_38 : decode cX11_turn 38 = .ok (.ireturn, 1) := by decide +kernel
theorem dX11_turn_39 : decode cX11_turn 39 = .ok (.aload_n 0, 1) := by decide +kernel
theorem dX11_turn_40 : decode cX11_turn 40 = .ok (.getfield 61, 3) := by decide +kernel
theorem dX11_turn_43 : decode cX11_turn 43 = .ok (.aload_n 0, 1) := by decide +kernel
theorem dX11_turn_44 : decode cX11_turn 44 = .ok (.getfield 21, 3) := by decide +kernel
theorem dX11_turn_47 : decode cX11_turn 47 = .ok (.invokevirtual 361, 3) := by decide +kernel
theorem dX11_turn_50 : decode cX11_turn 50 = .ok (.aload_n 0, 1) := by decide +kernel
theorem dX11_turn_51 : decode cX11_turn 51 = .ok (.getfield 21, 3) := by decide +kernel
theorem dX11_turn_54 : decode cX11_turn 54 = .ok (.iload_n 1, 1) := by decide +kernel
theorem dX11_turn_55 : decode cX11_turn 55 = .ok (.iload_n 2, 1) := by decide +kernel
theorem dX11_turn_56 : decode cX11_turn 56 = .ok (.invokevirtual 387, 3) := by decide +kernel
theorem dX11_turn_59 : decode cX11_turn 59 = .ok (.aload_n 0, 1) := by decide +kernel
theorem dX11_turn_60 : decode cX11_turn 60 = .ok (.invokevirtual 137, 3) := by decide +kernel
theorem dX11_turn_63 : decode cX11_turn 63 = .ok (.iconst 1, 1) := by decide +kernel
theorem dX11_turn_64 : decode cX11_turn 64 = .ok (.ireturn, 1) := by decide +kernel
theorem dX11_undo_0 : decode cX11_undo 0 = .ok (.aload_n 0, 1) := by decide +kernel
theorem dX11_undo_1 : decode cX11_undo 1 = .ok (.getfield 61, 3) := by decide +kernel
theorem dX11_undo_4 : decode cX11_undo 4 = .ok (.aload_n 0, 1) := by decide +kernel
theorem dX11_undo_5 : decode cX11_undo 5 = .ok (.getfield 21, 3) := by decide +kernel
theorem dX11_undo_8 : decode cX11_undo 8 = .ok (.invokevirtual 390, 3) := by decide +kernel
theorem dX11_undo_11 : decode cX11_undo 11 = .ok (.ifCond .ne 5, 3) := by decide +kernel
theorem dX11_undo_14 : decode cX11_undo 14 = .ok (.iconst (-1), 1) := by decide +kernel
theorem dX11_undo_15 : decode cX11_undo 15 = .ok (.ireturn, 1) := by decide +kernel
theorem dX11_undo_16 : decode cX11_undo 16 = .ok (.aload_n 0, 1) := by decide +kernel
theorem dX11_undo_17 : decode cX11_undo 17 = .ok (.invokevirtual 137, 3) := by decide +kernel
theorem dX11_undo_20 : decode cX11_undo 20 = .ok (.aload_n 0, 1) := by decide +kernel
theorem dX11_undo_21 : decode cX11_undo 21 = .ok (.getfield 61, 3) := by decide +kernel
theorem dX11_undo_24 : decode cX11_undo 24 = .ok (.getfield 159, 3) := by decide +kernel
theorem dX11_undo_27 : decode cX11_undo 27 = .ok (.ireturn, 1) := by decide +kernel
theorem dX11_isRank_0 : decode cX11_isRank 0 = .ok (.iload_n 0, 1) := by decide +kernel
theorem dX11_isRank_1 : decode cX11_isRank 1 = .ok (.ifCond .lt 14, 3) := by decide +kernel
theorem dX11_isRank_4 : decode cX11_isRank 4 = .ok (.iload_n 0, 1) := by decide +kernel
theorem dX11_isRank_5 : decode cX11_isRank 5 = .ok (.sipush 200, 3) := by decide +kernel
theorem dX11_isRank_8 : decode cX11_isRank 8 = .ok (.if_icmp .ge 7, 3) := by decide +kernel
theorem dX11_isRank_11 : decode cX11_isRank 11 = .ok (.iconst 1, 1) := by decide +kernel
theorem dX11_isRank_12 : decode cX11_isRank 12 = .ok (.goto 4, 3) := by decide +kernel
theorem dX11_isRank_15 : decode cX11_isRank 15 = .ok (.iconst 0, 1) := by decide +kernel
theorem dX11_isRank_16 : decode cX11_isRank 16 = .ok (.ireturn, 1) := by decide +kernel
theorem dX11_isRule_0 : decode cX11_isRule 0 = .ok (.iload_n 0, 1) := by decide +kernel
theorem dX11_isRule_1 : decode cX11_isRule 1 = .ok (.ifCond .lt 12, 3) := by decide +kernel
theorem dX11_isRule_4 : decode cX11_isRule 4 = .ok (.iload_n 0, 1) := by decide +kernel
theorem dX11_isRule_5 : decode cX11_isRule 5 = .ok (.iconst 3, 1) := by decide +kernel
theorem dX11_isRule_6 : decode cX11_isRule 6 = .ok (.if_icmp .gt 7, 3) := by decide +kernel
theorem dX11_isRule_9 : decode cX11_isRule 9 = .ok (.iconst 1, 1) := by decide +kernel
theorem dX11_isRule_10 : decode cX11_isRule 10 = .ok (.goto 4, 3) := by decide +kernel
theorem dX11_isRule_13 : decode cX11_isRule 13 = .ok (.iconst 0, 1) := by decide +kernel
theorem dX11_isRule_14 : decode cX11_isRule 14 = .ok (.ireturn, 1) := by decide +kernel
theorem dX11_isStep_0 : decode cX11_isStep 0 = .ok (.iload_n 0, 1) := by decide +kernel
theorem dX11_isStep_1 : decode cX11_isStep 1 = .ok (.iconst 1, 1) := by decide +kernel
theorem dX11_isStep_2 : decode cX11_isStep 2 = .ok (.if_icmp .lt 13, 3) := by decide +kernel
theorem dX11_isStep_5 : decode cX11_isStep 5 = .ok (.iload_n 0, 1) := by decide +kernel
theorem dX11_isStep_6 : decode cX11_isStep 6 = .ok (.bipush 99, 2) := by decide +kernel
theorem dX11_isStep_8 : decode cX11_isStep 8 = .ok (.if_icmp .gt 7, 3) := by decide +kernel
theorem dX11_isStep_11 : decode cX11_isStep 11 = .ok (.iconst 1, 1) := by decide +kernel
theorem dX11_isStep_12 : decode cX11_isStep 12 = .ok (.goto 4, 3) := by decide +kernel
theorem dX11_isStep_15 : decode cX11_isStep 15 = .ok (.iconst 0, 1) := by decide +kernel
theorem dX11_isStep_16 : decode cX11_isStep 16 = .ok (.ireturn, 1) := by decide +kernel
theorem dX11_isKind_0 : decode cX11_isKind 0 = .ok (.iload_n 0, 1) := by decide +kernel
theorem dX11_isKind_1 : decode cX11_isKind 1 = .ok (.ifCond .eq 8, 3) := by decide +kernel
theorem dX11_isKind_4 : decode cX11_isKind 4 = .ok (.iload_n 0, 1) := by decide +kernel
theorem dX11_isKind_5 : decode cX11_isKind 5 = .ok (.iconst 1, 1) := by decide +kernel
theorem dX11_isKind_6 : decode cX11_isKind 6 = .ok (.if_icmp .ne 7, 3) := by decide +kernel
theorem dX11_isKind_9 : decode cX11_isKind 9 = .ok (.iconst 1, 1) := by decide +kernel
theorem dX11_isKind_10 : decode cX11_isKind 10 = .ok (.goto 4, 3) := by decide +kernel
theorem dX11_isKind_13 : decode cX11_isKind 13 = .ok (.iconst 0, 1) := by decide +kernel
theorem dX11_isKind_14 : decode cX11_isKind 14 = .ok (.ireturn, 1) := by decide +kernel
theorem dX11_isCost_0 : decode cX11_isCost 0 = .ok (.lload_n 0, 1) := by decide +kernel
theorem dX11_isCost_1 : decode cX11_isCost 1 = .ok (.ldc2_w 394, 3) := by decide +kernel
theorem dX11_isCost_4 : decode cX11_isCost 4 = .ok (.lcmp, 1) := by decide +kernel
theorem dX11_isCost_5 : decode cX11_isCost 5 = .ok (.ifCond .lt 15, 3) := by decide +kernel
theorem dX11_isCost_8 : decode cX11_isCost 8 = .ok (.lload_n 0, 1) := by decide +kernel
theorem dX11_isCost_9 : decode cX11_isCost 9 = .ok (.ldc2_w 396, 3) := by decide +kernel
theorem dX11_isCost_12 : decode cX11_isCost 12 = .ok (.lcmp, 1) := by decide +kernel
theorem dX11_isCost_13 : decode cX11_isCost 13 = .ok (.ifCond .gt 7, 3) := by decide +kernel
theorem dX11_isCost_16 : decode cX11_isCost 16 = .ok (.iconst 1, 1) := by decide +kernel
theorem dX11_isCost_17 : decode cX11_isCost 17 = .ok (.goto 4, 3) := by decide +kernel
theorem dX11_isCost_20 : decode cX11_isCost 20 = .ok (.iconst 0, 1) := by decide +kernel
theorem dX11_isCost_21 : decode cX11_isCost 21 = .ok (.ireturn, 1) := by decide +kernel
theorem dX11_difference_0 : decode cX11_difference 0 = .ok (.lload_n 0, 1) := by decide +kernel
theorem dX11_difference_1 : decode cX11_difference 1 = .ok (.ldc2_w 170, 3) := by decide +kernel
theorem dX11_difference_4 : decode cX11_difference 4 = .ok (.lcmp, 1) := by decide +kernel
theorem dX11_difference_5 : decode cX11_difference 5 = .ok (.ifCond .eq 11, 3) := by decide +kernel
theorem dX11_difference_8 : decode cX11_difference 8 = .ok (.lload_n 2, 1) := by decide +kernel
theorem dX11_difference_9 : decode cX11_difference 9 = .ok (.ldc2_w 170, 3) := by decide +kernel
theorem dX11_difference_12 : decode cX11_difference 12 = .ok (.lcmp, 1) := by decide +kernel
theorem dX11_difference_13 : decode cX11_difference 13 = .ok (.ifCond .ne 9, 3) := by decide +kernel
theorem dX11_difference_16 : decode cX11_difference 16 = .ok (.ldc2_w 170, 3) := by decide +kernel
theorem dX11_difference_19 : decode cX11_difference 19 = .ok (.goto 6, 3) := by decide +kernel
theorem dX11_difference_22 : decode cX11_difference 22 = .ok (.lload_n 0, 1) := by decide +kernel
theorem dX11_difference_23 : decode cX11_difference 23 = .ok (.lload_n 2, 1) := by decide +kernel
theorem dX11_difference_24 : decode cX11_difference 24 = .ok (.lsub, 1) := by decide +kernel
theorem dX11_difference_25 : decode cX11_difference 25 = .ok (.lreturn, 1) := by decide +kernel
theorem dX11_changed_0 : decode cX11_changed 0 = .ok (.aload_n 0, 1) := by decide +kernel
theorem dX11_changed_1 : decode cX11_changed 1 = .ok (.getfield 30, 3) := by decide +kernel
theorem dX11_changed_4 : decode cX11_changed 4 = .ok (.invokevirtual 109, 3) := by decide +kernel
theorem dX11_changed_7 : decode cX11_changed 7 = .ok (.aload_n 0, 1) := by decide +kernel
theorem dX11_changed_8 : decode cX11_changed 8 = .ok (.getfield 39, 3) := by decide +kernel
theorem dX11_changed_11 : decode cX11_changed 11 = .ok (.invokevirtual 398, 3) := by decide +kernel
theorem dX11_changed_14 : decode cX11_changed 14 = .ok (.return_, 1) := by decide +kernel
theorem dX11_supposeCost_0 : decode cX11_supposeCost 0 = .ok (.aload_n 0, 1) := by decide +kernel
theorem dX11_supposeCost_1 : decode cX11_supposeCost 1 = .ok (.getfield 43, 3) := by decide +kernel
theorem dX11_supposeCost_4 : decode cX11_supposeCost 4 = .ok (.aload_n 0, 1) := by decide +kernel
theorem dX11_supposeCost_5 : decode cX11_supposeCost 5 = .ok (.getfield 21, 3) := by decide +kernel
theorem dX11_supposeCost_8 : decode cX11_supposeCost 8 = .ok (.invokevirtual 131, 3) := by decide +kernel
theorem dX11_supposeCost_11 : decode cX11_supposeCost 11 = .ok (.aload_n 0, 1) := by decide +kernel
theorem dX11_supposeCost_12 : decode cX11_supposeCost 12 = .ok (.getfield 43, 3) := by decide +kernel
theorem dX11_supposeCost_15 : decode cX11_supposeCost 15 = .ok (.iload_n 1, 1) := by decide +kernel
theorem dX11_supposeCost_16 : decode cX11_supposeCost 16 = .ok (.iload_n 2, 1) := by decide +kernel
theorem dX11_supposeCost_17 : decode cX11_supposeCost 17 = .ok (.lload_n 3, 1) := by decide +kernel
theorem dX11_supposeCost_18 : decode cX11_supposeCost 18 = .ok (.invokevirtual 401, 3) := by decide +kernel
theorem dX11_supposeCost_21 : decode cX11_supposeCost 21 = .ok (.aload_n 0, 1) := by decide +kernel
theorem dX11_supposeCost_22 : decode cX11_supposeCost 22 = .ok (.getfield 46, 3) := by decide +kernel
theorem dX11_supposeCost_25 : decode cX11_supposeCost 25 = .ok (.invokevirtual 109, 3) := by decide +kernel
theorem dX11_supposeCost_28 : decode cX11_supposeCost 28 = .ok (.return_, 1) := by decide +kernel
theorem dX11_supposeForced_0 : decode cX11_supposeForced 0 = .ok (.aload_n 0, 1) := by decide +kernel
theorem dX11_supposeForced_1 : decode cX11_supposeForced 1 = .ok (.getfield 43, 3) := by decide +kernel
theorem dX11_supposeForced_4 : decode cX11_supposeForced 4 = .ok (.aload_n 0, 1) := by decide +kernel
theorem dX11_supposeForced_5 : decode cX11_supposeForced 5 = .ok (.getfield 21, 3) := by decide +kernel
theorem dX11_supposeForced_8 : decode cX11_supposeForced 8 = .ok (.invokevirtual 131, 3) := by decide +kernel
theorem dX11_supposeForced_11 : decode cX11_supposeForced 11 = .ok (.iconst 0, 1) := by decide +kernel
theorem dX11_supposeForced_12 : decode cX11_supposeForced 12 = .ok (.istore_n 3, 1) := by decide +kernel
theorem dX11_supposeForced_13 : decode cX11_supposeForced 13 = .ok (.iload_n 3, 1) := by decide +kernel
theorem dX11_supposeForced_14 : decode cX11_supposeForced 14 = .ok (.aload_n 0, 1) := by decide +kernel
theorem dX11_supposeForced_15 : decode cX11_supposeForced 15 = .ok (.getfield 21, 3) := by decide +kernel
theorem dX11_supposeForced_18 : decode cX11_supposeForced 18 = .ok (.getfield 149, 3) := by decide +kernel
theorem dX11_supposeForced_21 : decode cX11_supposeForced 21 = .ok (.if_icmp .ge 26, 3) := by decide +kernel
theorem dX11_supposeForced_24 : decode cX11_supposeForced 24 = .ok (.iload_n 3, 1) := by decide +kernel
theorem dX11_supposeForced_25 : decode cX11_supposeForced 25 = .ok (.iload_n 2, 1) := by decide +kernel
theorem dX11_supposeForced_26 : decode cX11_supposeForced 26 = .ok (.if_icmp .eq 15, 3) := by decide +kernel
theorem dX11_supposeForced_29 : decode cX11_supposeForced 29 = .ok (.aload_n 0, 1) := by decide +kernel
theorem dX11_supposeForced_30 : decode cX11_supposeForced 30 = .ok (.getfield 43, 3) := by decide +kernel
theorem dX11_supposeForced_33 : decode cX11_supposeForced 33 = .ok (.iload_n 1, 1) := by decide +kernel
theorem dX11_supposeForced_34 : decode cX11_supposeForced 34 = .ok (.iload_n 3, 1) := by decide +kernel
theorem dX11_supposeForced_35 : decode cX11_supposeForced 35 = .ok (.ldc2_w 242, 3) := by decide +kernel
theorem dX11_supposeForced_38 : decode cX11_supposeForced 38 = .ok (.invokevirtual 401, 3) := by decide +kernel
theorem dX11_supposeForced_41 : decode cX11_supposeForced 41 = .ok (.iinc 3 1, 3) := by decide +kernel
theorem dX11_supposeForced_44 : decode cX11_supposeForced 44 = .ok (.goto (-31), 3) := by decide +kernel
theorem dX11_supposeForced_47 : decode cX11_supposeForced 47 = .ok (.aload_n 0, 1) := by decide +kernel
theorem dX11_supposeForced_48 : decode cX11_supposeForced 48 = .ok (.getfield 46, 3) := by decide +kernel
theorem dX11_supposeForced_51 : decode cX11_supposeForced 51 = .ok (.invokevirtual 109, 3) := by decide +kernel
theorem dX11_supposeForced_54 : decode cX11_supposeForced 54 = .ok (.return_, 1) := by decide +kernel
theorem dX11_changeCost_0 : decode cX11_changeCost 0 = .ok (.aload_n 0, 1) := by decide +kernel
theorem dX11_changeCost_1 : decode cX11_changeCost 1 = .ok (.getfield 21, 3) := by decide +kernel
theorem dX11_changeCost_4 : decode cX11_changeCost 4 = .ok (.iload_n 1, 1) := by decide +kernel
theorem dX11_changeCost_5 : decode cX11_changeCost 5 = .ok (.iload_n 2, 1) := by decide +kernel
theorem dX11_changeCost_6 : decode cX11_changeCost 6 = .ok (.invokevirtual 166, 3) := by decide +kernel
theorem dX11_changeCost_9 : decode cX11_changeCost 9 = .ok (.lload_n 3, 1) := by decide +kernel
theorem dX11_changeCost_10 : decode cX11_changeCost 10 = .ok (.lcmp, 1) := by decide +kernel
theorem dX11_changeCost_11 : decode cX11_changeCost 11 = .ok (.ifCond .ne 5, 3) := by decide +kernel
theorem dX11_changeCost_14 : decode cX11_changeCost 14 = .ok (.iconst 0, 1) := by decide +kernel
theorem dX11_changeCost_15 : decode cX11_changeCost 15 = .ok (.ireturn, 1) := by decide +kernel
theorem dX11_changeCost_16 : decode cX11_changeCost 16 = .ok (.aload_n 0, 1) := by decide +kernel
theorem dX11_changeCost_17 : decode cX11_changeCost 17 = .ok (.getfield 61, 3) := by decide +kernel
theorem dX11_changeCost_20 : decode cX11_changeCost 20 = .ok (.aload_n 0, 1) := by decide +kernel
theorem dX11_changeCost_21 : decode cX11_changeCost 21 = .ok (.getfield 21, 3) := by decide +kernel
theorem dX11_changeCost_24 : decode cX11_changeCost 24 = .ok (.invokevirtual 361, 3) := by decide +kernel
theorem dX11_changeCost_27 : decode cX11_changeCost 27 = .ok (.aload_n 0, 1) := by decide +kernel
theorem dX11_changeCost_28 : decode cX11_changeCost 28 = .ok (.getfield 21, 3) := by decide +kernel
theorem dX11_changeCost_31 : decode cX11_changeCost 31 = .ok (.iload_n 1, 1) := by decide +kernel
theorem dX11_changeCost_32 : decode cX11_changeCost 32 = .ok (.iload_n 2, 1) := by decide +kernel
theorem dX11_changeCost_33 : decode cX11_changeCost 33 = .ok (.lload_n 3, 1) := by decide +kernel
theorem dX11_changeCost_34 : decode cX11_changeCost 34 = .ok (.invokevirtual 401, 3) := by decide +kernel
theorem dX11_changeCost_37 : decode cX11_changeCost 37 = .ok (.aload_n 0, 1) := by decide +kernel
theorem dX11_changeCost_38 : decode cX11_changeCost 38 = .ok (.invokevirtual 137, 3) := by decide +kernel
theorem dX11_changeCost_41 : decode cX11_changeCost 41 = .ok (.iconst 1, 1) := by decide +kernel
theorem dX11_changeCost_42 : decode cX11_changeCost 42 = .ok (.ireturn, 1) := by decide +kernel
