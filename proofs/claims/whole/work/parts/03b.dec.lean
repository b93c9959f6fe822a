theorem dX5_cell_146 : decode cX5_cell 146 = .ok (.getfield 32, 3) := by decide +kernel
theorem dX5_cell_149 : decode cX5_cell 149 = .ok (.iload 4, 2) := by decide +kernel
theorem dX5_cell_151 : decode cX5_cell 151 = .ok (.aload_n 0, 1) := by decide +kernel
theorem dX5_cell_152 : decode cX5_cell 152 = .ok (.getfield 32, 3) := by decide +kernel
theorem dX5_cell_155 : decode cX5_cell 155 = .ok (.iload 4, 2) := by decide +kernel
theorem dX5_cell_157 : decode cX5_cell 157 = .ok (.invokevirtual 198, 3) := by decide +kernel
theorem dX5_cell_160 : decode cX5_cell 160 = .ok (.iconst 1, 1) := by decide +kernel
theorem dX5_cell_161 : decode cX5_cell 161 = .ok (.isub, 1) := by decide +kernel
theorem dX5_cell_162 : decode cX5_cell 162 = .ok (.invokevirtual 201, 3) := by decide +kernel
theorem dX5_cell_165 : decode cX5_cell 165 = .ok (.i2l, 1) := by decide +kernel
theorem dX5_cell_166 : decode cX5_cell 166 = .ok (.lreturn, 1) := by decide +kernel
theorem dX5_cell_167 : decode cX5_cell 167 = .ok (.aload_n 0, 1) := by decide +kernel
theorem dX5_cell_168 : decode cX5_cell 168 = .ok (.getfield 25, 3) := by decide +kernel
theorem dX5_cell_171 : decode cX5_cell 171 = .ok (.iload 4, 2) := by decide +kernel
theorem dX5_cell_173 : decode cX5_cell 173 = .ok (.invokevirtual 204, 3) := by decide +kernel
theorem dX5_cell_176 : decode cX5_cell 176 = .ok (.i2l, 1) := by decide +kernel
theorem dX5_cell_177 : decode cX5_cell 177 = .ok (.lreturn, 1) := by decide +kernel
theorem dX5_layer_0 : decode cX5_layer 0 = .ok (.aload_n 0, 1) := by decide +kernel
theorem dX5_layer_1 : decode cX5_layer 1 = .ok (.getfield 25, 3) := by decide +kernel
theorem dX5_layer_4 : decode cX5_layer 4 = .ok (.iload_n 1, 1) := by decide +kernel
theorem dX5_layer_5 : decode cX5_layer 5 = .ok (.iload_n 2, 1) := by decide +kernel
theorem dX5_layer_6 : decode cX5_layer 6 = .ok (.invokevirtual 129, 3) := by decide +kernel
theorem dX5_layer_9 : decode cX5_layer 9 = .ok (.istore 5, 2) := by decide +kernel
theorem dX5_layer_11 : decode cX5_layer 11 = .ok (.iload 5, 2) := by decide +kernel
theorem dX5_layer_13 : decode cX5_layer 13 = .ok (.iconst (-1), 1) := by decide +kernel
theorem dX5_layer_14 : decode cX5_layer 14 = .ok (.if_icmp .ne 7, 3) := by decide +kernel
theorem dX5_layer_17 : decode cX5_layer 17 = .ok (.ldc2_w 86, 3) := by decide +kernel
theorem dX5_layer_20 : decode cX5_layer 20 = .ok (.lreturn, 1) := by decide +kernel
theorem dX5_layer_21 : decode cX5_layer 21 = .ok (.iload 4, 2) := by decide +kernel
theorem dX5_layer_23 : decode cX5_layer 23 = .ok (.ifCond .lt 9, 3) := by decide +kernel
theorem dX5_layer_26 : decode cX5_layer 26 = .ok (.iload 4, 2) := by decide +kernel
theorem dX5_layer_28 : decode cX5_layer 28 = .ok (.iconst 1, 1) := by decide +kernel
theorem dX5_layer_29 : decode cX5_layer 29 = .ok (.if_icmp .le 7, 3) := by decide +kernel
theorem dX5_layer_32 : decode cX5_layer 32 = .ok (.ldc2_w 88, 3) := by decide +kernel
theorem dX5_layer_35 : decode cX5_layer 35 = .ok (.lreturn, 1) := by decide +kernel
theorem dX5_layer_36 : decode cX5_layer 36 = .ok (.aload_n 0, 1) := by decide +kernel
theorem dX5_layer_37 : decode cX5_layer 37 = .ok (.getfield 25, 3) := by decide +kernel
theorem dX5_layer_40 : decode cX5_layer 40 = .ok (.getfield 136, 3) := by decide +kernel
theorem dX5_layer_43 : decode cX5_layer 43 = .ok (.iload 5, 2) := by decide +kernel
theorem dX5_layer_45 : decode cX5_layer 45 = .ok (.iaload, 1) := by decide +kernel
theorem dX5_layer_46 : decode cX5_layer 46 = .ok (.iconst 4, 1) := by decide +kernel
theorem dX5_layer_47 : decode cX5_layer 47 = .ok (.if_icmp .ne 7, 3) := by decide +kernel
theorem dX5_layer_50 : decode cX5_layer 50 = .ok (.ldc2_w 163, 3) := by decide +kernel
theorem dX5_layer_53 : decode cX5_layer 53 = .ok (.lreturn, 1) := by decide +kernel
theorem dX5_layer_54 : decode cX5_layer 54 = .ok (.aload_n 0, 1) := by decide +kernel
theorem dX5_layer_55 : decode cX5_layer 55 = .ok (.getfield 32, 3) := by decide +kernel
theorem dX5_layer_58 : decode cX5_layer 58 = .ok (.iload 5, 2) := by decide +kernel
theorem dX5_layer_60 : decode cX5_layer 60 = .ok (.iload_n 3, 1) := by decide +kernel
theorem dX5_layer_61 : decode cX5_layer 61 = .ok (.invokevirtual 201, 3) := by decide +kernel
theorem dX5_layer_64 : decode cX5_layer 64 = .ok (.istore 6, 2) := by decide +kernel
theorem dX5_layer_66 : decode cX5_layer 66 = .ok (.iload 6, 2) := by decide +kernel
theorem dX5_layer_68 : decode cX5_layer 68 = .ok (.bipush (-9), 2) := by decide +kernel
theorem dX5_layer_70 : decode cX5_layer 70 = .ok (.if_icmp .eq 8, 3) := by decide +kernel
theorem dX5_layer_73 : decode cX5_layer 73 = .ok (.iload 4, 2) := by decide +kernel
theorem dX5_layer_75 : decode cX5_layer 75 = .ok (.ifCond .ne 7, 3) := by decide +kernel
theorem dX5_layer_78 : decode cX5_layer 78 = .ok (.iload 6, 2) := by decide +kernel
theorem dX5_layer_80 : decode cX5_layer 80 = .ok (.i2l, 1) := by decide +kernel
theorem dX5_layer_81 : decode cX5_layer 81 = .ok (.lreturn, 1) := by decide +kernel
theorem dX5_layer_82 : decode cX5_layer 82 = .ok (.aload_n 0, 1) := by decide +kernel
theorem dX5_layer_83 : decode cX5_layer 83 = .ok (.getfield 32, 3) := by decide +kernel
theorem dX5_layer_86 : decode cX5_layer 86 = .ok (.getfield 207, 3) := by decide +kernel
theorem dX5_layer_89 : decode cX5_layer 89 = .ok (.iload 5, 2) := by decide +kernel
theorem dX5_layer_91 : decode cX5_layer 91 = .ok (.bipush 61, 2) := by decide +kernel
theorem dX5_layer_93 : decode cX5_layer 93 = .ok (.imul, 1) := by decide +kernel
theorem dX5_layer_94 : decode cX5_layer 94 = .ok (.iload 6, 2) := by decide +kernel
theorem dX5_layer_96 : decode cX5_layer 96 = .ok (.iadd, 1) := by decide +kernel
theorem dX5_layer_97 : decode cX5_layer 97 = .ok (.laload, 1) := by decide +kernel
theorem dX5_layer_98 : decode cX5_layer 98 = .ok (.lreturn, 1) := by decide +kernel
theorem dX5_sum_0 : decode cX5_sum 0 = .ok (.iload_n 1, 1) := by decide +kernel
theorem dX5_sum_1 : decode cX5_sum 1 = .ok (.ifCond .lt 8, 3) := by decide +kernel
theorem dX5_sum_4 : decode cX5_sum 4 = .ok (.iload_n 1, 1) := by decide +kernel
theorem dX5_sum_5 : decode cX5_sum 5 = .ok (.iconst 4, 1) := by decide +kernel
theorem dX5_sum_6 : decode cX5_sum 6 = .ok (.if_icmp .le 7, 3) := by decide +kernel
theorem dX5_sum_9 : decode cX5_sum 9 = .ok (.ldc2_w 88, 3) := by decide +kernel
theorem dX5_sum_12 : decode cX5_sum 12 = .ok (.lreturn, 1) := by decide +kernel
theorem dX5_sum_13 : decode cX5_sum 13 = .ok (.iload_n 2, 1) := by decide +kernel
theorem dX5_sum_14 : decode cX5_sum 14 = .ok (.bipush (-9), 2) := by decide +kernel
theorem dX5_sum_16 : decode cX5_sum 16 = .ok (.if_icmp .eq 17, 3) := by decide +kernel
theorem dX5_sum_19 : decode cX5_sum 19 = .ok (.iload_n 2, 1) := by decide +kernel
theorem dX5_sum_20 : decode cX5_sum 20 = .ok (.ifCond .lt 9, 3) := by decide +kernel
theorem dX5_sum_23 : decode cX5_sum 23 = .ok (.iload_n 2, 1) := by decide +kernel
theorem dX5_sum_24 : decode cX5_sum 24 = .ok (.bipush 60, 2) := by decide +kernel
theorem dX5_sum_26 : decode cX5_sum 26 = .ok (.if_icmp .le 7, 3) := by decide +kernel
theorem dX5_sum_29 : decode cX5_sum 29 = .ok (.ldc2_w 88, 3) := by decide +kernel
theorem dX5_sum_32 : decode cX5_sum 32 = .ok (.lreturn, 1) := by decide +kernel
theorem dX5_sum_33 : decode cX5_sum 33 = .ok (.aload_n 0, 1) := by decide +kernel
theorem dX5_sum_34 : decode cX5_sum 34 = .ok (.getfield 25, 3) := by decide +kernel
theorem dX5_sum_37 : decode cX5_sum 37 = .ok (.invokevirtual 210, 3) := by decide +kernel
theorem dX5_sum_40 : decode cX5_sum 40 = .ok (.ifCond .ne 7, 3) := by decide +kernel
theorem dX5_sum_43 : decode cX5_sum 43 = .ok (.ldc2_w 163, 3) := by decide +kernel
theorem dX5_sum_46 : decode cX5_sum 46 = .ok (.lreturn, 1) := by decide +kernel
theorem dX5_sum_47 : decode cX5_sum 47 = .ok (.iload_n 2, 1) := by decide +kernel
theorem dX5_sum_48 : decode cX5_sum 48 = .ok (.bipush (-9), 2) := by decide +kernel
theorem dX5_sum_50 : decode cX5_sum 50 = .ok (.if_icmp .ne 14, 3) := by decide +kernel
theorem dX5_sum_53 : decode cX5_sum 53 = .ok (.aload_n 0, 1) := by decide +kernel
theorem dX5_sum_54 : decode cX5_sum 54 = .ok (.getfield 32, 3) := by decide +kernel
theorem dX5_sum_57 : decode cX5_sum 57 = .ok (.iload_n 1, 1) := by decide +kernel
theorem dX5_sum_58 : decode cX5_sum 58 = .ok (.invokevirtual 214, 3) := by decide +kernel
theorem dX5_sum_61 : decode cX5_sum 61 = .ok (.goto 17, 3) := by decide +kernel
theorem dX5_sum_64 : decode cX5_sum 64 = .ok (.aload_n 0, 1) := by decide +kernel
theorem dX5_sum_65 : decode cX5_sum 65 = .ok (.getfield 32, 3) := by decide +kernel
theorem dX5_sum_68 : decode cX5_sum 68 = .ok (.getfield 217, 3) := by decide +kernel
theorem dX5_sum_71 : decode cX5_sum 71 = .ok (.iload_n 1, 1) := by decide +kernel
theorem dX5_sum_72 : decode cX5_sum 72 = .ok (.bipush 61, 2) := by decide +kernel
theorem dX5_sum_74 : decode cX5_sum 74 = .ok (.imul, 1) := by decide +kernel
theorem dX5_sum_75 : decode cX5_sum 75 = .ok (.iload_n 2, 1) := by decide +kernel
theorem dX5_sum_76 : decode cX5_sum 76 = .ok (.iadd, 1) := by decide +kernel
theorem dX5_sum_77 : decode cX5_sum 77 = .ok (.laload, 1) := by decide +kernel
theorem dX5_sum_78 : decode cX5_sum 78 = .ok (.lreturn, 1) := by decide +kernel
theorem dX5_about_0 : decode cX5_about 0 = .ok (.iload_n 1, 1) := by decide +kernel
theorem dX5_about_1 : decode cX5_about 1 = .ok (.ifCond .lt 8, 3) := by decide +kernel
theorem dX5_about_4 : decode cX5_about 4 = .ok (.iload_n 1, 1) := by decide +kernel
theorem dX5_about_5 : decode cX5_about 5 = .ok (.iconst 4, 1) := by decide +kernel
theorem dX5_about_6 : decode cX5_about 6 = .ok (.if_icmp .le 7, 3) := by decide +kernel
theorem dX5_about_9 : decode cX5_about 9 = .ok (.ldc2_w 88, 3) := by decide +kernel
theorem dX5_about_12 : decode cX5_about 12 = .ok (.lreturn, 1) := by decide +kernel
theorem dX5_about_13 : decode cX5_about 13 = .ok (.aload_n 0, 1) := by decide +kernel
theorem dX5_about_14 : decode cX5_about 14 = .ok (.getfield 25, 3) := by decide +kernel
theorem dX5_about_17 : decode cX5_about 17 = .ok (.invokevirtual 210, 3) := by decide +kernel
theorem dX5_about_20 : decode cX5_about 20 = .ok (.ifCond .ne 7, 3) := by decide +kernel
theorem dX5_about_23 : decode cX5_about 23 = .ok (.ldc2_w 163, 3) := by decide +kernel
theorem dX5_about_26 : decode cX5_about 26 = .ok (.lreturn, 1) := by decide +kernel
theorem dX5_about_27 : decode cX5_about 27 = .ok (.aload_n 0, 1) := by decide +kernel
theorem dX5_about_28 : decode cX5_about 28 = .ok (.invokevirtual 220, 3) := by decide +kernel
theorem dX5_about_31 : decode cX5_about 31 = .ok (.istore_n 2, 1) := by decide +kernel
theorem dX5_about_32 : decode cX5_about 32 = .ok (.iload_n 1, 1) := by decide +kernel
theorem dX5_about_33 : decode cX5_about 33 = .ok (.tableswitch 70 0 3 #[31, 37, 56, 61], 31) := by decide +kernel
theorem dX5_about_64 : decode cX5_about 64 = .ok (.aload_n 0, 1) := by decide +kernel
theorem dX5_about_65 : decode cX5_about 65 = .ok (.invokevirtual 223, 3) := by decide +kernel
theorem dX5_about_68 : decode cX5_about 68 = .ok (.i2l, 1) := by decide +kernel
theorem dX5_about_69 : decode cX5_about 69 = .ok (.lreturn, 1) := by decide +kernel
theorem dX5_about_70 : decode cX5_about 70 = .ok (.iload_n 2, 1) := by decide +kernel
theorem dX5_about_71 : decode cX5_about 71 = .ok (.iconst (-1), 1) := by decide +kernel
theorem dX5_about_72 : decode cX5_about 72 = .ok (.if_icmp .ne 7, 3) := by decide +kernel
theorem dX5_about_75 : decode cX5_about 75 = .ok (.lconst 0, 1) := by decide +kernel
theorem dX5_about_76 : decode cX5_about 76 = .ok (.goto 12, 3) := by decide +kernel
theorem dX5_about_79 : decode cX5_about 79 = .ok (.aload_n 0, 1) := by decide +kernel
theorem dX5_about_80 : decode cX5_about 80 = .ok (.getfield 32, 3) := by decide +kernel
theorem dX5_about_83 : decode cX5_about 83 = .ok (.getfield 168, 3) := by decide +kernel
theorem dX5_about_86 : decode cX5_about 86 = .ok (.iload_n 2, 1) := by decide +kernel
theorem dX5_about_87 : decode cX5_about 87 = .ok (.laload, 1) := by decide +kernel
theorem dX5_about_88 : decode cX5_about 88 = .ok (.lreturn, 1) := by decide +kernel
theorem dX5_about_89 : decode cX5_about 89 = .ok (.aload_n 0, 1) := by decide +kernel
theorem dX5_about_90 : decode cX5_about 90 = .ok (.invokevirtual 226, 3) := by decide +kernel
theorem dX5_about_93 : decode cX5_about 93 = .ok (.lreturn, 1) := by decide +kernel
theorem dX5_about_94 : decode cX5_about 94 = .ok (.aload_n 0, 1) := by decide +kernel
theorem dX5_about_95 : decode cX5_about 95 = .ok (.getfield 32, 3) := by decide +kernel
theorem dX5_about_98 : decode cX5_about 98 = .ok (.invokevirtual 230, 3) := by decide +kernel
theorem dX5_about_101 : decode cX5_about 101 = .ok (.i2l, 1) := by decide +kernel
theorem dX5_about_102 : decode cX5_about 102 = .ok (.lreturn, 1) := by decide +kernel
theorem dX5_about_103 : decode cX5_about 103 = .ok (.iload_n 2, 1) := by decide +kernel
theorem dX5_about_104 : decode cX5_about 104 = .ok (.iconst (-1), 1) := by decide +kernel
theorem dX5_about_105 : decode cX5_about 105 = .ok (.if_icmp .ne 9, 3) := by decide +kernel
theorem dX5_about_108 : decode cX5_about 108 = .ok (.ldc2_w 233, 3) := by decide +kernel
theorem dX5_about_111 : decode cX5_about 111 = .ok (.goto 5, 3) := by decide +kernel
theorem dX5_about_114 : decode cX5_about 114 = .ok (.iload_n 2, 1) := by decide +kernel
theorem dX5_about_115 : decode cX5_about 115 = .ok (.i2l, 1) := by decide +kernel
theorem dX5_about_116 : decode cX5_about 116 = .ok (.lreturn, 1) := by decide +kernel
theorem dX5_gives_0 : decode cX5_gives 0 = .ok (.aload_n 0, 1) := by decide +kernel
theorem dX5_gives_1 : decode cX5_gives 1 = .ok (.getfield 25, 3) := by decide +kernel
theorem dX5_gives_4 : decode cX5_gives 4 = .ok (.iload_n 1, 1) := by decide +kernel
theorem dX5_gives_5 : decode cX5_gives 5 = .ok (.iload_n 2, 1) := by decide +kernel
theorem dX5_gives_6 : decode cX5_gives 6 = .ok (.invokevirtual 129, 3) := by decide +kernel
theorem dX5_gives_9 : decode cX5_gives 9 = .ok (.istore 4, 2) := by decide +kernel
theorem dX5_gives_11 : decode cX5_gives 11 = .ok (.iload 4, 2) := by decide +kernel
theorem dX5_gives_13 : decode cX5_gives 13 = .ok (.iconst (-1), 1) := by decide +kernel
theorem dX5_gives_14 : decode cX5_gives 14 = .ok (.if_icmp .ne 7, 3) := by decide +kernel
theorem dX5_gives_17 : decode cX5_gives 17 = .ok (.ldc2_w 86, 3) := by decide +kernel
theorem dX5_gives_20 : decode cX5_gives 20 = .ok (.lreturn, 1) := by decide +kernel
theorem dX5_gives_21 : decode cX5_gives 21 = .ok (.iload_n 3, 1) := by decide +kernel
theorem dX5_gives_22 : decode cX5_gives 22 = .ok (.ifCond .lt 8, 3) := by decide +kernel
theorem dX5_gives_25 : decode cX5_gives 25 = .ok (.iload_n 3, 1) := by decide +kernel
theorem dX5_gives_26 : decode cX5_gives 26 = .ok (.iconst 4, 1) := by decide +kernel
theorem dX5_gives_27 : decode cX5_gives 27 = .ok (.if_icmp .lt 7, 3) := by decide +kernel
theorem dX5_gives_30 : decode cX5_gives 30 = .ok (.ldc2_w 88, 3) := by decide +kernel
theorem dX5_gives_33 : decode cX5_gives 33 = .ok (.lreturn, 1) := by decide +kernel
theorem dX5_gives_34 : decode cX5_gives 34 = .ok (.aload_n 0, 1) := by decide +kernel
theorem dX5_gives_35 : decode cX5_gives 35 = .ok (.getfield 25, 3) := by decide +kernel
theorem dX5_gives_38 : decode cX5_gives 38 = .ok (.getfield 136, 3) := by decide +kernel
theorem dX5_gives_41 : decode cX5_gives 41 = .ok (.iload 4, 2) := by decide +kernel
theorem dX5_gives_43 : decode cX5_gives 43 = .ok (.iaload, 1) := by decide +kernel
theorem dX5_gives_44 : decode cX5_gives 44 = .ok (.iconst 4, 1) := by decide +kernel
theorem dX5_gives_45 : decode cX5_gives 45 = .ok (.if_icmp .ne 7, 3) := by decide +kernel
theorem dX5_gives_48 : decode cX5_gives 48 = .ok (.ldc2_w 163, 3) := by decide +kernel
theorem dX5_gives_51 : decode cX5_gives 51 = .ok (.lreturn, 1) := by decide +kernel
theorem dX5_gives_52 : decode cX5_gives 52 = .ok (.aload_n 0, 1) := by decide +kernel
theorem dX5_gives_53 : decode cX5_gives 53 = .ok (.iload 4, 2) := by decide +kernel
theorem dX5_gives_55 : decode cX5_gives 55 = .ok (.iload_n 3, 1) := by decide +kernel
theorem dX5_gives_56 : decode cX5_gives 56 = .ok (.invokevirtual 235, 3) := by decide +kernel
theorem dX5_gives_59 : decode cX5_gives 59 = .ok (.lreturn, 1) := by decide +kernel
theorem dX5_turn_0 : decode cX5_turn 0 = .ok (.iload_n 1, 1) := by decide +kernel
theorem dX5_turn_1 : decode cX5_turn 1 = .ok (.ifCond .lt 8, 3) := by decide +kernel
theorem dX5_turn_4 : decode cX5_turn 4 = .ok (.iload_n 1, 1) := by decide +kernel
theorem dX5_turn_5 : decode cX5_turn 5 = .ok (.iconst 1, 1) := by decide +kernel
theorem dX5_turn_6 : decode cX5_turn 6 = .ok (.if_icmp .le 6, 3) := by decide +kernel
theorem dX5_turn_9 : decode cX5_turn 9 = .ok (.bipush (-2), 2) := by decide +kernel
theorem dX5_turn_11 : decode cX5_turn 11 = .ok (.ireturn, 1) := by decide +kernel
theorem dX5_turn_12 : decode cX5_turn 12 = .ok (.aload_n 0, 1) := by decide +kernel
theorem dX5_turn_13 : decode cX5_turn 13 = .ok (.getfield 25, 3) := by decide +kernel
theorem dX5_turn_16 : decode cX5_turn 16 = .ok (.invokevirtual 210, 3) := by decide +kernel
theorem dX5_turn_19 : decode cX5_turn 19 = .ok (.ifCond .ne 6, 3) := by decide +kernel
theorem dX5_turn_22 : decode cX5_turn 22 = .ok (.bipush (-3), 2) := by decide +kernel
theorem dX5_turn_24 : decode cX5_turn 24 = .ok (.ireturn, 1) := by decide +kernel
theorem dX5_turn_25 : decode cX5_turn 25 = .ok (.aload_n 0, 1) := by decide +kernel
theorem dX5_turn_26 : decode cX5_turn 26 = .ok (.getfield 43, 3) := by decide +kernel
theorem dX5_turn_29 : decode cX5_turn 29 = .ok (.aload_n 0, 1) := by decide +kernel
theorem dX5_turn_30 : decode cX5_turn 30 = .ok (.getfield 25, 3) := by decide +kernel
theorem dX5_turn_33 : decode cX5_turn 33 = .ok (.invokevirtual 238, 3) := by decide +kernel
theorem dX5_turn_36 : decode cX5_turn 36 = .ok (.aload_n 0, 1) := by decide +kernel
theorem dX5_turn_37 : decode cX5_turn 37 = .ok (.getfield 46, 3) := by decide +kernel
theorem dX5_turn_40 : decode cX5_turn 40 = .ok (.aload_n 0, 1) := by decide +kernel
theorem dX5_turn_41 : decode cX5_turn 41 = .ok (.getfield 32, 3) := by decide +kernel
theorem dX5_turn_44 : decode cX5_turn 44 = .ok (.invokevirtual 242, 3) := by decide +kernel
theorem dX5_turn_47 : decode cX5_turn 47 = .ok (.aload_n 0, 1) := by decide +kernel
theorem dX5_turn_48 : decode cX5_turn 48 = .ok (.iload_n 1, 1) := by decide +kernel
theorem dX5_turn_49 : decode cX5_turn 49 = .ok (.iconst 1, 1) := by decide +kernel
theorem dX5_turn_50 : decode cX5_turn 50 = .ok (.if_icmp .ne 7, 3) := by decide +kernel
theorem dX5_turn_53 : decode cX5_turn 53 = .ok (.iconst 1, 1) := by decide +kernel
theorem dX5_turn_54 : decode cX5_turn 54 = .ok (.goto 4, 3) := by decide +kernel
theorem dX5_turn_57 : decode cX5_turn 57 = .ok (.iconst 0, 1) := by decide +kernel
theorem dX5_turn_58 : decode cX5_turn 58 = .ok (.invokevirtual 245, 3) := by decide +kernel
theorem dX5_turn_61 : decode cX5_turn 61 = .ok (.aload_n 0, 1) := by decide +kernel
theorem dX5_turn_62 : decode cX5_turn 62 = .ok (.getfield 39, 3) := by decide +kernel
theorem dX5_turn_65 : decode cX5_turn 65 = .ok (.invokevirtual 122, 3) := by decide +kernel
theorem dX5_turn_68 : decode cX5_turn 68 = .ok (.aload_n 0, 1) := by decide +kernel
theorem dX5_turn_69 : decode cX5_turn 69 = .ok (.getfield 25, 3) := by decide +kernel
theorem dX5_turn_72 : decode cX5_turn 72 = .ok (.getfield 249, 3) := by decide +kernel
theorem dX5_turn_75 : decode cX5_turn 75 = .ok (.ireturn, 1) := by decide +kernel
theorem dX5_count_0 : decode cX5_count 0 = .ok (.iload_n 1, 1) := by decide +kernel
theorem dX5_count_1 : decode cX5_count 1 = .ok (.tableswitch 93 0 6 #[43, 51, 59, 67, 75, 80, 88], 43) := by decide +kernel
theorem dX5_count_44 : decode cX5_count 44 = .ok (.aload_n 0, 1) := by decide +kernel
theorem dX5_count_45 : decode cX5_count 45 = .ok (.getfield 25, 3) := by decide +kernel
theorem dX5_count_48 : decode cX5_count 48 = .ok (.getfield 249, 3) := by decide +kernel
theorem dX5_count_51 : decode cX5_count 51 = .ok (.ireturn, 1) := by decide +kernel
theorem dX5_count_52 : decode cX5_count 52 = .ok (.aload_n 0, 1) := by decide +kernel
theorem dX5_count_53 : decode cX5_count 53 = .ok (.getfield 25, 3) := by decide +kernel
theorem dX5_count_56 : decode cX5_count 56 = .ok (.getfield 252, 3) := by decide +kernel
theorem dX5_count_59 : decode cX5_count 59 = .ok (.ireturn, 1) := by decide +kernel
theorem dX5_count_60 : decode cX5_count 60 = .ok (.aload_n 0, 1) := by decide +kernel
theorem dX5_count_61 : decode cX5_count 61 = .ok (.getfield 32, 3) := by decide +kernel
theorem dX5_count_64 : decode cX5_count 64 = .ok (.getfield 160, 3) := by decide +kernel
theorem dX5_count_67 : decode cX5_count 67 = .ok (.ireturn, 1) := by decide +kernel
theorem dX5_count_68 : decode cX5_count 68 = .ok (.aload_n 0, 1) := by decide +kernel
theorem dX5_count_69 : decode cX5_count 69 = .ok (.getfield 39, 3) := by decide +kernel
theorem dX5_count_72 : decode cX5_count 72 = .ok (.getfield 177, 3) := by decide +kernel
theorem dX5_count_75 : decode cX5_count 75 = .ok (.ireturn, 1) := by decide +kernel
theorem dX5_count_76 : decode cX5_count 76 = .ok (.aload_n 0, 1) := by decide +kernel
theorem dX5_count_77 : decode cX5_count 77 = .ok (.getfield 255, 3) := by decide +kernel
theorem dX5_count_80 : decode cX5_count 80 = .ok (.ireturn, 1) := by decide +kernel
theorem dX5_count_81 : decode cX5_count 81 = .ok (.aload_n 0, 1) := by decide +kernel
theorem dX5_count_82 : decode cX5_count 82 = .ok (.getfield 25, 3) := by decide +kernel
theorem dX5_count_85 : decode cX5_count 85 = .ok (.invokevirtual 125, 3) := by decide +kernel
theorem dX5_count_88 : decode cX5_count 88 = .ok (.ireturn, 1) := by decide +kernel
theorem dX5_count_89 : decode cX5_count 89 = .ok (.aload_n 0, 1) := by decide +kernel
theorem dX5_count_90 : decode cX5_count 90 = .ok (.invokevirtual 258, 3) := by decide +kernel
theorem dX5_count_93 : decode cX5_count 93 = .ok (.ireturn, 1) := by decide +kernel
theorem dX5_count_94 : decode cX5_count 94 = .ok (.bipush (-2), 2) := by decide +kernel
theorem dX5_count_96 : decode cX5_count 96 = .ok (.ireturn, 1) := by decide +kernel
theorem dX5_fail_0 : decode cX5_fail 0 = .ok (.aload_n 0, 1) := by decide +kernel
theorem dX5_fail_1 : decode cX5_fail 1 = .ok (.dup, 1) := by decide +kernel
theorem dX5_fail_2 : decode cX5_fail 2 = .ok (.getfield 255, 3) := by decide +kernel
theorem dX5_fail_5 : decode cX5_fail 5 = .ok (.iconst 1, 1) := by decide +kernel
theorem dX5_fail_6 : decode cX5_fail 6 = .ok (.iadd, 1) := by decide +kernel
theorem dX5_fail_7 : decode cX5_fail 7 = .ok (.putfield 255, 3) := by decide +kernel
theorem dX5_fail_10 : decode cX5_fail 10 = .ok (.bipush (-10), 2) := by decide +kernel
theorem dX5_fail_12 : decode cX5_fail 12 = .ok (.iload_n 1, 1) := by decide +kernel
theorem dX5_fail_13 : decode cX5_fail 13 = .ok (.isub, 1) := by decide +kernel
theorem dX5_fail_14 : decode cX5_fail 14 = .ok (.ireturn, 1) := by decide +kernel
theorem dX5_isStrip_0 : decode cX5_isStrip 0 = .ok (.iload_n 0, 1) := by decide +kernel
theorem dX5_isStrip_1 : decode cX5_isStrip 1 = .ok (.ifCond .lt 13, 3) := by decide +kernel
theorem dX5_isStrip_4 : decode cX5_isStrip 4 = .ok (.iload_n 0, 1) := by decide +kernel
theorem dX5_isStrip_5 : decode cX5_isStrip 5 = .ok (.bipush 8, 2) := by decide +kernel
theorem dX5_isStrip_7 : decode cX5_isStrip 7 = .ok (.if_icmp .ge 7, 3) := by decide +kernel
theorem dX5_isStrip_10 : decode cX5_isStrip 10 = .ok (.iconst 1, 1) := by decide +kernel
theorem dX5_isStrip_11 : decode cX5_isStrip 11 = .ok (.goto 4, 3) := by decide +kernel
theorem dX5_isStrip_14 : decode cX5_isStrip 14 = .ok (.iconst 0, 1) := by decide +kernel
theorem dX5_isStrip_15 : decode cX5_isStrip 15 = .ok (.ireturn, 1) := by decide +kernel
theorem dX5_isLane_0 : decode cX5_isLane 0 = .ok (.iload_n 0, 1) := by decide +kernel
theorem dX5_isLane_1 : decode cX5_isLane 1 = .ok (.ifCond .lt 12, 3) := by decide +kernel
theorem dX5_isLane_4 : decode cX5_isLane 4 = .ok (.iload_n 0, 1) := by decide +kernel
theorem dX5_isLane_5 : decode cX5_isLane 5 = .ok (.iconst 2, 1) := by decide +kernel
theorem dX5_isLane_6 : decode cX5_isLane 6 = .ok (.if_icmp .gt 7, 3) := by decide +kernel
theorem dX5_isLane_9 : decode cX5_isLane 9 = .ok (.iconst 1, 1) := by decide +kernel
theorem dX5_isLane_10 : decode cX5_isLane 10 = .ok (.goto 4, 3) := by decide +kernel
theorem dX5_isLane_13 : decode cX5_isLane 13 = .ok (.iconst 0, 1) := by decide +kernel
theorem dX5_isLane_14 : decode cX5_isLane 14 = .ok (.ireturn, 1) := by decide +kernel
theorem dX5_isSide_0 : decode cX5_isSide 0 = .ok (.iload_n 0, 1) := by decide +kernel
theorem dX5_isSide_1 : decode cX5_isSide 1 = .ok (.iconst 2, 1) := by decide +kernel
theorem dX5_isSide_2 : decode cX5_isSide 2 = .ok (.if_icmp .lt 13, 3) := by decide +kernel
theorem dX5_isSide_5 : decode cX5_isSide 5 = .ok (.iload_n 0, 1) := by decide +kernel
theorem dX5_isSide_6 : decode cX5_isSide 6 = .ok (.bipush 8, 2) := by decide +kernel
theorem dX5_isSide_8 : decode cX5_isSide 8 = .ok (.if_icmp .gt 7, 3) := by decide +kernel
theorem dX5_isSide_11 : decode cX5_isSide 11 = .ok (.iconst 1, 1) := by decide +kernel
theorem dX5_isSide_12 : decode cX5_isSide 12 = .ok (.goto 4, 3) := by decide +kernel
theorem dX5_isSide_15 : decode cX5_isSide 15 = .ok (.iconst 0, 1) := by decide +kernel
theorem dX5_isSide_16 : decode cX5_isSide 16 = .ok (.ireturn, 1) := by decide +kernel
theorem dX5_isHundredths_0 : decode cX5_isHundredths 0 = .ok (.iload_n 0, 1) := by decide +kernel
theorem dX5_isHundredths_1 : decode cX5_isHundredths 1 = .ok (.ifCond .lt 13, 3) := by decide +kernel
theorem dX5_isHundredths_4 : decode cX5_isHundredths 4 = .ok (.iload_n 0, 1) := by decide +kernel
theorem dX5_isHundredths_5 : decode cX5_isHundredths 5 = .ok (.bipush 100, 2) := by decide +kernel
theorem dX5_isHundredths_7 : decode cX5_isHundredths 7 = .ok (.if_icmp .gt 7, 3) := by decide +kernel
theorem dX5_isHundredths_10 : decode cX5_isHundredths 10 = .ok (.iconst 1, 1) := by decide +kernel
theorem dX5_isHundredths_11 : decode cX5_isHundredths 11 = .ok (.goto 4, 3) := by decide +kernel
theorem dX5_isHundredths_14 : decode cX5_isHundredths 14 = .ok (.iconst 0, 1) := by decide +kernel
theorem dX5_isHundredths_15 : decode cX5_isHundredths 15 = .ok (.ireturn, 1) := by decide +kernel
theorem dX5_countsAs_0 : decode cX5_countsAs 0 = .ok (.iload_n 0, 1) := by decide +kernel
theorem dX5_countsAs_1 : decode cX5_countsAs 1 = .ok (.iload_n 1, 1) := by decide +kernel
theorem dX5_countsAs_2 : decode cX5_countsAs 2 = .ok (.if_icmp .eq 27, 3) := by decide +kernel
theorem dX5_countsAs_5 : decode cX5_countsAs 5 = .ok (.iload_n 1, 1) := by decide +kernel
theorem dX5_countsAs_6 : decode cX5_countsAs 6 = .ok (.ifCond .eq 23, 3) := by decide +kernel
theorem dX5_countsAs_9 : decode cX5_countsAs 9 = .ok (.iload_n 1, 1) := by decide +kernel
theorem dX5_countsAs_10 : decode cX5_countsAs 10 = .ok (.iconst 2, 1) := by decide +kernel
theorem dX5_countsAs_11 : decode cX5_countsAs 11 = .ok (.if_icmp .ne 8, 3) := by decide +kernel
theorem dX5_countsAs_14 : decode cX5_countsAs 14 = .ok (.iload_n 0, 1) := by decide +kernel
theorem dX5_countsAs_15 : decode cX5_countsAs 15 = .ok (.iconst 3, 1) := by decide +kernel
theorem dX5_countsAs_16 : decode cX5_countsAs 16 = .ok (.if_icmp .eq 13, 3) := by decide +kernel
theorem dX5_countsAs_19 : decode cX5_countsAs 19 = .ok (.iload_n 1, 1) := by decide +kernel
theorem dX5_countsAs_20 : decode cX5_countsAs 20 = .ok (.iconst 1, 1) := by decide +kernel
theorem dX5_countsAs_21 : decode cX5_countsAs 21 = .ok (.if_icmp .ne 12, 3) := by decide +kernel
theorem dX5_countsAs_24 : decode cX5_countsAs 24 = .ok (.iload_n 0, 1) := by decide +kernel
theorem dX5_countsAs_25 : decode cX5_countsAs 25 = .ok (.iconst 4, 1) := by decide +kernel
theorem dX5_countsAs_26 : decode cX5_countsAs 26 = .ok (.if_icmp .ne 7, 3) := by decide +kernel
theorem dX5_countsAs_29 : decode cX5_countsAs 29 = .ok (.iconst 1, 1) := by decide +kernel
theorem dX5_countsAs_30 : decode cX5_countsAs 30 = .ok (.goto 4, 3) := by decide +kernel
theorem dX5_countsAs_33 : decode cX5_countsAs 33 = .ok (.iconst 0, 1) := by decide +kernel
theorem dX5_countsAs_34 : decode cX5_countsAs 34 = .ok (.ireturn, 1) := by decide +kernel
theorem dX5_stripsThere_0 : decode cX5_stripsThere 0 = .ok (.iconst 0, 1) := by decide +kernel
theorem dX5_stripsThere_1 : decode cX5_stripsThere 1 = .ok (.istore_n 1, 1) := by decide +kernel
theorem dX5_stripsThere_2 : decode cX5_stripsThere 2 = .ok (.iconst 0, 1) := by decide +kernel
theorem dX5_stripsThere_3 : decode cX5_stripsThere 3 = .ok (.istore_n 2, 1) := by decide +kernel
theorem dX5_stripsThere_4 : decode cX5_stripsThere 4 = .ok (.iload_n 2, 1) := by decide +kernel
theorem dX5_stripsThere_5 : decode cX5_stripsThere 5 = .ok (.bipush 8, 2) := by decide +kernel
theorem dX5_stripsThere_7 : decode cX5_stripsThere 7 = .ok (.if_icmp .ge 24, 3) := by decide +kernel
theorem dX5_stripsThere_10 : decode cX5_stripsThere 10 = .ok (.aload_n 0, 1) := by decide +kernel
theorem dX5_stripsThere_11 : decode cX5_stripsThere 11 = .ok (.getfield 11, 3) := by decide +kernel
theorem dX5_stripsThere_14 : decode cX5_stripsThere 14 = .ok (.iload_n 2, 1) := by decide +kernel
theorem dX5_stripsThere_15 : decode cX5_stripsThere 15 = .ok (.aaload, 1) := by decide +kernel
theorem dX5_stripsThere_16 : decode cX5_stripsThere 16 = .ok (.getfield 72, 3) := by decide +kernel
theorem dX5_stripsThere_19 : decode cX5_stripsThere 19 = .ok (.ifCond .ne 6, 3) := by decide +kernel
theorem dX5_stripsThere_22 : decode cX5_stripsThere 22 = .ok (.iinc 1 1, 3) := by decide +kernel
theorem dX5_stripsThere_25 : decode cX5_stripsThere 25 = .ok (.iinc 2 1, 3) := by decide +kernel
theorem dX5_stripsThere_28 : decode cX5_stripsThere 28 = .ok (.goto (-24), 3) := by decide +kernel
theorem dX5_stripsThere_31 : decode cX5_stripsThere 31 = .ok (.iload_n 1, 1) := by decide +kernel
theorem dX5_stripsThere_32 : decode cX5_stripsThere 32 = .ok (.ireturn, 1) := by decide +kernel
theorem dX5_levelFromStrips_0 : decode cX5_levelFromStrips 0 = .ok (.aload_n 0, 1) := by decide +kernel
theorem dX5_levelFromStrips_1 : decode cX5_levelFromStrips 1 = .ok (.getfield 11, 3) := by decide +kernel
theorem dX5_levelFromStrips_4 : decode cX5_levelFromStrips 4 = .ok (.iload_n 2, 1) := by decide +kernel
theorem dX5_levelFromStrips_5 : decode cX5_levelFromStrips 5 = .ok (.aaload, 1) := by decide +kernel
theorem dX5_levelFromStrips_6 : decode cX5_levelFromStrips 6 = .ok (.astore_n 3, 1) := by decide +kernel
theorem dX5_levelFromStrips_7 : decode cX5_levelFromStrips 7 = .ok (.aload_n 3, 1) := by decide +kernel
theorem dX5_levelFromStrips_8 : decode cX5_levelFromStrips 8 = .ok (.getfield 72, 3) := by decide +kernel
theorem dX5_levelFromStrips_11 : decode cX5_levelFromStrips 11 = .ok (.ifCond .ne 20, 3) := by decide +kernel
theorem dX5_levelFromStrips_14 : decode cX5_levelFromStrips 14 = .ok (.aload_n 3, 1) := by decide +kernel
theorem dX5_levelFromStrips_15 : decode cX5_levelFromStrips 15 = .ok (.iload_n 1, 1) := by decide +kernel
theorem dX5_levelFromStrips_16 : decode cX5_levelFromStrips 16 = .ok (.invokevirtual 79, 3) := by decide +kernel
theorem dX5_levelFromStrips_19 : decode cX5_levelFromStrips 19 = .ok (.ifCond .eq 12, 3) := by decide +kernel
theorem dX5_levelFromStrips_22 : decode cX5_levelFromStrips 22 = .ok (.aload_n 3, 1) := by decide +kernel
theorem dX5_levelFromStrips_23 : decode cX5_levelFromStrips 23 = .ok (.getfield 94, 3) := by decide +kernel
theorem dX5_levelFromStrips_26 : decode cX5_levelFromStrips 26 = .ok (.iload_n 1, 1) := by decide +kernel
theorem dX5_levelFromStrips_27 : decode cX5_levelFromStrips 27 = .ok (.laload, 1) := by decide +kernel
theorem dX5_levelFromStrips_28 : decode cX5_levelFromStrips 28 = .ok (.goto 6, 3) := by decide +kernel
theorem dX5_levelFromStrips_31 : decode cX5_levelFromStrips 31 = .ok (.ldc2_w 86, 3) := by decide +kernel
theorem dX5_levelFromStrips_34 : decode cX5_levelFromStrips 34 = .ok (.lreturn, 1) := by decide +kernel
theorem dX5_surface_0 : decode cX5_surface 0 = .ok (.aload_n 0, 1) := by decide +kernel
theorem dX5_surface_1 : decode cX5_surface 1 = .ok (.getfield 25, 3) := by decide +kernel
theorem dX5_surface_4 : decode cX5_surface 4 = .ok (.getfield 191, 3) := by decide +kernel
theorem dX5_surface_7 : decode cX5_surface 7 = .ok (.iload_n 1, 1) := by decide +kernel
theorem dX5_surface_8 : decode cX5_surface 8 = .ok (.iaload, 1) := by decide +kernel
theorem dX5_surface_9 : decode cX5_surface 9 = .ok (.i2l, 1) := by decide +kernel
theorem dX5_surface_10 : decode cX5_surface 10 = .ok (.aload_n 0, 1) := by decide +kernel
theorem dX5_surface_11 : decode cX5_surface 11 = .ok (.getfield 32, 3) := by decide +kernel
theorem dX5_surface_14 : decode cX5_surface 14 = .ok (.getfield 168, 3) := by decide +kernel
theorem dX5_surface_17 : decode cX5_surface 17 = .ok (.iload_n 1, 1) := by decide +kernel
theorem dX5_surface_18 : decode cX5_surface 18 = .ok (.laload, 1) := by decide +kernel
theorem dX5_surface_19 : decode cX5_surface 19 = .ok (.ladd, 1) := by decide +kernel
theorem dX5_surface_20 : decode cX5_surface 20 = .ok (.lreturn, 1) := by decide +kernel
theorem dX5_refusalOfYears_0 : decode cX5_refusalOfYears 0 = .ok (.iload_n 1, 1) := by decide +kernel
theorem dX5_refusalOfYears_1 : decode cX5_refusalOfYears 1 = .ok (.iconst 1, 1) := by decide +kernel
theorem dX5_refusalOfYears_2 : decode cX5_refusalOfYears 2 = .ok (.if_icmp .lt 9, 3) := by decide +kernel
theorem dX5_refusalOfYears_5 : decode cX5_refusalOfYears 5 = .ok (.iload_n 1, 1) := by decide +kernel
theorem dX5_refusalOfYears_6 : decode cX5_refusalOfYears 6 = .ok (.bipush 60, 2) := by decide +kernel
theorem dX5_refusalOfYears_8 : decode cX5_refusalOfYears 8 = .ok (.if_icmp .le 6, 3) := by decide +kernel
theorem dX5_refusalOfYears_11 : decode cX5_refusalOfYears 11 = .ok (.bipush (-2), 2) := by decide +kernel
theorem dX5_refusalOfYears_13 : decode cX5_refusalOfYears 13 = .ok (.ireturn, 1) := by decide +kernel
theorem dX5_refusalOfYears_14 : decode cX5_refusalOfYears 14 = .ok (.aload_n 0, 1) := by decide +kernel
theorem dX5_refusalOfYears_15 : decode cX5_refusalOfYears 15 = .ok (.getfield 25, 3) := by decide +kernel
theorem dX5_refusalOfYears_18 : decode cX5_refusalOfYears 18 = .ok (.invokevirtual 210, 3) := by decide +kernel
theorem dX5_refusalOfYears_21 : decode cX5_refusalOfYears 21 = .ok (.ifCond .ne 6, 3) := by decide +kernel
theorem dX5_refusalOfYears_24 : decode cX5_refusalOfYears 24 = .ok (.bipush (-3), 2) := by decide +kernel
theorem dX5_refusalOfYears_26 : decode cX5_refusalOfYears 26 = .ok (.ireturn, 1) := by decide +kernel
theorem dX5_refusalOfYears_27 : decode cX5_refusalOfYears 27 = .ok (.aload_n 0, 1) := by decide +kernel
theorem dX5_refusalOfYears_28 : decode cX5_refusalOfYears 28 = .ok (.getfield 32, 3) := by decide +kernel
theorem dX5_refusalOfYears_31 : decode cX5_refusalOfYears 31 = .ok (.getfield 160, 3) := by decide +kernel
theorem dX5_refusalOfYears_34 : decode cX5_refusalOfYears 34 = .ok (.iload_n 1, 1) := by decide +kernel
theorem dX5_refusalOfYears_35 : decode cX5_refusalOfYears 35 = .ok (.iadd, 1) := by decide +kernel
theorem dX5_refusalOfYears_36 : decode cX5_refusalOfYears 36 = .ok (.bipush 60, 2) := by decide +kernel
theorem dX5_refusalOfYears_38 : decode cX5_refusalOfYears 38 = .ok (.if_icmp .le 8, 3) := by decide +kernel
theorem dX5_refusalOfYears_41 : decode cX5_refusalOfYears 41 = .ok (.bipush (-4), 2) := by decide +kernel
theorem dX5_refusalOfYears_43 : decode cX5_refusalOfYears 43 = .ok (.goto 4, 3) := by decide +kernel
theorem dX5_refusalOfYears_46 : decode cX5_refusalOfYears 46 = .ok (.iconst 0, 1) := by decide +kernel
theorem dX5_refusalOfYears_47 : decode cX5_refusalOfYears 47 = .ok (.ireturn, 1) := by decide +kernel
theorem dX5_passYear_0 : decode cX5_passYear 0 = .ok (.aload_n 0, 1) := by decide +kernel
theorem dX5_passYear_1 : decode cX5_passYear 1 = .ok (.getfield 39, 3) := by decide +kernel
theorem dX5_passYear_4 : decode cX5_passYear 4 = .ok (.aload_n 0, 1) := by decide +kernel
theorem dX5_passYear_5 : decode cX5_passYear 5 = .ok (.getfield 32, 3) := by decide +kernel
theorem dX5_passYear_8 : decode cX5_passYear 8 = .ok (.invokevirtual 261, 3) := by decide +kernel
theorem dX5_passYear_11 : decode cX5_passYear 11 = .ok (.aload_n 0, 1) := by decide +kernel
theorem dX5_passYear_12 : decode cX5_passYear 12 = .ok (.getfield 32, 3) := by decide +kernel
theorem dX5_passYear_15 : decode cX5_passYear 15 = .ok (.dup, 1) := by decide +kernel
theorem dX5_passYear_16 : decode cX5_passYear 16 = .ok (.getfield 160, 3) := by decide +kernel
theorem dX5_passYear_19 : decode cX5_passYear 19 = .ok (.iconst 1, 1) := by decide +kernel
theorem dX5_passYear_20 : decode cX5_passYear 20 = .ok (.iadd, 1) := by decide +kernel
theorem dX5_passYear_21 : decode cX5_passYear 21 = .ok (.putfield 160, 3) := by decide +kernel
theorem dX5_passYear_24 : decode cX5_passYear 24 = .ok (.aload_n 0, 1) := by decide +kernel
theorem dX5_passYear_25 : decode cX5_passYear 25 = .ok (.invokevirtual 264, 3) := by decide +kernel
theorem dX5_passYear_28 : decode cX5_passYear 28 = .ok (.aload_n 0, 1) := by decide +kernel
theorem dX5_passYear_29 : decode cX5_passYear 29 = .ok (.invokevirtual 267, 3) := by decide +kernel
theorem dX5_passYear_32 : decode cX5_passYear 32 = .ok (.aload_n 0, 1) := by decide +kernel
theorem dX5_passYear_33 : decode cX5_passYear 33 = .ok (.invokevirtual 270, 3) := by decide +kernel
theorem dX5_passYear_36 : decode cX5_passYear 36 = .ok (.return_, 1) := by decide +kernel
theorem dX5_snowAndMelt_0 : decode cX5_snowAndMelt 0 = .ok (.iconst 0, 1) := by decide +kernel
theorem dX5_snowAndMelt_1 : decode cX5_snowAndMelt 1 = .ok (.istore_n 1, 1) := by decide +kernel
theorem dX5_snowAndMelt_2 : decode cX5_snowAndMelt 2 = .ok (.iload_n 1, 1) := by decide +kernel
theorem dX5_snowAndMelt_3 : decode cX5_snowAndMelt 3 = .ok (.aload_n 0, 1) := by decide +kernel
theorem dX5_snowAndMelt_4 : decode cX5_snowAndMelt 4 = .ok (.getfield 25, 3) := by decide +kernel
theorem dX5_snowAndMelt_7 : decode cX5_snowAndMelt 7 = .ok (.getfield 273, 3) := by decide +kernel
theorem dX5_snowAndMelt_10 : decode cX5_snowAndMelt 10 = .ok (.if_icmp .ge 80, 3) := by decide +kernel
theorem dX5_snowAndMelt_13 : decode cX5_snowAndMelt 13 = .ok (.aload_n 0, 1) := by decide +kernel
theorem dX5_snowAndMelt_14 : decode cX5_snowAndMelt 14 = .ok (.getfield 25, 3) := by decide +kernel
theorem dX5_snowAndMelt_17 : decode cX5_snowAndMelt 17 = .ok (.getfield 276, 3) := by decide +kernel
theorem dX5_snowAndMelt_20 : decode cX5_snowAndMelt 20 = .ok (.iload_n 1, 1) := by decide +kernel
theorem dX5_snowAndMelt_21 : decode cX5_snowAndMelt 21 = .ok (.iaload, 1) := by decide +kernel
theorem dX5_snowAndMelt_22 : decode cX5_snowAndMelt 22 = .ok (.istore_n 2, 1) := by decide +kernel
theorem dX5_snowAndMelt_23 : decode cX5_snowAndMelt 23 = .ok (.aload_n 0, 1) := by decide +kernel
theorem dX5_snowAndMelt_24 : decode cX5_snowAndMelt 24 = .ok (.getfield 25, 3) := by decide +kernel
theorem dX5_snowAndMelt_27 : decode cX5_snowAndMelt 27 = .ok (.iload_n 2, 1) := by decide +kernel
theorem dX5_snowAndMelt_28 : decode cX5_snowAndMelt 28 = .ok (.invokevirtual 204, 3) := by decide +kernel
theorem dX5_snowAndMelt_31 : decode cX5_snowAndMelt 31 = .ok (.istore_n 3, 1) := by decide +kernel
theorem dX5_snowAndMelt_32 : decode cX5_snowAndMelt 32 = .ok (.aload_n 0, 1) := by decide +kernel
theorem dX5_snowAndMelt_33 : decode cX5_snowAndMelt 33 = .ok (.getfield 32, 3) := by decide +kernel
theorem dX5_snowAndMelt_36 : decode cX5_snowAndMelt 36 = .ok (.iload_n 2, 1) := by decide +kernel
theorem dX5_snowAndMelt_37 : decode cX5_snowAndMelt 37 = .ok (.aload_n 0, 1) := by decide +kernel
theorem dX5_snowAndMelt_38 : decode cX5_snowAndMelt 38 = .ok (.getfield 32, 3) := by decide +kernel
theorem dX5_snowAndMelt_41 : decode cX5_snowAndMelt 41 = .ok (.getfield 160, 3) := by decide +kernel
theorem dX5_snowAndMelt_44 : decode cX5_snowAndMelt 44 = .ok (.aload_n 0, 1) := by decide +kernel
theorem dX5_snowAndMelt_45 : decode cX5_snowAndMelt 45 = .ok (.getfield 18, 3) := by decide +kernel
theorem dX5_snowAndMelt_48 : decode cX5_snowAndMelt 48 = .ok (.getfield 150, 3) := by decide +kernel
theorem dX5_snowAndMelt_51 : decode cX5_snowAndMelt 51 = .ok (.iload_n 3, 1) := by decide +kernel
theorem dX5_snowAndMelt_52 : decode cX5_snowAndMelt 52 = .ok (.iaload, 1) := by decide +kernel
theorem dX5_snowAndMelt_53 : decode cX5_snowAndMelt 53 = .ok (.i2l, 1) := by decide +kernel
theorem dX5_snowAndMelt_54 : decode cX5_snowAndMelt 54 = .ok (.invokevirtual 165, 3) := by decide +kernel
theorem dX5_snowAndMelt_57 : decode cX5_snowAndMelt 57 = .ok (.aload_n 0, 1) := by decide +kernel
theorem dX5_snowAndMelt_58 : decode cX5_snowAndMelt 58 = .ok (.getfield 32, 3) := by decide +kernel
theorem dX5_snowAndMelt_61 : decode cX5_snowAndMelt 61 = .ok (.iload_n 2, 1) := by decide +kernel
theorem dX5_snowAndMelt_62 : decode cX5_snowAndMelt 62 = .ok (.aload_n 0, 1) := by decide +kernel
theorem dX5_snowAndMelt_63 : decode cX5_snowAndMelt 63 = .ok (.getfield 25, 3) := by decide +kernel
theorem dX5_snowAndMelt_66 : decode cX5_snowAndMelt 66 = .ok (.iload_n 2, 1) := by decide +kernel
theorem dX5_snowAndMelt_67 : decode cX5_snowAndMelt 67 = .ok (.aload_n 0, 1) := by decide +kernel
theorem dX5_snowAndMelt_68 : decode cX5_snowAndMelt 68 = .ok (.getfield 18, 3) := by decide +kernel
theorem dX5_snowAndMelt_71 : decode cX5_snowAndMelt 71 = .ok (.getfield 147, 3) := by decide +kernel
theorem dX5_snowAndMelt_74 : decode cX5_snowAndMelt 74 = .ok (.iload_n 3, 1) := by decide +kernel
theorem dX5_snowAndMelt_75 : decode cX5_snowAndMelt 75 = .ok (.iaload, 1) := by decide +kernel
theorem dX5_snowAndMelt_76 : decode cX5_snowAndMelt 76 = .ok (.i2l, 1) := by decide +kernel
theorem dX5_snowAndMelt_77 : decode cX5_snowAndMelt 77 = .ok (.invokevirtual 279, 3) := by decide +kernel
theorem dX5_snowAndMelt_80 : decode cX5_snowAndMelt 80 = .ok (.iconst 1, 1) := by decide +kernel
theorem dX5_snowAndMelt_81 : decode cX5_snowAndMelt 81 = .ok (.invokevirtual 283, 3) := by decide +kernel
theorem dX5_snowAndMelt_84 : decode cX5_snowAndMelt 84 = .ok (.iinc 1 1, 3) := by decide +kernel
theorem dX5_snowAndMelt_87 : decode cX5_snowAndMelt 87 = .ok (.goto (-85), 3) := by decide +kernel
theorem dX5_snowAndMelt_90 : decode cX5_snowAndMelt 90 = .ok (.return_, 1) := by decide +kernel
theorem dX5_moveIce_0 : decode cX5_moveIce 0 = .ok (.iconst 0, 1) := by decide +kernel
theorem dX5_moveIce_1 : decode cX5_moveIce 1 = .ok (.istore_n 1, 1) := by decide +kernel
theorem dX5_moveIce_2 : decode cX5_moveIce 2 = .ok (.iload_n 1, 1) := by decide +kernel
theorem dX5_moveIce_3 : decode cX5_moveIce 3 = .ok (.aload_n 0, 1) := by decide +kernel
theorem dX5_moveIce_4 : decode cX5_moveIce 4 = .ok (.getfield 25, 3) := by decide +kernel
theorem dX5_moveIce_7 : decode cX5_moveIce 7 = .ok (.getfield 273, 3) := by decide +kernel
theorem dX5_moveIce_10 : decode cX5_moveIce 10 = .ok (.if_icmp .ge 48, 3) := by decide +kernel
theorem dX5_moveIce_13 : decode cX5_moveIce 13 = .ok (.aload_n 0, 1) := by decide +kernel
theorem dX5_moveIce_14 : decode cX5_moveIce 14 = .ok (.getfield 25, 3) := by decide +kernel
theorem dX5_moveIce_17 : decode cX5_moveIce 17 = .ok (.getfield 276, 3) := by decide +kernel
theorem dX5_moveIce_20 : decode cX5_moveIce 20 = .ok (.iload_n 1, 1) := by decide +kernel
theorem dX5_moveIce_21 : decode cX5_moveIce 21 = .ok (.iaload, 1) := by decide +kernel
theorem dX5_moveIce_22 : decode cX5_moveIce 22 = .ok (.istore_n 2, 1) := by decide +kernel
theorem dX5_moveIce_23 : decode cX5_moveIce 23 = .ok (.iconst 0, 1) := by decide +kernel
theorem dX5_moveIce_24 : decode cX5_moveIce 24 = .ok (.istore_n 3, 1) := by decide +kernel
theorem dX5_moveIce_25 : decode cX5_moveIce 25 = .ok (.iload_n 3, 1) := by decide +kernel
theorem dX5_moveIce_26 : decode cX5_moveIce 26 = .ok (.iconst 4, 1) := by decide +kernel
theorem dX5_moveIce_27 : decode cX5_moveIce 27 = .ok (.if_icmp .ge 25, 3) := by decide +kernel
theorem dX5_moveIce_30 : decode cX5_moveIce 30 = .ok (.aload_n 0, 1) := by decide +kernel
theorem dX5_moveIce_31 : decode cX5_moveIce 31 = .ok (.getfield 49, 3) := by decide +kernel
theorem dX5_moveIce_34 : decode cX5_moveIce 34 = .ok (.iload_n 2, 1) := by decide +kernel
theorem dX5_moveIce_35 : decode cX5_moveIce 35 = .ok (.iconst 4, 1) := by decide +kernel
theorem dX5_moveIce_36 : decode cX5_moveIce 36 = .ok (.imul, 1) := by decide +kernel
theorem dX5_moveIce_37 : decode cX5_moveIce 37 = .ok (.iload_n 3, 1) := by decide +kernel
theorem dX5_moveIce_38 : decode cX5_moveIce 38 = .ok (.iadd, 1) := by decide +kernel
theorem dX5_moveIce_39 : decode cX5_moveIce 39 = .ok (.aload_n 0, 1) := by decide +kernel
theorem dX5_moveIce_40 : decode cX5_moveIce 40 = .ok (.iload_n 2, 1) := by decide +kernel
theorem dX5_moveIce_41 : decode cX5_moveIce 41 = .ok (.iload_n 3, 1) := by decide +kernel
theorem dX5_moveIce_42 : decode cX5_moveIce 42 = .ok (.invokevirtual 235, 3) := by decide +kernel
theorem dX5_moveIce_45 : decode cX5_moveIce 45 = .ok (.lastore, 1) := by decide +kernel
theorem dX5_moveIce_46 : decode cX5_moveIce 46 = .ok (.iinc 3 1, 3) := by decide +kernel
theorem dX5_moveIce_49 : decode cX5_moveIce 49 = .ok (.goto (-24), 3) := by decide +kernel
theorem dX5_moveIce_52 : decode cX5_moveIce 52 = .ok (.iinc 1 1, 3) := by decide +kernel
theorem dX5_moveIce_55 : decode cX5_moveIce 55 = .ok (.goto (-53), 3) := by decide +kernel
theorem dX5_moveIce_58 : decode cX5_moveIce 58 = .ok (.aload_n 0, 1) := by decide +kernel
theorem dX5_moveIce_59 : decode cX5_moveIce 59 = .ok (.getfield 46, 3) := by decide +kernel
theorem dX5_moveIce_62 : decode cX5_moveIce 62 = .ok (.aload_n 0, 1) := by decide +kernel
theorem dX5_moveIce_63 : decode cX5_moveIce 63 = .ok (.getfield 32, 3) := by decide +kernel
theorem dX5_moveIce_66 : decode cX5_moveIce 66 = .ok (.invokevirtual 242, 3) := by decide +kernel
theorem dX5_moveIce_69 : decode cX5_moveIce 69 = .ok (.iconst 0, 1) := by decide +kernel
theorem dX5_moveIce_70 : decode cX5_moveIce 70 = .ok (.istore_n 1, 1) := by decide +kernel
theorem dX5_moveIce_71 : decode cX5_moveIce 71 = .ok (.iload_n 1, 1) := by decide +kernel
theorem dX5_moveIce_72 : decode cX5_moveIce 72 = .ok (.aload_n 0, 1) := by decide +kernel
theorem dX5_moveIce_73 : decode cX5_moveIce 73 = .ok (.getfield 25, 3) := by decide +kernel
theorem dX5_moveIce_76 : decode cX5_moveIce 76 = .ok (.getfield 273, 3) := by decide +kernel
theorem dX5_moveIce_79 : decode cX5_moveIce 79 = .ok (.if_icmp .ge 56, 3) := by decide +kernel
theorem dX5_moveIce_82 : decode cX5_moveIce 82 = .ok (.aload_n 0, 1) := by decide +kernel
theorem dX5_moveIce_83 : decode cX5_moveIce 83 = .ok (.getfield 25, 3) := by decide +kernel
theorem dX5_moveIce_86 : decode cX5_moveIce 86 = .ok (.getfield 276, 3) := by decide +kernel
theorem dX5_moveIce_89 : decode cX5_moveIce 89 = .ok (.iload_n 1, 1) := by decide +kernel
theorem dX5_moveIce_90 : decode cX5_moveIce 90 = .ok (.iaload, 1) := by decide +kernel
theorem dX5_moveIce_91 : decode cX5_moveIce 91 = .ok (.istore_n 2, 1) := by decide +kernel
theorem dX5_moveIce_92 : decode cX5_moveIce 92 = .ok (.iconst 0, 1) := by decide +kernel
theorem dX5_moveIce_93 : decode cX5_moveIce 93 = .ok (.istore_n 3, 1) := by decide +kernel
theorem dX5_moveIce_94 : decode cX5_moveIce 94 = .ok (.iload_n 3, 1) := by decide +kernel
theorem dX5_moveIce_95 : decode cX5_moveIce 95 = .ok (.iconst 4, 1) := by decide +kernel
theorem dX5_moveIce_96 : decode cX5_moveIce 96 = .ok (.if_icmp .ge 33, 3) := by decide +kernel
theorem dX5_moveIce_99 : decode cX5_moveIce 99 = .ok (.aload_n 0, 1) := by decide +kernel
theorem dX5_moveIce_100 : decode cX5_moveIce 100 = .ok (.iload_n 2, 1) := by decide +kernel
theorem dX5_moveIce_101 : decode cX5_moveIce 101 = .ok (.aload_n 0, 1) := by decide +kernel
theorem dX5_moveIce_102 : decode cX5_moveIce 102 = .ok (.getfield 25, 3) := by decide +kernel
theorem dX5_moveIce_105 : decode cX5_moveIce 105 = .ok (.iload_n 2, 1) := by decide +kernel
theorem dX5_moveIce_106 : decode cX5_moveIce 106 = .ok (.iload_n 3, 1) := by decide +kernel
theorem dX5_moveIce_107 : decode cX5_moveIce 107 = .ok (.invokevirtual 287, 3) := by decide +kernel
theorem dX5_moveIce_110 : decode cX5_moveIce 110 = .ok (.aload_n 0, 1) := by decide +kernel
theorem dX5_moveIce_111 : decode cX5_moveIce 111 = .ok (.getfield 49, 3) := by decide +kernel
theorem dX5_moveIce_114 : decode cX5_moveIce 114 = .ok (.iload_n 2, 1) := by decide +kernel
theorem dX5_moveIce_115 : decode cX5_moveIce 115 = .ok (.iconst 4, 1) := by decide +kernel
theorem dX5_moveIce_116 : decode cX5_moveIce 116 = .ok (.imul, 1) := by decide +kernel
theorem dX5_moveIce_117 : decode cX5_moveIce 117 = .ok (.iload_n 3, 1) := by decide +kernel
theorem dX5_moveIce_118 : decode cX5_moveIce 118 = .ok (.iadd, 1) := by decide +kernel
theorem dX5_moveIce_119 : decode cX5_moveIce 119 = .ok (.laload, 1) := by decide +kernel
theorem dX5_moveIce_120 : decode cX5_moveIce 120 = .ok (.invokevirtual 290, 3) := by decide +kernel
theorem dX5_moveIce_123 : decode cX5_moveIce 123 = .ok (.iinc 3 1, 3) := by decide +kernel
theorem dX5_moveIce_126 : decode cX5_moveIce 126 = .ok (.goto (-32), 3) := by decide +kernel
theorem dX5_moveIce_129 : decode cX5_moveIce 129 = .ok (.iinc 1 1, 3) := by decide +kernel
theorem dX5_moveIce_132 : decode cX5_moveIce 132 = .ok (.goto (-61), 3) := by decide +kernel
theorem dX5_moveIce_135 : decode cX5_moveIce 135 = .ok (.return_, 1) := by decide +kernel
theorem dX5_gift_0 : decode cX5_gift 0 = .ok (.aload_n 0, 1) := by decide +kernel
theorem dX5_gift_1 : decode cX5_gift 1 = .ok (.getfield 25, 3) := by decide +kernel
theorem dX5_gift_4 : decode cX5_gift 4 = .ok (.iload_n 1, 1) := by decide +kernel
theorem dX5_gift_5 : decode cX5_gift 5 = .ok (.iload_n 2, 1) := by decide +kernel
theorem dX5_gift_6 : decode cX5_gift 6 = .ok (.invokevirtual 287, 3) := by decide +kernel
theorem dX5_gift_9 : decode cX5_gift 9 = .ok (.istore_n 3, 1) := by decide +kernel
theorem dX5_gift_10 : decode cX5_gift 10 = .ok (.aload_n 0, 1) := by decide +kernel
theorem dX5_gift_11 : decode cX5_gift 11 = .ok (.getfield 32, 3) := by decide +kernel
theorem dX5_gift_14 : decode cX5_gift 14 = .ok (.getfield 168, 3) := by decide +kernel
theorem dX5_gift_17 : decode cX5_gift 17 = .ok (.iload_n 1, 1) := by decide +kernel
theorem dX5_gift_18 : decode cX5_gift 18 = .ok (.laload, 1) := by decide +kernel
theorem dX5_gift_19 : decode cX5_gift 19 = .ok (.lstore 4, 2) := by decide +kernel
theorem dX5_gift_21 : decode cX5_gift 21 = .ok (.iload_n 3, 1) := by decide +kernel
theorem dX5_gift_22 : decode cX5_gift 22 = .ok (.iconst (-1), 1) := by decide +kernel
theorem dX5_gift_23 : decode cX5_gift 23 = .ok (.if_icmp .eq 10, 3) := by decide +kernel
theorem dX5_gift_26 : decode cX5_gift 26 = .ok (.lload 4, 2) := by decide +kernel
theorem dX5_gift_28 : decode cX5_gift 28 = .ok (.lconst 0, 1) := by decide +kernel
theorem dX5_gift_29 : decode cX5_gift 29 = .ok (.lcmp, 1) := by decide +kernel
theorem dX5_gift_30 : decode cX5_gift 30 = .ok (.ifCond .ne 5, 3) := by decide +kernel
theorem dX5_gift_33 : decode cX5_gift 33 = .ok (.lconst 0, 1) := by decide +kernel
theorem dX5_gift_34 : decode cX5_gift 34 = .ok (.lreturn, 1) := by decide +kernel
theorem dX5_gift_35 : decode cX5_gift 35 = .ok (.aload_n 0, 1) := by decide +kernel
theorem dX5_gift_36 : decode cX5_gift 36 = .ok (.getfield 25, 3) := by decide +kernel
theorem dX5_gift_39 : decode cX5_gift 39 = .ok (.getfield 136, 3) := by decide +kernel
theorem dX5_gift_42 : decode cX5_gift 42 = .ok (.iload_n 3, 1) := by decide +kernel
theorem dX5_gift_43 : decode cX5_gift 43 = .ok (.iaload, 1) := by decide +kernel
theorem dX5_gift_44 : decode cX5_gift 44 = .ok (.iconst 4, 1) := by decide +kernel
theorem dX5_gift_45 : decode cX5_gift 45 = .ok (.if_icmp .ne 7, 3) := by decide +kernel
theorem dX5_gift_48 : decode cX5_gift 48 = .ok (.iconst 1, 1) := by decide +kernel
theorem dX5_gift_49 : decode cX5_gift 49 = .ok (.goto 4, 3) := by decide +kernel
theorem dX5_gift_52 : decode cX5_gift 52 = .ok (.iconst 0, 1) := by decide +kernel
theorem dX5_gift_53 : decode cX5_gift 53 = .ok (.istore 6, 2) := by decide +kernel
theorem dX5_gift_55 : decode cX5_gift 55 = .ok (.iload 6, 2) := by decide +kernel
theorem dX5_gift_57 : decode cX5_gift 57 = .ok (.ifCond .eq 8, 3) := by decide +kernel
theorem dX5_gift_60 : decode cX5_gift 60 = .ok (.lload 4, 2) := by decide +kernel
theorem dX5_gift_62 : decode cX5_gift 62 = .ok (.goto 14, 3) := by decide +kernel
theorem dX5_gift_65 : decode cX5_gift 65 = .ok (.aload_n 0, 1) := by decide +kernel
theorem dX5_gift_66 : decode cX5_gift 66 = .ok (.iload_n 1, 1) := by decide +kernel
theorem dX5_gift_67 : decode cX5_gift 67 = .ok (.invokevirtual 194, 3) := by decide +kernel
theorem dX5_gift_70 : decode cX5_gift 70 = .ok (.aload_n 0, 1) := by decide +kernel
theorem dX5_gift_71 : decode cX5_gift 71 = .ok (.iload_n 3, 1) := by decide +kernel
theorem dX5_gift_72 : decode cX5_gift 72 = .ok (.invokevirtual 194, 3) := by decide +kernel
theorem dX5_gift_75 : decode cX5_gift 75 = .ok (.lsub, 1) := by decide +kernel
theorem dX5_gift_76 : decode cX5_gift 76 = .ok (.lstore 7, 2) := by decide +kernel
theorem dX5_gift_78 : decode cX5_gift 78 = .ok (.lload 7, 2) := by decide +kernel
theorem dX5_gift_80 : decode cX5_gift 80 = .ok (.lconst 0, 1) := by decide +kernel
theorem dX5_gift_81 : decode cX5_gift 81 = .ok (.lcmp, 1) := by decide +kernel
theorem dX5_gift_82 : decode cX5_gift 82 = .ok (.ifCond .gt 5, 3) := by decide +kernel
theorem dX5_gift_85 : decode cX5_gift 85 = .ok (.lconst 0, 1) := by decide +kernel
theorem dX5_gift_86 : decode cX5_gift 86 = .ok (.lreturn, 1) := by decide +kernel
theorem dX5_gift_87 : decode cX5_gift 87 = .ok (.aload_n 0, 1) := by decide +kernel
theorem dX5_gift_88 : decode cX5_gift 88 = .ok (.getfield 25, 3) := by decide +kernel
theorem dX5_gift_91 : decode cX5_gift 91 = .ok (.getfield 136, 3) := by decide +kernel
theorem dX5_gift_94 : decode cX5_gift 94 = .ok (.iload_n 1, 1) := by decide +kernel
theorem dX5_gift_95 : decode cX5_gift 95 = .ok (.iaload, 1) := by decide +kernel
theorem dX5_gift_96 : decode cX5_gift 96 = .ok (.iconst 1, 1) := by decide +kernel
theorem dX5_gift_97 : decode cX5_gift 97 = .ok (.if_icmp .ne 16, 3) := by decide +kernel
theorem dX5_gift_100 : decode cX5_gift 100 = .ok (.aload_n 0, 1) := by decide +kernel
theorem dX5_gift_101 : decode cX5_gift 101 = .ok (.getfield 25, 3) := by decide +kernel
theorem dX5_gift_104 : decode cX5_gift 104 = .ok (.getfield 140, 3) := by decide +kernel
theorem dX5_gift_107 : decode cX5_gift 107 = .ok (.iload_n 1, 1) := by decide +kernel
theorem dX5_gift_108 : decode cX5_gift 108 = .ok (.iaload, 1) := by decide +kernel
theorem dX5_gift_109 : decode cX5_gift 109 = .ok (.i2l, 1) := by decide +kernel
theorem dX5_gift_110 : decode cX5_gift 110 = .ok (.goto 11, 3) := by decide +kernel
theorem dX5_gift_113 : decode cX5_gift 113 = .ok (.aload_n 0, 1) := by decide +kernel
theorem dX5_gift_114 : decode cX5_gift 114 = .ok (.getfield 18, 3) := by decide +kernel
theorem dX5_gift_117 : decode cX5_gift 117 = .ok (.getfield 157, 3) := by decide +kernel
theorem dX5_gift_120 : decode cX5_gift 120 = .ok (.i2l, 1) := by decide +kernel
theorem dX5_gift_121 : decode cX5_gift 121 = .ok (.lstore 9, 2) := by decide +kernel
theorem dX5_gift_123 : decode cX5_gift 123 = .ok (.lload 9, 2) := by decide +kernel
theorem dX5_gift_125 : decode cX5_gift 125 = .ok (.lload 7, 2) := by decide +kernel
theorem dX5_gift_127 : decode cX5_gift 127 = .ok (.lmul, 1) := by decide +kernel
theorem dX5_gift_128 : decode cX5_gift 128 = .ok (.aload_n 0, 1) := by decide +kernel
theorem dX5_gift_129 : decode cX5_gift 129 = .ok (.getfield 18, 3) := by decide +kernel
theorem dX5_gift_132 : decode cX5_gift 132 = .ok (.getfield 154, 3) := by decide +kernel
theorem dX5_gift_135 : decode cX5_gift 135 = .ok (.i2l, 1) := by decide +kernel
theorem dX5_gift_136 : decode cX5_gift 136 = .ok (.lload 4, 2) := by decide +kernel
theorem dX5_gift_138 : decode cX5_gift 138 = .ok (.invokestatic 293, 3) := by decide +kernel
theorem dX5_gift_141 : decode cX5_gift 141 = .ok (.lmul, 1) := by decide +kernel
theorem dX5_gift_142 : decode cX5_gift 142 = .ok (.ldc2_w 299, 3) := by decide +kernel
theorem dX5_gift_145 : decode cX5_gift 145 = .ok (.ldiv, 1) := by decide +kernel
theorem dX5_gift_146 : decode cX5_gift 146 = .ok (.lstore 11, 2) := by decide +kernel
theorem dX5_gift_148 : decode cX5_gift 148 = .ok (.lload 11, 2) := by decide +kernel
theorem dX5_gift_150 : decode cX5_gift 150 = .ok (.lload 7, 2) := by decide +kernel
theorem dX5_gift_152 : decode cX5_gift 152 = .ok (.lload 4, 2) := by decide +kernel
theorem dX5_gift_154 : decode cX5_gift 154 = .ok (.invokestatic 293, 3) := by decide +kernel
theorem dX5_gift_157 : decode cX5_gift 157 = .ok (.ldc2_w 301, 3) := by decide +kernel
theorem dX5_gift_160 : decode cX5_gift 160 = .ok (.ldiv, 1) := by decide +kernel
theorem dX5_gift_161 : decode cX5_gift 161 = .ok (.invokestatic 293, 3) := by decide +kernel
theorem dX5_gift_164 : decode cX5_gift 164 = .ok (.lreturn, 1) := by decide +kernel
theorem dX5_hand_0 : decode cX5_hand 0 = .ok (.iload_n 2, 1) := by decide +kernel
theorem dX5_hand_1 : decode cX5_hand 1 = .ok (.iconst (-1), 1) := by decide +kernel
theorem dX5_hand_2 : decode cX5_hand 2 = .ok (.if_icmp .ne 4, 3) := by decide +kernel
theorem dX5_hand_5 : decode cX5_hand 5 = .ok (.return_, 1) := by decide +kernel
theorem dX5_hand_6 : decode cX5_hand 6 = .ok (.lload_n 3, 1) := by decide +kernel
theorem dX5_hand_7 : decode cX5_hand 7 = .ok (.lstore 5, 2) := by decide +kernel
theorem dX5_hand_9 : decode cX5_hand 9 = .ok (.aload_n 0, 1) := by decide +kernel
theorem dX5_hand_10 : decode cX5_hand 10 = .ok (.getfield 32, 3) := by decide +kernel
theorem dX5_hand_13 : decode cX5_hand 13 = .ok (.getfield 160, 3) := by decide +kernel
theorem dX5_hand_16 : decode cX5_hand 16 = .ok (.istore 7, 2) := by decide +kernel
theorem dX5_hand_18 : decode cX5_hand 18 = .ok (.iload 7, 2) := by decide +kernel
theorem dX5_hand_20 : decode cX5_hand 20 = .ok (.ifCond .lt 125, 3) := by decide +kernel
theorem dX5_hand_23 : decode cX5_hand 23 = .ok (.lload 5, 2) := by decide +kernel
theorem dX5_hand_25 : decode cX5_hand 25 = .ok (.lconst 0, 1) := by decide +kernel
theorem dX5_hand_26 : decode cX5_hand 26 = .ok (.lcmp, 1) := by decide +kernel
theorem dX5_hand_27 : decode cX5_hand 27 = .ok (.ifCond .le 118, 3) := by decide +kernel
theorem dX5_hand_30 : decode cX5_hand 30 = .ok (.lload 5, 2) := by decide +kernel
theorem dX5_hand_32 : decode cX5_hand 32 = .ok (.aload_n 0, 1) := by decide +kernel
theorem dX5_hand_33 : decode cX5_hand 33 = .ok (.getfield 46, 3) := by decide +kernel
theorem dX5_hand_36 : decode cX5_hand 36 = .ok (.getfield 207, 3) := by decide +kernel
theorem dX5_hand_39 : decode cX5_hand 39 = .ok (.iload_n 1, 1) := by decide +kernel
theorem dX5_hand_40 : decode cX5_hand 40 = .ok (.bipush 61, 2) := by decide +kernel
theorem dX5_hand_42 : decode cX5_hand 42 = .ok (.imul, 1) := by decide +kernel
theorem dX5_hand_43 : decode cX5_hand 43 = .ok (.iload 7, 2) := by decide +kernel
theorem dX5_hand_45 : decode cX5_hand 45 = .ok (.iadd, 1) := by decide +kernel
theorem dX5_hand_46 : decode cX5_hand 46 = .ok (.laload, 1) := by decide +kernel
theorem dX5_hand_47 : decode cX5_hand 47 = .ok (.invokestatic 293, 3) := by decide +kernel
theorem dX5_hand_50 : decode cX5_hand 50 = .ok (.lstore 8, 2) := by decide +kernel
theorem dX5_hand_52 : decode cX5_hand 52 = .ok (.lload 8, 2) := by decide +kernel
theorem dX5_hand_54 : decode cX5_hand 54 = .ok (.lconst 0, 1) := by decide +kernel
theorem dX5_hand_55 : decode cX5_hand 55 = .ok (.lcmp, 1) := by decide +kernel
theorem dX5_hand_56 : decode cX5_hand 56 = .ok (.ifCond .ne 6, 3) := by decide +kernel
theorem dX5_hand_59 : decode cX5_hand 59 = .ok (.goto 80, 3) := by decide +kernel
theorem dX5_hand_62 : decode cX5_hand 62 = .ok (.aload_n 0, 1) := by decide +kernel
theorem dX5_hand_63 : decode cX5_hand 63 = .ok (.getfield 46, 3) := by decide +kernel
theorem dX5_hand_66 : decode cX5_hand 66 = .ok (.iload_n 1, 1) := by decide +kernel
theorem dX5_hand_67 : decode cX5_hand 67 = .ok (.iload 7, 2) := by decide +kernel
theorem dX5_hand_69 : decode cX5_hand 69 = .ok (.lload 8, 2) := by decide +kernel
theorem dX5_hand_71 : decode cX5_hand 71 = .ok (.invokevirtual 303, 3) := by decide +kernel
theorem dX5_hand_74 : decode cX5_hand 74 = .ok (.aload_n 0, 1) := by decide +kernel
theorem dX5_hand_75 : decode cX5_hand 75 = .ok (.getfield 32, 3) := by decide +kernel
theorem dX5_hand_78 : decode cX5_hand 78 = .ok (.iload_n 1, 1) := by decide +kernel
theorem dX5_hand_79 : decode cX5_hand 79 = .ok (.iload 7, 2) := by decide +kernel
theorem dX5_hand_81 : decode cX5_hand 81 = .ok (.lload 8, 2) := by decide +kernel
theorem dX5_hand_83 : decode cX5_hand 83 = .ok (.invokevirtual 303, 3) := by decide +kernel
theorem dX5_hand_86 : decode cX5_hand 86 = .ok (.aload_n 0, 1) := by decide +kernel
theorem dX5_hand_87 : decode cX5_hand 87 = .ok (.getfield 25, 3) := by decide +kernel
theorem dX5_hand_90 : decode cX5_hand 90 = .ok (.getfield 136, 3) := by decide +kernel
theorem dX5_hand_93 : decode cX5_hand 93 = .ok (.iload_n 2, 1) := by decide +kernel
theorem dX5_hand_94 : decode cX5_hand 94 = .ok (.iaload, 1) := by decide +kernel
theorem dX5_hand_95 : decode cX5_hand 95 = .ok (.iconst 4, 1) := by decide +kernel
theorem dX5_hand_96 : decode cX5_hand 96 = .ok (.if_icmp .ne 24, 3) := by decide +kernel
theorem dX5_hand_99 : decode cX5_hand 99 = .ok (.aload_n 0, 1) := by decide +kernel
theorem dX5_hand_100 : decode cX5_hand 100 = .ok (.getfield 32, 3) := by decide +kernel
theorem dX5_hand_103 : decode cX5_hand 103 = .ok (.getfield 217, 3) := by decide +kernel
theorem dX5_hand_106 : decode cX5_hand 106 = .ok (.bipush 122, 2) := by decide +kernel
theorem dX5_hand_108 : decode cX5_hand 108 = .ok (.iload 7, 2) := by decide +kernel
theorem dX5_hand_110 : decode cX5_hand 110 = .ok (.iadd, 1) := by decide +kernel
theorem dX5_hand_111 : decode cX5_hand 111 = .ok (.dup2, 1) := by decide +kernel
theorem dX5_hand_112 : decode cX5_hand 112 = .ok (.laload, 1) := by decide +kernel
theorem dX5_hand_113 : decode cX5_hand 113 = .ok (.lload 8, 2) := by decide +kernel
theorem dX5_hand_115 : decode cX5_hand 115 = .ok (.ladd, 1) := by decide +kernel
theorem dX5_hand_116 : decode cX5_hand 116 = .ok (.lastore, 1) := by decide +kernel
theorem dX5_hand_117 : decode cX5_hand 117 = .ok (.goto 15, 3) := by decide +kernel
theorem dX5_hand_120 : decode cX5_hand 120 = .ok (.aload_n 0, 1) := by decide +kernel
theorem dX5_hand_121 : decode cX5_hand 121 = .ok (.getfield 32, 3) := by decide +kernel
theorem dX5_hand_124 : decode cX5_hand 124 = .ok (.iload_n 2, 1) := by decide +kernel
theorem dX5_hand_125 : decode cX5_hand 125 = .ok (.iload 7, 2) := by decide +kernel
theorem dX5_hand_127 : decode cX5_hand 127 = .ok (.lload 8, 2) := by decide +kernel
theorem dX5_hand_129 : decode cX5_hand 129 = .ok (.invokevirtual 306, 3) := by decide +kernel
theorem dX5_hand_132 : decode cX5_hand 132 = .ok (.lload 5, 2) := by decide +kernel
theorem dX5_hand_134 : decode cX5_hand 134 = .ok (.lload 8, 2) := by decide +kernel
theorem dX5_hand_136 : decode cX5_hand 136 = .ok (.lsub, 1) := by decide +kernel
theorem dX5_hand_137 : decode cX5_hand 137 = .ok (.lstore 5, 2) := by decide +kernel
theorem dX5_hand_139 : decode cX5_hand 139 = .ok (.iinc 7 (-1), 3) := by decide +kernel
theorem dX5_hand_142 : decode cX5_hand 142 = .ok (.goto (-124), 3) := by decide +kernel
theorem dX5_hand_145 : decode cX5_hand 145 = .ok (.return_, 1) := by decide +kernel
theorem dX5_floatIce_0 : decode cX5_floatIce 0 = .ok (.iconst 0, 1) := by decide +kernel
theorem dX5_floatIce_1 : decode cX5_floatIce 1 = .ok (.istore_n 1, 1) := by decide +kernel
theorem dX5_floatIce_2 : decode cX5_floatIce 2 = .ok (.iload_n 1, 1) := by decide +kernel
theorem dX5_floatIce_3 : decode cX5_floatIce 3 = .ok (.aload_n 0, 1) := by decide +kernel
theorem dX5_floatIce_4 : decode cX5_floatIce 4 = .ok (.getfield 25, 3) := by decide +kernel
theorem dX5_floatIce_7 : decode cX5_floatIce 7 = .ok (.getfield 273, 3) := by decide +kernel
theorem dX5_floatIce_10 : decode cX5_floatIce 10 = .ok (.if_icmp .ge 50, 3) := by decide +kernel
theorem dX5_floatIce_13 : decode cX5_floatIce 13 = .ok (.aload_n 0, 1) := by decide +kernel
theorem dX5_floatIce_14 : decode cX5_floatIce 14 = .ok (.getfield 25, 3) := by decide +kernel
theorem dX5_floatIce_17 : decode cX5_floatIce 17 = .ok (.getfield 276, 3) := by decide +kernel
theorem dX5_floatIce_20 : decode cX5_floatIce 20 = .ok (.iload_n 1, 1) := by decide +kernel
theorem dX5_floatIce_21 : decode cX5_floatIce 21 = .ok (.iaload, 1) := by decide +kernel
theorem dX5_floatIce_22 : decode cX5_floatIce 22 = .ok (.istore_n 2, 1) := by decide +kernel
theorem dX5_floatIce_23 : decode cX5_floatIce 23 = .ok (.aload_n 0, 1) := by decide +kernel
theorem dX5_floatIce_24 : decode cX5_floatIce 24 = .ok (.getfield 25, 3) := by decide +kernel
theorem dX5_floatIce_27 : decode cX5_floatIce 27 = .ok (.getfield 136, 3) := by decide +kernel
theorem dX5_floatIce_30 : decode cX5_floatIce 30 = .ok (.iload_n 2, 1) := by decide +kernel
theorem dX5_floatIce_31 : decode cX5_floatIce 31 = .ok (.iaload, 1) := by decide +kernel
theorem dX5_floatIce_32 : decode cX5_floatIce 32 = .ok (.iconst 3, 1) := by decide +kernel
theorem dX5_floatIce_33 : decode cX5_floatIce 33 = .ok (.if_icmp .ne 21, 3) := by decide +kernel
theorem dX5_floatIce_36 : decode cX5_floatIce 36 = .ok (.aload_n 0, 1) := by decide +kernel
theorem dX5_floatIce_37 : decode cX5_floatIce 37 = .ok (.getfield 32, 3) := by decide +kernel
theorem dX5_floatIce_40 : decode cX5_floatIce 40 = .ok (.iload_n 2, 1) := by decide +kernel
theorem dX5_floatIce_41 : decode cX5_floatIce 41 = .ok (.aload_n 0, 1) := by decide +kernel
theorem dX5_floatIce_42 : decode cX5_floatIce 42 = .ok (.getfield 32, 3) := by decide +kernel
theorem dX5_floatIce_45 : decode cX5_floatIce 45 = .ok (.getfield 168, 3) := by decide +kernel
theorem dX5_floatIce_48 : decode cX5_floatIce 48 = .ok (.iload_n 2, 1) := by decide +kernel
theorem dX5_floatIce_49 : decode cX5_floatIce 49 = .ok (.laload, 1) := by decide +kernel
theorem dX5_floatIce_50 : decode cX5_floatIce 50 = .ok (.iconst 3, 1) := by decide +kernel
theorem dX5_floatIce_51 : decode cX5_floatIce 51 = .ok (.invokevirtual 283, 3) := by decide +kernel
theorem dX5_floatIce_54 : decode cX5_floatIce 54 = .ok (.iinc 1 1, 3) := by decide +kernel
theorem dX5_floatIce_57 : decode cX5_floatIce 57 = .ok (.goto (-55), 3) := by decide +kernel
theorem dX5_floatIce_60 : decode cX5_floatIce 60 = .ok (.return_, 1) := by decide +kernel
theorem dX5_remember_0 : decode cX5_remember 0 = .ok (.aload_n 0, 1) := by decide +kernel
theorem dX5_remember_1 : decode cX5_remember 1 = .ok (.getfield 32, 3) := by decide +kernel
theorem dX5_remember_4 : decode cX5_remember 4 = .ok (.getfield 168, 3) := by decide +kernel
theorem dX5_remember_7 : decode cX5_remember 7 = .ok (.iconst 0, 1) := by decide +kernel
theorem dX5_remember_8 : decode cX5_remember 8 = .ok (.aload_n 0, 1) := by decide +kernel
theorem dX5_remember_9 : decode cX5_remember 9 = .ok (.getfield 53, 3) := by decide +kernel
theorem dX5_remember_12 : decode cX5_remember 12 = .ok (.iload_n 1, 1) := by decide +kernel
theorem dX5_remember_13 : decode cX5_remember 13 = .ok (.bipush 64, 2) := by decide +kernel
theorem dX5_remember_15 : decode cX5_remember 15 = .ok (.imul, 1) := by decide +kernel
theorem dX5_remember_16 : decode cX5_remember 16 = .ok (.bipush 64, 2) := by decide +kernel
theorem dX5_remember_18 : decode cX5_remember 18 = .ok (.invokestatic 101, 3) := by decide +kernel
theorem dX5_remember_21 : decode cX5_remember 21 = .ok (.return_, 1) := by decide +kernel
theorem dX5_yearsSinceAlike_0 : decode cX5_yearsSinceAlike 0 = .ok (.iload_n 1, 1) := by decide +kernel
theorem dX5_yearsSinceAlike_1 : decode cX5_yearsSinceAlike 1 = .ok (.iconst 1, 1) := by decide +kernel
theorem dX5_yearsSinceAlike_2 : decode cX5_yearsSinceAlike 2 = .ok (.isub, 1) := by decide +kernel
theorem dX5_yearsSinceAlike_3 : decode cX5_yearsSinceAlike 3 = .ok (.istore_n 2, 1) := by decide +kernel
theorem dX5_yearsSinceAlike_4 : decode cX5_yearsSinceAlike 4 = .ok (.iload_n 2, 1) := by decide +kernel
theorem dX5_yearsSinceAlike_5 : decode cX5_yearsSinceAlike 5 = .ok (.ifCond .lt 21, 3) := by decide +kernel
theorem dX5_yearsSinceAlike_8 : decode cX5_yearsSinceAlike 8 = .ok (.aload_n 0, 1) := by decide +kernel
theorem dX5_yearsSinceAlike_9 : decode cX5_yearsSinceAlike 9 = .ok (.iload_n 2, 1) := by decide +kernel
theorem dX5_yearsSinceAlike_10 : decode cX5_yearsSinceAlike 10 = .ok (.invokevirtual 309, 3) := by decide +kernel
theorem dX5_yearsSinceAlike_13 : decode cX5_yearsSinceAlike 13 = .ok (.ifCond .eq 7, 3) := by decide +kernel
theorem dX5_yearsSinceAlike_16 : decode cX5_yearsSinceAlike 16 = .ok (.iload_n 1, 1) := by decide +kernel
theorem dX5_yearsSinceAlike_17 : decode cX5_yearsSinceAlike 17 = .ok (.iload_n 2, 1) := by decide +kernel
theorem dX5_yearsSinceAlike_18 : decode cX5_yearsSinceAlike 18 = .ok (.isub, 1) := by decide +kernel
theorem dX5_yearsSinceAlike_19 : decode cX5_yearsSinceAlike 19 = .ok (.ireturn, 1) := by decide +kernel
theorem dX5_yearsSinceAlike_20 : decode cX5_yearsSinceAlike 20 = .ok (.iinc 2 (-1), 3) := by decide +kernel
theorem dX5_yearsSinceAlike_23 : decode cX5_yearsSinceAlike 23 = .ok (.goto (-19), 3) := by decide +kernel
theorem dX5_yearsSinceAlike_26 : decode cX5_yearsSinceAlike 26 = .ok (.iconst 0, 1) := by decide +kernel
theorem dX5_yearsSinceAlike_27 : decode cX5_yearsSinceAlike 27 = .ok (.ireturn, 1) := by decide +kernel
theorem dX5_liesAsIn_0 : decode cX5_liesAsIn 0 = .ok (.iconst 0, 1) := by decide +kernel
theorem dX5_liesAsIn_1 : decode cX5_liesAsIn 1 = .ok (.istore_n 2, 1) := by decide +kernel
theorem dX5_liesAsIn_2 : decode cX5_liesAsIn 2 = .ok (.iload_n 2, 1) := by decide +kernel
theorem dX5_liesAsIn_3 : decode cX5_liesAsIn 3 = .ok (.aload_n 0, 1) := by decide +kernel
theorem dX5_liesAsIn_4 : decode cX5_liesAsIn 4 = .ok (.getfield 25, 3) := by decide +kernel
theorem dX5_liesAsIn_7 : decode cX5_liesAsIn 7 = .ok (.getfield 273, 3) := by decide +kernel
theorem dX5_liesAsIn_10 : decode cX5_liesAsIn 10 = .ok (.if_icmp .ge 45, 3) := by decide +kernel
theorem dX5_liesAsIn_13 : decode cX5_liesAsIn 13 = .ok (.aload_n 0, 1) := by decide +kernel
theorem dX5_liesAsIn_14 : decode cX5_liesAsIn 14 = .ok (.getfield 25, 3) := by decide +kernel
theorem dX5_liesAsIn_17 : decode cX5_liesAsIn 17 = .ok (.getfield 276, 3) := by decide +kernel
theorem dX5_liesAsIn_20 : decode cX5_liesAsIn 20 = .ok (.iload_n 2, 1) := by decide +kernel
theorem dX5_liesAsIn_21 : decode cX5_liesAsIn 21 = .ok (.iaload, 1) := by decide +kernel
theorem dX5_liesAsIn_22 : decode cX5_liesAsIn 22 = .ok (.istore_n 3, 1) := by decide +kernel
theorem dX5_liesAsIn_23 : decode cX5_liesAsIn 23 = .ok (.aload_n 0, 1) := by decide +kernel
theorem dX5_liesAsIn_24 : decode cX5_liesAsIn 24 = .ok (.getfield 53, 3) := by decide +kernel
theorem dX5_liesAsIn_27 : decode cX5_liesAsIn 27 = .ok (.iload_n 1, 1) := by decide +kernel
theorem dX5_liesAsIn_28 : decode cX5_liesAsIn 28 = .ok (.bipush 64, 2) := by decide +kernel
theorem dX5_liesAsIn_30 : decode cX5_liesAsIn 30 = .ok (.imul, 1) := by decide +kernel
theorem dX5_liesAsIn_31 : decode cX5_liesAsIn 31 = .ok (.iload_n 3, 1) := by decide +kernel
theorem dX5_liesAsIn_32 : decode cX5_liesAsIn 32 = .ok (.iadd, 1) := by decide +kernel
theorem dX5_liesAsIn_33 : decode cX5_liesAsIn 33 = .ok (.laload, 1) := by decide +kernel
theorem dX5_liesAsIn_34 : decode cX5_liesAsIn 34 = .ok (.aload_n 0, 1) := by decide +kernel
theorem dX5_liesAsIn_35 : decode cX5_liesAsIn 35 = .ok (.getfield 32, 3) := by decide +kernel
theorem dX5_liesAsIn_38 : decode cX5_liesAsIn 38 = .ok (.getfield 168, 3) := by decide +kernel
theorem dX5_liesAsIn_41 : decode cX5_liesAsIn 41 = .ok (.iload_n 3, 1) := by decide +kernel
theorem dX5_liesAsIn_42 : decode cX5_liesAsIn 42 = .ok (.laload, 1) := by decide +kernel
theorem dX5_liesAsIn_43 : decode cX5_liesAsIn 43 = .ok (.lcmp, 1) := by decide +kernel
theorem dX5_liesAsIn_44 : decode cX5_liesAsIn 44 = .ok (.ifCond .eq 5, 3) := by decide +kernel
theorem dX5_liesAsIn_47 : decode cX5_liesAsIn 47 = .ok (.iconst 0, 1) := by decide +kernel
theorem dX5_liesAsIn_48 : decode cX5_liesAsIn 48 = .ok (.ireturn, 1) := by decide +kernel
theorem dX5_liesAsIn_49 : decode cX5_liesAsIn 49 = .ok (.iinc 2 1, 3) := by decide +kernel
theorem dX5_liesAsIn_52 : decode cX5_liesAsIn 52 = .ok (.goto (-50), 3) := by decide +kernel
theorem dX5_liesAsIn_55 : decode cX5_liesAsIn 55 = .ok (.iconst 1, 1) := by decide +kernel
theorem dX5_liesAsIn_56 : decode cX5_liesAsIn 56 = .ok (.ireturn, 1) := by decide +kernel
theorem dX5_icyCells_0 : decode cX5_icyCells 0 = .ok (.iconst 0, 1) := by decide +kernel
theorem dX5_icyCells_1 : decode cX5_icyCells 1 = .ok (.istore_n 1, 1) := by decide +kernel
theorem dX5_icyCells_2 : decode cX5_icyCells 2 = .ok (.iconst 0, 1) := by decide +kernel
theorem dX5_icyCells_3 : decode cX5_icyCells 3 = .ok (.istore_n 2, 1) := by decide +kernel
theorem dX5_icyCells_4 : decode cX5_icyCells 4 = .ok (.iload_n 2, 1) := by decide +kernel
theorem dX5_icyCells_5 : decode cX5_icyCells 5 = .ok (.aload_n 0, 1) := by decide +kernel
theorem dX5_icyCells_6 : decode cX5_icyCells 6 = .ok (.getfield 25, 3) := by decide +kernel
theorem dX5_icyCells_9 : decode cX5_icyCells 9 = .ok (.getfield 273, 3) := by decide +kernel
theorem dX5_icyCells_12 : decode cX5_icyCells 12 = .ok (.if_icmp .ge 34, 3) := by decide +kernel
theorem dX5_icyCells_15 : decode cX5_icyCells 15 = .ok (.aload_n 0, 1) := by decide +kernel
theorem dX5_icyCells_16 : decode cX5_icyCells 16 = .ok (.getfield 32, 3) := by decide +kernel
theorem dX5_icyCells_19 : decode cX5_icyCells 19 = .ok (.getfield 168, 3) := by decide +kernel
theorem dX5_icyCells_22 : decode cX5_icyCells 22 = .ok (.aload_n 0, 1) := by decide +kernel
theorem dX5_icyCells_23 : decode cX5_icyCells 23 = .ok (.getfield 25, 3) := by decide +kernel
theorem dX5_icyCells_26 : decode cX5_icyCells 26 = .ok (.getfield 276, 3) := by decide +kernel
theorem dX5_icyCells_29 : decode cX5_icyCells 29 = .ok (.iload_n 2, 1) := by decide +kernel
theorem dX5_icyCells_30 : decode cX5_icyCells 30 = .ok (.iaload, 1) := by decide +kernel
theorem dX5_icyCells_31 : decode cX5_icyCells 31 = .ok (.laload, 1) := by decide +kernel
theorem dX5_icyCells_32 : decode cX5_icyCells 32 = .ok (.lconst 0, 1) := by decide +kernel
theorem dX5_icyCells_33 : decode cX5_icyCells 33 = .ok (.lcmp, 1) := by decide +kernel
theorem dX5_icyCells_34 : decode cX5_icyCells 34 = .ok (.ifCond .le 6, 3) := by decide +kernel
theorem dX5_icyCells_37 : decode cX5_icyCells 37 = .ok (.iinc 1 1, 3) := by decide +kernel
theorem dX5_icyCells_40 : decode cX5_icyCells 40 = .ok (.iinc 2 1, 3) := by decide +kernel
theorem dX5_icyCells_43 : decode cX5_icyCells 43 = .ok (.goto (-39), 3) := by decide +kernel
theorem dX5_icyCells_46 : decode cX5_icyCells 46 = .ok (.iload_n 1, 1) := by decide +kernel
theorem dX5_icyCells_47 : decode cX5_icyCells 47 = .ok (.ireturn, 1) := by decide +kernel
theorem dX5_thickestPlace_0 : decode cX5_thickestPlace 0 = .ok (.iconst (-1), 1) := by decide +kernel
theorem dX5_thickestPlace_1 : decode cX5_thickestPlace 1 = .ok (.istore_n 1, 1) := by decide +kernel
theorem dX5_thickestPlace_2 : decode cX5_thickestPlace 2 = .ok (.lconst 0, 1) := by decide +kernel
theorem dX5_thickestPlace_3 : decode cX5_thickestPlace 3 = .ok (.lstore_n 2, 1) := by decide +kernel
theorem dX5_thickestPlace_4 : decode cX5_thickestPlace 4 = .ok (.iconst 0, 1) := by decide +kernel
theorem dX5_thickestPlace_5 : decode cX5_thickestPlace 5 = .ok (.istore 4, 2) := by decide +kernel
theorem dX5_thickestPlace_7 : decode cX5_thickestPlace 7 = .ok (.iload 4, 2) := by decide +kernel
theorem dX5_thickestPlace_9 : decode cX5_thickestPlace 9 = .ok (.aload_n 0, 1) := by decide +kernel
theorem dX5_thickestPlace_10 : decode cX5_thickestPlace 10 = .ok (.getfield 25, 3) := by decide +kernel
theorem dX5_thickestPlace_13 : decode cX5_thickestPlace 13 = .ok (.getfield 273, 3) := by decide +kernel
theorem dX5_thickestPlace_16 : decode cX5_thickestPlace 16 = .ok (.if_icmp .ge 50, 3) := by decide +kernel
theorem dX5_thickestPlace_19 : decode cX5_thickestPlace 19 = .ok (.aload_n 0, 1) := by decide +kernel
theorem dX5_thickestPlace_20 : decode cX5_thickestPlace 20 = .ok (.getfield 25, 3) := by decide +kernel
theorem dX5_thickestPlace_23 : decode cX5_thickestPlace 23 = .ok (.getfield 276, 3) := by decide +kernel
theorem dX5_thickestPlace_26 : decode cX5_thickestPlace 26 = .ok (.iload 4, 2) := by decide +kernel
theorem dX5_thickestPlace_28 : decode cX5_thickestPlace 28 = .ok (.iaload, 1) := by decide +kernel
theorem dX5_thickestPlace_29 : decode cX5_thickestPlace 29 = .ok (.istore 5, 2) := by decide +kernel
theorem dX5_thickestPlace_31 : decode cX5_thickestPlace 31 = .ok (.aload_n 0, 1) := by decide +kernel
theorem dX5_thickestPlace_32 : decode cX5_thickestPlace 32 = .ok (.getfield 32, 3) := by decide +kernel
theorem dX5_thickestPlace_35 : decode cX5_thickestPlace 35 = .ok (.getfield 168, 3) := by decide +kernel
theorem dX5_thickestPlace_38 : decode cX5_thickestPlace 38 = .ok (.iload 5, 2) := by decide +kernel
theorem dX5_thickestPlace_40 : decode cX5_thickestPlace 40 = .ok (.laload, 1) := by decide +kernel
theorem dX5_thickestPlace_41 : decode cX5_thickestPlace 41 = .ok (.lload_n 2, 1) := by decide +kernel
theorem dX5_thickestPlace_42 : decode cX5_thickestPlace 42 = .ok (.lcmp, 1) := by decide +kernel
theorem dX5_thickestPlace_43 : decode cX5_thickestPlace 43 = .ok (.ifCond .le 17, 3) := by decide +kernel
theorem dX5_thickestPlace_46 : decode cX5_thickestPlace 46 = .ok (.aload_n 0, 1) := by decide +kernel
theorem dX5_thickestPlace_47 : decode cX5_thickestPlace 47 = .ok (.getfield 32, 3) := by decide +kernel
theorem dX5_thickestPlace_50 : decode cX5_thickestPlace 50 = .ok (.getfield 168, 3) := by decide +kernel
theorem dX5_thickestPlace_53 : decode cX5_thickestPlace 53 = .ok (.iload 5, 2) := by decide +kernel
theorem dX5_thickestPlace_55 : decode cX5_thickestPlace 55 = .ok (.laload, 1) := by decide +kernel
theorem dX5_thickestPlace_56 : decode cX5_thickestPlace 56 = .ok (.lstore_n 2, 1) := by decide +kernel
theorem dX5_thickestPlace_57 : decode cX5_thickestPlace 57 = .ok (.iload 5, 2) := by decide +kernel
theorem dX5_thickestPlace_59 : decode cX5_thickestPlace 59 = .ok (.istore_n 1, 1) := by decide +kernel
theorem dX5_thickestPlace_60 : decode cX5_thickestPlace 60 = .ok (.iinc 4 1, 3) := by decide +kernel
theorem dX5_thickestPlace_63 : decode cX5_thickestPlace 63 = .ok (.goto (-56), 3) := by decide +kernel
theorem dX5_thickestPlace_66 : decode cX5_thickestPlace 66 = .ok (.iload_n 1, 1) := by decide +kernel
theorem dX5_thickestPlace_67 : decode cX5_thickestPlace 67 = .ok (.ireturn, 1) := by decide +kernel
theorem dX5_lowestIceSurface_0 : decode cX5_lowestIceSurface 0 = .ok (.ldc2_w 233, 3) := by decide +kernel
theorem dX5_lowestIceSurface_3 : decode cX5_lowestIceSurface 3 = .ok (.lstore_n 1, 1) := by decide +kernel
theorem dX5_lowestIceSurface_4 : decode cX5_lowestIceSurface 4 = .ok (.iconst 0, 1) := by decide +kernel
theorem dX5_lowestIceSurface_5 : decode cX5_lowestIceSurface 5 = .ok (.istore_n 3, 1) := by decide +kernel
theorem dX5_lowestIceSurface_6 : decode cX5_lowestIceSurface 6 = .ok (.iload_n 3, 1) := by decide +kernel
theorem dX5_lowestIceSurface_7 : decode cX5_lowestIceSurface 7 = .ok (.aload_n 0, 1) := by decide +kernel
theorem dX5_lowestIceSurface_8 : decode cX5_lowestIceSurface 8 = .ok (.getfield 25, 3) := by decide +kernel
theorem dX5_lowestIceSurface_11 : decode cX5_lowestIceSurface 11 = .ok (.getfield 273, 3) := by decide +kernel
theorem dX5_lowestIceSurface_14 : decode cX5_lowestIceSurface 14 = .ok (.if_icmp .ge 61, 3) := by decide +kernel
theorem dX5_lowestIceSurface_17 : decode cX5_lowestIceSurface 17 = .ok (.aload_n 0, 1) := by decide +kernel
theorem dX5_lowestIceSurface_18 : decode cX5_lowestIceSurface 18 = .ok (.getfield 25, 3) := by decide +kernel
theorem dX5_lowestIceSurface_21 : decode cX5_lowestIceSurface 21 = .ok (.getfield 276, 3) := by decide +kernel
theorem dX5_lowestIceSurface_24 : decode cX5_lowestIceSurface 24 = .ok (.iload_n 3, 1) := by decide +kernel
theorem dX5_lowestIceSurface_25 : decode cX5_lowestIceSurface 25 = .ok (.iaload, 1) := by decide +kernel
theorem dX5_lowestIceSurface_26 : decode cX5_lowestIceSurface 26 = .ok (.istore 4, 2) := by decide +kernel
theorem dX5_lowestIceSurface_28 : decode cX5_lowestIceSurface 28 = .ok (.aload_n 0, 1) := by decide +kernel
theorem dX5_lowestIceSurface_29 : decode cX5_lowestIceSurface 29 = .ok (.getfield 32, 3) := by decide +kernel
theorem dX5_lowestIceSurface_32 : decode cX5_lowestIceSurface 32 = .ok (.getfield 168, 3) := by decide +kernel
theorem dX5_lowestIceSurface_35 : decode cX5_lowestIceSurface 35 = .ok (.iload 4, 2) := by decide +kernel
theorem dX5_lowestIceSurface_37 : decode cX5_lowestIceSurface 37 = .ok (.laload, 1) := by decide +kernel
theorem dX5_lowestIceSurface_38 : decode cX5_lowestIceSurface 38 = .ok (.lconst 0, 1) := by decide +kernel
theorem dX5_lowestIceSurface_39 : decode cX5_lowestIceSurface 39 = .ok (.lcmp, 1) := by decide +kernel
theorem dX5_lowestIceSurface_40 : decode cX5_lowestIceSurface 40 = .ok (.ifCond .le 29, 3) := by decide +kernel
theorem dX5_lowestIceSurface_43 : decode cX5_lowestIceSurface 43 = .ok (.lload_n 1, 1) := by decide +kernel
theorem dX5_lowestIceSurface_44 : decode cX5_lowestIceSurface 44 = .ok (.ldc2_w 233, 3) := by decide +kernel
theorem dX5_lowestIceSurface_47 : decode cX5_lowestIceSurface 47 = .ok (.lcmp, 1) := by decide +kernel
theorem dX5_lowestIceSurface_48 : decode cX5_lowestIceSurface 48 = .ok (.ifCond .eq 14, 3) := by decide +kernel
theorem dX5_lowestIceSurface_51 : decode cX5_lowestIceSurface 51 = .ok (.aload_n 0, 1) := by decide +kernel
theorem dX5_lowestIceSurface_52 : decode cX5_lowestIceSurface 52 = .ok (.iload 4, 2) := by decide +kernel
theorem dX5_lowestIceSurface_54 : decode cX5_lowestIceSurface 54 = .ok (.invokevirtual 194, 3) := by decide +kernel
theorem dX5_lowestIceSurface_57 : decode cX5_lowestIceSurface 57 = .ok (.lload_n 1, 1) := by decide +kernel
theorem dX5_lowestIceSurface_58 : decode cX5_lowestIceSurface 58 = .ok (.lcmp, 1) := by decide +kernel
theorem dX5_lowestIceSurface_59 : decode cX5_lowestIceSurface 59 = .ok (.ifCond .ge 10, 3) := by decide +kernel
theorem dX5_lowestIceSurface_62 : decode cX5_lowestIceSurface 62 = .ok (.aload_n 0, 1) := by decide +kernel
theorem dX5_lowestIceSurface_63 : decode cX5_lowestIceSurface 63 = .ok (.iload 4, 2) := by decide +kernel
theorem dX5_lowestIceSurface_65 : decode cX5_lowestIceSurface 65 = .ok (.invokevirtual 194, 3) := by decide +kernel
theorem dX5_lowestIceSurface_68 : decode cX5_lowestIceSurface 68 = .ok (.lstore_n 1, 1) := by decide +kernel
theorem dX5_lowestIceSurface_69 : decode cX5_lowestIceSurface 69 = .ok (.iinc 3 1, 3) := by decide +kernel
theorem dX5_lowestIceSurface_72 : decode cX5_lowestIceSurface 72 = .ok (.goto (-66), 3) := by decide +kernel
theorem dX5_lowestIceSurface_75 : decode cX5_lowestIceSurface 75 = .ok (.lload_n 1, 1) := by decide +kernel
theorem dX5_lowestIceSurface_76 : decode cX5_lowestIceSurface 76 = .ok (.lreturn, 1) := by decide +kernel
theorem dX5_turnCells_0 : decode cX5_turnCells 0 = .ok (.aload_n 0, 1) := by decide +kernel
theorem dX5_turnCells_1 : decode cX5_turnCells 1 = .ok (.getfield 25, 3) := by decide +kernel
theorem dX5_turnCells_4 : decode cX5_turnCells 4 = .ok (.iload_n 1, 1) := by decide +kernel
theorem dX5_turnCells_5 : decode cX5_turnCells 5 = .ok (.ifCond .eq 13, 3) := by decide +kernel
theorem dX5_turnCells_8 : decode cX5_turnCells 8 = .ok (.aload_n 0, 1) := by decide +kernel
theorem dX5_turnCells_9 : decode cX5_turnCells 9 = .ok (.getfield 43, 3) := by decide +kernel
theorem dX5_turnCells_12 : decode cX5_turnCells 12 = .ok (.getfield 252, 3) := by decide +kernel
theorem dX5_turnCells_15 : decode cX5_turnCells 15 = .ok (.goto 10, 3) := by decide +kernel
theorem dX5_turnCells_18 : decode cX5_turnCells 18 = .ok (.aload_n 0, 1) := by decide +kernel
theorem dX5_turnCells_19 : decode cX5_turnCells 19 = .ok (.getfield 43, 3) := by decide +kernel
theorem dX5_turnCells_22 : decode cX5_turnCells 22 = .ok (.getfield 249, 3) := by decide +kernel
theorem dX5_turnCells_25 : decode cX5_turnCells 25 = .ok (.iload_n 1, 1) := by decide +kernel
theorem dX5_turnCells_26 : decode cX5_turnCells 26 = .ok (.ifCond .eq 13, 3) := by decide +kernel
theorem dX5_turnCells_29 : decode cX5_turnCells 29 = .ok (.aload_n 0, 1) := by decide +kernel
theorem dX5_turnCells_30 : decode cX5_turnCells 30 = .ok (.getfield 43, 3) := by decide +kernel
theorem dX5_turnCells_33 : decode cX5_turnCells 33 = .ok (.getfield 249, 3) := by decide +kernel
theorem dX5_turnCells_36 : decode cX5_turnCells 36 = .ok (.goto 10, 3) := by decide +kernel
theorem dX5_turnCells_39 : decode cX5_turnCells 39 = .ok (.aload_n 0, 1) := by decide +kernel
theorem dX5_turnCells_40 : decode cX5_turnCells 40 = .ok (.getfield 43, 3) := by decide +kernel
theorem dX5_turnCells_43 : decode cX5_turnCells 43 = .ok (.getfield 252, 3) := by decide +kernel
theorem dX5_turnCells_46 : decode cX5_turnCells 46 = .ok (.invokevirtual 110, 3) := by decide +kernel
theorem dX5_turnCells_49 : decode cX5_turnCells 49 = .ok (.iconst 0, 1) := by decide +kernel
theorem dX5_turnCells_50 : decode cX5_turnCells 50 = .ok (.istore_n 2, 1) := by decide +kernel
theorem dX5_turnCells_51 : decode cX5_turnCells 51 = .ok (.iload_n 2, 1) := by decide +kernel
theorem dX5_turnCells_52 : decode cX5_turnCells 52 = .ok (.aload_n 0, 1) := by decide +kernel
theorem dX5_turnCells_53 : decode cX5_turnCells 53 = .ok (.getfield 25, 3) := by decide +kernel
theorem dX5_turnCells_56 : decode cX5_turnCells 56 = .ok (.getfield 252, 3) := by decide +kernel
theorem dX5_turnCells_59 : decode cX5_turnCells 59 = .ok (.if_icmp .ge 74, 3) := by decide +kernel
theorem dX5_turnCells_62 : decode cX5_turnCells 62 = .ok (.iconst 0, 1) := by decide +kernel
theorem dX5_turnCells_63 : decode cX5_turnCells 63 = .ok (.istore_n 3, 1) := by decide +kernel
theorem dX5_turnCells_64 : decode cX5_turnCells 64 = .ok (.iload_n 3, 1) := by decide +kernel
theorem dX5_turnCells_65 : decode cX5_turnCells 65 = .ok (.aload_n 0, 1) := by decide +kernel
theorem dX5_turnCells_66 : decode cX5_turnCells 66 = .ok (.getfield 25, 3) := by decide +kernel
theorem dX5_turnCells_69 : decode cX5_turnCells 69 = .ok (.getfield 249, 3) := by decide +kernel
theorem dX5_turnCells_72 : decode cX5_turnCells 72 = .ok (.if_icmp .ge 55, 3) := by decide +kernel
theorem dX5_turnCells_75 : decode cX5_turnCells 75 = .ok (.aload_n 0, 1) := by decide +kernel
theorem dX5_turnCells_76 : decode cX5_turnCells 76 = .ok (.getfield 25, 3) := by decide +kernel
theorem dX5_turnCells_79 : decode cX5_turnCells 79 = .ok (.getfield 249, 3) := by decide +kernel
theorem dX5_turnCells_82 : decode cX5_turnCells 82 = .ok (.iconst 1, 1) := by decide +kernel
theorem dX5_turnCells_83 : decode cX5_turnCells 83 = .ok (.isub, 1) := by decide +kernel
theorem dX5_turnCells_84 : decode cX5_turnCells 84 = .ok (.iload_n 3, 1) := by decide +kernel
theorem dX5_turnCells_85 : decode cX5_turnCells 85 = .ok (.isub, 1) := by decide +kernel
theorem dX5_turnCells_86 : decode cX5_turnCells 86 = .ok (.istore 4, 2) := by decide +kernel
theorem dX5_turnCells_88 : decode cX5_turnCells 88 = .ok (.aload_n 0, 1) := by decide +kernel
theorem dX5_turnCells_89 : decode cX5_turnCells 89 = .ok (.iload_n 3, 1) := by decide +kernel
theorem dX5_turnCells_90 : decode cX5_turnCells 90 = .ok (.iload_n 2, 1) := by decide +kernel
theorem dX5_turnCells_91 : decode cX5_turnCells 91 = .ok (.iload_n 1, 1) := by decide +kernel
theorem dX5_turnCells_92 : decode cX5_turnCells 92 = .ok (.ifCond .eq 16, 3) := by decide +kernel
theorem dX5_turnCells_95 : decode cX5_turnCells 95 = .ok (.aload_n 0, 1) := by decide +kernel
theorem dX5_turnCells_96 : decode cX5_turnCells 96 = .ok (.getfield 43, 3) := by decide +kernel
theorem dX5_turnCells_99 : decode cX5_turnCells 99 = .ok (.iload_n 2, 1) := by decide +kernel
theorem dX5_turnCells_100 : decode cX5_turnCells 100 = .ok (.iload 4, 2) := by decide +kernel
theorem dX5_turnCells_102 : decode cX5_turnCells 102 = .ok (.invokevirtual 129, 3) := by decide +kernel
theorem dX5_turnCells_105 : decode cX5_turnCells 105 = .ok (.goto 13, 3) := by decide +kernel
theorem dX5_turnCells_108 : decode cX5_turnCells 108 = .ok (.aload_n 0, 1) := by decide +kernel
theorem dX5_turnCells_109 : decode cX5_turnCells 109 = .ok (.getfield 43, 3) := by decide +kernel
theorem dX5_turnCells_112 : decode cX5_turnCells 112 = .ok (.iload 4, 2) := by decide +kernel
theorem dX5_turnCells_114 : decode cX5_turnCells 114 = .ok (.iload_n 2, 1) := by decide +kernel
theorem dX5_turnCells_115 : decode cX5_turnCells 115 = .ok (.invokevirtual 129, 3) := by decide +kernel
theorem dX5_turnCells_118 : decode cX5_turnCells 118 = .ok (.invokevirtual 312, 3) := by decide +kernel
theorem dX5_turnCells_121 : decode cX5_turnCells 121 = .ok (.iinc 3 1, 3) := by decide +kernel
theorem dX5_turnCells_124 : decode cX5_turnCells 124 = .ok (.goto (-60), 3) := by decide +kernel
theorem dX5_turnCells_127 : decode cX5_turnCells 127 = .ok (.iinc 2 1, 3) := by decide +kernel
theorem dX5_turnCells_130 : decode cX5_turnCells 130 = .ok (.goto (-79), 3) := by decide +kernel
theorem dX5_turnCells_133 : decode cX5_turnCells 133 = .ok (.return_, 1) := by decide +kernel
theorem dX5_fetchCell_0 : decode cX5_fetchCell 0 = .ok (.aload_n 0, 1) := by decide +kernel
theorem dX5_fetchCell_1 : decode cX5_fetchCell 1 = .ok (.getfield 25, 3) := by decide +kernel
theorem dX5_fetchCell_4 : decode cX5_fetchCell 4 = .ok (.iload_n 1, 1) := by decide +kernel
theorem dX5_fetchCell_5 : decode cX5_fetchCell 5 = .ok (.iload_n 2, 1) := by decide +kernel
theorem dX5_fetchCell_6 : decode cX5_fetchCell 6 = .ok (.invokevirtual 129, 3) := by decide +kernel
theorem dX5_fetchCell_9 : decode cX5_fetchCell 9 = .ok (.istore 4, 2) := by decide +kernel
theorem dX5_fetchCell_11 : decode cX5_fetchCell 11 = .ok (.iload 4, 2) := by decide +kernel
theorem dX5_fetchCell_13 : decode cX5_fetchCell 13 = .ok (.iconst (-1), 1) := by decide +kernel
theorem dX5_fetchCell_14 : decode cX5_fetchCell 14 = .ok (.if_icmp .eq 8, 3) := by decide +kernel
theorem dX5_fetchCell_17 : decode cX5_fetchCell 17 = .ok (.iload_n 3, 1) := by decide +kernel
theorem dX5_fetchCell_18 : decode cX5_fetchCell 18 = .ok (.iconst (-1), 1) := by decide +kernel
theorem dX5_fetchCell_19 : decode cX5_fetchCell 19 = .ok (.if_icmp .ne 4, 3) := by decide +kernel
theorem dX5_fetchCell_22 : decode cX5_fetchCell 22 = .ok (.return_, 1) := by decide +kernel
theorem dX5_fetchCell_23 : decode cX5_fetchCell 23 = .ok (.aload_n 0, 1) := by decide +kernel
theorem dX5_fetchCell_24 : decode cX5_fetchCell 24 = .ok (.getfield 25, 3) := by decide +kernel
theorem dX5_fetchCell_27 : decode cX5_fetchCell 27 = .ok (.iload 4, 2) := by decide +kernel
theorem dX5_fetchCell_29 : decode cX5_fetchCell 29 = .ok (.aload_n 0, 1) := by decide +kernel
theorem dX5_fetchCell_30 : decode cX5_fetchCell 30 = .ok (.getfield 43, 3) := by decide +kernel
theorem dX5_fetchCell_33 : decode cX5_fetchCell 33 = .ok (.iload_n 3, 1) := by decide +kernel
theorem dX5_fetchCell_34 : decode cX5_fetchCell 34 = .ok (.invokevirtual 316, 3) := by decide +kernel
theorem dX5_fetchCell_37 : decode cX5_fetchCell 37 = .ok (.aload_n 0, 1) := by decide +kernel
theorem dX5_fetchCell_38 : decode cX5_fetchCell 38 = .ok (.getfield 32, 3) := by decide +kernel
theorem dX5_fetchCell_41 : decode cX5_fetchCell 41 = .ok (.iload 4, 2) := by decide +kernel
theorem dX5_fetchCell_43 : decode cX5_fetchCell 43 = .ok (.aload_n 0, 1) := by decide +kernel
theorem dX5_fetchCell_44 : decode cX5_fetchCell 44 = .ok (.getfield 46, 3) := by decide +kernel
theorem dX5_fetchCell_47 : decode cX5_fetchCell 47 = .ok (.iload_n 3, 1) := by decide +kernel
theorem dX5_fetchCell_48 : decode cX5_fetchCell 48 = .ok (.invokevirtual 320, 3) := by decide +kernel
theorem dX5_fetchCell_51 : decode cX5_fetchCell 51 = .ok (.return_, 1) := by decide +kernel
theorem dX6_init_0 : decode cX6_init 0 = .ok (.aload_n 0, 1) := by decide +kernel
theorem dX6_init_1 : decode cX6_init 1 = .ok (.invokespecial 1, 3) := by decide +kernel
theorem dX6_init_4 : decode cX6_init 4 = .ok (.aload_n 0, 1) := by decide +kernel
theorem dX6_init_5 : decode cX6_init 5 = .ok (.bipush 8, 2) := by decide +kernel
theorem dX6_init_7 : decode cX6_init 7 = .ok (.newarray .int, 2) := by decide +kernel
theorem dX6_init_9 : decode cX6_init 9 = .ok (.putfield 7, 3) := by decide +kernel
theorem dX6_init_12 : decode cX6_init 12 = .ok (.aload_n 0, 1) := by decide +kernel
theorem dX6_init_13 : decode cX6_init 13 = .ok (.bipush 8, 2) := by decide +kernel
theorem dX6_init_15 : decode cX6_init 15 = .ok (.newarray .int, 2) := by decide +kernel
theorem dX6_init_17 : decode cX6_init 17 = .ok (.putfield 13, 3) := by decide +kernel
theorem dX6_init_20 : decode cX6_init 20 = .ok (.aload_n 0, 1) := by decide +kernel
theorem dX6_init_21 : decode cX6_init 21 = .ok (.bipush 64, 2) := by decide +kernel
theorem dX6_init_23 : decode cX6_init 23 = .ok (.newarray .long, 2) := by decide +kernel
theorem dX6_init_25 : decode cX6_init 25 = .ok (.putfield 16, 3) := by decide +kernel
theorem dX6_init_28 : decode cX6_init 28 = .ok (.aload_n 0, 1) := by decide +kernel
theorem dX6_init_29 : decode cX6_init 29 = .ok (.bipush 8, 2) := by decide +kernel
theorem dX6_init_31 : decode cX6_init 31 = .ok (.newarray .long, 2) := by decide +kernel
theorem dX6_init_33 : decode cX6_init 33 = .ok (.putfield 20, 3) := by decide +kernel
theorem dX6_init_36 : decode cX6_init 36 = .ok (.aload_n 0, 1) := by decide +kernel
theorem dX6_init_37 : decode cX6_init 37 = .ok (.bipush 64, 2) := by decide +kernel
theorem dX6_init_39 : decode cX6_init 39 = .ok (.newarray .int, 2) := by decide +kernel
theorem dX6_init_41 : decode cX6_init 41 = .ok (.putfield 23, 3) := by decide +kernel
theorem dX6_init_44 : decode cX6_init 44 = .ok (.aload_n 0, 1) := by decide +kernel
theorem dX6_init_45 : decode cX6_init 45 = .ok (.bipush 64, 2) := by decide +kernel
theorem dX6_init_47 : decode cX6_init 47 = .ok (.newarray .int, 2) := by decide +kernel
theorem dX6_init_49 : decode cX6_init 49 = .ok (.putfield 26, 3) := by decide +kernel
theorem dX6_init_52 : decode cX6_init 52 = .ok (.aload_n 0, 1) := by decide +kernel
theorem dX6_init_53 : decode cX6_init 53 = .ok (.bipush 64, 2) := by decide +kernel
theorem dX6_init_55 : decode cX6_init 55 = .ok (.newarray .int, 2) := by decide +kernel
theorem dX6_init_57 : decode cX6_init 57 = .ok (.putfield 29, 3) := by decide +kernel
theorem dX6_init_60 : decode cX6_init 60 = .ok (.aload_n 0, 1) := by decide +kernel
theorem dX6_init_61 : decode cX6_init 61 = .ok (.sipush 3904, 3) := by decide +kernel
theorem dX6_init_64 : decode cX6_init 64 = .ok (.newarray .long, 2) := by decide +kernel
theorem dX6_init_66 : decode cX6_init 66 = .ok (.putfield 32, 3) := by decide +kernel
theorem dX6_init_69 : decode cX6_init 69 = .ok (.aload_n 0, 1) := by decide +kernel
theorem dX6_init_70 : decode cX6_init 70 = .ok (.sipush 305, 3) := by decide +kernel
theorem dX6_init_73 : decode cX6_init 73 = .ok (.newarray .long, 2) := by decide +kernel
theorem dX6_init_75 : decode cX6_init 75 = .ok (.putfield 35, 3) := by decide +kernel
theorem dX6_init_78 : decode cX6_init 78 = .ok (.aload_n 0, 1) := by decide +kernel
theorem dX6_init_79 : decode cX6_init 79 = .ok (.bipush 10, 2) := by decide +kernel
theorem dX6_init_81 : decode cX6_init 81 = .ok (.newarray .int, 2) := by decide +kernel
theorem dX6_init_83 : decode cX6_init 83 = .ok (.putfield 38, 3) := by decide +kernel
theorem dX6_init_86 : decode cX6_init 86 = .ok (.aload_n 0, 1) := by decide +kernel
theorem dX6_init_87 : decode cX6_init 87 = .ok (.bipush 10, 2) := by decide +kernel
theorem dX6_init_89 : decode cX6_init 89 = .ok (.newarray .int, 2) := by decide +kernel
theorem dX6_init_91 : decode cX6_init 91 = .ok (.putfield 41, 3) := by decide +kernel
theorem dX6_init_94 : decode cX6_init 94 = .ok (.aload_n 0, 1) := by decide +kernel
theorem dX6_init_95 : decode cX6_init 95 = .ok (.sipush 1000, 3) := by decide +kernel
theorem dX6_init_98 : decode cX6_init 98 = .ok (.putfield 44, 3) := by decide +kernel
theorem dX6_init_101 : decode cX6_init 101 = .ok (.aload_n 0, 1) := by decide +kernel
theorem dX6_init_102 : decode cX6_init 102 = .ok (.sipush 19520, 3) := by decide +kernel
theorem dX6_init_105 : decode cX6_init 105 = .ok (.newarray .long, 2) := by decide +kernel
theorem dX6_init_107 : decode cX6_init 107 = .ok (.putfield 48, 3) := by decide +kernel
theorem dX6_init_110 : decode cX6_init 110 = .ok (.aload_n 0, 1) := by decide +kernel
theorem dX6_init_111 : decode cX6_init 111 = .ok (.sipush 1525, 3) := by decide +kernel
theorem dX6_init_114 : decode cX6_init 114 = .ok (.newarray .long, 2) := by decide +kernel
theorem dX6_init_116 : decode cX6_init 116 = .ok (.putfield 51, 3) := by decide +kernel
theorem dX6_init_119 : decode cX6_init 119 = .ok (.aload_n 0, 1) := by decide +kernel
theorem dX6_init_120 : decode cX6_init 120 = .ok (.sipush 256, 3) := by decide +kernel
theorem dX6_init_123 : decode cX6_init 123 = .ok (.newarray .long, 2) := by decide +kernel
theorem dX6_init_125 : decode cX6_init 125 = .ok (.putfield 54, 3) := by decide +kernel
theorem dX6_init_128 : decode cX6_init 128 = .ok (.aload_n 0, 1) := by decide +kernel
theorem dX6_init_129 : decode cX6_init 129 = .ok (.sipush 3904, 3) := by decide +kernel
theorem dX6_init_132 : decode cX6_init 132 = .ok (.newarray .long, 2) := by decide +kernel
theorem dX6_init_134 : decode cX6_init 134 = .ok (.putfield 57, 3) := by decide +kernel
theorem dX6_init_137 : decode cX6_init 137 = .ok (.aload_n 0, 1) := by decide +kernel
theorem dX6_init_138 : decode cX6_init 138 = .ok (.sipush 3904, 3) := by decide +kernel
theorem dX6_init_141 : decode cX6_init 141 = .ok (.newarray .long, 2) := by decide +kernel
theorem dX6_init_143 : decode cX6_init 143 = .ok (.putfield 60, 3) := by decide +kernel
theorem dX6_init_146 : decode cX6_init 146 = .ok (.aload_n 0, 1) := by decide +kernel
theorem dX6_init_147 : decode cX6_init 147 = .ok (.bipush 64, 2) := by decide +kernel
theorem dX6_init_149 : decode cX6_init 149 = .ok (.newarray .int, 2) := by decide +kernel
theorem dX6_init_151 : decode cX6_init 151 = .ok (.putfield 63, 3) := by decide +kernel
theorem dX6_init_154 : decode cX6_init 154 = .ok (.aload_n 0, 1) := by decide +kernel
theorem dX6_init_155 : decode cX6_init 155 = .ok (.bipush 64, 2) := by decide +kernel
theorem dX6_init_157 : decode cX6_init 157 = .ok (.newarray .int, 2) := by decide +kernel
theorem dX6_init_159 : decode cX6_init 159 = .ok (.putfield 66, 3) := by decide +kernel
theorem dX6_init_162 : decode cX6_init 162 = .ok (.aload_n 0, 1) := by decide +kernel
theorem dX6_init_163 : decode cX6_init 163 = .ok (.bipush 64, 2) := by decide +kernel
theorem dX6_init_165 : decode cX6_init 165 = .ok (.newarray .int, 2) := by decide +kernel
theorem dX6_init_167 : decode cX6_init 167 = .ok (.putfield 69, 3) := by decide +kernel
theorem dX6_init_170 : decode cX6_init 170 = .ok (.iconst 0, 1) := by decide +kernel
theorem dX6_init_171 : decode cX6_init 171 = .ok (.istore_n 1, 1) := by decide +kernel
theorem dX6_init_172 : decode cX6_init 172 = .ok (.iload_n 1, 1) := by decide +kernel
theorem dX6_init_173 : decode cX6_init 173 = .ok (.bipush 8, 2) := by decide +kernel
theorem dX6_init_175 : decode cX6_init 175 = .ok (.if_icmp .ge 17, 3) := by decide +kernel
theorem dX6_init_178 : decode cX6_init 178 = .ok (.aload_n 0, 1) := by decide +kernel
theorem dX6_init_179 : decode cX6_init 179 = .ok (.getfield 7, 3) := by decide +kernel
theorem dX6_init_182 : decode cX6_init 182 = .ok (.iload_n 1, 1) := by decide +kernel
theorem dX6_init_183 : decode cX6_init 183 = .ok (.bipush (-9), 2) := by decide +kernel
theorem dX6_init_185 : decode cX6_init 185 = .ok (.iastore, 1) := by decide +kernel
theorem dX6_init_186 : decode cX6_init 186 = .ok (.iinc 1 1, 3) := by decide +kernel
theorem dX6_init_189 : decode cX6_init 189 = .ok (.goto (-17), 3) := by decide +kernel
theorem dX6_init_192 : decode cX6_init 192 = .ok (.return_, 1) := by decide +kernel
theorem dX6_in_0 : decode cX6_in 0 = .ok (.lload_n 0, 1) := by decide +kernel
theorem dX6_in_1 : decode cX6_in 1 = .ok (.lload_n 2, 1) := by decide +kernel
theorem dX6_in_2 : decode cX6_in 2 = .ok (.lcmp, 1) := by decide +kernel
theorem dX6_in_3 : decode cX6_in 3 = .ok (.ifCond .lt 14, 3) := by decide +kernel
theorem dX6_in_6 : decode cX6_in 6 = .ok (.lload_n 0, 1) := by decide +kernel
theorem dX6_in_7 : decode cX6_in 7 = .ok (.lload 4, 2) := by decide +kernel
theorem dX6_in_9 : decode cX6_in 9 = .ok (.lcmp, 1) := by decide +kernel
theorem dX6_in_10 : decode cX6_in 10 = .ok (.ifCond .gt 7, 3) := by decide +kernel
theorem dX6_in_13 : decode cX6_in 13 = .ok (.iconst 1, 1) := by decide +kernel
theorem dX6_in_14 : decode cX6_in 14 = .ok (.goto 4, 3) := by decide +kernel
theorem dX6_in_17 : decode cX6_in 17 = .ok (.iconst 0, 1) := by decide +kernel
theorem dX6_in_18 : decode cX6_in 18 = .ok (.ireturn, 1) := by decide +kernel
theorem dX6_failed_0 : decode cX6_failed 0 = .ok (.aload_n 0, 1) := by decide +kernel
theorem dX6_failed_1 : decode cX6_failed 1 = .ok (.dup, 1) := by decide +kernel
theorem dX6_failed_2 : decode cX6_failed 2 = .ok (.getfield 72, 3) := by decide +kernel
theorem dX6_failed_5 : decode cX6_failed 5 = .ok (.iconst 1, 1) := by decide +kernel
theorem dX6_failed_6 : decode cX6_failed 6 = .ok (.iadd, 1) := by decide +kernel
theorem dX6_failed_7 : decode cX6_failed 7 = .ok (.putfield 72, 3) := by decide +kernel
theorem dX6_failed_10 : decode cX6_failed 10 = .ok (.bipush (-10), 2) := by decide +kernel
theorem dX6_failed_12 : decode cX6_failed 12 = .ok (.iload_n 1, 1) := by decide +kernel
theorem dX6_failed_13 : decode cX6_failed 13 = .ok (.isub, 1) := by decide +kernel
theorem dX6_failed_14 : decode cX6_failed 14 = .ok (.ireturn, 1) := by decide +kernel
theorem dX6_cut_0 : decode cX6_cut 0 = .ok (.iload_n 0, 1) := by decide +kernel
theorem dX6_cut_1 : decode cX6_cut 1 = .ok (.ifCond .ne 10, 3) := by decide +kernel
theorem dX6_cut_4 : decode cX6_cut 4 = .ok (.lload_n 1, 1) := by decide +kernel
theorem dX6_cut_5 : decode cX6_cut 5 = .ok (.l2i, 1) := by decide +kernel
theorem dX6_cut_6 : decode cX6_cut 6 = .ok (.i2s, 1) := by decide +kernel
theorem dX6_cut_7 : decode cX6_cut 7 = .ok (.i2l, 1) := by decide +kernel
theorem dX6_cut_8 : decode cX6_cut 8 = .ok (.goto 15, 3) := by decide +kernel
theorem dX6_cut_11 : decode cX6_cut 11 = .ok (.iload_n 0, 1) := by decide +kernel
theorem dX6_cut_12 : decode cX6_cut 12 = .ok (.iconst 1, 1) := by decide +kernel
theorem dX6_cut_13 : decode cX6_cut 13 = .ok (.if_icmp .ne 9, 3) := by decide +kernel
theorem dX6_cut_16 : decode cX6_cut 16 = .ok (.lload_n 1, 1) := by decide +kernel
theorem dX6_cut_17 : decode cX6_cut 17 = .ok (.l2i, 1) := by decide +kernel
theorem dX6_cut_18 : decode cX6_cut 18 = .ok (.i2l, 1) := by decide +kernel
theorem dX6_cut_19 : decode cX6_cut 19 = .ok (.goto 4, 3) := by decide +kernel
theorem dX6_cut_22 : decode cX6_cut 22 = .ok (.lload_n 1, 1) := by decide +kernel
theorem dX6_cut_23 : decode cX6_cut 23 = .ok (.lreturn, 1) := by decide +kernel
theorem dX6_isStrip_0 : decode cX6_isStrip 0 = .ok (.iload_n 0, 1) := by decide +kernel
theorem dX6_isStrip_1 : decode cX6_isStrip 1 = .ok (.i2l, 1) := by decide +kernel
theorem dX6_isStrip_2 : decode cX6_isStrip 2 = .ok (.lconst 0, 1) := by decide +kernel
theorem dX6_isStrip_3 : decode cX6_isStrip 3 = .ok (.ldc2_w 75, 3) := by decide +kernel
theorem dX6_isStrip_6 : decode cX6_isStrip 6 = .ok (.invokestatic 77, 3) := by decide +kernel
theorem dX6_isStrip_9 : decode cX6_isStrip 9 = .ok (.ireturn, 1) := by decide +kernel
theorem dX6_strip_0 : decode cX6_strip 0 = .ok (.iload_n 1, 1) := by decide +kernel
theorem dX6_strip_1 : decode cX6_strip 1 = .ok (.invokestatic 81, 3) := by decide +kernel
theorem dX6_strip_4 : decode cX6_strip 4 = .ok (.ifCond .ne 5, 3) := by decide +kernel
theorem dX6_strip_7 : decode cX6_strip 7 = .ok (.iconst (-1), 1) := by decide +kernel
theorem dX6_strip_8 : decode cX6_strip 8 = .ok (.ireturn, 1) := by decide +kernel
theorem dX6_strip_9 : decode cX6_strip 9 = .ok (.iload_n 2, 1) := by decide +kernel
theorem dX6_strip_10 : decode cX6_strip 10 = .ok (.i2l, 1) := by decide +kernel
theorem dX6_strip_11 : decode cX6_strip 11 = .ok (.lconst 0, 1) := by decide +kernel
theorem dX6_strip_12 : decode cX6_strip 12 = .ok (.ldc2_w 85, 3) := by decide +kernel
theorem dX6_strip_15 : decode cX6_strip 15 = .ok (.invokestatic 77, 3) := by decide +kernel
theorem dX6_strip_18 : decode cX6_strip 18 = .ok (.ifCond .eq 9, 3) := by decide +kernel
theorem dX6_strip_21 : decode cX6_strip 21 = .ok (.iload_n 3, 1) := by decide +kernel
theorem dX6_strip_22 : decode cX6_strip 22 = .ok (.bipush 8, 2) := by decide +kernel
theorem dX6_strip_24 : decode cX6_strip 24 = .ok (.if_icmp .le 6, 3) := by decide +kernel
theorem dX6_strip_27 : decode cX6_strip 27 = .ok (.bipush (-2), 2) := by decide +kernel
theorem dX6_strip_29 : decode cX6_strip 29 = .ok (.ireturn, 1) := by decide +kernel
theorem dX6_strip_30 : decode cX6_strip 30 = .ok (.iload_n 3, 1) := by decide +kernel
theorem dX6_strip_31 : decode cX6_strip 31 = .ok (.ifCond .ge 9, 3) := by decide +kernel
theorem dX6_strip_34 : decode cX6_strip 34 = .ok (.aload_n 0, 1) := by decide +kernel
theorem dX6_strip_35 : decode cX6_strip 35 = .ok (.iconst 4, 1) := by decide +kernel
theorem dX6_strip_36 : decode cX6_strip 36 = .ok (.invokevirtual 87, 3) := by decide +kernel
theorem dX6_strip_39 : decode cX6_strip 39 = .ok (.ireturn, 1) := by decide +kernel
theorem dX6_strip_40 : decode cX6_strip 40 = .ok (.aload_n 0, 1) := by decide +kernel
theorem dX6_strip_41 : decode cX6_strip 41 = .ok (.getfield 7, 3) := by decide +kernel
theorem dX6_strip_44 : decode cX6_strip 44 = .ok (.iload_n 1, 1) := by decide +kernel
theorem dX6_strip_45 : decode cX6_strip 45 = .ok (.iload_n 2, 1) := by decide +kernel
theorem dX6_strip_46 : decode cX6_strip 46 = .ok (.iastore, 1) := by decide +kernel
theorem dX6_strip_47 : decode cX6_strip 47 = .ok (.aload_n 0, 1) := by decide +kernel
theorem dX6_strip_48 : decode cX6_strip 48 = .ok (.getfield 13, 3) := by decide +kernel
theorem dX6_strip_51 : decode cX6_strip 51 = .ok (.iload_n 1, 1) := by decide +kernel
theorem dX6_strip_52 : decode cX6_strip 52 = .ok (.iload_n 3, 1) := by decide +kernel
theorem dX6_strip_53 : decode cX6_strip 53 = .ok (.iastore, 1) := by decide +kernel
theorem dX6_strip_54 : decode cX6_strip 54 = .ok (.iconst 0, 1) := by decide +kernel
theorem dX6_strip_55 : decode cX6_strip 55 = .ok (.istore 4, 2) := by decide +kernel
theorem dX6_strip_57 : decode cX6_strip 57 = .ok (.iload 4, 2) := by decide +kernel
theorem dX6_strip_59 : decode cX6_strip 59 = .ok (.bipush 8, 2) := by decide +kernel
theorem dX6_strip_61 : decode cX6_strip 61 = .ok (.if_icmp .ge 22, 3) := by decide +kernel
theorem dX6_strip_64 : decode cX6_strip 64 = .ok (.aload_n 0, 1) := by decide +kernel
theorem dX6_strip_65 : decode cX6_strip 65 = .ok (.getfield 16, 3) := by decide +kernel
theorem dX6_strip_68 : decode cX6_strip 68 = .ok (.bipush 8, 2) := by decide +kernel
theorem dX6_strip_70 : decode cX6_strip 70 = .ok (.iload_n 1, 1) := by decide +kernel
theorem dX6_strip_71 : decode cX6_strip 71 = .ok (.imul, 1) := by decide +kernel
theorem dX6_strip_72 : decode cX6_strip 72 = .ok (.iload 4, 2) := by decide +kernel
theorem dX6_strip_74 : decode cX6_strip 74 = .ok (.iadd, 1) := by decide +kernel
theorem dX6_strip_75 : decode cX6_strip 75 = .ok (.lconst 0, 1) := by decide +kernel
theorem dX6_strip_76 : decode cX6_strip 76 = .ok (.lastore, 1) := by decide +kernel
theorem dX6_strip_77 : decode cX6_strip 77 = .ok (.iinc 4 1, 3) := by decide +kernel
theorem dX6_strip_80 : decode cX6_strip 80 = .ok (.goto (-23), 3) := by decide +kernel
theorem dX6_strip_83 : decode cX6_strip 83 = .ok (.iload_n 3, 1) := by decide +kernel
theorem dX6_strip_84 : decode cX6_strip 84 = .ok (.ireturn, 1) := by decide +kernel
theorem dX6_tear_0 : decode cX6_tear 0 = .ok (.iload_n 1, 1) := by decide +kernel
theorem dX6_tear_1 : decode cX6_tear 1 = .ok (.invokestatic 81, 3) := by decide +kernel
theorem dX6_tear_4 : decode cX6_tear 4 = .ok (.ifCond .ne 5, 3) := by decide +kernel
theorem dX6_tear_7 : decode cX6_tear 7 = .ok (.iconst (-1), 1) := by decide +kernel
theorem dX6_tear_8 : decode cX6_tear 8 = .ok (.ireturn, 1) := by decide +kernel
theorem dX6_tear_9 : decode cX6_tear 9 = .ok (.aload_n 0, 1) := by decide +kernel
theorem dX6_tear_10 : decode cX6_tear 10 = .ok (.getfield 7, 3) := by decide +kernel
theorem dX6_tear_13 : decode cX6_tear 13 = .ok (.iload_n 1, 1) := by decide +kernel
theorem dX6_tear_14 : decode cX6_tear 14 = .ok (.iaload, 1) := by decide +kernel
theorem dX6_tear_15 : decode cX6_tear 15 = .ok (.bipush (-9), 2) := by decide +kernel
theorem dX6_tear_17 : decode cX6_tear 17 = .ok (.if_icmp .ne 7, 3) := by decide +kernel
theorem dX6_tear_20 : decode cX6_tear 20 = .ok (.iconst 1, 1) := by decide +kernel
theorem dX6_tear_21 : decode cX6_tear 21 = .ok (.goto 4, 3) := by decide +kernel
theorem dX6_tear_24 : decode cX6_tear 24 = .ok (.iconst 0, 1) := by decide +kernel
theorem dX6_tear_25 : decode cX6_tear 25 = .ok (.istore_n 2, 1) := by decide +kernel
theorem dX6_tear_26 : decode cX6_tear 26 = .ok (.aload_n 0, 1) := by decide +kernel
theorem dX6_tear_27 : decode cX6_tear 27 = .ok (.getfield 7, 3) := by decide +kernel
theorem dX6_tear_30 : decode cX6_tear 30 = .ok (.iload_n 1, 1) := by decide +kernel
theorem dX6_tear_31 : decode cX6_tear 31 = .ok (.bipush (-9), 2) := by decide +kernel
theorem dX6_tear_33 : decode cX6_tear 33 = .ok (.iastore, 1) := by decide +kernel
theorem dX6_tear_34 : decode cX6_tear 34 = .ok (.iload_n 2, 1) := by decide +kernel
theorem dX6_tear_35 : decode cX6_tear 35 = .ok (.ireturn, 1) := by decide +kernel
theorem dX6_put_0 : decode cX6_put 0 = .ok (.iload_n 1, 1) := by decide +kernel
theorem dX6_put_1 : decode cX6_put 1 = .ok (.invokestatic 81, 3) := by decide +kernel
theorem dX6_put_4 : decode cX6_put 4 = .ok (.ifCond .ne 5, 3) := by decide +kernel
theorem dX6_put_7 : decode cX6_put 7 = .ok (.iconst (-1), 1) := by decide +kernel
theorem dX6_put_8 : decode cX6_put 8 = .ok (.ireturn, 1) := by decide +kernel
theorem dX6_put_9 : decode cX6_put 9 = .ok (.aload_n 0, 1) := by decide +kernel
theorem dX6_put_10 : decode cX6_put 10 = .ok (.getfield 7, 3) := by decide +kernel
theorem dX6_put_13 : decode cX6_put 13 = .ok (.iload_n 1, 1) := by decide +kernel
theorem dX6_put_14 : decode cX6_put 14 = .ok (.iaload, 1) := by decide +kernel
theorem dX6_put_15 : decode cX6_put 15 = .ok (.bipush (-9), 2) := by decide +kernel
theorem dX6_put_17 : decode cX6_put 17 = .ok (.if_icmp .ne 9, 3) := by decide +kernel
theorem dX6_put_20 : decode cX6_put 20 = .ok (.aload_n 0, 1) := by decide +kernel
theorem dX6_put_21 : decode cX6_put 21 = .ok (.iconst 1, 1) := by decide +kernel
theorem dX6_put_22 : decode cX6_put 22 = .ok (.invokevirtual 87, 3) := by decide +kernel
theorem dX6_put_25 : decode cX6_put 25 = .ok (.ireturn, 1) := by decide +kernel
theorem dX6_put_26 : decode cX6_put 26 = .ok (.iload_n 2, 1) := by decide +kernel
theorem dX6_put_27 : decode cX6_put 27 = .ok (.i2l, 1) := by decide +kernel
theorem dX6_put_28 : decode cX6_put 28 = .ok (.lconst 0, 1) := by decide +kernel
theorem dX6_put_29 : decode cX6_put 29 = .ok (.aload_n 0, 1) := by decide +kernel
theorem dX6_put_30 : decode cX6_put 30 = .ok (.getfield 13, 3) := by decide +kernel
theorem dX6_put_33 : decode cX6_put 33 = .ok (.iload_n 1, 1) := by decide +kernel
theorem dX6_put_34 : decode cX6_put 34 = .ok (.iaload, 1) := by decide +kernel
theorem dX6_put_35 : decode cX6_put 35 = .ok (.iconst 1, 1) := by decide +kernel
theorem dX6_put_36 : decode cX6_put 36 = .ok (.isub, 1) := by decide +kernel
theorem dX6_put_37 : decode cX6_put 37 = .ok (.i2l, 1) := by decide +kernel
theorem dX6_put_38 : decode cX6_put 38 = .ok (.invokestatic 77, 3) := by decide +kernel
theorem dX6_put_41 : decode cX6_put 41 = .ok (.ifCond .ne 9, 3) := by decide +kernel
theorem dX6_put_44 : decode cX6_put 44 = .ok (.aload_n 0, 1) := by decide +kernel
theorem dX6_put_45 : decode cX6_put 45 = .ok (.iconst 2, 1) := by decide +kernel
theorem dX6_put_46 : decode cX6_put 46 = .ok (.invokevirtual 87, 3) := by decide +kernel
theorem dX6_put_49 : decode cX6_put 49 = .ok (.ireturn, 1) := by decide +kernel
theorem dX6_put_50 : decode cX6_put 50 = .ok (.aload_n 0, 1) := by decide +kernel
theorem dX6_put_51 : decode cX6_put 51 = .ok (.getfield 16, 3) := by decide +kernel
theorem dX6_put_54 : decode cX6_put 54 = .ok (.bipush 8, 2) := by decide +kernel
theorem dX6_put_56 : decode cX6_put 56 = .ok (.iload_n 1, 1) := by decide +kernel
theorem dX6_put_57 : decode cX6_put 57 = .ok (.imul, 1) := by decide +kernel
theorem dX6_put_58 : decode cX6_put 58 = .ok (.iload_n 2, 1) := by decide +kernel
theorem dX6_put_59 : decode cX6_put 59 = .ok (.iadd, 1) := by decide +kernel
theorem dX6_put_60 : decode cX6_put 60 = .ok (.aload_n 0, 1) := by decide +kernel
theorem dX6_put_61 : decode cX6_put 61 = .ok (.getfield 7, 3) := by decide +kernel
theorem dX6_put_64 : decode cX6_put 64 = .ok (.iload_n 1, 1) := by decide +kernel
theorem dX6_put_65 : decode cX6_put 65 = .ok (.iaload, 1) := by decide +kernel
theorem dX6_put_66 : decode cX6_put 66 = .ok (.lload_n 3, 1) := by decide +kernel
theorem dX6_put_67 : decode cX6_put 67 = .ok (.invokestatic 91, 3) := by decide +kernel
theorem dX6_put_70 : decode cX6_put 70 = .ok (.lastore, 1) := by decide +kernel
theorem dX6_put_71 : decode cX6_put 71 = .ok (.iconst 1, 1) := by decide +kernel
theorem dX6_put_72 : decode cX6_put 72 = .ok (.ireturn, 1) := by decide +kernel
theorem dX6_at_0 : decode cX6_at 0 = .ok (.iload_n 1, 1) := by decide +kernel
theorem dX6_at_1 : decode cX6_at 1 = .ok (.invokestatic 81, 3) := by decide +kernel
theorem dX6_at_4 : decode cX6_at 4 = .ok (.ifCond .ne 7, 3) := by decide +kernel
theorem dX6_at_7 : decode cX6_at 7 = .ok (.ldc2_w 95, 3) := by decide +kernel
theorem dX6_at_10 : decode cX6_at 10 = .ok (.lreturn, 1) := by decide +kernel
theorem dX6_at_11 : decode cX6_at 11 = .ok (.iload_n 2, 1) := by decide +kernel
theorem dX6_at_12 : decode cX6_at 12 = .ok (.i2l, 1) := by decide +kernel
theorem dX6_at_13 : decode cX6_at 13 = .ok (.lconst 0, 1) := by decide +kernel
theorem dX6_at_14 : decode cX6_at 14 = .ok (.ldc2_w 85, 3) := by decide +kernel
theorem dX6_at_17 : decode cX6_at 17 = .ok (.invokestatic 77, 3) := by decide +kernel
theorem dX6_at_20 : decode cX6_at 20 = .ok (.ifCond .ne 7, 3) := by decide +kernel
theorem dX6_at_23 : decode cX6_at 23 = .ok (.ldc2_w 97, 3) := by decide +kernel
theorem dX6_at_26 : decode cX6_at 26 = .ok (.lreturn, 1) := by decide +kernel
theorem dX6_at_27 : decode cX6_at 27 = .ok (.aload_n 0, 1) := by decide +kernel
theorem dX6_at_28 : decode cX6_at 28 = .ok (.getfield 7, 3) := by decide +kernel
theorem dX6_at_31 : decode cX6_at 31 = .ok (.iload_n 1, 1) := by decide +kernel
theorem dX6_at_32 : decode cX6_at 32 = .ok (.iaload, 1) := by decide +kernel
theorem dX6_at_33 : decode cX6_at 33 = .ok (.bipush (-9), 2) := by decide +kernel
theorem dX6_at_35 : decode cX6_at 35 = .ok (.if_icmp .ne 10, 3) := by decide +kernel
theorem dX6_at_38 : decode cX6_at 38 = .ok (.aload_n 0, 1) := by decide +kernel
theorem dX6_at_39 : decode cX6_at 39 = .ok (.iconst 1, 1) := by decide +kernel
theorem dX6_at_40 : decode cX6_at 40 = .ok (.invokevirtual 87, 3) := by decide +kernel
theorem dX6_at_43 : decode cX6_at 43 = .ok (.i2l, 1) := by decide +kernel
theorem dX6_at_44 : decode cX6_at 44 = .ok (.lreturn, 1) := by decide +kernel
theorem dX6_at_45 : decode cX6_at 45 = .ok (.aload_n 0, 1) := by decide +kernel
theorem dX6_at_46 : decode cX6_at 46 = .ok (.getfield 7, 3) := by decide +kernel
theorem dX6_at_49 : decode cX6_at 49 = .ok (.iload_n 1, 1) := by decide +kernel
theorem dX6_at_50 : decode cX6_at 50 = .ok (.iaload, 1) := by decide +kernel
theorem dX6_at_51 : decode cX6_at 51 = .ok (.iload_n 2, 1) := by decide +kernel
theorem dX6_at_52 : decode cX6_at 52 = .ok (.if_icmp .eq 10, 3) := by decide +kernel
theorem dX6_at_55 : decode cX6_at 55 = .ok (.aload_n 0, 1) := by decide +kernel
theorem dX6_at_56 : decode cX6_at 56 = .ok (.iconst 3, 1) := by decide +kernel
theorem dX6_at_57 : decode cX6_at 57 = .ok (.invokevirtual 87, 3) := by decide +kernel
theorem dX6_at_60 : decode cX6_at 60 = .ok (.i2l, 1) := by decide +kernel
theorem dX6_at_61 : decode cX6_at 61 = .ok (.lreturn, 1) := by decide +kernel
theorem dX6_at_62 : decode cX6_at 62 = .ok (.iload_n 3, 1) := by decide +kernel
theorem dX6_at_63 : decode cX6_at 63 = .ok (.i2l, 1) := by decide +kernel
theorem dX6_at_64 : decode cX6_at 64 = .ok (.lconst 0, 1) := by decide +kernel
theorem dX6_at_65 : decode cX6_at 65 = .ok (.aload_n 0, 1) := by decide +kernel
theorem dX6_at_66 : decode cX6_at 66 = .ok (.getfield 13, 3) := by decide +kernel
theorem dX6_at_69 : decode cX6_at 69 = .ok (.iload_n 1, 1) := by decide +kernel
theorem dX6_at_70 : decode cX6_at 70 = .ok (.iaload, 1) := by decide +kernel
theorem dX6_at_71 : decode cX6_at 71 = .ok (.iconst 1, 1) := by decide +kernel
theorem dX6_at_72 : decode cX6_at 72 = .ok (.isub, 1) := by decide +kernel
theorem dX6_at_73 : decode cX6_at 73 = .ok (.i2l, 1) := by decide +kernel
theorem dX6_at_74 : decode cX6_at 74 = .ok (.invokestatic 77, 3) := by decide +kernel
theorem dX6_at_77 : decode cX6_at 77 = .ok (.ifCond .eq 17, 3) := by decide +kernel
theorem dX6_at_80 : decode cX6_at 80 = .ok (.aload_n 0, 1) := by decide +kernel
theorem dX6_at_81 : decode cX6_at 81 = .ok (.getfield 16, 3) := by decide +kernel
theorem dX6_at_84 : decode cX6_at 84 = .ok (.bipush 8, 2) := by decide +kernel
theorem dX6_at_86 : decode cX6_at 86 = .ok (.iload_n 1, 1) := by decide +kernel
theorem dX6_at_87 : decode cX6_at 87 = .ok (.imul, 1) := by decide +kernel
theorem dX6_at_88 : decode cX6_at 88 = .ok (.iload_n 3, 1) := by decide +kernel
theorem dX6_at_89 : decode cX6_at 89 = .ok (.iadd, 1) := by decide +kernel
theorem dX6_at_90 : decode cX6_at 90 = .ok (.laload, 1) := by decide +kernel
theorem dX6_at_91 : decode cX6_at 91 = .ok (.goto 9, 3) := by decide +kernel
theorem dX6_at_94 : decode cX6_at 94 = .ok (.aload_n 0, 1) := by decide +kernel
theorem dX6_at_95 : decode cX6_at 95 = .ok (.iconst 2, 1) := by decide +kernel
theorem dX6_at_96 : decode cX6_at 96 = .ok (.invokevirtual 87, 3) := by decide +kernel
theorem dX6_at_99 : decode cX6_at 99 = .ok (.i2l, 1) := by decide +kernel
theorem dX6_at_100 : decode cX6_at 100 = .ok (.lreturn, 1) := by decide +kernel
theorem dX6_copy_0 : decode cX6_copy 0 = .ok (.iload_n 1, 1) := by decide +kernel
theorem dX6_copy_1 : decode cX6_copy 1 = .ok (.invokestatic 81, 3) := by decide +kernel
theorem dX6_copy_4 : decode cX6_copy 4 = .ok (.ifCond .eq 10, 3) := by decide +kernel
theorem dX6_copy_7 : decode cX6_copy 7 = .ok (.iload_n 3, 1) := by decide +kernel
theorem dX6_copy_8 : decode cX6_copy 8 = .ok (.invokestatic 81, 3) := by decide +kernel
theorem dX6_copy_11 : decode cX6_copy 11 = .ok (.ifCond .ne 5, 3) := by decide +kernel
theorem dX6_copy_14 : decode cX6_copy 14 = .ok (.iconst (-1), 1) := by decide +kernel
theorem dX6_copy_15 : decode cX6_copy 15 = .ok (.ireturn, 1) := by decide +kernel
theorem dX6_copy_16 : decode cX6_copy 16 = .ok (.iload 5, 2) := by decide +kernel
theorem dX6_copy_18 : decode cX6_copy 18 = .ok (.ifCond .ge 9, 3) := by decide +kernel
theorem dX6_copy_21 : decode cX6_copy 21 = .ok (.aload_n 0, 1) := by decide +kernel
theorem dX6_copy_22 : decode cX6_copy 22 = .ok (.iconst 4, 1) := by decide +kernel
theorem dX6_copy_23 : decode cX6_copy 23 = .ok (.invokevirtual 87, 3) := by decide +kernel
theorem dX6_copy_26 : decode cX6_copy 26 = .ok (.ireturn, 1) := by decide +kernel
theorem dX6_copy_27 : decode cX6_copy 27 = .ok (.aload_n 0, 1) := by decide +kernel
theorem dX6_copy_28 : decode cX6_copy 28 = .ok (.getfield 7, 3) := by decide +kernel
theorem dX6_copy_31 : decode cX6_copy 31 = .ok (.iload_n 1, 1) := by decide +kernel
theorem dX6_copy_32 : decode cX6_copy 32 = .ok (.iaload, 1) := by decide +kernel
theorem dX6_copy_33 : decode cX6_copy 33 = .ok (.bipush (-9), 2) := by decide +kernel
theorem dX6_copy_35 : decode cX6_copy 35 = .ok (.if_icmp .eq 14, 3) := by decide +kernel
theorem dX6_copy_38 : decode cX6_copy 38 = .ok (.aload_n 0, 1) := by decide +kernel
theorem dX6_copy_39 : decode cX6_copy 39 = .ok (.getfield 7, 3) := by decide +kernel
theorem dX6_copy_42 : decode cX6_copy 42 = .ok (.iload_n 3, 1) := by decide +kernel
theorem dX6_copy_43 : decode cX6_copy 43 = .ok (.iaload, 1) := by decide +kernel
theorem dX6_copy_44 : decode cX6_copy 44 = .ok (.bipush (-9), 2) := by decide +kernel
theorem dX6_copy_46 : decode cX6_copy 46 = .ok (.if_icmp .ne 9, 3) := by decide +kernel
theorem dX6_copy_49 : decode cX6_copy 49 = .ok (.aload_n 0, 1) := by decide +kernel
theorem dX6_copy_50 : decode cX6_copy 50 = .ok (.iconst 1, 1) := by decide +kernel
theorem dX6_copy_51 : decode cX6_copy 51 = .ok (.invokevirtual 87, 3) := by decide +kernel
theorem dX6_copy_54 : decode cX6_copy 54 = .ok (.ireturn, 1) := by decide +kernel
theorem dX6_copy_55 : decode cX6_copy 55 = .ok (.aload_n 0, 1) := by decide +kernel
theorem dX6_copy_56 : decode cX6_copy 56 = .ok (.getfield 7, 3) := by decide +kernel
theorem dX6_copy_59 : decode cX6_copy 59 = .ok (.iload_n 1, 1) := by decide +kernel
theorem dX6_copy_60 : decode cX6_copy 60 = .ok (.iaload, 1) := by decide +kernel
