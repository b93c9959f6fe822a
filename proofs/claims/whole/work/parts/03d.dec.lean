theorem dX6_cell_9 : decode cX6_cell 9 = .ok (.ldc2_w 95, 3) := by decide +kernel
theorem dX6_cell_12 : decode cX6_cell 12 = .ok (.lreturn, 1) := by decide +kernel
theorem dX6_cell_13 : decode cX6_cell 13 = .ok (.iload_n 3, 1) := by decide +kernel
theorem dX6_cell_14 : decode cX6_cell 14 = .ok (.i2l, 1) := by decide +kernel
theorem dX6_cell_15 : decode cX6_cell 15 = .ok (.lconst 0, 1) := by decide +kernel
theorem dX6_cell_16 : decode cX6_cell 16 = .ok (.ldc2_w 182, 3) := by decide +kernel
theorem dX6_cell_19 : decode cX6_cell 19 = .ok (.invokestatic 77, 3) := by decide +kernel
theorem dX6_cell_22 : decode cX6_cell 22 = .ok (.ifCond .ne 7, 3) := by decide +kernel
theorem dX6_cell_25 : decode cX6_cell 25 = .ok (.ldc2_w 97, 3) := by decide +kernel
theorem dX6_cell_28 : decode cX6_cell 28 = .ok (.lreturn, 1) := by decide +kernel
theorem dX6_cell_29 : decode cX6_cell 29 = .ok (.bipush 8, 2) := by decide +kernel
theorem dX6_cell_31 : decode cX6_cell 31 = .ok (.iload_n 2, 1) := by decide +kernel
theorem dX6_cell_32 : decode cX6_cell 32 = .ok (.imul, 1) := by decide +kernel
theorem dX6_cell_33 : decode cX6_cell 33 = .ok (.iload_n 1, 1) := by decide +kernel
theorem dX6_cell_34 : decode cX6_cell 34 = .ok (.iadd, 1) := by decide +kernel
theorem dX6_cell_35 : decode cX6_cell 35 = .ok (.istore 4, 2) := by decide +kernel
theorem dX6_cell_37 : decode cX6_cell 37 = .ok (.aload_n 0, 1) := by decide +kernel
theorem dX6_cell_38 : decode cX6_cell 38 = .ok (.getfield 23, 3) := by decide +kernel
theorem dX6_cell_41 : decode cX6_cell 41 = .ok (.iload 4, 2) := by decide +kernel
theorem dX6_cell_43 : decode cX6_cell 43 = .ok (.iaload, 1) := by decide +kernel
theorem dX6_cell_44 : decode cX6_cell 44 = .ok (.iconst 4, 1) := by decide +kernel
theorem dX6_cell_45 : decode cX6_cell 45 = .ok (.if_icmp .ne 7, 3) := by decide +kernel
theorem dX6_cell_48 : decode cX6_cell 48 = .ok (.ldc2_w 134, 3) := by decide +kernel
theorem dX6_cell_51 : decode cX6_cell 51 = .ok (.lreturn, 1) := by decide +kernel
theorem dX6_cell_52 : decode cX6_cell 52 = .ok (.iload_n 3, 1) := by decide +kernel
theorem dX6_cell_53 : decode cX6_cell 53 = .ok (.tableswitch 104 0 5 #[39, 48, 55, 71, 79, 88], 39) := by decide +kernel
theorem dX6_cell_92 : decode cX6_cell 92 = .ok (.aload_n 0, 1) := by decide +kernel
theorem dX6_cell_93 : decode cX6_cell 93 = .ok (.getfield 29, 3) := by decide +kernel
theorem dX6_cell_96 : decode cX6_cell 96 = .ok (.iload 4, 2) := by decide +kernel
theorem dX6_cell_98 : decode cX6_cell 98 = .ok (.iaload, 1) := by decide +kernel
theorem dX6_cell_99 : decode cX6_cell 99 = .ok (.i2l, 1) := by decide +kernel
theorem dX6_cell_100 : decode cX6_cell 100 = .ok (.lreturn, 1) := by decide +kernel
theorem dX6_cell_101 : decode cX6_cell 101 = .ok (.aload_n 0, 1) := by decide +kernel
theorem dX6_cell_102 : decode cX6_cell 102 = .ok (.iload 4, 2) := by decide +kernel
theorem dX6_cell_104 : decode cX6_cell 104 = .ok (.invokevirtual 136, 3) := by decide +kernel
theorem dX6_cell_107 : decode cX6_cell 107 = .ok (.lreturn, 1) := by decide +kernel
theorem dX6_cell_108 : decode cX6_cell 108 = .ok (.aload_n 0, 1) := by decide +kernel
theorem dX6_cell_109 : decode cX6_cell 109 = .ok (.getfield 29, 3) := by decide +kernel
theorem dX6_cell_112 : decode cX6_cell 112 = .ok (.iload 4, 2) := by decide +kernel
theorem dX6_cell_114 : decode cX6_cell 114 = .ok (.iaload, 1) := by decide +kernel
theorem dX6_cell_115 : decode cX6_cell 115 = .ok (.i2l, 1) := by decide +kernel
theorem dX6_cell_116 : decode cX6_cell 116 = .ok (.aload_n 0, 1) := by decide +kernel
theorem dX6_cell_117 : decode cX6_cell 117 = .ok (.iload 4, 2) := by decide +kernel
theorem dX6_cell_119 : decode cX6_cell 119 = .ok (.invokevirtual 136, 3) := by decide +kernel
theorem dX6_cell_122 : decode cX6_cell 122 = .ok (.ladd, 1) := by decide +kernel
theorem dX6_cell_123 : decode cX6_cell 123 = .ok (.lreturn, 1) := by decide +kernel
theorem dX6_cell_124 : decode cX6_cell 124 = .ok (.aload_n 0, 1) := by decide +kernel
theorem dX6_cell_125 : decode cX6_cell 125 = .ok (.iload 4, 2) := by decide +kernel
theorem dX6_cell_127 : decode cX6_cell 127 = .ok (.invokevirtual 184, 3) := by decide +kernel
theorem dX6_cell_130 : decode cX6_cell 130 = .ok (.i2l, 1) := by decide +kernel
theorem dX6_cell_131 : decode cX6_cell 131 = .ok (.lreturn, 1) := by decide +kernel
theorem dX6_cell_132 : decode cX6_cell 132 = .ok (.aload_n 0, 1) := by decide +kernel
theorem dX6_cell_133 : decode cX6_cell 133 = .ok (.iload 4, 2) := by decide +kernel
theorem dX6_cell_135 : decode cX6_cell 135 = .ok (.iconst 0, 1) := by decide +kernel
theorem dX6_cell_136 : decode cX6_cell 136 = .ok (.invokevirtual 187, 3) := by decide +kernel
theorem dX6_cell_139 : decode cX6_cell 139 = .ok (.i2l, 1) := by decide +kernel
theorem dX6_cell_140 : decode cX6_cell 140 = .ok (.lreturn, 1) := by decide +kernel
theorem dX6_cell_141 : decode cX6_cell 141 = .ok (.aload_n 0, 1) := by decide +kernel
theorem dX6_cell_142 : decode cX6_cell 142 = .ok (.iload 4, 2) := by decide +kernel
theorem dX6_cell_144 : decode cX6_cell 144 = .ok (.aload_n 0, 1) := by decide +kernel
theorem dX6_cell_145 : decode cX6_cell 145 = .ok (.iload 4, 2) := by decide +kernel
theorem dX6_cell_147 : decode cX6_cell 147 = .ok (.invokevirtual 184, 3) := by decide +kernel
theorem dX6_cell_150 : decode cX6_cell 150 = .ok (.iconst 1, 1) := by decide +kernel
theorem dX6_cell_151 : decode cX6_cell 151 = .ok (.isub, 1) := by decide +kernel
theorem dX6_cell_152 : decode cX6_cell 152 = .ok (.invokevirtual 187, 3) := by decide +kernel
theorem dX6_cell_155 : decode cX6_cell 155 = .ok (.i2l, 1) := by decide +kernel
theorem dX6_cell_156 : decode cX6_cell 156 = .ok (.lreturn, 1) := by decide +kernel
theorem dX6_cell_157 : decode cX6_cell 157 = .ok (.aload_n 0, 1) := by decide +kernel
theorem dX6_cell_158 : decode cX6_cell 158 = .ok (.getfield 29, 3) := by decide +kernel
theorem dX6_cell_161 : decode cX6_cell 161 = .ok (.iload 4, 2) := by decide +kernel
theorem dX6_cell_163 : decode cX6_cell 163 = .ok (.iaload, 1) := by decide +kernel
theorem dX6_cell_164 : decode cX6_cell 164 = .ok (.sipush 1000, 3) := by decide +kernel
theorem dX6_cell_167 : decode cX6_cell 167 = .ok (.idiv, 1) := by decide +kernel
theorem dX6_cell_168 : decode cX6_cell 168 = .ok (.i2l, 1) := by decide +kernel
theorem dX6_cell_169 : decode cX6_cell 169 = .ok (.lreturn, 1) := by decide +kernel
theorem dX6_layer_0 : decode cX6_layer 0 = .ok (.aload_n 0, 1) := by decide +kernel
theorem dX6_layer_1 : decode cX6_layer 1 = .ok (.iload_n 1, 1) := by decide +kernel
theorem dX6_layer_2 : decode cX6_layer 2 = .ok (.iload_n 2, 1) := by decide +kernel
theorem dX6_layer_3 : decode cX6_layer 3 = .ok (.invokevirtual 115, 3) := by decide +kernel
theorem dX6_layer_6 : decode cX6_layer 6 = .ok (.ifCond .ne 7, 3) := by decide +kernel
theorem dX6_layer_9 : decode cX6_layer 9 = .ok (.ldc2_w 95, 3) := by decide +kernel
theorem dX6_layer_12 : decode cX6_layer 12 = .ok (.lreturn, 1) := by decide +kernel
theorem dX6_layer_13 : decode cX6_layer 13 = .ok (.iload 4, 2) := by decide +kernel
theorem dX6_layer_15 : decode cX6_layer 15 = .ok (.i2l, 1) := by decide +kernel
theorem dX6_layer_16 : decode cX6_layer 16 = .ok (.lconst 0, 1) := by decide +kernel
theorem dX6_layer_17 : decode cX6_layer 17 = .ok (.lconst 1, 1) := by decide +kernel
theorem dX6_layer_18 : decode cX6_layer 18 = .ok (.invokestatic 77, 3) := by decide +kernel
theorem dX6_layer_21 : decode cX6_layer 21 = .ok (.ifCond .ne 7, 3) := by decide +kernel
theorem dX6_layer_24 : decode cX6_layer 24 = .ok (.ldc2_w 97, 3) := by decide +kernel
theorem dX6_layer_27 : decode cX6_layer 27 = .ok (.lreturn, 1) := by decide +kernel
theorem dX6_layer_28 : decode cX6_layer 28 = .ok (.bipush 8, 2) := by decide +kernel
theorem dX6_layer_30 : decode cX6_layer 30 = .ok (.iload_n 2, 1) := by decide +kernel
theorem dX6_layer_31 : decode cX6_layer 31 = .ok (.imul, 1) := by decide +kernel
theorem dX6_layer_32 : decode cX6_layer 32 = .ok (.iload_n 1, 1) := by decide +kernel
theorem dX6_layer_33 : decode cX6_layer 33 = .ok (.iadd, 1) := by decide +kernel
theorem dX6_layer_34 : decode cX6_layer 34 = .ok (.istore 5, 2) := by decide +kernel
theorem dX6_layer_36 : decode cX6_layer 36 = .ok (.aload_n 0, 1) := by decide +kernel
theorem dX6_layer_37 : decode cX6_layer 37 = .ok (.getfield 23, 3) := by decide +kernel
theorem dX6_layer_40 : decode cX6_layer 40 = .ok (.iload 5, 2) := by decide +kernel
theorem dX6_layer_42 : decode cX6_layer 42 = .ok (.iaload, 1) := by decide +kernel
theorem dX6_layer_43 : decode cX6_layer 43 = .ok (.iconst 4, 1) := by decide +kernel
theorem dX6_layer_44 : decode cX6_layer 44 = .ok (.if_icmp .ne 7, 3) := by decide +kernel
theorem dX6_layer_47 : decode cX6_layer 47 = .ok (.ldc2_w 134, 3) := by decide +kernel
theorem dX6_layer_50 : decode cX6_layer 50 = .ok (.lreturn, 1) := by decide +kernel
theorem dX6_layer_51 : decode cX6_layer 51 = .ok (.aload_n 0, 1) := by decide +kernel
theorem dX6_layer_52 : decode cX6_layer 52 = .ok (.iload 5, 2) := by decide +kernel
theorem dX6_layer_54 : decode cX6_layer 54 = .ok (.iload_n 3, 1) := by decide +kernel
theorem dX6_layer_55 : decode cX6_layer 55 = .ok (.invokevirtual 187, 3) := by decide +kernel
theorem dX6_layer_58 : decode cX6_layer 58 = .ok (.istore 6, 2) := by decide +kernel
theorem dX6_layer_60 : decode cX6_layer 60 = .ok (.iload 6, 2) := by decide +kernel
theorem dX6_layer_62 : decode cX6_layer 62 = .ok (.bipush (-9), 2) := by decide +kernel
theorem dX6_layer_64 : decode cX6_layer 64 = .ok (.if_icmp .ne 9, 3) := by decide +kernel
theorem dX6_layer_67 : decode cX6_layer 67 = .ok (.ldc2_w 190, 3) := by decide +kernel
theorem dX6_layer_70 : decode cX6_layer 70 = .ok (.goto 27, 3) := by decide +kernel
theorem dX6_layer_73 : decode cX6_layer 73 = .ok (.iload 4, 2) := by decide +kernel
theorem dX6_layer_75 : decode cX6_layer 75 = .ok (.ifCond .ne 9, 3) := by decide +kernel
theorem dX6_layer_78 : decode cX6_layer 78 = .ok (.iload 6, 2) := by decide +kernel
theorem dX6_layer_80 : decode cX6_layer 80 = .ok (.i2l, 1) := by decide +kernel
theorem dX6_layer_81 : decode cX6_layer 81 = .ok (.goto 16, 3) := by decide +kernel
theorem dX6_layer_84 : decode cX6_layer 84 = .ok (.aload_n 0, 1) := by decide +kernel
theorem dX6_layer_85 : decode cX6_layer 85 = .ok (.getfield 32, 3) := by decide +kernel
theorem dX6_layer_88 : decode cX6_layer 88 = .ok (.bipush 61, 2) := by decide +kernel
theorem dX6_layer_90 : decode cX6_layer 90 = .ok (.iload 5, 2) := by decide +kernel
theorem dX6_layer_92 : decode cX6_layer 92 = .ok (.imul, 1) := by decide +kernel
theorem dX6_layer_93 : decode cX6_layer 93 = .ok (.iload 6, 2) := by decide +kernel
theorem dX6_layer_95 : decode cX6_layer 95 = .ok (.iadd, 1) := by decide +kernel
theorem dX6_layer_96 : decode cX6_layer 96 = .ok (.laload, 1) := by decide +kernel
theorem dX6_layer_97 : decode cX6_layer 97 = .ok (.lreturn, 1) := by decide +kernel
theorem dX6_sum_0 : decode cX6_sum 0 = .ok (.iload_n 1, 1) := by decide +kernel
theorem dX6_sum_1 : decode cX6_sum 1 = .ok (.i2l, 1) := by decide +kernel
theorem dX6_sum_2 : decode cX6_sum 2 = .ok (.lconst 0, 1) := by decide +kernel
theorem dX6_sum_3 : decode cX6_sum 3 = .ok (.ldc2_w 123, 3) := by decide +kernel
theorem dX6_sum_6 : decode cX6_sum 6 = .ok (.invokestatic 77, 3) := by decide +kernel
theorem dX6_sum_9 : decode cX6_sum 9 = .ok (.ifCond .eq 21, 3) := by decide +kernel
theorem dX6_sum_12 : decode cX6_sum 12 = .ok (.iload_n 2, 1) := by decide +kernel
theorem dX6_sum_13 : decode cX6_sum 13 = .ok (.bipush (-9), 2) := by decide +kernel
theorem dX6_sum_15 : decode cX6_sum 15 = .ok (.if_icmp .eq 19, 3) := by decide +kernel
theorem dX6_sum_18 : decode cX6_sum 18 = .ok (.iload_n 2, 1) := by decide +kernel
theorem dX6_sum_19 : decode cX6_sum 19 = .ok (.i2l, 1) := by decide +kernel
theorem dX6_sum_20 : decode cX6_sum 20 = .ok (.lconst 0, 1) := by decide +kernel
theorem dX6_sum_21 : decode cX6_sum 21 = .ok (.ldc2_w 170, 3) := by decide +kernel
theorem dX6_sum_24 : decode cX6_sum 24 = .ok (.invokestatic 77, 3) := by decide +kernel
theorem dX6_sum_27 : decode cX6_sum 27 = .ok (.ifCond .ne 7, 3) := by decide +kernel
theorem dX6_sum_30 : decode cX6_sum 30 = .ok (.ldc2_w 97, 3) := by decide +kernel
theorem dX6_sum_33 : decode cX6_sum 33 = .ok (.lreturn, 1) := by decide +kernel
theorem dX6_sum_34 : decode cX6_sum 34 = .ok (.aload_n 0, 1) := by decide +kernel
theorem dX6_sum_35 : decode cX6_sum 35 = .ok (.getfield 99, 3) := by decide +kernel
theorem dX6_sum_38 : decode cX6_sum 38 = .ok (.ifCond .ne 7, 3) := by decide +kernel
theorem dX6_sum_41 : decode cX6_sum 41 = .ok (.ldc2_w 134, 3) := by decide +kernel
theorem dX6_sum_44 : decode cX6_sum 44 = .ok (.lreturn, 1) := by decide +kernel
theorem dX6_sum_45 : decode cX6_sum 45 = .ok (.lconst 0, 1) := by decide +kernel
theorem dX6_sum_46 : decode cX6_sum 46 = .ok (.lstore_n 3, 1) := by decide +kernel
theorem dX6_sum_47 : decode cX6_sum 47 = .ok (.iconst 0, 1) := by decide +kernel
theorem dX6_sum_48 : decode cX6_sum 48 = .ok (.istore 5, 2) := by decide +kernel
theorem dX6_sum_50 : decode cX6_sum 50 = .ok (.iload 5, 2) := by decide +kernel
theorem dX6_sum_52 : decode cX6_sum 52 = .ok (.bipush 61, 2) := by decide +kernel
theorem dX6_sum_54 : decode cX6_sum 54 = .ok (.if_icmp .ge 85, 3) := by decide +kernel
theorem dX6_sum_57 : decode cX6_sum 57 = .ok (.iload_n 2, 1) := by decide +kernel
theorem dX6_sum_58 : decode cX6_sum 58 = .ok (.bipush (-9), 2) := by decide +kernel
theorem dX6_sum_60 : decode cX6_sum 60 = .ok (.if_icmp .eq 9, 3) := by decide +kernel
theorem dX6_sum_63 : decode cX6_sum 63 = .ok (.iload 5, 2) := by decide +kernel
theorem dX6_sum_65 : decode cX6_sum 65 = .ok (.iload_n 2, 1) := by decide +kernel
theorem dX6_sum_66 : decode cX6_sum 66 = .ok (.if_icmp .ne 67, 3) := by decide +kernel
theorem dX6_sum_69 : decode cX6_sum 69 = .ok (.lload_n 3, 1) := by decide +kernel
theorem dX6_sum_70 : decode cX6_sum 70 = .ok (.aload_n 0, 1) := by decide +kernel
theorem dX6_sum_71 : decode cX6_sum 71 = .ok (.getfield 35, 3) := by decide +kernel
theorem dX6_sum_74 : decode cX6_sum 74 = .ok (.bipush 61, 2) := by decide +kernel
theorem dX6_sum_76 : decode cX6_sum 76 = .ok (.iload_n 1, 1) := by decide +kernel
theorem dX6_sum_77 : decode cX6_sum 77 = .ok (.imul, 1) := by decide +kernel
theorem dX6_sum_78 : decode cX6_sum 78 = .ok (.iload 5, 2) := by decide +kernel
theorem dX6_sum_80 : decode cX6_sum 80 = .ok (.iadd, 1) := by decide +kernel
theorem dX6_sum_81 : decode cX6_sum 81 = .ok (.laload, 1) := by decide +kernel
theorem dX6_sum_82 : decode cX6_sum 82 = .ok (.ladd, 1) := by decide +kernel
theorem dX6_sum_83 : decode cX6_sum 83 = .ok (.lstore_n 3, 1) := by decide +kernel
theorem dX6_sum_84 : decode cX6_sum 84 = .ok (.iconst 0, 1) := by decide +kernel
theorem dX6_sum_85 : decode cX6_sum 85 = .ok (.istore 6, 2) := by decide +kernel
theorem dX6_sum_87 : decode cX6_sum 87 = .ok (.iload 6, 2) := by decide +kernel
theorem dX6_sum_89 : decode cX6_sum 89 = .ok (.bipush 64, 2) := by decide +kernel
theorem dX6_sum_91 : decode cX6_sum 91 = .ok (.if_icmp .ge 42, 3) := by decide +kernel
theorem dX6_sum_94 : decode cX6_sum 94 = .ok (.iload_n 1, 1) := by decide +kernel
theorem dX6_sum_95 : decode cX6_sum 95 = .ok (.ifCond .ne 38, 3) := by decide +kernel
theorem dX6_sum_98 : decode cX6_sum 98 = .ok (.lload_n 3, 1) := by decide +kernel
theorem dX6_sum_99 : decode cX6_sum 99 = .ok (.aload_n 0, 1) := by decide +kernel
theorem dX6_sum_100 : decode cX6_sum 100 = .ok (.iload 6, 2) := by decide +kernel
theorem dX6_sum_102 : decode cX6_sum 102 = .ok (.invokevirtual 151, 3) := by decide +kernel
theorem dX6_sum_105 : decode cX6_sum 105 = .ok (.ifCond .eq 19, 3) := by decide +kernel
theorem dX6_sum_108 : decode cX6_sum 108 = .ok (.aload_n 0, 1) := by decide +kernel
theorem dX6_sum_109 : decode cX6_sum 109 = .ok (.getfield 32, 3) := by decide +kernel
theorem dX6_sum_112 : decode cX6_sum 112 = .ok (.bipush 61, 2) := by decide +kernel
theorem dX6_sum_114 : decode cX6_sum 114 = .ok (.iload 6, 2) := by decide +kernel
theorem dX6_sum_116 : decode cX6_sum 116 = .ok (.imul, 1) := by decide +kernel
theorem dX6_sum_117 : decode cX6_sum 117 = .ok (.iload 5, 2) := by decide +kernel
theorem dX6_sum_119 : decode cX6_sum 119 = .ok (.iadd, 1) := by decide +kernel
theorem dX6_sum_120 : decode cX6_sum 120 = .ok (.laload, 1) := by decide +kernel
theorem dX6_sum_121 : decode cX6_sum 121 = .ok (.goto 4, 3) := by decide +kernel
theorem dX6_sum_124 : decode cX6_sum 124 = .ok (.lconst 0, 1) := by decide +kernel
theorem dX6_sum_125 : decode cX6_sum 125 = .ok (.ladd, 1) := by decide +kernel
theorem dX6_sum_126 : decode cX6_sum 126 = .ok (.lstore_n 3, 1) := by decide +kernel
theorem dX6_sum_127 : decode cX6_sum 127 = .ok (.iinc 6 1, 3) := by decide +kernel
theorem dX6_sum_130 : decode cX6_sum 130 = .ok (.goto (-43), 3) := by decide +kernel
theorem dX6_sum_133 : decode cX6_sum 133 = .ok (.iinc 5 1, 3) := by decide +kernel
theorem dX6_sum_136 : decode cX6_sum 136 = .ok (.goto (-86), 3) := by decide +kernel
theorem dX6_sum_139 : decode cX6_sum 139 = .ok (.lload_n 3, 1) := by decide +kernel
theorem dX6_sum_140 : decode cX6_sum 140 = .ok (.lreturn, 1) := by decide +kernel
theorem dX6_about_0 : decode cX6_about 0 = .ok (.iload_n 1, 1) := by decide +kernel
theorem dX6_about_1 : decode cX6_about 1 = .ok (.i2l, 1) := by decide +kernel
theorem dX6_about_2 : decode cX6_about 2 = .ok (.lconst 0, 1) := by decide +kernel
theorem dX6_about_3 : decode cX6_about 3 = .ok (.ldc2_w 123, 3) := by decide +kernel
theorem dX6_about_6 : decode cX6_about 6 = .ok (.invokestatic 77, 3) := by decide +kernel
theorem dX6_about_9 : decode cX6_about 9 = .ok (.ifCond .ne 7, 3) := by decide +kernel
theorem dX6_about_12 : decode cX6_about 12 = .ok (.ldc2_w 97, 3) := by decide +kernel
theorem dX6_about_15 : decode cX6_about 15 = .ok (.lreturn, 1) := by decide +kernel
theorem dX6_about_16 : decode cX6_about 16 = .ok (.aload_n 0, 1) := by decide +kernel
theorem dX6_about_17 : decode cX6_about 17 = .ok (.getfield 99, 3) := by decide +kernel
theorem dX6_about_20 : decode cX6_about 20 = .ok (.ifCond .ne 7, 3) := by decide +kernel
theorem dX6_about_23 : decode cX6_about 23 = .ok (.ldc2_w 134, 3) := by decide +kernel
theorem dX6_about_26 : decode cX6_about 26 = .ok (.lreturn, 1) := by decide +kernel
theorem dX6_about_27 : decode cX6_about 27 = .ok (.iconst 0, 1) := by decide +kernel
theorem dX6_about_28 : decode cX6_about 28 = .ok (.istore_n 2, 1) := by decide +kernel
theorem dX6_about_29 : decode cX6_about 29 = .ok (.lconst 0, 1) := by decide +kernel
theorem dX6_about_30 : decode cX6_about 30 = .ok (.lstore_n 3, 1) := by decide +kernel
theorem dX6_about_31 : decode cX6_about 31 = .ok (.bipush (-9), 2) := by decide +kernel
theorem dX6_about_33 : decode cX6_about 33 = .ok (.istore 5, 2) := by decide +kernel
theorem dX6_about_35 : decode cX6_about 35 = .ok (.ldc2_w 190, 3) := by decide +kernel
theorem dX6_about_38 : decode cX6_about 38 = .ok (.lstore 6, 2) := by decide +kernel
theorem dX6_about_40 : decode cX6_about 40 = .ok (.bipush (-9), 2) := by decide +kernel
theorem dX6_about_42 : decode cX6_about 42 = .ok (.istore 8, 2) := by decide +kernel
theorem dX6_about_44 : decode cX6_about 44 = .ok (.iconst 0, 1) := by decide +kernel
theorem dX6_about_45 : decode cX6_about 45 = .ok (.istore 9, 2) := by decide +kernel
theorem dX6_about_47 : decode cX6_about 47 = .ok (.iload 9, 2) := by decide +kernel
theorem dX6_about_49 : decode cX6_about 49 = .ok (.bipush 64, 2) := by decide +kernel
theorem dX6_about_51 : decode cX6_about 51 = .ok (.if_icmp .ge 153, 3) := by decide +kernel
theorem dX6_about_54 : decode cX6_about 54 = .ok (.aload_n 0, 1) := by decide +kernel
theorem dX6_about_55 : decode cX6_about 55 = .ok (.iload 9, 2) := by decide +kernel
theorem dX6_about_57 : decode cX6_about 57 = .ok (.invokevirtual 151, 3) := by decide +kernel
theorem dX6_about_60 : decode cX6_about 60 = .ok (.ifCond .eq 12, 3) := by decide +kernel
theorem dX6_about_63 : decode cX6_about 63 = .ok (.aload_n 0, 1) := by decide +kernel
theorem dX6_about_64 : decode cX6_about 64 = .ok (.iload 9, 2) := by decide +kernel
theorem dX6_about_66 : decode cX6_about 66 = .ok (.invokevirtual 136, 3) := by decide +kernel
theorem dX6_about_69 : decode cX6_about 69 = .ok (.goto 4, 3) := by decide +kernel
theorem dX6_about_72 : decode cX6_about 72 = .ok (.lconst 0, 1) := by decide +kernel
theorem dX6_about_73 : decode cX6_about 73 = .ok (.lstore 10, 2) := by decide +kernel
theorem dX6_about_75 : decode cX6_about 75 = .ok (.lload 10, 2) := by decide +kernel
theorem dX6_about_77 : decode cX6_about 77 = .ok (.lconst 0, 1) := by decide +kernel
theorem dX6_about_78 : decode cX6_about 78 = .ok (.lcmp, 1) := by decide +kernel
theorem dX6_about_79 : decode cX6_about 79 = .ok (.ifCond .le 119, 3) := by decide +kernel
theorem dX6_about_82 : decode cX6_about 82 = .ok (.iinc 2 1, 3) := by decide +kernel
theorem dX6_about_85 : decode cX6_about 85 = .ok (.lload 10, 2) := by decide +kernel
theorem dX6_about_87 : decode cX6_about 87 = .ok (.lload_n 3, 1) := by decide +kernel
theorem dX6_about_88 : decode cX6_about 88 = .ok (.lcmp, 1) := by decide +kernel
theorem dX6_about_89 : decode cX6_about 89 = .ok (.ifCond .le 8, 3) := by decide +kernel
theorem dX6_about_92 : decode cX6_about 92 = .ok (.iload 9, 2) := by decide +kernel
theorem dX6_about_94 : decode cX6_about 94 = .ok (.goto 5, 3) := by decide +kernel
theorem dX6_about_97 : decode cX6_about 97 = .ok (.iload 5, 2) := by decide +kernel
theorem dX6_about_99 : decode cX6_about 99 = .ok (.istore 5, 2) := by decide +kernel
theorem dX6_about_101 : decode cX6_about 101 = .ok (.lload 10, 2) := by decide +kernel
theorem dX6_about_103 : decode cX6_about 103 = .ok (.lload_n 3, 1) := by decide +kernel
theorem dX6_about_104 : decode cX6_about 104 = .ok (.lcmp, 1) := by decide +kernel
theorem dX6_about_105 : decode cX6_about 105 = .ok (.ifCond .le 8, 3) := by decide +kernel
theorem dX6_about_108 : decode cX6_about 108 = .ok (.lload 10, 2) := by decide +kernel
theorem dX6_about_110 : decode cX6_about 110 = .ok (.goto 4, 3) := by decide +kernel
theorem dX6_about_113 : decode cX6_about 113 = .ok (.lload_n 3, 1) := by decide +kernel
theorem dX6_about_114 : decode cX6_about 114 = .ok (.lstore_n 3, 1) := by decide +kernel
theorem dX6_about_115 : decode cX6_about 115 = .ok (.lload 6, 2) := by decide +kernel
theorem dX6_about_117 : decode cX6_about 117 = .ok (.ldc2_w 190, 3) := by decide +kernel
theorem dX6_about_120 : decode cX6_about 120 = .ok (.lcmp, 1) := by decide +kernel
theorem dX6_about_121 : decode cX6_about 121 = .ok (.ifCond .eq 20, 3) := by decide +kernel
theorem dX6_about_124 : decode cX6_about 124 = .ok (.aload_n 0, 1) := by decide +kernel
theorem dX6_about_125 : decode cX6_about 125 = .ok (.getfield 29, 3) := by decide +kernel
theorem dX6_about_128 : decode cX6_about 128 = .ok (.iload 9, 2) := by decide +kernel
theorem dX6_about_130 : decode cX6_about 130 = .ok (.iaload, 1) := by decide +kernel
theorem dX6_about_131 : decode cX6_about 131 = .ok (.i2l, 1) := by decide +kernel
theorem dX6_about_132 : decode cX6_about 132 = .ok (.lload 10, 2) := by decide +kernel
theorem dX6_about_134 : decode cX6_about 134 = .ok (.ladd, 1) := by decide +kernel
theorem dX6_about_135 : decode cX6_about 135 = .ok (.lload 6, 2) := by decide +kernel
theorem dX6_about_137 : decode cX6_about 137 = .ok (.lcmp, 1) := by decide +kernel
theorem dX6_about_138 : decode cX6_about 138 = .ok (.ifCond .ge 17, 3) := by decide +kernel
theorem dX6_about_141 : decode cX6_about 141 = .ok (.aload_n 0, 1) := by decide +kernel
theorem dX6_about_142 : decode cX6_about 142 = .ok (.getfield 29, 3) := by decide +kernel
theorem dX6_about_145 : decode cX6_about 145 = .ok (.iload 9, 2) := by decide +kernel
theorem dX6_about_147 : decode cX6_about 147 = .ok (.iaload, 1) := by decide +kernel
theorem dX6_about_148 : decode cX6_about 148 = .ok (.i2l, 1) := by decide +kernel
theorem dX6_about_149 : decode cX6_about 149 = .ok (.lload 10, 2) := by decide +kernel
theorem dX6_about_151 : decode cX6_about 151 = .ok (.ladd, 1) := by decide +kernel
theorem dX6_about_152 : decode cX6_about 152 = .ok (.goto 5, 3) := by decide +kernel
theorem dX6_about_155 : decode cX6_about 155 = .ok (.lload 6, 2) := by decide +kernel
theorem dX6_about_157 : decode cX6_about 157 = .ok (.lstore 6, 2) := by decide +kernel
theorem dX6_about_159 : decode cX6_about 159 = .ok (.aload_n 0, 1) := by decide +kernel
theorem dX6_about_160 : decode cX6_about 160 = .ok (.iload 9, 2) := by decide +kernel
theorem dX6_about_162 : decode cX6_about 162 = .ok (.aload_n 0, 1) := by decide +kernel
theorem dX6_about_163 : decode cX6_about 163 = .ok (.iload 9, 2) := by decide +kernel
theorem dX6_about_165 : decode cX6_about 165 = .ok (.invokevirtual 184, 3) := by decide +kernel
theorem dX6_about_168 : decode cX6_about 168 = .ok (.iconst 1, 1) := by decide +kernel
theorem dX6_about_169 : decode cX6_about 169 = .ok (.isub, 1) := by decide +kernel
theorem dX6_about_170 : decode cX6_about 170 = .ok (.invokevirtual 187, 3) := by decide +kernel
theorem dX6_about_173 : decode cX6_about 173 = .ok (.istore 12, 2) := by decide +kernel
theorem dX6_about_175 : decode cX6_about 175 = .ok (.iload 8, 2) := by decide +kernel
theorem dX6_about_177 : decode cX6_about 177 = .ok (.bipush (-9), 2) := by decide +kernel
theorem dX6_about_179 : decode cX6_about 179 = .ok (.if_icmp .eq 10, 3) := by decide +kernel
theorem dX6_about_182 : decode cX6_about 182 = .ok (.iload 12, 2) := by decide +kernel
theorem dX6_about_184 : decode cX6_about 184 = .ok (.iload 8, 2) := by decide +kernel
theorem dX6_about_186 : decode cX6_about 186 = .ok (.if_icmp .ge 8, 3) := by decide +kernel
theorem dX6_about_189 : decode cX6_about 189 = .ok (.iload 12, 2) := by decide +kernel
theorem dX6_about_191 : decode cX6_about 191 = .ok (.goto 5, 3) := by decide +kernel
theorem dX6_about_194 : decode cX6_about 194 = .ok (.iload 8, 2) := by decide +kernel
theorem dX6_about_196 : decode cX6_about 196 = .ok (.istore 8, 2) := by decide +kernel
theorem dX6_about_198 : decode cX6_about 198 = .ok (.iinc 9 1, 3) := by decide +kernel
theorem dX6_about_201 : decode cX6_about 201 = .ok (.goto (-154), 3) := by decide +kernel
theorem dX6_about_204 : decode cX6_about 204 = .ok (.iload_n 1, 1) := by decide +kernel
theorem dX6_about_205 : decode cX6_about 205 = .ok (.ifCond .ne 8, 3) := by decide +kernel
theorem dX6_about_208 : decode cX6_about 208 = .ok (.iload_n 2, 1) := by decide +kernel
theorem dX6_about_209 : decode cX6_about 209 = .ok (.i2l, 1) := by decide +kernel
theorem dX6_about_210 : decode cX6_about 210 = .ok (.goto 36, 3) := by decide +kernel
theorem dX6_about_213 : decode cX6_about 213 = .ok (.iload_n 1, 1) := by decide +kernel
theorem dX6_about_214 : decode cX6_about 214 = .ok (.iconst 1, 1) := by decide +kernel
theorem dX6_about_215 : decode cX6_about 215 = .ok (.if_icmp .ne 7, 3) := by decide +kernel
theorem dX6_about_218 : decode cX6_about 218 = .ok (.lload_n 3, 1) := by decide +kernel
theorem dX6_about_219 : decode cX6_about 219 = .ok (.goto 27, 3) := by decide +kernel
theorem dX6_about_222 : decode cX6_about 222 = .ok (.iload_n 1, 1) := by decide +kernel
theorem dX6_about_223 : decode cX6_about 223 = .ok (.iconst 2, 1) := by decide +kernel
theorem dX6_about_224 : decode cX6_about 224 = .ok (.if_icmp .ne 8, 3) := by decide +kernel
theorem dX6_about_227 : decode cX6_about 227 = .ok (.lload 6, 2) := by decide +kernel
theorem dX6_about_229 : decode cX6_about 229 = .ok (.goto 17, 3) := by decide +kernel
theorem dX6_about_232 : decode cX6_about 232 = .ok (.iload_n 1, 1) := by decide +kernel
theorem dX6_about_233 : decode cX6_about 233 = .ok (.iconst 3, 1) := by decide +kernel
theorem dX6_about_234 : decode cX6_about 234 = .ok (.if_icmp .ne 9, 3) := by decide +kernel
theorem dX6_about_237 : decode cX6_about 237 = .ok (.iload 8, 2) := by decide +kernel
theorem dX6_about_239 : decode cX6_about 239 = .ok (.i2l, 1) := by decide +kernel
theorem dX6_about_240 : decode cX6_about 240 = .ok (.goto 6, 3) := by decide +kernel
theorem dX6_about_243 : decode cX6_about 243 = .ok (.iload 5, 2) := by decide +kernel
theorem dX6_about_245 : decode cX6_about 245 = .ok (.i2l, 1) := by decide +kernel
theorem dX6_about_246 : decode cX6_about 246 = .ok (.lreturn, 1) := by decide +kernel
theorem dX6_gives_0 : decode cX6_gives 0 = .ok (.aload_n 0, 1) := by decide +kernel
theorem dX6_gives_1 : decode cX6_gives 1 = .ok (.iload_n 1, 1) := by decide +kernel
theorem dX6_gives_2 : decode cX6_gives 2 = .ok (.iload_n 2, 1) := by decide +kernel
theorem dX6_gives_3 : decode cX6_gives 3 = .ok (.invokevirtual 115, 3) := by decide +kernel
theorem dX6_gives_6 : decode cX6_gives 6 = .ok (.ifCond .ne 7, 3) := by decide +kernel
theorem dX6_gives_9 : decode cX6_gives 9 = .ok (.ldc2_w 95, 3) := by decide +kernel
theorem dX6_gives_12 : decode cX6_gives 12 = .ok (.lreturn, 1) := by decide +kernel
theorem dX6_gives_13 : decode cX6_gives 13 = .ok (.iload_n 3, 1) := by decide +kernel
theorem dX6_gives_14 : decode cX6_gives 14 = .ok (.i2l, 1) := by decide +kernel
theorem dX6_gives_15 : decode cX6_gives 15 = .ok (.lconst 0, 1) := by decide +kernel
theorem dX6_gives_16 : decode cX6_gives 16 = .ok (.ldc2_w 119, 3) := by decide +kernel
theorem dX6_gives_19 : decode cX6_gives 19 = .ok (.invokestatic 77, 3) := by decide +kernel
theorem dX6_gives_22 : decode cX6_gives 22 = .ok (.ifCond .ne 7, 3) := by decide +kernel
theorem dX6_gives_25 : decode cX6_gives 25 = .ok (.ldc2_w 97, 3) := by decide +kernel
theorem dX6_gives_28 : decode cX6_gives 28 = .ok (.lreturn, 1) := by decide +kernel
theorem dX6_gives_29 : decode cX6_gives 29 = .ok (.aload_n 0, 1) := by decide +kernel
theorem dX6_gives_30 : decode cX6_gives 30 = .ok (.getfield 23, 3) := by decide +kernel
theorem dX6_gives_33 : decode cX6_gives 33 = .ok (.bipush 8, 2) := by decide +kernel
theorem dX6_gives_35 : decode cX6_gives 35 = .ok (.iload_n 2, 1) := by decide +kernel
theorem dX6_gives_36 : decode cX6_gives 36 = .ok (.imul, 1) := by decide +kernel
theorem dX6_gives_37 : decode cX6_gives 37 = .ok (.iload_n 1, 1) := by decide +kernel
theorem dX6_gives_38 : decode cX6_gives 38 = .ok (.iadd, 1) := by decide +kernel
theorem dX6_gives_39 : decode cX6_gives 39 = .ok (.iaload, 1) := by decide +kernel
theorem dX6_gives_40 : decode cX6_gives 40 = .ok (.iconst 4, 1) := by decide +kernel
theorem dX6_gives_41 : decode cX6_gives 41 = .ok (.if_icmp .ne 9, 3) := by decide +kernel
theorem dX6_gives_44 : decode cX6_gives 44 = .ok (.ldc2_w 134, 3) := by decide +kernel
theorem dX6_gives_47 : decode cX6_gives 47 = .ok (.goto 14, 3) := by decide +kernel
theorem dX6_gives_50 : decode cX6_gives 50 = .ok (.aload_n 0, 1) := by decide +kernel
theorem dX6_gives_51 : decode cX6_gives 51 = .ok (.bipush 8, 2) := by decide +kernel
theorem dX6_gives_53 : decode cX6_gives 53 = .ok (.iload_n 2, 1) := by decide +kernel
theorem dX6_gives_54 : decode cX6_gives 54 = .ok (.imul, 1) := by decide +kernel
theorem dX6_gives_55 : decode cX6_gives 55 = .ok (.iload_n 1, 1) := by decide +kernel
theorem dX6_gives_56 : decode cX6_gives 56 = .ok (.iadd, 1) := by decide +kernel
theorem dX6_gives_57 : decode cX6_gives 57 = .ok (.iload_n 3, 1) := by decide +kernel
theorem dX6_gives_58 : decode cX6_gives 58 = .ok (.invokevirtual 154, 3) := by decide +kernel
theorem dX6_gives_61 : decode cX6_gives 61 = .ok (.lreturn, 1) := by decide +kernel
theorem dX6_turn_0 : decode cX6_turn 0 = .ok (.iload_n 1, 1) := by decide +kernel
theorem dX6_turn_1 : decode cX6_turn 1 = .ok (.i2l, 1) := by decide +kernel
theorem dX6_turn_2 : decode cX6_turn 2 = .ok (.lconst 0, 1) := by decide +kernel
theorem dX6_turn_3 : decode cX6_turn 3 = .ok (.lconst 1, 1) := by decide +kernel
theorem dX6_turn_4 : decode cX6_turn 4 = .ok (.invokestatic 77, 3) := by decide +kernel
theorem dX6_turn_7 : decode cX6_turn 7 = .ok (.ifCond .ne 6, 3) := by decide +kernel
theorem dX6_turn_10 : decode cX6_turn 10 = .ok (.bipush (-2), 2) := by decide +kernel
theorem dX6_turn_12 : decode cX6_turn 12 = .ok (.ireturn, 1) := by decide +kernel
theorem dX6_turn_13 : decode cX6_turn 13 = .ok (.aload_n 0, 1) := by decide +kernel
theorem dX6_turn_14 : decode cX6_turn 14 = .ok (.getfield 99, 3) := by decide +kernel
theorem dX6_turn_17 : decode cX6_turn 17 = .ok (.ifCond .ne 6, 3) := by decide +kernel
theorem dX6_turn_20 : decode cX6_turn 20 = .ok (.bipush (-3), 2) := by decide +kernel
theorem dX6_turn_22 : decode cX6_turn 22 = .ok (.ireturn, 1) := by decide +kernel
theorem dX6_turn_23 : decode cX6_turn 23 = .ok (.iconst 0, 1) := by decide +kernel
theorem dX6_turn_24 : decode cX6_turn 24 = .ok (.istore_n 2, 1) := by decide +kernel
theorem dX6_turn_25 : decode cX6_turn 25 = .ok (.iload_n 2, 1) := by decide +kernel
theorem dX6_turn_26 : decode cX6_turn 26 = .ok (.bipush 64, 2) := by decide +kernel
theorem dX6_turn_28 : decode cX6_turn 28 = .ok (.if_icmp .ge 45, 3) := by decide +kernel
theorem dX6_turn_31 : decode cX6_turn 31 = .ok (.aload_n 0, 1) := by decide +kernel
theorem dX6_turn_32 : decode cX6_turn 32 = .ok (.getfield 63, 3) := by decide +kernel
theorem dX6_turn_35 : decode cX6_turn 35 = .ok (.iload_n 2, 1) := by decide +kernel
theorem dX6_turn_36 : decode cX6_turn 36 = .ok (.aload_n 0, 1) := by decide +kernel
theorem dX6_turn_37 : decode cX6_turn 37 = .ok (.getfield 23, 3) := by decide +kernel
theorem dX6_turn_40 : decode cX6_turn 40 = .ok (.iload_n 2, 1) := by decide +kernel
theorem dX6_turn_41 : decode cX6_turn 41 = .ok (.iaload, 1) := by decide +kernel
theorem dX6_turn_42 : decode cX6_turn 42 = .ok (.iastore, 1) := by decide +kernel
theorem dX6_turn_43 : decode cX6_turn 43 = .ok (.aload_n 0, 1) := by decide +kernel
theorem dX6_turn_44 : decode cX6_turn 44 = .ok (.getfield 66, 3) := by decide +kernel
theorem dX6_turn_47 : decode cX6_turn 47 = .ok (.iload_n 2, 1) := by decide +kernel
theorem dX6_turn_48 : decode cX6_turn 48 = .ok (.aload_n 0, 1) := by decide +kernel
theorem dX6_turn_49 : decode cX6_turn 49 = .ok (.getfield 26, 3) := by decide +kernel
theorem dX6_turn_52 : decode cX6_turn 52 = .ok (.iload_n 2, 1) := by decide +kernel
theorem dX6_turn_53 : decode cX6_turn 53 = .ok (.iaload, 1) := by decide +kernel
theorem dX6_turn_54 : decode cX6_turn 54 = .ok (.iastore, 1) := by decide +kernel
theorem dX6_turn_55 : decode cX6_turn 55 = .ok (.aload_n 0, 1) := by decide +kernel
theorem dX6_turn_56 : decode cX6_turn 56 = .ok (.getfield 69, 3) := by decide +kernel
theorem dX6_turn_59 : decode cX6_turn 59 = .ok (.iload_n 2, 1) := by decide +kernel
theorem dX6_turn_60 : decode cX6_turn 60 = .ok (.aload_n 0, 1) := by decide +kernel
theorem dX6_turn_61 : decode cX6_turn 61 = .ok (.getfield 29, 3) := by decide +kernel
theorem dX6_turn_64 : decode cX6_turn 64 = .ok (.iload_n 2, 1) := by decide +kernel
theorem dX6_turn_65 : decode cX6_turn 65 = .ok (.iaload, 1) := by decide +kernel
theorem dX6_turn_66 : decode cX6_turn 66 = .ok (.iastore, 1) := by decide +kernel
theorem dX6_turn_67 : decode cX6_turn 67 = .ok (.iinc 2 1, 3) := by decide +kernel
theorem dX6_turn_70 : decode cX6_turn 70 = .ok (.goto (-45), 3) := by decide +kernel
theorem dX6_turn_73 : decode cX6_turn 73 = .ok (.iconst 0, 1) := by decide +kernel
theorem dX6_turn_74 : decode cX6_turn 74 = .ok (.istore_n 2, 1) := by decide +kernel
theorem dX6_turn_75 : decode cX6_turn 75 = .ok (.iload_n 2, 1) := by decide +kernel
theorem dX6_turn_76 : decode cX6_turn 76 = .ok (.sipush 3904, 3) := by decide +kernel
theorem dX6_turn_79 : decode cX6_turn 79 = .ok (.if_icmp .ge 28, 3) := by decide +kernel
theorem dX6_turn_82 : decode cX6_turn 82 = .ok (.aload_n 0, 1) := by decide +kernel
theorem dX6_turn_83 : decode cX6_turn 83 = .ok (.getfield 57, 3) := by decide +kernel
theorem dX6_turn_86 : decode cX6_turn 86 = .ok (.iload_n 2, 1) := by decide +kernel
theorem dX6_turn_87 : decode cX6_turn 87 = .ok (.aload_n 0, 1) := by decide +kernel
theorem dX6_turn_88 : decode cX6_turn 88 = .ok (.getfield 32, 3) := by decide +kernel
theorem dX6_turn_91 : decode cX6_turn 91 = .ok (.iload_n 2, 1) := by decide +kernel
theorem dX6_turn_92 : decode cX6_turn 92 = .ok (.laload, 1) := by decide +kernel
theorem dX6_turn_93 : decode cX6_turn 93 = .ok (.lastore, 1) := by decide +kernel
theorem dX6_turn_94 : decode cX6_turn 94 = .ok (.aload_n 0, 1) := by decide +kernel
theorem dX6_turn_95 : decode cX6_turn 95 = .ok (.getfield 32, 3) := by decide +kernel
theorem dX6_turn_98 : decode cX6_turn 98 = .ok (.iload_n 2, 1) := by decide +kernel
theorem dX6_turn_99 : decode cX6_turn 99 = .ok (.lconst 0, 1) := by decide +kernel
theorem dX6_turn_100 : decode cX6_turn 100 = .ok (.lastore, 1) := by decide +kernel
theorem dX6_turn_101 : decode cX6_turn 101 = .ok (.iinc 2 1, 3) := by decide +kernel
theorem dX6_turn_104 : decode cX6_turn 104 = .ok (.goto (-29), 3) := by decide +kernel
theorem dX6_turn_107 : decode cX6_turn 107 = .ok (.aload_n 0, 1) := by decide +kernel
theorem dX6_turn_108 : decode cX6_turn 108 = .ok (.getfield 99, 3) := by decide +kernel
theorem dX6_turn_111 : decode cX6_turn 111 = .ok (.istore_n 2, 1) := by decide +kernel
theorem dX6_turn_112 : decode cX6_turn 112 = .ok (.aload_n 0, 1) := by decide +kernel
theorem dX6_turn_113 : decode cX6_turn 113 = .ok (.getfield 102, 3) := by decide +kernel
theorem dX6_turn_116 : decode cX6_turn 116 = .ok (.istore_n 3, 1) := by decide +kernel
theorem dX6_turn_117 : decode cX6_turn 117 = .ok (.aload_n 0, 1) := by decide +kernel
theorem dX6_turn_118 : decode cX6_turn 118 = .ok (.iload_n 1, 1) := by decide +kernel
theorem dX6_turn_119 : decode cX6_turn 119 = .ok (.ifCond .ne 7, 3) := by decide +kernel
theorem dX6_turn_122 : decode cX6_turn 122 = .ok (.iload_n 2, 1) := by decide +kernel
theorem dX6_turn_123 : decode cX6_turn 123 = .ok (.goto 4, 3) := by decide +kernel
theorem dX6_turn_126 : decode cX6_turn 126 = .ok (.iload_n 3, 1) := by decide +kernel
theorem dX6_turn_127 : decode cX6_turn 127 = .ok (.putfield 99, 3) := by decide +kernel
theorem dX6_turn_130 : decode cX6_turn 130 = .ok (.aload_n 0, 1) := by decide +kernel
theorem dX6_turn_131 : decode cX6_turn 131 = .ok (.iload_n 1, 1) := by decide +kernel
theorem dX6_turn_132 : decode cX6_turn 132 = .ok (.ifCond .ne 7, 3) := by decide +kernel
theorem dX6_turn_135 : decode cX6_turn 135 = .ok (.iload_n 3, 1) := by decide +kernel
theorem dX6_turn_136 : decode cX6_turn 136 = .ok (.goto 4, 3) := by decide +kernel
theorem dX6_turn_139 : decode cX6_turn 139 = .ok (.iload_n 2, 1) := by decide +kernel
theorem dX6_turn_140 : decode cX6_turn 140 = .ok (.putfield 102, 3) := by decide +kernel
theorem dX6_turn_143 : decode cX6_turn 143 = .ok (.iconst 0, 1) := by decide +kernel
theorem dX6_turn_144 : decode cX6_turn 144 = .ok (.istore 4, 2) := by decide +kernel
theorem dX6_turn_146 : decode cX6_turn 146 = .ok (.iload 4, 2) := by decide +kernel
theorem dX6_turn_148 : decode cX6_turn 148 = .ok (.iload_n 3, 1) := by decide +kernel
theorem dX6_turn_149 : decode cX6_turn 149 = .ok (.if_icmp .ge 151, 3) := by decide +kernel
theorem dX6_turn_152 : decode cX6_turn 152 = .ok (.iconst 0, 1) := by decide +kernel
theorem dX6_turn_153 : decode cX6_turn 153 = .ok (.istore 5, 2) := by decide +kernel
theorem dX6_turn_155 : decode cX6_turn 155 = .ok (.iload 5, 2) := by decide +kernel
theorem dX6_turn_157 : decode cX6_turn 157 = .ok (.iload_n 2, 1) := by decide +kernel
theorem dX6_turn_158 : decode cX6_turn 158 = .ok (.if_icmp .ge 136, 3) := by decide +kernel
theorem dX6_turn_161 : decode cX6_turn 161 = .ok (.bipush 8, 2) := by decide +kernel
theorem dX6_turn_163 : decode cX6_turn 163 = .ok (.iload 4, 2) := by decide +kernel
theorem dX6_turn_165 : decode cX6_turn 165 = .ok (.imul, 1) := by decide +kernel
theorem dX6_turn_166 : decode cX6_turn 166 = .ok (.iload 5, 2) := by decide +kernel
theorem dX6_turn_168 : decode cX6_turn 168 = .ok (.iadd, 1) := by decide +kernel
theorem dX6_turn_169 : decode cX6_turn 169 = .ok (.istore 6, 2) := by decide +kernel
theorem dX6_turn_171 : decode cX6_turn 171 = .ok (.iload_n 1, 1) := by decide +kernel
theorem dX6_turn_172 : decode cX6_turn 172 = .ok (.ifCond .ne 18, 3) := by decide +kernel
theorem dX6_turn_175 : decode cX6_turn 175 = .ok (.bipush 8, 2) := by decide +kernel
theorem dX6_turn_177 : decode cX6_turn 177 = .ok (.iload 4, 2) := by decide +kernel
theorem dX6_turn_179 : decode cX6_turn 179 = .ok (.imul, 1) := by decide +kernel
theorem dX6_turn_180 : decode cX6_turn 180 = .ok (.iload_n 2, 1) := by decide +kernel
theorem dX6_turn_181 : decode cX6_turn 181 = .ok (.iadd, 1) := by decide +kernel
theorem dX6_turn_182 : decode cX6_turn 182 = .ok (.iconst 1, 1) := by decide +kernel
theorem dX6_turn_183 : decode cX6_turn 183 = .ok (.isub, 1) := by decide +kernel
theorem dX6_turn_184 : decode cX6_turn 184 = .ok (.iload 5, 2) := by decide +kernel
theorem dX6_turn_186 : decode cX6_turn 186 = .ok (.isub, 1) := by decide +kernel
theorem dX6_turn_187 : decode cX6_turn 187 = .ok (.goto 15, 3) := by decide +kernel
theorem dX6_turn_190 : decode cX6_turn 190 = .ok (.bipush 8, 2) := by decide +kernel
theorem dX6_turn_192 : decode cX6_turn 192 = .ok (.iload 5, 2) := by decide +kernel
theorem dX6_turn_194 : decode cX6_turn 194 = .ok (.imul, 1) := by decide +kernel
theorem dX6_turn_195 : decode cX6_turn 195 = .ok (.iload_n 3, 1) := by decide +kernel
theorem dX6_turn_196 : decode cX6_turn 196 = .ok (.iadd, 1) := by decide +kernel
theorem dX6_turn_197 : decode cX6_turn 197 = .ok (.iconst 1, 1) := by decide +kernel
theorem dX6_turn_198 : decode cX6_turn 198 = .ok (.isub, 1) := by decide +kernel
theorem dX6_turn_199 : decode cX6_turn 199 = .ok (.iload 4, 2) := by decide +kernel
theorem dX6_turn_201 : decode cX6_turn 201 = .ok (.isub, 1) := by decide +kernel
theorem dX6_turn_202 : decode cX6_turn 202 = .ok (.istore 7, 2) := by decide +kernel
theorem dX6_turn_204 : decode cX6_turn 204 = .ok (.aload_n 0, 1) := by decide +kernel
theorem dX6_turn_205 : decode cX6_turn 205 = .ok (.getfield 23, 3) := by decide +kernel
theorem dX6_turn_208 : decode cX6_turn 208 = .ok (.iload 7, 2) := by decide +kernel
theorem dX6_turn_210 : decode cX6_turn 210 = .ok (.aload_n 0, 1) := by decide +kernel
theorem dX6_turn_211 : decode cX6_turn 211 = .ok (.getfield 63, 3) := by decide +kernel
theorem dX6_turn_214 : decode cX6_turn 214 = .ok (.iload 6, 2) := by decide +kernel
theorem dX6_turn_216 : decode cX6_turn 216 = .ok (.iaload, 1) := by decide +kernel
theorem dX6_turn_217 : decode cX6_turn 217 = .ok (.iastore, 1) := by decide +kernel
theorem dX6_turn_218 : decode cX6_turn 218 = .ok (.aload_n 0, 1) := by decide +kernel
theorem dX6_turn_219 : decode cX6_turn 219 = .ok (.getfield 26, 3) := by decide +kernel
theorem dX6_turn_222 : decode cX6_turn 222 = .ok (.iload 7, 2) := by decide +kernel
theorem dX6_turn_224 : decode cX6_turn 224 = .ok (.aload_n 0, 1) := by decide +kernel
theorem dX6_turn_225 : decode cX6_turn 225 = .ok (.getfield 66, 3) := by decide +kernel
theorem dX6_turn_228 : decode cX6_turn 228 = .ok (.iload 6, 2) := by decide +kernel
theorem dX6_turn_230 : decode cX6_turn 230 = .ok (.iaload, 1) := by decide +kernel
theorem dX6_turn_231 : decode cX6_turn 231 = .ok (.iastore, 1) := by decide +kernel
theorem dX6_turn_232 : decode cX6_turn 232 = .ok (.aload_n 0, 1) := by decide +kernel
theorem dX6_turn_233 : decode cX6_turn 233 = .ok (.getfield 29, 3) := by decide +kernel
theorem dX6_turn_236 : decode cX6_turn 236 = .ok (.iload 7, 2) := by decide +kernel
theorem dX6_turn_238 : decode cX6_turn 238 = .ok (.aload_n 0, 1) := by decide +kernel
theorem dX6_turn_239 : decode cX6_turn 239 = .ok (.getfield 69, 3) := by decide +kernel
theorem dX6_turn_242 : decode cX6_turn 242 = .ok (.iload 6, 2) := by decide +kernel
theorem dX6_turn_244 : decode cX6_turn 244 = .ok (.iaload, 1) := by decide +kernel
theorem dX6_turn_245 : decode cX6_turn 245 = .ok (.iastore, 1) := by decide +kernel
theorem dX6_turn_246 : decode cX6_turn 246 = .ok (.iconst 0, 1) := by decide +kernel
theorem dX6_turn_247 : decode cX6_turn 247 = .ok (.istore 8, 2) := by decide +kernel
theorem dX6_turn_249 : decode cX6_turn 249 = .ok (.iload 8, 2) := by decide +kernel
theorem dX6_turn_251 : decode cX6_turn 251 = .ok (.bipush 61, 2) := by decide +kernel
theorem dX6_turn_253 : decode cX6_turn 253 = .ok (.if_icmp .ge 35, 3) := by decide +kernel
theorem dX6_turn_256 : decode cX6_turn 256 = .ok (.aload_n 0, 1) := by decide +kernel
theorem dX6_turn_257 : decode cX6_turn 257 = .ok (.getfield 32, 3) := by decide +kernel
theorem dX6_turn_260 : decode cX6_turn 260 = .ok (.bipush 61, 2) := by decide +kernel
theorem dX6_turn_262 : decode cX6_turn 262 = .ok (.iload 7, 2) := by decide +kernel
theorem dX6_turn_264 : decode cX6_turn 264 = .ok (.imul, 1) := by decide +kernel
theorem dX6_turn_265 : decode cX6_turn 265 = .ok (.iload 8, 2) := by decide +kernel
theorem dX6_turn_267 : decode cX6_turn 267 = .ok (.iadd, 1) := by decide +kernel
theorem dX6_turn_268 : decode cX6_turn 268 = .ok (.aload_n 0, 1) := by decide +kernel
theorem dX6_turn_269 : decode cX6_turn 269 = .ok (.getfield 57, 3) := by decide +kernel
theorem dX6_turn_272 : decode cX6_turn 272 = .ok (.bipush 61, 2) := by decide +kernel
theorem dX6_turn_274 : decode cX6_turn 274 = .ok (.iload 6, 2) := by decide +kernel
theorem dX6_turn_276 : decode cX6_turn 276 = .ok (.imul, 1) := by decide +kernel
theorem dX6_turn_277 : decode cX6_turn 277 = .ok (.iload 8, 2) := by decide +kernel
theorem dX6_turn_279 : decode cX6_turn 279 = .ok (.iadd, 1) := by decide +kernel
theorem dX6_turn_280 : decode cX6_turn 280 = .ok (.laload, 1) := by decide +kernel
theorem dX6_turn_281 : decode cX6_turn 281 = .ok (.lastore, 1) := by decide +kernel
theorem dX6_turn_282 : decode cX6_turn 282 = .ok (.iinc 8 1, 3) := by decide +kernel
theorem dX6_turn_285 : decode cX6_turn 285 = .ok (.goto (-36), 3) := by decide +kernel
theorem dX6_turn_288 : decode cX6_turn 288 = .ok (.iinc 5 1, 3) := by decide +kernel
theorem dX6_turn_291 : decode cX6_turn 291 = .ok (.goto (-136), 3) := by decide +kernel
theorem dX6_turn_294 : decode cX6_turn 294 = .ok (.iinc 4 1, 3) := by decide +kernel
theorem dX6_turn_297 : decode cX6_turn 297 = .ok (.goto (-151), 3) := by decide +kernel
theorem dX6_turn_300 : decode cX6_turn 300 = .ok (.aload_n 0, 1) := by decide +kernel
theorem dX6_turn_301 : decode cX6_turn 301 = .ok (.iconst 0, 1) := by decide +kernel
theorem dX6_turn_302 : decode cX6_turn 302 = .ok (.putfield 110, 3) := by decide +kernel
theorem dX6_turn_305 : decode cX6_turn 305 = .ok (.aload_n 0, 1) := by decide +kernel
theorem dX6_turn_306 : decode cX6_turn 306 = .ok (.getfield 99, 3) := by decide +kernel
theorem dX6_turn_309 : decode cX6_turn 309 = .ok (.ireturn, 1) := by decide +kernel
theorem dX6_count_0 : decode cX6_count 0 = .ok (.iconst 0, 1) := by decide +kernel
theorem dX6_count_1 : decode cX6_count 1 = .ok (.istore_n 2, 1) := by decide +kernel
theorem dX6_count_2 : decode cX6_count 2 = .ok (.iload_n 1, 1) := by decide +kernel
theorem dX6_count_3 : decode cX6_count 3 = .ok (.tableswitch 150 0 6 #[41, 46, 51, 56, 61, 66, 115], 41) := by decide +kernel
theorem dX6_count_44 : decode cX6_count 44 = .ok (.aload_n 0, 1) := by decide +kernel
theorem dX6_count_45 : decode cX6_count 45 = .ok (.getfield 99, 3) := by decide +kernel
theorem dX6_count_48 : decode cX6_count 48 = .ok (.ireturn, 1) := by decide +kernel
theorem dX6_count_49 : decode cX6_count 49 = .ok (.aload_n 0, 1) := by decide +kernel
theorem dX6_count_50 : decode cX6_count 50 = .ok (.getfield 102, 3) := by decide +kernel
theorem dX6_count_53 : decode cX6_count 53 = .ok (.ireturn, 1) := by decide +kernel
theorem dX6_count_54 : decode cX6_count 54 = .ok (.aload_n 0, 1) := by decide +kernel
theorem dX6_count_55 : decode cX6_count 55 = .ok (.getfield 107, 3) := by decide +kernel
theorem dX6_count_58 : decode cX6_count 58 = .ok (.ireturn, 1) := by decide +kernel
theorem dX6_count_59 : decode cX6_count 59 = .ok (.aload_n 0, 1) := by decide +kernel
theorem dX6_count_60 : decode cX6_count 60 = .ok (.getfield 110, 3) := by decide +kernel
theorem dX6_count_63 : decode cX6_count 63 = .ok (.ireturn, 1) := by decide +kernel
theorem dX6_count_64 : decode cX6_count 64 = .ok (.aload_n 0, 1) := by decide +kernel
theorem dX6_count_65 : decode cX6_count 65 = .ok (.getfield 72, 3) := by decide +kernel
theorem dX6_count_68 : decode cX6_count 68 = .ok (.ireturn, 1) := by decide +kernel
theorem dX6_count_69 : decode cX6_count 69 = .ok (.iconst 0, 1) := by decide +kernel
theorem dX6_count_70 : decode cX6_count 70 = .ok (.istore_n 3, 1) := by decide +kernel
theorem dX6_count_71 : decode cX6_count 71 = .ok (.iload_n 3, 1) := by decide +kernel
theorem dX6_count_72 : decode cX6_count 72 = .ok (.bipush 64, 2) := by decide +kernel
theorem dX6_count_74 : decode cX6_count 74 = .ok (.if_icmp .ge 42, 3) := by decide +kernel
theorem dX6_count_77 : decode cX6_count 77 = .ok (.iload_n 2, 1) := by decide +kernel
theorem dX6_count_78 : decode cX6_count 78 = .ok (.aload_n 0, 1) := by decide +kernel
theorem dX6_count_79 : decode cX6_count 79 = .ok (.iload_n 3, 1) := by decide +kernel
theorem dX6_count_80 : decode cX6_count 80 = .ok (.bipush 8, 2) := by decide +kernel
theorem dX6_count_82 : decode cX6_count 82 = .ok (.irem, 1) := by decide +kernel
theorem dX6_count_83 : decode cX6_count 83 = .ok (.iload_n 3, 1) := by decide +kernel
theorem dX6_count_84 : decode cX6_count 84 = .ok (.bipush 8, 2) := by decide +kernel
theorem dX6_count_86 : decode cX6_count 86 = .ok (.idiv, 1) := by decide +kernel
theorem dX6_count_87 : decode cX6_count 87 = .ok (.invokevirtual 115, 3) := by decide +kernel
theorem dX6_count_90 : decode cX6_count 90 = .ok (.ifCond .eq 17, 3) := by decide +kernel
theorem dX6_count_93 : decode cX6_count 93 = .ok (.aload_n 0, 1) := by decide +kernel
theorem dX6_count_94 : decode cX6_count 94 = .ok (.getfield 23, 3) := by decide +kernel
theorem dX6_count_97 : decode cX6_count 97 = .ok (.iload_n 3, 1) := by decide +kernel
theorem dX6_count_98 : decode cX6_count 98 = .ok (.iaload, 1) := by decide +kernel
theorem dX6_count_99 : decode cX6_count 99 = .ok (.iconst 4, 1) := by decide +kernel
theorem dX6_count_100 : decode cX6_count 100 = .ok (.if_icmp .ne 7, 3) := by decide +kernel
theorem dX6_count_103 : decode cX6_count 103 = .ok (.iconst 1, 1) := by decide +kernel
theorem dX6_count_104 : decode cX6_count 104 = .ok (.goto 4, 3) := by decide +kernel
theorem dX6_count_107 : decode cX6_count 107 = .ok (.iconst 0, 1) := by decide +kernel
theorem dX6_count_108 : decode cX6_count 108 = .ok (.iadd, 1) := by decide +kernel
theorem dX6_count_109 : decode cX6_count 109 = .ok (.istore_n 2, 1) := by decide +kernel
theorem dX6_count_110 : decode cX6_count 110 = .ok (.iinc 3 1, 3) := by decide +kernel
theorem dX6_count_113 : decode cX6_count 113 = .ok (.goto (-42), 3) := by decide +kernel
theorem dX6_count_116 : decode cX6_count 116 = .ok (.iload_n 2, 1) := by decide +kernel
theorem dX6_count_117 : decode cX6_count 117 = .ok (.ireturn, 1) := by decide +kernel
theorem dX6_count_118 : decode cX6_count 118 = .ok (.iconst 0, 1) := by decide +kernel
theorem dX6_count_119 : decode cX6_count 119 = .ok (.istore_n 3, 1) := by decide +kernel
theorem dX6_count_120 : decode cX6_count 120 = .ok (.iload_n 3, 1) := by decide +kernel
theorem dX6_count_121 : decode cX6_count 121 = .ok (.bipush 8, 2) := by decide +kernel
theorem dX6_count_123 : decode cX6_count 123 = .ok (.if_icmp .ge 28, 3) := by decide +kernel
theorem dX6_count_126 : decode cX6_count 126 = .ok (.iload_n 2, 1) := by decide +kernel
theorem dX6_count_127 : decode cX6_count 127 = .ok (.aload_n 0, 1) := by decide +kernel
theorem dX6_count_128 : decode cX6_count 128 = .ok (.getfield 7, 3) := by decide +kernel
theorem dX6_count_131 : decode cX6_count 131 = .ok (.iload_n 3, 1) := by decide +kernel
theorem dX6_count_132 : decode cX6_count 132 = .ok (.iaload, 1) := by decide +kernel
theorem dX6_count_133 : decode cX6_count 133 = .ok (.bipush (-9), 2) := by decide +kernel
theorem dX6_count_135 : decode cX6_count 135 = .ok (.if_icmp .ne 7, 3) := by decide +kernel
theorem dX6_count_138 : decode cX6_count 138 = .ok (.iconst 0, 1) := by decide +kernel
theorem dX6_count_139 : decode cX6_count 139 = .ok (.goto 4, 3) := by decide +kernel
theorem dX6_count_142 : decode cX6_count 142 = .ok (.iconst 1, 1) := by decide +kernel
theorem dX6_count_143 : decode cX6_count 143 = .ok (.iadd, 1) := by decide +kernel
theorem dX6_count_144 : decode cX6_count 144 = .ok (.istore_n 2, 1) := by decide +kernel
theorem dX6_count_145 : decode cX6_count 145 = .ok (.iinc 3 1, 3) := by decide +kernel
theorem dX6_count_148 : decode cX6_count 148 = .ok (.goto (-28), 3) := by decide +kernel
theorem dX6_count_151 : decode cX6_count 151 = .ok (.iload_n 2, 1) := by decide +kernel
theorem dX6_count_152 : decode cX6_count 152 = .ok (.ireturn, 1) := by decide +kernel
theorem dX6_count_153 : decode cX6_count 153 = .ok (.bipush (-2), 2) := by decide +kernel
theorem dX6_count_155 : decode cX6_count 155 = .ok (.ireturn, 1) := by decide +kernel
theorem dJ9_min_f86c9_0 : decode cJ9_min_f86c9 0 = .ok (.lload_n 0, 1) := by decide +kernel
theorem dJ9_min_f86c9_1 : decode cJ9_min_f86c9 1 = .ok (.lload_n 2, 1) := by decide +kernel
theorem dJ9_min_f86c9_2 : decode cJ9_min_f86c9 2 = .ok (.lcmp, 1) := by decide +kernel
theorem dJ9_min_f86c9_3 : decode cJ9_min_f86c9 3 = .ok (.ifCond .gt 7, 3) := by decide +kernel
theorem dJ9_min_f86c9_6 : decode cJ9_min_f86c9 6 = .ok (.lload_n 0, 1) := by decide +kernel
theorem dJ9_min_f86c9_7 : decode cJ9_min_f86c9 7 = .ok (.goto 4, 3) := by decide +kernel
theorem dJ9_min_f86c9_10 : decode cJ9_min_f86c9 10 = .ok (.lload_n 2, 1) := by decide +kernel
theorem dJ9_min_f86c9_11 : decode cJ9_min_f86c9 11 = .ok (.lreturn, 1) := by decide +kernel
theorem dJ7_fill_d0a16_0 : decode cJ7_fill_d0a16 0 = .ok (.iconst 0, 1) := by decide +kernel
theorem dJ7_fill_d0a16_1 : decode cJ7_fill_d0a16 1 = .ok (.istore_n 3, 1) := by decide +kernel
theorem dJ7_fill_d0a16_2 : decode cJ7_fill_d0a16 2 = .ok (.aload_n 0, 1) := by decide +kernel
theorem dJ7_fill_d0a16_3 : decode cJ7_fill_d0a16 3 = .ok (.arraylength, 1) := by decide +kernel
theorem dJ7_fill_d0a16_4 : decode cJ7_fill_d0a16 4 = .ok (.istore 4, 2) := by decide +kernel
theorem dJ7_fill_d0a16_6 : decode cJ7_fill_d0a16 6 = .ok (.iload_n 3, 1) := by decide +kernel
theorem dJ7_fill_d0a16_7 : decode cJ7_fill_d0a16 7 = .ok (.iload 4, 2) := by decide +kernel
theorem dJ7_fill_d0a16_9 : decode cJ7_fill_d0a16 9 = .ok (.if_icmp .ge 13, 3) := by decide +kernel
theorem dJ7_fill_d0a16_12 : decode cJ7_fill_d0a16 12 = .ok (.aload_n 0, 1) := by decide +kernel
theorem dJ7_fill_d0a16_13 : decode cJ7_fill_d0a16 13 = .ok (.iload_n 3, 1) := by decide +kernel
theorem dJ7_fill_d0a16_14 : decode cJ7_fill_d0a16 14 = .ok (.lload_n 1, 1) := by decide +kernel
theorem dJ7_fill_d0a16_15 : decode cJ7_fill_d0a16 15 = .ok (.lastore, 1) := by decide +kernel
theorem dJ7_fill_d0a16_16 : decode cJ7_fill_d0a16 16 = .ok (.iinc 3 1, 3) := by decide +kernel
theorem dJ7_fill_d0a16_19 : decode cJ7_fill_d0a16 19 = .ok (.goto (-13), 3) := by decide +kernel
theorem dJ7_fill_d0a16_22 : decode cJ7_fill_d0a16 22 = .ok (.return_, 1) := by decide +kernel
theorem dL_law_0 : decode cL_law 0 = .ok (.new 7, 3) := by decide +kernel
theorem dL_law_3 : decode cL_law 3 = .ok (.dup, 1) := by decide +kernel
theorem dL_law_4 : decode cL_law 4 = .ok (.invokespecial 9, 3) := by decide +kernel
theorem dL_law_7 : decode cL_law 7 = .ok (.astore_n 1, 1) := by decide +kernel
theorem dL_law_8 : decode cL_law 8 = .ok (.new 10, 3) := by decide +kernel
theorem dL_law_11 : decode cL_law 11 = .ok (.dup, 1) := by decide +kernel
theorem dL_law_12 : decode cL_law 12 = .ok (.invokespecial 12, 3) := by decide +kernel
theorem dL_law_15 : decode cL_law 15 = .ok (.astore_n 2, 1) := by decide +kernel
theorem dL_law_16 : decode cL_law 16 = .ok (.iconst 0, 1) := by decide +kernel
theorem dL_law_17 : decode cL_law 17 = .ok (.istore_n 3, 1) := by decide +kernel
theorem dL_law_18 : decode cL_law 18 = .ok (.iload_n 3, 1) := by decide +kernel
theorem dL_law_19 : decode cL_law 19 = .ok (.aload_n 0, 1) := by decide +kernel
theorem dL_law_20 : decode cL_law 20 = .ok (.arraylength, 1) := by decide +kernel
theorem dL_law_21 : decode cL_law 21 = .ok (.bipush 6, 2) := by decide +kernel
theorem dL_law_23 : decode cL_law 23 = .ok (.isub, 1) := by decide +kernel
theorem dL_law_24 : decode cL_law 24 = .ok (.if_icmp .gt 940, 3) := by decide +kernel
theorem dL_law_27 : decode cL_law 27 = .ok (.aload_n 0, 1) := by decide +kernel
theorem dL_law_28 : decode cL_law 28 = .ok (.iload_n 3, 1) := by decide +kernel
theorem dL_law_29 : decode cL_law 29 = .ok (.iaload, 1) := by decide +kernel
theorem dL_law_30 : decode cL_law 30 = .ok (.bipush 31, 2) := by decide +kernel
theorem dL_law_32 : decode cL_law 32 = .ok (.iand, 1) := by decide +kernel
theorem dL_law_33 : decode cL_law 33 = .ok (.tableswitch 925 0 20 #[99, 142, 165, 238, 282, 345, 378, 431, 484, 543, 576, 620, 643, 656, 679, 723, 777, 811, 835, 879, 902], 99) := by decide +kernel
theorem dL_law_132 : decode cL_law 132 = .ok (.aload_n 1, 1) := by decide +kernel
theorem dL_law_133 : decode cL_law 133 = .ok (.aload_n 0, 1) := by decide +kernel
theorem dL_law_134 : decode cL_law 134 = .ok (.iload_n 3, 1) := by decide +kernel
theorem dL_law_135 : decode cL_law 135 = .ok (.iconst 1, 1) := by decide +kernel
theorem dL_law_136 : decode cL_law 136 = .ok (.iadd, 1) := by decide +kernel
theorem dL_law_137 : decode cL_law 137 = .ok (.iaload, 1) := by decide +kernel
theorem dL_law_138 : decode cL_law 138 = .ok (.aload_n 0, 1) := by decide +kernel
theorem dL_law_139 : decode cL_law 139 = .ok (.iload_n 3, 1) := by decide +kernel
theorem dL_law_140 : decode cL_law 140 = .ok (.iconst 2, 1) := by decide +kernel
theorem dL_law_141 : decode cL_law 141 = .ok (.iadd, 1) := by decide +kernel
theorem dL_law_142 : decode cL_law 142 = .ok (.iaload, 1) := by decide +kernel
theorem dL_law_143 : decode cL_law 143 = .ok (.aload_n 0, 1) := by decide +kernel
theorem dL_law_144 : decode cL_law 144 = .ok (.iload_n 3, 1) := by decide +kernel
theorem dL_law_145 : decode cL_law 145 = .ok (.iconst 3, 1) := by decide +kernel
theorem dL_law_146 : decode cL_law 146 = .ok (.iadd, 1) := by decide +kernel
theorem dL_law_147 : decode cL_law 147 = .ok (.iaload, 1) := by decide +kernel
theorem dL_law_148 : decode cL_law 148 = .ok (.invokevirtual 13, 3) := by decide +kernel
theorem dL_law_151 : decode cL_law 151 = .ok (.aload_n 2, 1) := by decide +kernel
theorem dL_law_152 : decode cL_law 152 = .ok (.aload_n 0, 1) := by decide +kernel
theorem dL_law_153 : decode cL_law 153 = .ok (.iload_n 3, 1) := by decide +kernel
theorem dL_law_154 : decode cL_law 154 = .ok (.iconst 1, 1) := by decide +kernel
theorem dL_law_155 : decode cL_law 155 = .ok (.iadd, 1) := by decide +kernel
theorem dL_law_156 : decode cL_law 156 = .ok (.iaload, 1) := by decide +kernel
theorem dL_law_157 : decode cL_law 157 = .ok (.aload_n 0, 1) := by decide +kernel
theorem dL_law_158 : decode cL_law 158 = .ok (.iload_n 3, 1) := by decide +kernel
theorem dL_law_159 : decode cL_law 159 = .ok (.iconst 2, 1) := by decide +kernel
theorem dL_law_160 : decode cL_law 160 = .ok (.iadd, 1) := by decide +kernel
theorem dL_law_161 : decode cL_law 161 = .ok (.iaload, 1) := by decide +kernel
theorem dL_law_162 : decode cL_law 162 = .ok (.aload_n 0, 1) := by decide +kernel
theorem dL_law_163 : decode cL_law 163 = .ok (.iload_n 3, 1) := by decide +kernel
theorem dL_law_164 : decode cL_law 164 = .ok (.iconst 3, 1) := by decide +kernel
theorem dL_law_165 : decode cL_law 165 = .ok (.iadd, 1) := by decide +kernel
theorem dL_law_166 : decode cL_law 166 = .ok (.iaload, 1) := by decide +kernel
theorem dL_law_167 : decode cL_law 167 = .ok (.invokevirtual 17, 3) := by decide +kernel
theorem dL_law_170 : decode cL_law 170 = .ok (.if_icmp .eq 788, 3) := by decide +kernel
theorem dL_law_173 : decode cL_law 173 = .ok (.iconst 0, 1) := by decide +kernel
theorem dL_law_174 : decode cL_law 174 = .ok (.ireturn, 1) := by decide +kernel
theorem dL_law_175 : decode cL_law 175 = .ok (.aload_n 1, 1) := by decide +kernel
theorem dL_law_176 : decode cL_law 176 = .ok (.aload_n 0, 1) := by decide +kernel
theorem dL_law_177 : decode cL_law 177 = .ok (.iload_n 3, 1) := by decide +kernel
theorem dL_law_178 : decode cL_law 178 = .ok (.iconst 1, 1) := by decide +kernel
theorem dL_law_179 : decode cL_law 179 = .ok (.iadd, 1) := by decide +kernel
theorem dL_law_180 : decode cL_law 180 = .ok (.iaload, 1) := by decide +kernel
theorem dL_law_181 : decode cL_law 181 = .ok (.invokevirtual 18, 3) := by decide +kernel
theorem dL_law_184 : decode cL_law 184 = .ok (.aload_n 2, 1) := by decide +kernel
theorem dL_law_185 : decode cL_law 185 = .ok (.aload_n 0, 1) := by decide +kernel
theorem dL_law_186 : decode cL_law 186 = .ok (.iload_n 3, 1) := by decide +kernel
theorem dL_law_187 : decode cL_law 187 = .ok (.iconst 1, 1) := by decide +kernel
theorem dL_law_188 : decode cL_law 188 = .ok (.iadd, 1) := by decide +kernel
theorem dL_law_189 : decode cL_law 189 = .ok (.iaload, 1) := by decide +kernel
theorem dL_law_190 : decode cL_law 190 = .ok (.invokevirtual 22, 3) := by decide +kernel
theorem dL_law_193 : decode cL_law 193 = .ok (.if_icmp .eq 765, 3) := by decide +kernel
theorem dL_law_196 : decode cL_law 196 = .ok (.iconst 0, 1) := by decide +kernel
theorem dL_law_197 : decode cL_law 197 = .ok (.ireturn, 1) := by decide +kernel
theorem dL_law_198 : decode cL_law 198 = .ok (.aload_n 1, 1) := by decide +kernel
theorem dL_law_199 : decode cL_law 199 = .ok (.aload_n 0, 1) := by decide +kernel
theorem dL_law_200 : decode cL_law 200 = .ok (.iload_n 3, 1) := by decide +kernel
theorem dL_law_201 : decode cL_law 201 = .ok (.iconst 1, 1) := by decide +kernel
theorem dL_law_202 : decode cL_law 202 = .ok (.iadd, 1) := by decide +kernel
theorem dL_law_203 : decode cL_law 203 = .ok (.iaload, 1) := by decide +kernel
theorem dL_law_204 : decode cL_law 204 = .ok (.aload_n 0, 1) := by decide +kernel
theorem dL_law_205 : decode cL_law 205 = .ok (.iload_n 3, 1) := by decide +kernel
theorem dL_law_206 : decode cL_law 206 = .ok (.iconst 2, 1) := by decide +kernel
theorem dL_law_207 : decode cL_law 207 = .ok (.iadd, 1) := by decide +kernel
theorem dL_law_208 : decode cL_law 208 = .ok (.iaload, 1) := by decide +kernel
theorem dL_law_209 : decode cL_law 209 = .ok (.aload_n 0, 1) := by decide +kernel
theorem dL_law_210 : decode cL_law 210 = .ok (.iload_n 3, 1) := by decide +kernel
theorem dL_law_211 : decode cL_law 211 = .ok (.iconst 3, 1) := by decide +kernel
theorem dL_law_212 : decode cL_law 212 = .ok (.iadd, 1) := by decide +kernel
theorem dL_law_213 : decode cL_law 213 = .ok (.iaload, 1) := by decide +kernel
theorem dL_law_214 : decode cL_law 214 = .ok (.i2l, 1) := by decide +kernel
theorem dL_law_215 : decode cL_law 215 = .ok (.bipush 32, 2) := by decide +kernel
theorem dL_law_217 : decode cL_law 217 = .ok (.lshl, 1) := by decide +kernel
theorem dL_law_218 : decode cL_law 218 = .ok (.aload_n 0, 1) := by decide +kernel
theorem dL_law_219 : decode cL_law 219 = .ok (.iload_n 3, 1) := by decide +kernel
theorem dL_law_220 : decode cL_law 220 = .ok (.iconst 4, 1) := by decide +kernel
theorem dL_law_221 : decode cL_law 221 = .ok (.iadd, 1) := by decide +kernel
theorem dL_law_222 : decode cL_law 222 = .ok (.iaload, 1) := by decide +kernel
theorem dL_law_223 : decode cL_law 223 = .ok (.i2l, 1) := by decide +kernel
theorem dL_law_224 : decode cL_law 224 = .ok (.ldc2_w 23, 3) := by decide +kernel
theorem dL_law_227 : decode cL_law 227 = .ok (.land, 1) := by decide +kernel
theorem dL_law_228 : decode cL_law 228 = .ok (.lor, 1) := by decide +kernel
theorem dL_law_229 : decode cL_law 229 = .ok (.invokevirtual 25, 3) := by decide +kernel
theorem dL_law_232 : decode cL_law 232 = .ok (.aload_n 2, 1) := by decide +kernel
theorem dL_law_233 : decode cL_law 233 = .ok (.aload_n 0, 1) := by decide +kernel
theorem dL_law_234 : decode cL_law 234 = .ok (.iload_n 3, 1) := by decide +kernel
theorem dL_law_235 : decode cL_law 235 = .ok (.iconst 1, 1) := by decide +kernel
theorem dL_law_236 : decode cL_law 236 = .ok (.iadd, 1) := by decide +kernel
theorem dL_law_237 : decode cL_law 237 = .ok (.iaload, 1) := by decide +kernel
theorem dL_law_238 : decode cL_law 238 = .ok (.aload_n 0, 1) := by decide +kernel
theorem dL_law_239 : decode cL_law 239 = .ok (.iload_n 3, 1) := by decide +kernel
theorem dL_law_240 : decode cL_law 240 = .ok (.iconst 2, 1) := by decide +kernel
theorem dL_law_241 : decode cL_law 241 = .ok (.iadd, 1) := by decide +kernel
theorem dL_law_242 : decode cL_law 242 = .ok (.iaload, 1) := by decide +kernel
theorem dL_law_243 : decode cL_law 243 = .ok (.aload_n 0, 1) := by decide +kernel
theorem dL_law_244 : decode cL_law 244 = .ok (.iload_n 3, 1) := by decide +kernel
theorem dL_law_245 : decode cL_law 245 = .ok (.iconst 3, 1) := by decide +kernel
theorem dL_law_246 : decode cL_law 246 = .ok (.iadd, 1) := by decide +kernel
theorem dL_law_247 : decode cL_law 247 = .ok (.iaload, 1) := by decide +kernel
theorem dL_law_248 : decode cL_law 248 = .ok (.i2l, 1) := by decide +kernel
theorem dL_law_249 : decode cL_law 249 = .ok (.bipush 32, 2) := by decide +kernel
theorem dL_law_251 : decode cL_law 251 = .ok (.lshl, 1) := by decide +kernel
theorem dL_law_252 : decode cL_law 252 = .ok (.aload_n 0, 1) := by decide +kernel
theorem dL_law_253 : decode cL_law 253 = .ok (.iload_n 3, 1) := by decide +kernel
theorem dL_law_254 : decode cL_law 254 = .ok (.iconst 4, 1) := by decide +kernel
theorem dL_law_255 : decode cL_law 255 = .ok (.iadd, 1) := by decide +kernel
theorem dL_law_256 : decode cL_law 256 = .ok (.iaload, 1) := by decide +kernel
theorem dL_law_257 : decode cL_law 257 = .ok (.i2l, 1) := by decide +kernel
theorem dL_law_258 : decode cL_law 258 = .ok (.ldc2_w 23, 3) := by decide +kernel
theorem dL_law_261 : decode cL_law 261 = .ok (.land, 1) := by decide +kernel
theorem dL_law_262 : decode cL_law 262 = .ok (.lor, 1) := by decide +kernel
theorem dL_law_263 : decode cL_law 263 = .ok (.invokevirtual 29, 3) := by decide +kernel
theorem dL_law_266 : decode cL_law 266 = .ok (.if_icmp .eq 692, 3) := by decide +kernel
theorem dL_law_269 : decode cL_law 269 = .ok (.iconst 0, 1) := by decide +kernel
theorem dL_law_270 : decode cL_law 270 = .ok (.ireturn, 1) := by decide +kernel
theorem dL_law_271 : decode cL_law 271 = .ok (.aload_n 1, 1) := by decide +kernel
theorem dL_law_272 : decode cL_law 272 = .ok (.aload_n 0, 1) := by decide +kernel
theorem dL_law_273 : decode cL_law 273 = .ok (.iload_n 3, 1) := by decide +kernel
theorem dL_law_274 : decode cL_law 274 = .ok (.iconst 1, 1) := by decide +kernel
theorem dL_law_275 : decode cL_law 275 = .ok (.iadd, 1) := by decide +kernel
theorem dL_law_276 : decode cL_law 276 = .ok (.iaload, 1) := by decide +kernel
theorem dL_law_277 : decode cL_law 277 = .ok (.aload_n 0, 1) := by decide +kernel
theorem dL_law_278 : decode cL_law 278 = .ok (.iload_n 3, 1) := by decide +kernel
theorem dL_law_279 : decode cL_law 279 = .ok (.iconst 2, 1) := by decide +kernel
theorem dL_law_280 : decode cL_law 280 = .ok (.iadd, 1) := by decide +kernel
theorem dL_law_281 : decode cL_law 281 = .ok (.iaload, 1) := by decide +kernel
theorem dL_law_282 : decode cL_law 282 = .ok (.aload_n 0, 1) := by decide +kernel
theorem dL_law_283 : decode cL_law 283 = .ok (.iload_n 3, 1) := by decide +kernel
theorem dL_law_284 : decode cL_law 284 = .ok (.iconst 3, 1) := by decide +kernel
theorem dL_law_285 : decode cL_law 285 = .ok (.iadd, 1) := by decide +kernel
theorem dL_law_286 : decode cL_law 286 = .ok (.iaload, 1) := by decide +kernel
theorem dL_law_287 : decode cL_law 287 = .ok (.invokevirtual 30, 3) := by decide +kernel
theorem dL_law_290 : decode cL_law 290 = .ok (.aload_n 2, 1) := by decide +kernel
theorem dL_law_291 : decode cL_law 291 = .ok (.aload_n 0, 1) := by decide +kernel
theorem dL_law_292 : decode cL_law 292 = .ok (.iload_n 3, 1) := by decide +kernel
theorem dL_law_293 : decode cL_law 293 = .ok (.iconst 1, 1) := by decide +kernel
theorem dL_law_294 : decode cL_law 294 = .ok (.iadd, 1) := by decide +kernel
theorem dL_law_295 : decode cL_law 295 = .ok (.iaload, 1) := by decide +kernel
theorem dL_law_296 : decode cL_law 296 = .ok (.aload_n 0, 1) := by decide +kernel
theorem dL_law_297 : decode cL_law 297 = .ok (.iload_n 3, 1) := by decide +kernel
theorem dL_law_298 : decode cL_law 298 = .ok (.iconst 2, 1) := by decide +kernel
theorem dL_law_299 : decode cL_law 299 = .ok (.iadd, 1) := by decide +kernel
theorem dL_law_300 : decode cL_law 300 = .ok (.iaload, 1) := by decide +kernel
theorem dL_law_301 : decode cL_law 301 = .ok (.aload_n 0, 1) := by decide +kernel
theorem dL_law_302 : decode cL_law 302 = .ok (.iload_n 3, 1) := by decide +kernel
theorem dL_law_303 : decode cL_law 303 = .ok (.iconst 3, 1) := by decide +kernel
theorem dL_law_304 : decode cL_law 304 = .ok (.iadd, 1) := by decide +kernel
theorem dL_law_305 : decode cL_law 305 = .ok (.iaload, 1) := by decide +kernel
theorem dL_law_306 : decode cL_law 306 = .ok (.invokevirtual 34, 3) := by decide +kernel
theorem dL_law_309 : decode cL_law 309 = .ok (.lcmp, 1) := by decide +kernel
theorem dL_law_310 : decode cL_law 310 = .ok (.ifCond .eq 648, 3) := by decide +kernel
theorem dL_law_313 : decode cL_law 313 = .ok (.iconst 0, 1) := by decide +kernel
theorem dL_law_314 : decode cL_law 314 = .ok (.ireturn, 1) := by decide +kernel
theorem dL_law_315 : decode cL_law 315 = .ok (.aload_n 1, 1) := by decide +kernel
theorem dL_law_316 : decode cL_law 316 = .ok (.aload_n 0, 1) := by decide +kernel
theorem dL_law_317 : decode cL_law 317 = .ok (.iload_n 3, 1) := by decide +kernel
theorem dL_law_318 : decode cL_law 318 = .ok (.iconst 1, 1) := by decide +kernel
theorem dL_law_319 : decode cL_law 319 = .ok (.iadd, 1) := by decide +kernel
theorem dL_law_320 : decode cL_law 320 = .ok (.iaload, 1) := by decide +kernel
theorem dL_law_321 : decode cL_law 321 = .ok (.aload_n 0, 1) := by decide +kernel
theorem dL_law_322 : decode cL_law 322 = .ok (.iload_n 3, 1) := by decide +kernel
theorem dL_law_323 : decode cL_law 323 = .ok (.iconst 2, 1) := by decide +kernel
theorem dL_law_324 : decode cL_law 324 = .ok (.iadd, 1) := by decide +kernel
theorem dL_law_325 : decode cL_law 325 = .ok (.iaload, 1) := by decide +kernel
theorem dL_law_326 : decode cL_law 326 = .ok (.aload_n 0, 1) := by decide +kernel
theorem dL_law_327 : decode cL_law 327 = .ok (.iload_n 3, 1) := by decide +kernel
theorem dL_law_328 : decode cL_law 328 = .ok (.iconst 3, 1) := by decide +kernel
theorem dL_law_329 : decode cL_law 329 = .ok (.iadd, 1) := by decide +kernel
theorem dL_law_330 : decode cL_law 330 = .ok (.iaload, 1) := by decide +kernel
theorem dL_law_331 : decode cL_law 331 = .ok (.aload_n 0, 1) := by decide +kernel
theorem dL_law_332 : decode cL_law 332 = .ok (.iload_n 3, 1) := by decide +kernel
theorem dL_law_333 : decode cL_law 333 = .ok (.iconst 4, 1) := by decide +kernel
theorem dL_law_334 : decode cL_law 334 = .ok (.iadd, 1) := by decide +kernel
theorem dL_law_335 : decode cL_law 335 = .ok (.iaload, 1) := by decide +kernel
theorem dL_law_336 : decode cL_law 336 = .ok (.aload_n 0, 1) := by decide +kernel
theorem dL_law_337 : decode cL_law 337 = .ok (.iload_n 3, 1) := by decide +kernel
theorem dL_law_338 : decode cL_law 338 = .ok (.iconst 5, 1) := by decide +kernel
theorem dL_law_339 : decode cL_law 339 = .ok (.iadd, 1) := by decide +kernel
theorem dL_law_340 : decode cL_law 340 = .ok (.iaload, 1) := by decide +kernel
theorem dL_law_341 : decode cL_law 341 = .ok (.invokevirtual 35, 3) := by decide +kernel
theorem dL_law_344 : decode cL_law 344 = .ok (.aload_n 2, 1) := by decide +kernel
theorem dL_law_345 : decode cL_law 345 = .ok (.aload_n 0, 1) := by decide +kernel
theorem dL_law_346 : decode cL_law 346 = .ok (.iload_n 3, 1) := by decide +kernel
theorem dL_law_347 : decode cL_law 347 = .ok (.iconst 1, 1) := by decide +kernel
theorem dL_law_348 : decode cL_law 348 = .ok (.iadd, 1) := by decide +kernel
theorem dL_law_349 : decode cL_law 349 = .ok (.iaload, 1) := by decide +kernel
theorem dL_law_350 : decode cL_law 350 = .ok (.aload_n 0, 1) := by decide +kernel
theorem dL_law_351 : decode cL_law 351 = .ok (.iload_n 3, 1) := by decide +kernel
theorem dL_law_352 : decode cL_law 352 = .ok (.iconst 2, 1) := by decide +kernel
theorem dL_law_353 : decode cL_law 353 = .ok (.iadd, 1) := by decide +kernel
theorem dL_law_354 : decode cL_law 354 = .ok (.iaload, 1) := by decide +kernel
theorem dL_law_355 : decode cL_law 355 = .ok (.aload_n 0, 1) := by decide +kernel
theorem dL_law_356 : decode cL_law 356 = .ok (.iload_n 3, 1) := by decide +kernel
theorem dL_law_357 : decode cL_law 357 = .ok (.iconst 3, 1) := by decide +kernel
theorem dL_law_358 : decode cL_law 358 = .ok (.iadd, 1) := by decide +kernel
theorem dL_law_359 : decode cL_law 359 = .ok (.iaload, 1) := by decide +kernel
theorem dL_law_360 : decode cL_law 360 = .ok (.aload_n 0, 1) := by decide +kernel
theorem dL_law_361 : decode cL_law 361 = .ok (.iload_n 3, 1) := by decide +kernel
theorem dL_law_362 : decode cL_law 362 = .ok (.iconst 4, 1) := by decide +kernel
theorem dL_law_363 : decode cL_law 363 = .ok (.iadd, 1) := by decide +kernel
theorem dL_law_364 : decode cL_law 364 = .ok (.iaload, 1) := by decide +kernel
theorem dL_law_365 : decode cL_law 365 = .ok (.aload_n 0, 1) := by decide +kernel
theorem dL_law_366 : decode cL_law 366 = .ok (.iload_n 3, 1) := by decide +kernel
theorem dL_law_367 : decode cL_law 367 = .ok (.iconst 5, 1) := by decide +kernel
theorem dL_law_368 : decode cL_law 368 = .ok (.iadd, 1) := by decide +kernel
theorem dL_law_369 : decode cL_law 369 = .ok (.iaload, 1) := by decide +kernel
theorem dL_law_370 : decode cL_law 370 = .ok (.invokevirtual 39, 3) := by decide +kernel
theorem dL_law_373 : decode cL_law 373 = .ok (.if_icmp .eq 585, 3) := by decide +kernel
theorem dL_law_376 : decode cL_law 376 = .ok (.iconst 0, 1) := by decide +kernel
theorem dL_law_377 : decode cL_law 377 = .ok (.ireturn, 1) := by decide +kernel
theorem dL_law_378 : decode cL_law 378 = .ok (.aload_n 1, 1) := by decide +kernel
theorem dL_law_379 : decode cL_law 379 = .ok (.aload_n 0, 1) := by decide +kernel
theorem dL_law_380 : decode cL_law 380 = .ok (.iload_n 3, 1) := by decide +kernel
theorem dL_law_381 : decode cL_law 381 = .ok (.iconst 1, 1) := by decide +kernel
theorem dL_law_382 : decode cL_law 382 = .ok (.iadd, 1) := by decide +kernel
theorem dL_law_383 : decode cL_law 383 = .ok (.iaload, 1) := by decide +kernel
theorem dL_law_384 : decode cL_law 384 = .ok (.aload_n 0, 1) := by decide +kernel
theorem dL_law_385 : decode cL_law 385 = .ok (.iload_n 3, 1) := by decide +kernel
theorem dL_law_386 : decode cL_law 386 = .ok (.iconst 2, 1) := by decide +kernel
theorem dL_law_387 : decode cL_law 387 = .ok (.iadd, 1) := by decide +kernel
theorem dL_law_388 : decode cL_law 388 = .ok (.iaload, 1) := by decide +kernel
theorem dL_law_389 : decode cL_law 389 = .ok (.invokevirtual 40, 3) := by decide +kernel
theorem dL_law_392 : decode cL_law 392 = .ok (.aload_n 2, 1) := by decide +kernel
theorem dL_law_393 : decode cL_law 393 = .ok (.aload_n 0, 1) := by decide +kernel
theorem dL_law_394 : decode cL_law 394 = .ok (.iload_n 3, 1) := by decide +kernel
theorem dL_law_395 : decode cL_law 395 = .ok (.iconst 1, 1) := by decide +kernel
theorem dL_law_396 : decode cL_law 396 = .ok (.iadd, 1) := by decide +kernel
theorem dL_law_397 : decode cL_law 397 = .ok (.iaload, 1) := by decide +kernel
theorem dL_law_398 : decode cL_law 398 = .ok (.aload_n 0, 1) := by decide +kernel
theorem dL_law_399 : decode cL_law 399 = .ok (.iload_n 3, 1) := by decide +kernel
theorem dL_law_400 : decode cL_law 400 = .ok (.iconst 2, 1) := by decide +kernel
theorem dL_law_401 : decode cL_law 401 = .ok (.iadd, 1) := by decide +kernel
theorem dL_law_402 : decode cL_law 402 = .ok (.iaload, 1) := by decide +kernel
theorem dL_law_403 : decode cL_law 403 = .ok (.invokevirtual 44, 3) := by decide +kernel
theorem dL_law_406 : decode cL_law 406 = .ok (.if_icmp .eq 552, 3) := by decide +kernel
theorem dL_law_409 : decode cL_law 409 = .ok (.iconst 0, 1) := by decide +kernel
theorem dL_law_410 : decode cL_law 410 = .ok (.ireturn, 1) := by decide +kernel
theorem dL_law_411 : decode cL_law 411 = .ok (.aload_n 1, 1) := by decide +kernel
theorem dL_law_412 : decode cL_law 412 = .ok (.aload_n 0, 1) := by decide +kernel
theorem dL_law_413 : decode cL_law 413 = .ok (.iload_n 3, 1) := by decide +kernel
theorem dL_law_414 : decode cL_law 414 = .ok (.iconst 1, 1) := by decide +kernel
theorem dL_law_415 : decode cL_law 415 = .ok (.iadd, 1) := by decide +kernel
theorem dL_law_416 : decode cL_law 416 = .ok (.iaload, 1) := by decide +kernel
theorem dL_law_417 : decode cL_law 417 = .ok (.aload_n 0, 1) := by decide +kernel
theorem dL_law_418 : decode cL_law 418 = .ok (.iload_n 3, 1) := by decide +kernel
theorem dL_law_419 : decode cL_law 419 = .ok (.iconst 2, 1) := by decide +kernel
theorem dL_law_420 : decode cL_law 420 = .ok (.iadd, 1) := by decide +kernel
theorem dL_law_421 : decode cL_law 421 = .ok (.iaload, 1) := by decide +kernel
theorem dL_law_422 : decode cL_law 422 = .ok (.aload_n 0, 1) := by decide +kernel
theorem dL_law_423 : decode cL_law 423 = .ok (.iload_n 3, 1) := by decide +kernel
theorem dL_law_424 : decode cL_law 424 = .ok (.iconst 3, 1) := by decide +kernel
theorem dL_law_425 : decode cL_law 425 = .ok (.iadd, 1) := by decide +kernel
theorem dL_law_426 : decode cL_law 426 = .ok (.iaload, 1) := by decide +kernel
theorem dL_law_427 : decode cL_law 427 = .ok (.aload_n 0, 1) := by decide +kernel
theorem dL_law_428 : decode cL_law 428 = .ok (.iload_n 3, 1) := by decide +kernel
theorem dL_law_429 : decode cL_law 429 = .ok (.iconst 4, 1) := by decide +kernel
theorem dL_law_430 : decode cL_law 430 = .ok (.iadd, 1) := by decide +kernel
theorem dL_law_431 : decode cL_law 431 = .ok (.iaload, 1) := by decide +kernel
theorem dL_law_432 : decode cL_law 432 = .ok (.invokevirtual 45, 3) := by decide +kernel
theorem dL_law_435 : decode cL_law 435 = .ok (.aload_n 2, 1) := by decide +kernel
theorem dL_law_436 : decode cL_law 436 = .ok (.aload_n 0, 1) := by decide +kernel
theorem dL_law_437 : decode cL_law 437 = .ok (.iload_n 3, 1) := by decide +kernel
theorem dL_law_438 : decode cL_law 438 = .ok (.iconst 1, 1) := by decide +kernel
theorem dL_law_439 : decode cL_law 439 = .ok (.iadd, 1) := by decide +kernel
theorem dL_law_440 : decode cL_law 440 = .ok (.iaload, 1) := by decide +kernel
theorem dL_law_441 : decode cL_law 441 = .ok (.aload_n 0, 1) := by decide +kernel
theorem dL_law_442 : decode cL_law 442 = .ok (.iload_n 3, 1) := by decide +kernel
theorem dL_law_443 : decode cL_law 443 = .ok (.iconst 2, 1) := by decide +kernel
theorem dL_law_444 : decode cL_law 444 = .ok (.iadd, 1) := by decide +kernel
theorem dL_law_445 : decode cL_law 445 = .ok (.iaload, 1) := by decide +kernel
theorem dL_law_446 : decode cL_law 446 = .ok (.aload_n 0, 1) := by decide +kernel
theorem dL_law_447 : decode cL_law 447 = .ok (.iload_n 3, 1) := by decide +kernel
theorem dL_law_448 : decode cL_law 448 = .ok (.iconst 3, 1) := by decide +kernel
theorem dL_law_449 : decode cL_law 449 = .ok (.iadd, 1) := by decide +kernel
theorem dL_law_450 : decode cL_law 450 = .ok (.iaload, 1) := by decide +kernel
theorem dL_law_451 : decode cL_law 451 = .ok (.aload_n 0, 1) := by decide +kernel
theorem dL_law_452 : decode cL_law 452 = .ok (.iload_n 3, 1) := by decide +kernel
theorem dL_law_453 : decode cL_law 453 = .ok (.iconst 4, 1) := by decide +kernel
theorem dL_law_454 : decode cL_law 454 = .ok (.iadd, 1) := by decide +kernel
theorem dL_law_455 : decode cL_law 455 = .ok (.iaload, 1) := by decide +kernel
theorem dL_law_456 : decode cL_law 456 = .ok (.invokevirtual 49, 3) := by decide +kernel
theorem dL_law_459 : decode cL_law 459 = .ok (.if_icmp .eq 499, 3) := by decide +kernel
theorem dL_law_462 : decode cL_law 462 = .ok (.iconst 0, 1) := by decide +kernel
theorem dL_law_463 : decode cL_law 463 = .ok (.ireturn, 1) := by decide +kernel
theorem dL_law_464 : decode cL_law 464 = .ok (.aload_n 1, 1) := by decide +kernel
theorem dL_law_465 : decode cL_law 465 = .ok (.aload_n 0, 1) := by decide +kernel
theorem dL_law_466 : decode cL_law 466 = .ok (.iload_n 3, 1) := by decide +kernel
theorem dL_law_467 : decode cL_law 467 = .ok (.iconst 1, 1) := by decide +kernel
theorem dL_law_468 : decode cL_law 468 = .ok (.iadd, 1) := by decide +kernel
theorem dL_law_469 : decode cL_law 469 = .ok (.iaload, 1) := by decide +kernel
theorem dL_law_470 : decode cL_law 470 = .ok (.aload_n 0, 1) := by decide +kernel
theorem dL_law_471 : decode cL_law 471 = .ok (.iload_n 3, 1) := by decide +kernel
theorem dL_law_472 : decode cL_law 472 = .ok (.iconst 2, 1) := by decide +kernel
theorem dL_law_473 : decode cL_law 473 = .ok (.iadd, 1) := by decide +kernel
theorem dL_law_474 : decode cL_law 474 = .ok (.iaload, 1) := by decide +kernel
theorem dL_law_475 : decode cL_law 475 = .ok (.aload_n 0, 1) := by decide +kernel
theorem dL_law_476 : decode cL_law 476 = .ok (.iload_n 3, 1) := by decide +kernel
theorem dL_law_477 : decode cL_law 477 = .ok (.iconst 3, 1) := by decide +kernel
theorem dL_law_478 : decode cL_law 478 = .ok (.iadd, 1) := by decide +kernel
theorem dL_law_479 : decode cL_law 479 = .ok (.iaload, 1) := by decide +kernel
theorem dL_law_480 : decode cL_law 480 = .ok (.aload_n 0, 1) := by decide +kernel
theorem dL_law_481 : decode cL_law 481 = .ok (.iload_n 3, 1) := by decide +kernel
theorem dL_law_482 : decode cL_law 482 = .ok (.iconst 4, 1) := by decide +kernel
theorem dL_law_483 : decode cL_law 483 = .ok (.iadd, 1) := by decide +kernel
theorem dL_law_484 : decode cL_law 484 = .ok (.iaload, 1) := by decide +kernel
theorem dL_law_485 : decode cL_law 485 = .ok (.invokevirtual 50, 3) := by decide +kernel
theorem dL_law_488 : decode cL_law 488 = .ok (.aload_n 2, 1) := by decide +kernel
theorem dL_law_489 : decode cL_law 489 = .ok (.aload_n 0, 1) := by decide +kernel
theorem dL_law_490 : decode cL_law 490 = .ok (.iload_n 3, 1) := by decide +kernel
theorem dL_law_491 : decode cL_law 491 = .ok (.iconst 1, 1) := by decide +kernel
theorem dL_law_492 : decode cL_law 492 = .ok (.iadd, 1) := by decide +kernel
theorem dL_law_493 : decode cL_law 493 = .ok (.iaload, 1) := by decide +kernel
theorem dL_law_494 : decode cL_law 494 = .ok (.aload_n 0, 1) := by decide +kernel
theorem dL_law_495 : decode cL_law 495 = .ok (.iload_n 3, 1) := by decide +kernel
theorem dL_law_496 : decode cL_law 496 = .ok (.iconst 2, 1) := by decide +kernel
theorem dL_law_497 : decode cL_law 497 = .ok (.iadd, 1) := by decide +kernel
theorem dL_law_498 : decode cL_law 498 = .ok (.iaload, 1) := by decide +kernel
theorem dL_law_499 : decode cL_law 499 = .ok (.aload_n 0, 1) := by decide +kernel
theorem dL_law_500 : decode cL_law 500 = .ok (.iload_n 3, 1) := by decide +kernel
theorem dL_law_501 : decode cL_law 501 = .ok (.iconst 3, 1) := by decide +kernel
theorem dL_law_502 : decode cL_law 502 = .ok (.iadd, 1) := by decide +kernel
theorem dL_law_503 : decode cL_law 503 = .ok (.iaload, 1) := by decide +kernel
theorem dL_law_504 : decode cL_law 504 = .ok (.aload_n 0, 1) := by decide +kernel
theorem dL_law_505 : decode cL_law 505 = .ok (.iload_n 3, 1) := by decide +kernel
theorem dL_law_506 : decode cL_law 506 = .ok (.iconst 4, 1) := by decide +kernel
theorem dL_law_507 : decode cL_law 507 = .ok (.iadd, 1) := by decide +kernel
theorem dL_law_508 : decode cL_law 508 = .ok (.iaload, 1) := by decide +kernel
theorem dL_law_509 : decode cL_law 509 = .ok (.invokevirtual 53, 3) := by decide +kernel
theorem dL_law_512 : decode cL_law 512 = .ok (.if_icmp .eq 446, 3) := by decide +kernel
theorem dL_law_515 : decode cL_law 515 = .ok (.iconst 0, 1) := by decide +kernel
theorem dL_law_516 : decode cL_law 516 = .ok (.ireturn, 1) := by decide +kernel
theorem dL_law_517 : decode cL_law 517 = .ok (.aload_n 1, 1) := by decide +kernel
theorem dL_law_518 : decode cL_law 518 = .ok (.aload_n 0, 1) := by decide +kernel
theorem dL_law_519 : decode cL_law 519 = .ok (.iload_n 3, 1) := by decide +kernel
theorem dL_law_520 : decode cL_law 520 = .ok (.iconst 1, 1) := by decide +kernel
theorem dL_law_521 : decode cL_law 521 = .ok (.iadd, 1) := by decide +kernel
theorem dL_law_522 : decode cL_law 522 = .ok (.iaload, 1) := by decide +kernel
theorem dL_law_523 : decode cL_law 523 = .ok (.ifCond .eq 7, 3) := by decide +kernel
theorem dL_law_526 : decode cL_law 526 = .ok (.iconst 1, 1) := by decide +kernel
theorem dL_law_527 : decode cL_law 527 = .ok (.goto 4, 3) := by decide +kernel
theorem dL_law_530 : decode cL_law 530 = .ok (.iconst 0, 1) := by decide +kernel
theorem dL_law_531 : decode cL_law 531 = .ok (.aload_n 0, 1) := by decide +kernel
theorem dL_law_532 : decode cL_law 532 = .ok (.iload_n 3, 1) := by decide +kernel
theorem dL_law_533 : decode cL_law 533 = .ok (.iconst 2, 1) := by decide +kernel
theorem dL_law_534 : decode cL_law 534 = .ok (.iadd, 1) := by decide +kernel
theorem dL_law_535 : decode cL_law 535 = .ok (.iaload, 1) := by decide +kernel
theorem dL_law_536 : decode cL_law 536 = .ok (.aload_n 0, 1) := by decide +kernel
theorem dL_law_537 : decode cL_law 537 = .ok (.iload_n 3, 1) := by decide +kernel
theorem dL_law_538 : decode cL_law 538 = .ok (.iconst 3, 1) := by decide +kernel
theorem dL_law_539 : decode cL_law 539 = .ok (.iadd, 1) := by decide +kernel
theorem dL_law_540 : decode cL_law 540 = .ok (.iaload, 1) := by decide +kernel
theorem dL_law_541 : decode cL_law 541 = .ok (.invokevirtual 54, 3) := by decide +kernel
theorem dL_law_544 : decode cL_law 544 = .ok (.aload_n 2, 1) := by decide +kernel
theorem dL_law_545 : decode cL_law 545 = .ok (.aload_n 0, 1) := by decide +kernel
theorem dL_law_546 : decode cL_law 546 = .ok (.iload_n 3, 1) := by decide +kernel
theorem dL_law_547 : decode cL_law 547 = .ok (.iconst 1, 1) := by decide +kernel
theorem dL_law_548 : decode cL_law 548 = .ok (.iadd, 1) := by decide +kernel
theorem dL_law_549 : decode cL_law 549 = .ok (.iaload, 1) := by decide +kernel
theorem dL_law_550 : decode cL_law 550 = .ok (.ifCond .eq 7, 3) := by decide +kernel
theorem dL_law_553 : decode cL_law 553 = .ok (.iconst 1, 1) := by decide +kernel
theorem dL_law_554 : decode cL_law 554 = .ok (.goto 4, 3) := by decide +kernel
theorem dL_law_557 : decode cL_law 557 = .ok (.iconst 0, 1) := by decide +kernel
theorem dL_law_558 : decode cL_law 558 = .ok (.aload_n 0, 1) := by decide +kernel
theorem dL_law_559 : decode cL_law 559 = .ok (.iload_n 3, 1) := by decide +kernel
theorem dL_law_560 : decode cL_law 560 = .ok (.iconst 2, 1) := by decide +kernel
theorem dL_law_561 : decode cL_law 561 = .ok (.iadd, 1) := by decide +kernel
theorem dL_law_562 : decode cL_law 562 = .ok (.iaload, 1) := by decide +kernel
theorem dL_law_563 : decode cL_law 563 = .ok (.aload_n 0, 1) := by decide +kernel
theorem dL_law_564 : decode cL_law 564 = .ok (.iload_n 3, 1) := by decide +kernel
theorem dL_law_565 : decode cL_law 565 = .ok (.iconst 3, 1) := by decide +kernel
theorem dL_law_566 : decode cL_law 566 = .ok (.iadd, 1) := by decide +kernel
theorem dL_law_567 : decode cL_law 567 = .ok (.iaload, 1) := by decide +kernel
theorem dL_law_568 : decode cL_law 568 = .ok (.invokevirtual 58, 3) := by decide +kernel
theorem dL_law_571 : decode cL_law 571 = .ok (.if_icmp .eq 387, 3) := by decide +kernel
theorem dL_law_574 : decode cL_law 574 = .ok (.iconst 0, 1) := by decide +kernel
theorem dL_law_575 : decode cL_law 575 = .ok (.ireturn, 1) := by decide +kernel
theorem dL_law_576 : decode cL_law 576 = .ok (.aload_n 1, 1) := by decide +kernel
theorem dL_law_577 : decode cL_law 577 = .ok (.aload_n 0, 1) := by decide +kernel
theorem dL_law_578 : decode cL_law 578 = .ok (.iload_n 3, 1) := by decide +kernel
theorem dL_law_579 : decode cL_law 579 = .ok (.iconst 1, 1) := by decide +kernel
theorem dL_law_580 : decode cL_law 580 = .ok (.iadd, 1) := by decide +kernel
theorem dL_law_581 : decode cL_law 581 = .ok (.iaload, 1) := by decide +kernel
theorem dL_law_582 : decode cL_law 582 = .ok (.aload_n 0, 1) := by decide +kernel
theorem dL_law_583 : decode cL_law 583 = .ok (.iload_n 3, 1) := by decide +kernel
theorem dL_law_584 : decode cL_law 584 = .ok (.iconst 2, 1) := by decide +kernel
theorem dL_law_585 : decode cL_law 585 = .ok (.iadd, 1) := by decide +kernel
theorem dL_law_586 : decode cL_law 586 = .ok (.iaload, 1) := by decide +kernel
theorem dL_law_587 : decode cL_law 587 = .ok (.invokevirtual 59, 3) := by decide +kernel
theorem dL_law_590 : decode cL_law 590 = .ok (.aload_n 2, 1) := by decide +kernel
theorem dL_law_591 : decode cL_law 591 = .ok (.aload_n 0, 1) := by decide +kernel
theorem dL_law_592 : decode cL_law 592 = .ok (.iload_n 3, 1) := by decide +kernel
theorem dL_law_593 : decode cL_law 593 = .ok (.iconst 1, 1) := by decide +kernel
theorem dL_law_594 : decode cL_law 594 = .ok (.iadd, 1) := by decide +kernel
theorem dL_law_595 : decode cL_law 595 = .ok (.iaload, 1) := by decide +kernel
theorem dL_law_596 : decode cL_law 596 = .ok (.aload_n 0, 1) := by decide +kernel
theorem dL_law_597 : decode cL_law 597 = .ok (.iload_n 3, 1) := by decide +kernel
theorem dL_law_598 : decode cL_law 598 = .ok (.iconst 2, 1) := by decide +kernel
theorem dL_law_599 : decode cL_law 599 = .ok (.iadd, 1) := by decide +kernel
theorem dL_law_600 : decode cL_law 600 = .ok (.iaload, 1) := by decide +kernel
theorem dL_law_601 : decode cL_law 601 = .ok (.invokevirtual 62, 3) := by decide +kernel
theorem dL_law_604 : decode cL_law 604 = .ok (.if_icmp .eq 354, 3) := by decide +kernel
theorem dL_law_607 : decode cL_law 607 = .ok (.iconst 0, 1) := by decide +kernel
theorem dL_law_608 : decode cL_law 608 = .ok (.ireturn, 1) := by decide +kernel
theorem dL_law_609 : decode cL_law 609 = .ok (.aload_n 1, 1) := by decide +kernel
theorem dL_law_610 : decode cL_law 610 = .ok (.aload_n 0, 1) := by decide +kernel
theorem dL_law_611 : decode cL_law 611 = .ok (.iload_n 3, 1) := by decide +kernel
theorem dL_law_612 : decode cL_law 612 = .ok (.iconst 1, 1) := by decide +kernel
theorem dL_law_613 : decode cL_law 613 = .ok (.iadd, 1) := by decide +kernel
theorem dL_law_614 : decode cL_law 614 = .ok (.iaload, 1) := by decide +kernel
theorem dL_law_615 : decode cL_law 615 = .ok (.aload_n 0, 1) := by decide +kernel
theorem dL_law_616 : decode cL_law 616 = .ok (.iload_n 3, 1) := by decide +kernel
theorem dL_law_617 : decode cL_law 617 = .ok (.iconst 2, 1) := by decide +kernel
theorem dL_law_618 : decode cL_law 618 = .ok (.iadd, 1) := by decide +kernel
theorem dL_law_619 : decode cL_law 619 = .ok (.iaload, 1) := by decide +kernel
theorem dL_law_620 : decode cL_law 620 = .ok (.aload_n 0, 1) := by decide +kernel
theorem dL_law_621 : decode cL_law 621 = .ok (.iload_n 3, 1) := by decide +kernel
theorem dL_law_622 : decode cL_law 622 = .ok (.iconst 3, 1) := by decide +kernel
theorem dL_law_623 : decode cL_law 623 = .ok (.iadd, 1) := by decide +kernel
theorem dL_law_624 : decode cL_law 624 = .ok (.iaload, 1) := by decide +kernel
theorem dL_law_625 : decode cL_law 625 = .ok (.invokevirtual 63, 3) := by decide +kernel
theorem dL_law_628 : decode cL_law 628 = .ok (.aload_n 2, 1) := by decide +kernel
theorem dL_law_629 : decode cL_law 629 = .ok (.aload_n 0, 1) := by decide +kernel
theorem dL_law_630 : decode cL_law 630 = .ok (.iload_n 3, 1) := by decide +kernel
theorem dL_law_631 : decode cL_law 631 = .ok (.iconst 1, 1) := by decide +kernel
theorem dL_law_632 : decode cL_law 632 = .ok (.iadd, 1) := by decide +kernel
theorem dL_law_633 : decode cL_law 633 = .ok (.iaload, 1) := by decide +kernel
theorem dL_law_634 : decode cL_law 634 = .ok (.aload_n 0, 1) := by decide +kernel
theorem dL_law_635 : decode cL_law 635 = .ok (.iload_n 3, 1) := by decide +kernel
theorem dL_law_636 : decode cL_law 636 = .ok (.iconst 2, 1) := by decide +kernel
theorem dL_law_637 : decode cL_law 637 = .ok (.iadd, 1) := by decide +kernel
theorem dL_law_638 : decode cL_law 638 = .ok (.iaload, 1) := by decide +kernel
theorem dL_law_639 : decode cL_law 639 = .ok (.aload_n 0, 1) := by decide +kernel
theorem dL_law_640 : decode cL_law 640 = .ok (.iload_n 3, 1) := by decide +kernel
theorem dL_law_641 : decode cL_law 641 = .ok (.iconst 3, 1) := by decide +kernel
theorem dL_law_642 : decode cL_law 642 = .ok (.iadd, 1) := by decide +kernel
theorem dL_law_643 : decode cL_law 643 = .ok (.iaload, 1) := by decide +kernel
theorem dL_law_644 : decode cL_law 644 = .ok (.invokevirtual 66, 3) := by decide +kernel
theorem dL_law_647 : decode cL_law 647 = .ok (.lcmp, 1) := by decide +kernel
theorem dL_law_648 : decode cL_law 648 = .ok (.ifCond .eq 310, 3) := by decide +kernel
theorem dL_law_651 : decode cL_law 651 = .ok (.iconst 0, 1) := by decide +kernel
theorem dL_law_652 : decode cL_law 652 = .ok (.ireturn, 1) := by decide +kernel
theorem dL_law_653 : decode cL_law 653 = .ok (.aload_n 1, 1) := by decide +kernel
theorem dL_law_654 : decode cL_law 654 = .ok (.aload_n 0, 1) := by decide +kernel
theorem dL_law_655 : decode cL_law 655 = .ok (.iload_n 3, 1) := by decide +kernel
theorem dL_law_656 : decode cL_law 656 = .ok (.iconst 1, 1) := by decide +kernel
theorem dL_law_657 : decode cL_law 657 = .ok (.iadd, 1) := by decide +kernel
theorem dL_law_658 : decode cL_law 658 = .ok (.iaload, 1) := by decide +kernel
theorem dL_law_659 : decode cL_law 659 = .ok (.invokevirtual 67, 3) := by decide +kernel
theorem dL_law_662 : decode cL_law 662 = .ok (.aload_n 2, 1) := by decide +kernel
theorem dL_law_663 : decode cL_law 663 = .ok (.aload_n 0, 1) := by decide +kernel
theorem dL_law_664 : decode cL_law 664 = .ok (.iload_n 3, 1) := by decide +kernel
theorem dL_law_665 : decode cL_law 665 = .ok (.iconst 1, 1) := by decide +kernel
theorem dL_law_666 : decode cL_law 666 = .ok (.iadd, 1) := by decide +kernel
theorem dL_law_667 : decode cL_law 667 = .ok (.iaload, 1) := by decide +kernel
theorem dL_law_668 : decode cL_law 668 = .ok (.invokevirtual 70, 3) := by decide +kernel
theorem dL_law_671 : decode cL_law 671 = .ok (.if_icmp .eq 287, 3) := by decide +kernel
theorem dL_law_674 : decode cL_law 674 = .ok (.iconst 0, 1) := by decide +kernel
theorem dL_law_675 : decode cL_law 675 = .ok (.ireturn, 1) := by decide +kernel
theorem dL_law_676 : decode cL_law 676 = .ok (.aload_n 1, 1) := by decide +kernel
theorem dL_law_677 : decode cL_law 677 = .ok (.invokevirtual 71, 3) := by decide +kernel
theorem dL_law_680 : decode cL_law 680 = .ok (.aload_n 2, 1) := by decide +kernel
theorem dL_law_681 : decode cL_law 681 = .ok (.invokevirtual 75, 3) := by decide +kernel
theorem dL_law_684 : decode cL_law 684 = .ok (.if_icmp .eq 274, 3) := by decide +kernel
theorem dL_law_687 : decode cL_law 687 = .ok (.iconst 0, 1) := by decide +kernel
theorem dL_law_688 : decode cL_law 688 = .ok (.ireturn, 1) := by decide +kernel
theorem dL_law_689 : decode cL_law 689 = .ok (.aload_n 1, 1) := by decide +kernel
theorem dL_law_690 : decode cL_law 690 = .ok (.aload_n 0, 1) := by decide +kernel
theorem dL_law_691 : decode cL_law 691 = .ok (.iload_n 3, 1) := by decide +kernel
theorem dL_law_692 : decode cL_law 692 = .ok (.iconst 1, 1) := by decide +kernel
theorem dL_law_693 : decode cL_law 693 = .ok (.iadd, 1) := by decide +kernel
theorem dL_law_694 : decode cL_law 694 = .ok (.iaload, 1) := by decide +kernel
theorem dL_law_695 : decode cL_law 695 = .ok (.invokevirtual 76, 3) := by decide +kernel
theorem dL_law_698 : decode cL_law 698 = .ok (.aload_n 2, 1) := by decide +kernel
theorem dL_law_699 : decode cL_law 699 = .ok (.aload_n 0, 1) := by decide +kernel
theorem dL_law_700 : decode cL_law 700 = .ok (.iload_n 3, 1) := by decide +kernel
theorem dL_law_701 : decode cL_law 701 = .ok (.iconst 1, 1) := by decide +kernel
theorem dL_law_702 : decode cL_law 702 = .ok (.iadd, 1) := by decide +kernel
theorem dL_law_703 : decode cL_law 703 = .ok (.iaload, 1) := by decide +kernel
theorem dL_law_704 : decode cL_law 704 = .ok (.invokevirtual 79, 3) := by decide +kernel
theorem dL_law_707 : decode cL_law 707 = .ok (.if_icmp .eq 251, 3) := by decide +kernel
theorem dL_law_710 : decode cL_law 710 = .ok (.iconst 0, 1) := by decide +kernel
theorem dL_law_711 : decode cL_law 711 = .ok (.ireturn, 1) := by decide +kernel
theorem dL_law_712 : decode cL_law 712 = .ok (.aload_n 1, 1) := by decide +kernel
theorem dL_law_713 : decode cL_law 713 = .ok (.aload_n 0, 1) := by decide +kernel
theorem dL_law_714 : decode cL_law 714 = .ok (.iload_n 3, 1) := by decide +kernel
theorem dL_law_715 : decode cL_law 715 = .ok (.iconst 1, 1) := by decide +kernel
theorem dL_law_716 : decode cL_law 716 = .ok (.iadd, 1) := by decide +kernel
theorem dL_law_717 : decode cL_law 717 = .ok (.iaload, 1) := by decide +kernel
theorem dL_law_718 : decode cL_law 718 = .ok (.aload_n 0, 1) := by decide +kernel
theorem dL_law_719 : decode cL_law 719 = .ok (.iload_n 3, 1) := by decide +kernel
theorem dL_law_720 : decode cL_law 720 = .ok (.iconst 2, 1) := by decide +kernel
theorem dL_law_721 : decode cL_law 721 = .ok (.iadd, 1) := by decide +kernel
theorem dL_law_722 : decode cL_law 722 = .ok (.iaload, 1) := by decide +kernel
theorem dL_law_723 : decode cL_law 723 = .ok (.aload_n 0, 1) := by decide +kernel
theorem dL_law_724 : decode cL_law 724 = .ok (.iload_n 3, 1) := by decide +kernel
theorem dL_law_725 : decode cL_law 725 = .ok (.iconst 3, 1) := by decide +kernel
theorem dL_law_726 : decode cL_law 726 = .ok (.iadd, 1) := by decide +kernel
theorem dL_law_727 : decode cL_law 727 = .ok (.iaload, 1) := by decide +kernel
theorem dL_law_728 : decode cL_law 728 = .ok (.invokevirtual 80, 3) := by decide +kernel
theorem dL_law_731 : decode cL_law 731 = .ok (.aload_n 2, 1) := by decide +kernel
theorem dL_law_732 : decode cL_law 732 = .ok (.aload_n 0, 1) := by decide +kernel
theorem dL_law_733 : decode cL_law 733 = .ok (.iload_n 3, 1) := by decide +kernel
theorem dL_law_734 : decode cL_law 734 = .ok (.iconst 1, 1) := by decide +kernel
theorem dL_law_735 : decode cL_law 735 = .ok (.iadd, 1) := by decide +kernel
theorem dL_law_736 : decode cL_law 736 = .ok (.iaload, 1) := by decide +kernel
theorem dL_law_737 : decode cL_law 737 = .ok (.aload_n 0, 1) := by decide +kernel
theorem dL_law_738 : decode cL_law 738 = .ok (.iload_n 3, 1) := by decide +kernel
theorem dL_law_739 : decode cL_law 739 = .ok (.iconst 2, 1) := by decide +kernel
theorem dL_law_740 : decode cL_law 740 = .ok (.iadd, 1) := by decide +kernel
theorem dL_law_741 : decode cL_law 741 = .ok (.iaload, 1) := by decide +kernel
theorem dL_law_742 : decode cL_law 742 = .ok (.aload_n 0, 1) := by decide +kernel
theorem dL_law_743 : decode cL_law 743 = .ok (.iload_n 3, 1) := by decide +kernel
theorem dL_law_744 : decode cL_law 744 = .ok (.iconst 3, 1) := by decide +kernel
theorem dL_law_745 : decode cL_law 745 = .ok (.iadd, 1) := by decide +kernel
theorem dL_law_746 : decode cL_law 746 = .ok (.iaload, 1) := by decide +kernel
theorem dL_law_747 : decode cL_law 747 = .ok (.invokevirtual 83, 3) := by decide +kernel
theorem dL_law_750 : decode cL_law 750 = .ok (.lcmp, 1) := by decide +kernel
theorem dL_law_751 : decode cL_law 751 = .ok (.ifCond .eq 207, 3) := by decide +kernel
theorem dL_law_754 : decode cL_law 754 = .ok (.iconst 0, 1) := by decide +kernel
theorem dL_law_755 : decode cL_law 755 = .ok (.ireturn, 1) := by decide +kernel
theorem dL_law_756 : decode cL_law 756 = .ok (.aload_n 1, 1) := by decide +kernel
theorem dL_law_757 : decode cL_law 757 = .ok (.aload_n 0, 1) := by decide +kernel
theorem dL_law_758 : decode cL_law 758 = .ok (.iload_n 3, 1) := by decide +kernel
theorem dL_law_759 : decode cL_law 759 = .ok (.iconst 1, 1) := by decide +kernel
theorem dL_law_760 : decode cL_law 760 = .ok (.iadd, 1) := by decide +kernel
theorem dL_law_761 : decode cL_law 761 = .ok (.iaload, 1) := by decide +kernel
theorem dL_law_762 : decode cL_law 762 = .ok (.aload_n 0, 1) := by decide +kernel
theorem dL_law_763 : decode cL_law 763 = .ok (.iload_n 3, 1) := by decide +kernel
theorem dL_law_764 : decode cL_law 764 = .ok (.iconst 2, 1) := by decide +kernel
theorem dL_law_765 : decode cL_law 765 = .ok (.iadd, 1) := by decide +kernel
theorem dL_law_766 : decode cL_law 766 = .ok (.iaload, 1) := by decide +kernel
theorem dL_law_767 : decode cL_law 767 = .ok (.aload_n 0, 1) := by decide +kernel
theorem dL_law_768 : decode cL_law 768 = .ok (.iload_n 3, 1) := by decide +kernel
theorem dL_law_769 : decode cL_law 769 = .ok (.iconst 3, 1) := by decide +kernel
theorem dL_law_770 : decode cL_law 770 = .ok (.iadd, 1) := by decide +kernel
theorem dL_law_771 : decode cL_law 771 = .ok (.iaload, 1) := by decide +kernel
theorem dL_law_772 : decode cL_law 772 = .ok (.aload_n 0, 1) := by decide +kernel
theorem dL_law_773 : decode cL_law 773 = .ok (.iload_n 3, 1) := by decide +kernel
theorem dL_law_774 : decode cL_law 774 = .ok (.iconst 4, 1) := by decide +kernel
theorem dL_law_775 : decode cL_law 775 = .ok (.iadd, 1) := by decide +kernel
theorem dL_law_776 : decode cL_law 776 = .ok (.iaload, 1) := by decide +kernel
theorem dL_law_777 : decode cL_law 777 = .ok (.invokevirtual 84, 3) := by decide +kernel
theorem dL_law_780 : decode cL_law 780 = .ok (.aload_n 2, 1) := by decide +kernel
theorem dL_law_781 : decode cL_law 781 = .ok (.aload_n 0, 1) := by decide +kernel
theorem dL_law_782 : decode cL_law 782 = .ok (.iload_n 3, 1) := by decide +kernel
theorem dL_law_783 : decode cL_law 783 = .ok (.iconst 1, 1) := by decide +kernel
theorem dL_law_784 : decode cL_law 784 = .ok (.iadd, 1) := by decide +kernel
theorem dL_law_785 : decode cL_law 785 = .ok (.iaload, 1) := by decide +kernel
theorem dL_law_786 : decode cL_law 786 = .ok (.aload_n 0, 1) := by decide +kernel
theorem dL_law_787 : decode cL_law 787 = .ok (.iload_n 3, 1) := by decide +kernel
theorem dL_law_788 : decode cL_law 788 = .ok (.iconst 2, 1) := by decide +kernel
theorem dL_law_789 : decode cL_law 789 = .ok (.iadd, 1) := by decide +kernel
theorem dL_law_790 : decode cL_law 790 = .ok (.iaload, 1) := by decide +kernel
theorem dL_law_791 : decode cL_law 791 = .ok (.aload_n 0, 1) := by decide +kernel
theorem dL_law_792 : decode cL_law 792 = .ok (.iload_n 3, 1) := by decide +kernel
theorem dL_law_793 : decode cL_law 793 = .ok (.iconst 3, 1) := by decide +kernel
theorem dL_law_794 : decode cL_law 794 = .ok (.iadd, 1) := by decide +kernel
theorem dL_law_795 : decode cL_law 795 = .ok (.iaload, 1) := by decide +kernel
theorem dL_law_796 : decode cL_law 796 = .ok (.aload_n 0, 1) := by decide +kernel
theorem dL_law_797 : decode cL_law 797 = .ok (.iload_n 3, 1) := by decide +kernel
theorem dL_law_798 : decode cL_law 798 = .ok (.iconst 4, 1) := by decide +kernel
theorem dL_law_799 : decode cL_law 799 = .ok (.iadd, 1) := by decide +kernel
theorem dL_law_800 : decode cL_law 800 = .ok (.iaload, 1) := by decide +kernel
theorem dL_law_801 : decode cL_law 801 = .ok (.invokevirtual 88, 3) := by decide +kernel
theorem dL_law_804 : decode cL_law 804 = .ok (.lcmp, 1) := by decide +kernel
theorem dL_law_805 : decode cL_law 805 = .ok (.ifCond .eq 153, 3) := by decide +kernel
theorem dL_law_808 : decode cL_law 808 = .ok (.iconst 0, 1) := by decide +kernel
theorem dL_law_809 : decode cL_law 809 = .ok (.ireturn, 1) := by decide +kernel
theorem dL_law_810 : decode cL_law 810 = .ok (.aload_n 1, 1) := by decide +kernel
theorem dL_law_811 : decode cL_law 811 = .ok (.aload_n 0, 1) := by decide +kernel
theorem dL_law_812 : decode cL_law 812 = .ok (.iload_n 3, 1) := by decide +kernel
theorem dL_law_813 : decode cL_law 813 = .ok (.iconst 1, 1) := by decide +kernel
theorem dL_law_814 : decode cL_law 814 = .ok (.iadd, 1) := by decide +kernel
theorem dL_law_815 : decode cL_law 815 = .ok (.iaload, 1) := by decide +kernel
theorem dL_law_816 : decode cL_law 816 = .ok (.aload_n 0, 1) := by decide +kernel
theorem dL_law_817 : decode cL_law 817 = .ok (.iload_n 3, 1) := by decide +kernel
theorem dL_law_818 : decode cL_law 818 = .ok (.iconst 2, 1) := by decide +kernel
theorem dL_law_819 : decode cL_law 819 = .ok (.iadd, 1) := by decide +kernel
theorem dL_law_820 : decode cL_law 820 = .ok (.iaload, 1) := by decide +kernel
theorem dL_law_821 : decode cL_law 821 = .ok (.invokevirtual 89, 3) := by decide +kernel
theorem dL_law_824 : decode cL_law 824 = .ok (.aload_n 2, 1) := by decide +kernel
theorem dL_law_825 : decode cL_law 825 = .ok (.aload_n 0, 1) := by decide +kernel
theorem dL_law_826 : decode cL_law 826 = .ok (.iload_n 3, 1) := by decide +kernel
theorem dL_law_827 : decode cL_law 827 = .ok (.iconst 1, 1) := by decide +kernel
theorem dL_law_828 : decode cL_law 828 = .ok (.iadd, 1) := by decide +kernel
theorem dL_law_829 : decode cL_law 829 = .ok (.iaload, 1) := by decide +kernel
theorem dL_law_830 : decode cL_law 830 = .ok (.aload_n 0, 1) := by decide +kernel
theorem dL_law_831 : decode cL_law 831 = .ok (.iload_n 3, 1) := by decide +kernel
theorem dL_law_832 : decode cL_law 832 = .ok (.iconst 2, 1) := by decide +kernel
theorem dL_law_833 : decode cL_law 833 = .ok (.iadd, 1) := by decide +kernel
theorem dL_law_834 : decode cL_law 834 = .ok (.iaload, 1) := by decide +kernel
theorem dL_law_835 : decode cL_law 835 = .ok (.invokevirtual 93, 3) := by decide +kernel
theorem dL_law_838 : decode cL_law 838 = .ok (.lcmp, 1) := by decide +kernel
theorem dL_law_839 : decode cL_law 839 = .ok (.ifCond .eq 119, 3) := by decide +kernel
theorem dL_law_842 : decode cL_law 842 = .ok (.iconst 0, 1) := by decide +kernel
theorem dL_law_843 : decode cL_law 843 = .ok (.ireturn, 1) := by decide +kernel
theorem dL_law_844 : decode cL_law 844 = .ok (.aload_n 1, 1) := by decide +kernel
theorem dL_law_845 : decode cL_law 845 = .ok (.aload_n 0, 1) := by decide +kernel
theorem dL_law_846 : decode cL_law 846 = .ok (.iload_n 3, 1) := by decide +kernel
theorem dL_law_847 : decode cL_law 847 = .ok (.iconst 1, 1) := by decide +kernel
theorem dL_law_848 : decode cL_law 848 = .ok (.iadd, 1) := by decide +kernel
theorem dL_law_849 : decode cL_law 849 = .ok (.iaload, 1) := by decide +kernel
theorem dL_law_850 : decode cL_law 850 = .ok (.invokevirtual 94, 3) := by decide +kernel
theorem dL_law_853 : decode cL_law 853 = .ok (.aload_n 2, 1) := by decide +kernel
theorem dL_law_854 : decode cL_law 854 = .ok (.aload_n 0, 1) := by decide +kernel
theorem dL_law_855 : decode cL_law 855 = .ok (.iload_n 3, 1) := by decide +kernel
theorem dL_law_856 : decode cL_law 856 = .ok (.iconst 1, 1) := by decide +kernel
theorem dL_law_857 : decode cL_law 857 = .ok (.iadd, 1) := by decide +kernel
theorem dL_law_858 : decode cL_law 858 = .ok (.iaload, 1) := by decide +kernel
theorem dL_law_859 : decode cL_law 859 = .ok (.invokevirtual 98, 3) := by decide +kernel
theorem dL_law_862 : decode cL_law 862 = .ok (.lcmp, 1) := by decide +kernel
theorem dL_law_863 : decode cL_law 863 = .ok (.ifCond .eq 95, 3) := by decide +kernel
theorem dL_law_866 : decode cL_law 866 = .ok (.iconst 0, 1) := by decide +kernel
theorem dL_law_867 : decode cL_law 867 = .ok (.ireturn, 1) := by decide +kernel
theorem dL_law_868 : decode cL_law 868 = .ok (.aload_n 1, 1) := by decide +kernel
theorem dL_law_869 : decode cL_law 869 = .ok (.aload_n 0, 1) := by decide +kernel
theorem dL_law_870 : decode cL_law 870 = .ok (.iload_n 3, 1) := by decide +kernel
theorem dL_law_871 : decode cL_law 871 = .ok (.iconst 1, 1) := by decide +kernel
theorem dL_law_872 : decode cL_law 872 = .ok (.iadd, 1) := by decide +kernel
theorem dL_law_873 : decode cL_law 873 = .ok (.iaload, 1) := by decide +kernel
theorem dL_law_874 : decode cL_law 874 = .ok (.aload_n 0, 1) := by decide +kernel
theorem dL_law_875 : decode cL_law 875 = .ok (.iload_n 3, 1) := by decide +kernel
theorem dL_law_876 : decode cL_law 876 = .ok (.iconst 2, 1) := by decide +kernel
theorem dL_law_877 : decode cL_law 877 = .ok (.iadd, 1) := by decide +kernel
theorem dL_law_878 : decode cL_law 878 = .ok (.iaload, 1) := by decide +kernel
theorem dL_law_879 : decode cL_law 879 = .ok (.aload_n 0, 1) := by decide +kernel
theorem dL_law_880 : decode cL_law 880 = .ok (.iload_n 3, 1) := by decide +kernel
theorem dL_law_881 : decode cL_law 881 = .ok (.iconst 3, 1) := by decide +kernel
theorem dL_law_882 : decode cL_law 882 = .ok (.iadd, 1) := by decide +kernel
theorem dL_law_883 : decode cL_law 883 = .ok (.iaload, 1) := by decide +kernel
theorem dL_law_884 : decode cL_law 884 = .ok (.invokevirtual 99, 3) := by decide +kernel
theorem dL_law_887 : decode cL_law 887 = .ok (.aload_n 2, 1) := by decide +kernel
theorem dL_law_888 : decode cL_law 888 = .ok (.aload_n 0, 1) := by decide +kernel
theorem dL_law_889 : decode cL_law 889 = .ok (.iload_n 3, 1) := by decide +kernel
theorem dL_law_890 : decode cL_law 890 = .ok (.iconst 1, 1) := by decide +kernel
theorem dL_law_891 : decode cL_law 891 = .ok (.iadd, 1) := by decide +kernel
theorem dL_law_892 : decode cL_law 892 = .ok (.iaload, 1) := by decide +kernel
theorem dL_law_893 : decode cL_law 893 = .ok (.aload_n 0, 1) := by decide +kernel
theorem dL_law_894 : decode cL_law 894 = .ok (.iload_n 3, 1) := by decide +kernel
theorem dL_law_895 : decode cL_law 895 = .ok (.iconst 2, 1) := by decide +kernel
theorem dL_law_896 : decode cL_law 896 = .ok (.iadd, 1) := by decide +kernel
theorem dL_law_897 : decode cL_law 897 = .ok (.iaload, 1) := by decide +kernel
theorem dL_law_898 : decode cL_law 898 = .ok (.aload_n 0, 1) := by decide +kernel
theorem dL_law_899 : decode cL_law 899 = .ok (.iload_n 3, 1) := by decide +kernel
theorem dL_law_900 : decode cL_law 900 = .ok (.iconst 3, 1) := by decide +kernel
theorem dL_law_901 : decode cL_law 901 = .ok (.iadd, 1) := by decide +kernel
theorem dL_law_902 : decode cL_law 902 = .ok (.iaload, 1) := by decide +kernel
theorem dL_law_903 : decode cL_law 903 = .ok (.invokevirtual 102, 3) := by decide +kernel
theorem dL_law_906 : decode cL_law 906 = .ok (.lcmp, 1) := by decide +kernel
theorem dL_law_907 : decode cL_law 907 = .ok (.ifCond .eq 51, 3) := by decide +kernel
theorem dL_law_910 : decode cL_law 910 = .ok (.iconst 0, 1) := by decide +kernel
theorem dL_law_911 : decode cL_law 911 = .ok (.ireturn, 1) := by decide +kernel
theorem dL_law_912 : decode cL_law 912 = .ok (.aload_n 1, 1) := by decide +kernel
theorem dL_law_913 : decode cL_law 913 = .ok (.aload_n 0, 1) := by decide +kernel
theorem dL_law_914 : decode cL_law 914 = .ok (.iload_n 3, 1) := by decide +kernel
theorem dL_law_915 : decode cL_law 915 = .ok (.iconst 1, 1) := by decide +kernel
theorem dL_law_916 : decode cL_law 916 = .ok (.iadd, 1) := by decide +kernel
theorem dL_law_917 : decode cL_law 917 = .ok (.iaload, 1) := by decide +kernel
theorem dL_law_918 : decode cL_law 918 = .ok (.invokevirtual 103, 3) := by decide +kernel
theorem dL_law_921 : decode cL_law 921 = .ok (.aload_n 2, 1) := by decide +kernel
theorem dL_law_922 : decode cL_law 922 = .ok (.aload_n 0, 1) := by decide +kernel
theorem dL_law_923 : decode cL_law 923 = .ok (.iload_n 3, 1) := by decide +kernel
theorem dL_law_924 : decode cL_law 924 = .ok (.iconst 1, 1) := by decide +kernel
theorem dL_law_925 : decode cL_law 925 = .ok (.iadd, 1) := by decide +kernel
theorem dL_law_926 : decode cL_law 926 = .ok (.iaload, 1) := by decide +kernel
theorem dL_law_927 : decode cL_law 927 = .ok (.invokevirtual 106, 3) := by decide +kernel
theorem dL_law_930 : decode cL_law 930 = .ok (.if_icmp .eq 28, 3) := by decide +kernel
theorem dL_law_933 : decode cL_law 933 = .ok (.iconst 0, 1) := by decide +kernel
theorem dL_law_934 : decode cL_law 934 = .ok (.ireturn, 1) := by decide +kernel
theorem dL_law_935 : decode cL_law 935 = .ok (.aload_n 1, 1) := by decide +kernel
theorem dL_law_936 : decode cL_law 936 = .ok (.aload_n 0, 1) := by decide +kernel
theorem dL_law_937 : decode cL_law 937 = .ok (.iload_n 3, 1) := by decide +kernel
theorem dL_law_938 : decode cL_law 938 = .ok (.iconst 1, 1) := by decide +kernel
theorem dL_law_939 : decode cL_law 939 = .ok (.iadd, 1) := by decide +kernel
theorem dL_law_940 : decode cL_law 940 = .ok (.iaload, 1) := by decide +kernel
theorem dL_law_941 : decode cL_law 941 = .ok (.invokevirtual 107, 3) := by decide +kernel
theorem dL_law_944 : decode cL_law 944 = .ok (.aload_n 2, 1) := by decide +kernel
theorem dL_law_945 : decode cL_law 945 = .ok (.aload_n 0, 1) := by decide +kernel
theorem dL_law_946 : decode cL_law 946 = .ok (.iload_n 3, 1) := by decide +kernel
theorem dL_law_947 : decode cL_law 947 = .ok (.iconst 1, 1) := by decide +kernel
theorem dL_law_948 : decode cL_law 948 = .ok (.iadd, 1) := by decide +kernel
theorem dL_law_949 : decode cL_law 949 = .ok (.iaload, 1) := by decide +kernel
theorem dL_law_950 : decode cL_law 950 = .ok (.invokevirtual 110, 3) := by decide +kernel
theorem dL_law_953 : decode cL_law 953 = .ok (.if_icmp .eq 5, 3) := by decide +kernel
theorem dL_law_956 : decode cL_law 956 = .ok (.iconst 0, 1) := by decide +kernel
theorem dL_law_957 : decode cL_law 957 = .ok (.ireturn, 1) := by decide +kernel
theorem dL_law_958 : decode cL_law 958 = .ok (.iinc 3 6, 3) := by decide +kernel
theorem dL_law_961 : decode cL_law 961 = .ok (.goto (-943), 3) := by decide +kernel
theorem dL_law_964 : decode cL_law 964 = .ok (.iconst 1, 1) := by decide +kernel
theorem dL_law_965 : decode cL_law 965 = .ok (.ireturn, 1) := by decide +kernel
