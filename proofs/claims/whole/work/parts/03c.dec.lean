theorem dX6_copy_61 : decode cX6_copy 61 = .ok (.aload_n 0, 1) := by decide +kernel
theorem dX6_copy_62 : decode cX6_copy 62 = .ok (.getfield 7, 3) := by decide +kernel
theorem dX6_copy_65 : decode cX6_copy 65 = .ok (.iload_n 3, 1) := by decide +kernel
theorem dX6_copy_66 : decode cX6_copy 66 = .ok (.iaload, 1) := by decide +kernel
theorem dX6_copy_67 : decode cX6_copy 67 = .ok (.if_icmp .eq 9, 3) := by decide +kernel
theorem dX6_copy_70 : decode cX6_copy 70 = .ok (.aload_n 0, 1) := by decide +kernel
theorem dX6_copy_71 : decode cX6_copy 71 = .ok (.iconst 3, 1) := by decide +kernel
theorem dX6_copy_72 : decode cX6_copy 72 = .ok (.invokevirtual 87, 3) := by decide +kernel
theorem dX6_copy_75 : decode cX6_copy 75 = .ok (.ireturn, 1) := by decide +kernel
theorem dX6_copy_76 : decode cX6_copy 76 = .ok (.iload_n 2, 1) := by decide +kernel
theorem dX6_copy_77 : decode cX6_copy 77 = .ok (.ifCond .lt 43, 3) := by decide +kernel
theorem dX6_copy_80 : decode cX6_copy 80 = .ok (.iload 4, 2) := by decide +kernel
theorem dX6_copy_82 : decode cX6_copy 82 = .ok (.ifCond .lt 38, 3) := by decide +kernel
theorem dX6_copy_85 : decode cX6_copy 85 = .ok (.iload_n 2, 1) := by decide +kernel
theorem dX6_copy_86 : decode cX6_copy 86 = .ok (.i2l, 1) := by decide +kernel
theorem dX6_copy_87 : decode cX6_copy 87 = .ok (.iload 5, 2) := by decide +kernel
theorem dX6_copy_89 : decode cX6_copy 89 = .ok (.i2l, 1) := by decide +kernel
theorem dX6_copy_90 : decode cX6_copy 90 = .ok (.ladd, 1) := by decide +kernel
theorem dX6_copy_91 : decode cX6_copy 91 = .ok (.aload_n 0, 1) := by decide +kernel
theorem dX6_copy_92 : decode cX6_copy 92 = .ok (.getfield 13, 3) := by decide +kernel
theorem dX6_copy_95 : decode cX6_copy 95 = .ok (.iload_n 1, 1) := by decide +kernel
theorem dX6_copy_96 : decode cX6_copy 96 = .ok (.iaload, 1) := by decide +kernel
theorem dX6_copy_97 : decode cX6_copy 97 = .ok (.i2l, 1) := by decide +kernel
theorem dX6_copy_98 : decode cX6_copy 98 = .ok (.lcmp, 1) := by decide +kernel
theorem dX6_copy_99 : decode cX6_copy 99 = .ok (.ifCond .gt 21, 3) := by decide +kernel
theorem dX6_copy_102 : decode cX6_copy 102 = .ok (.iload 4, 2) := by decide +kernel
theorem dX6_copy_104 : decode cX6_copy 104 = .ok (.i2l, 1) := by decide +kernel
theorem dX6_copy_105 : decode cX6_copy 105 = .ok (.iload 5, 2) := by decide +kernel
theorem dX6_copy_107 : decode cX6_copy 107 = .ok (.i2l, 1) := by decide +kernel
theorem dX6_copy_108 : decode cX6_copy 108 = .ok (.ladd, 1) := by decide +kernel
theorem dX6_copy_109 : decode cX6_copy 109 = .ok (.aload_n 0, 1) := by decide +kernel
theorem dX6_copy_110 : decode cX6_copy 110 = .ok (.getfield 13, 3) := by decide +kernel
theorem dX6_copy_113 : decode cX6_copy 113 = .ok (.iload_n 3, 1) := by decide +kernel
theorem dX6_copy_114 : decode cX6_copy 114 = .ok (.iaload, 1) := by decide +kernel
theorem dX6_copy_115 : decode cX6_copy 115 = .ok (.i2l, 1) := by decide +kernel
theorem dX6_copy_116 : decode cX6_copy 116 = .ok (.lcmp, 1) := by decide +kernel
theorem dX6_copy_117 : decode cX6_copy 117 = .ok (.ifCond .le 9, 3) := by decide +kernel
theorem dX6_copy_120 : decode cX6_copy 120 = .ok (.aload_n 0, 1) := by decide +kernel
theorem dX6_copy_121 : decode cX6_copy 121 = .ok (.iconst 2, 1) := by decide +kernel
theorem dX6_copy_122 : decode cX6_copy 122 = .ok (.invokevirtual 87, 3) := by decide +kernel
theorem dX6_copy_125 : decode cX6_copy 125 = .ok (.ireturn, 1) := by decide +kernel
theorem dX6_copy_126 : decode cX6_copy 126 = .ok (.iconst 0, 1) := by decide +kernel
theorem dX6_copy_127 : decode cX6_copy 127 = .ok (.istore 6, 2) := by decide +kernel
theorem dX6_copy_129 : decode cX6_copy 129 = .ok (.iload 6, 2) := by decide +kernel
theorem dX6_copy_131 : decode cX6_copy 131 = .ok (.iload 5, 2) := by decide +kernel
theorem dX6_copy_133 : decode cX6_copy 133 = .ok (.if_icmp .ge 30, 3) := by decide +kernel
theorem dX6_copy_136 : decode cX6_copy 136 = .ok (.aload_n 0, 1) := by decide +kernel
theorem dX6_copy_137 : decode cX6_copy 137 = .ok (.getfield 20, 3) := by decide +kernel
theorem dX6_copy_140 : decode cX6_copy 140 = .ok (.iload 6, 2) := by decide +kernel
theorem dX6_copy_142 : decode cX6_copy 142 = .ok (.aload_n 0, 1) := by decide +kernel
theorem dX6_copy_143 : decode cX6_copy 143 = .ok (.getfield 16, 3) := by decide +kernel
theorem dX6_copy_146 : decode cX6_copy 146 = .ok (.bipush 8, 2) := by decide +kernel
theorem dX6_copy_148 : decode cX6_copy 148 = .ok (.iload_n 1, 1) := by decide +kernel
theorem dX6_copy_149 : decode cX6_copy 149 = .ok (.imul, 1) := by decide +kernel
theorem dX6_copy_150 : decode cX6_copy 150 = .ok (.iload_n 2, 1) := by decide +kernel
theorem dX6_copy_151 : decode cX6_copy 151 = .ok (.iadd, 1) := by decide +kernel
theorem dX6_copy_152 : decode cX6_copy 152 = .ok (.iload 6, 2) := by decide +kernel
theorem dX6_copy_154 : decode cX6_copy 154 = .ok (.iadd, 1) := by decide +kernel
theorem dX6_copy_155 : decode cX6_copy 155 = .ok (.laload, 1) := by decide +kernel
theorem dX6_copy_156 : decode cX6_copy 156 = .ok (.lastore, 1) := by decide +kernel
theorem dX6_copy_157 : decode cX6_copy 157 = .ok (.iinc 6 1, 3) := by decide +kernel
theorem dX6_copy_160 : decode cX6_copy 160 = .ok (.goto (-31), 3) := by decide +kernel
theorem dX6_copy_163 : decode cX6_copy 163 = .ok (.iconst 0, 1) := by decide +kernel
theorem dX6_copy_164 : decode cX6_copy 164 = .ok (.istore 6, 2) := by decide +kernel
theorem dX6_copy_166 : decode cX6_copy 166 = .ok (.iload 6, 2) := by decide +kernel
theorem dX6_copy_168 : decode cX6_copy 168 = .ok (.iload 5, 2) := by decide +kernel
theorem dX6_copy_170 : decode cX6_copy 170 = .ok (.if_icmp .ge 31, 3) := by decide +kernel
theorem dX6_copy_173 : decode cX6_copy 173 = .ok (.aload_n 0, 1) := by decide +kernel
theorem dX6_copy_174 : decode cX6_copy 174 = .ok (.getfield 16, 3) := by decide +kernel
theorem dX6_copy_177 : decode cX6_copy 177 = .ok (.bipush 8, 2) := by decide +kernel
theorem dX6_copy_179 : decode cX6_copy 179 = .ok (.iload_n 3, 1) := by decide +kernel
theorem dX6_copy_180 : decode cX6_copy 180 = .ok (.imul, 1) := by decide +kernel
theorem dX6_copy_181 : decode cX6_copy 181 = .ok (.iload 4, 2) := by decide +kernel
theorem dX6_copy_183 : decode cX6_copy 183 = .ok (.iadd, 1) := by decide +kernel
theorem dX6_copy_184 : decode cX6_copy 184 = .ok (.iload 6, 2) := by decide +kernel
theorem dX6_copy_186 : decode cX6_copy 186 = .ok (.iadd, 1) := by decide +kernel
theorem dX6_copy_187 : decode cX6_copy 187 = .ok (.aload_n 0, 1) := by decide +kernel
theorem dX6_copy_188 : decode cX6_copy 188 = .ok (.getfield 20, 3) := by decide +kernel
theorem dX6_copy_191 : decode cX6_copy 191 = .ok (.iload 6, 2) := by decide +kernel
theorem dX6_copy_193 : decode cX6_copy 193 = .ok (.laload, 1) := by decide +kernel
theorem dX6_copy_194 : decode cX6_copy 194 = .ok (.lastore, 1) := by decide +kernel
theorem dX6_copy_195 : decode cX6_copy 195 = .ok (.iinc 6 1, 3) := by decide +kernel
theorem dX6_copy_198 : decode cX6_copy 198 = .ok (.goto (-32), 3) := by decide +kernel
theorem dX6_copy_201 : decode cX6_copy 201 = .ok (.iload 5, 2) := by decide +kernel
theorem dX6_copy_203 : decode cX6_copy 203 = .ok (.ireturn, 1) := by decide +kernel
theorem dX6_isPlace_0 : decode cX6_isPlace 0 = .ok (.iload_n 1, 1) := by decide +kernel
theorem dX6_isPlace_1 : decode cX6_isPlace 1 = .ok (.i2l, 1) := by decide +kernel
theorem dX6_isPlace_2 : decode cX6_isPlace 2 = .ok (.lconst 0, 1) := by decide +kernel
theorem dX6_isPlace_3 : decode cX6_isPlace 3 = .ok (.aload_n 0, 1) := by decide +kernel
theorem dX6_isPlace_4 : decode cX6_isPlace 4 = .ok (.getfield 99, 3) := by decide +kernel
theorem dX6_isPlace_7 : decode cX6_isPlace 7 = .ok (.iconst 1, 1) := by decide +kernel
theorem dX6_isPlace_8 : decode cX6_isPlace 8 = .ok (.isub, 1) := by decide +kernel
theorem dX6_isPlace_9 : decode cX6_isPlace 9 = .ok (.i2l, 1) := by decide +kernel
theorem dX6_isPlace_10 : decode cX6_isPlace 10 = .ok (.invokestatic 77, 3) := by decide +kernel
theorem dX6_isPlace_13 : decode cX6_isPlace 13 = .ok (.ifCond .eq 23, 3) := by decide +kernel
theorem dX6_isPlace_16 : decode cX6_isPlace 16 = .ok (.iload_n 2, 1) := by decide +kernel
theorem dX6_isPlace_17 : decode cX6_isPlace 17 = .ok (.i2l, 1) := by decide +kernel
theorem dX6_isPlace_18 : decode cX6_isPlace 18 = .ok (.lconst 0, 1) := by decide +kernel
theorem dX6_isPlace_19 : decode cX6_isPlace 19 = .ok (.aload_n 0, 1) := by decide +kernel
theorem dX6_isPlace_20 : decode cX6_isPlace 20 = .ok (.getfield 102, 3) := by decide +kernel
theorem dX6_isPlace_23 : decode cX6_isPlace 23 = .ok (.iconst 1, 1) := by decide +kernel
theorem dX6_isPlace_24 : decode cX6_isPlace 24 = .ok (.isub, 1) := by decide +kernel
theorem dX6_isPlace_25 : decode cX6_isPlace 25 = .ok (.i2l, 1) := by decide +kernel
theorem dX6_isPlace_26 : decode cX6_isPlace 26 = .ok (.invokestatic 77, 3) := by decide +kernel
theorem dX6_isPlace_29 : decode cX6_isPlace 29 = .ok (.ifCond .eq 7, 3) := by decide +kernel
theorem dX6_isPlace_32 : decode cX6_isPlace 32 = .ok (.iconst 1, 1) := by decide +kernel
theorem dX6_isPlace_33 : decode cX6_isPlace 33 = .ok (.goto 4, 3) := by decide +kernel
theorem dX6_isPlace_36 : decode cX6_isPlace 36 = .ok (.iconst 0, 1) := by decide +kernel
theorem dX6_isPlace_37 : decode cX6_isPlace 37 = .ok (.ireturn, 1) := by decide +kernel
theorem dX6_ground_0 : decode cX6_ground 0 = .ok (.iload_n 1, 1) := by decide +kernel
theorem dX6_ground_1 : decode cX6_ground 1 = .ok (.i2l, 1) := by decide +kernel
theorem dX6_ground_2 : decode cX6_ground 2 = .ok (.ldc2_w 85, 3) := by decide +kernel
theorem dX6_ground_5 : decode cX6_ground 5 = .ok (.ldc2_w 105, 3) := by decide +kernel
theorem dX6_ground_8 : decode cX6_ground 8 = .ok (.invokestatic 77, 3) := by decide +kernel
theorem dX6_ground_11 : decode cX6_ground 11 = .ok (.ifCond .eq 17, 3) := by decide +kernel
theorem dX6_ground_14 : decode cX6_ground 14 = .ok (.iload_n 2, 1) := by decide +kernel
theorem dX6_ground_15 : decode cX6_ground 15 = .ok (.i2l, 1) := by decide +kernel
theorem dX6_ground_16 : decode cX6_ground 16 = .ok (.ldc2_w 85, 3) := by decide +kernel
theorem dX6_ground_19 : decode cX6_ground 19 = .ok (.ldc2_w 105, 3) := by decide +kernel
theorem dX6_ground_22 : decode cX6_ground 22 = .ok (.invokestatic 77, 3) := by decide +kernel
theorem dX6_ground_25 : decode cX6_ground 25 = .ok (.ifCond .ne 6, 3) := by decide +kernel
theorem dX6_ground_28 : decode cX6_ground 28 = .ok (.bipush (-2), 2) := by decide +kernel
theorem dX6_ground_30 : decode cX6_ground 30 = .ok (.ireturn, 1) := by decide +kernel
theorem dX6_ground_31 : decode cX6_ground 31 = .ok (.aload_n 0, 1) := by decide +kernel
theorem dX6_ground_32 : decode cX6_ground 32 = .ok (.iload_n 1, 1) := by decide +kernel
theorem dX6_ground_33 : decode cX6_ground 33 = .ok (.putfield 99, 3) := by decide +kernel
theorem dX6_ground_36 : decode cX6_ground 36 = .ok (.aload_n 0, 1) := by decide +kernel
theorem dX6_ground_37 : decode cX6_ground 37 = .ok (.iload_n 2, 1) := by decide +kernel
theorem dX6_ground_38 : decode cX6_ground 38 = .ok (.putfield 102, 3) := by decide +kernel
theorem dX6_ground_41 : decode cX6_ground 41 = .ok (.aload_n 0, 1) := by decide +kernel
theorem dX6_ground_42 : decode cX6_ground 42 = .ok (.iconst 0, 1) := by decide +kernel
theorem dX6_ground_43 : decode cX6_ground 43 = .ok (.putfield 107, 3) := by decide +kernel
theorem dX6_ground_46 : decode cX6_ground 46 = .ok (.aload_n 0, 1) := by decide +kernel
theorem dX6_ground_47 : decode cX6_ground 47 = .ok (.iconst 0, 1) := by decide +kernel
theorem dX6_ground_48 : decode cX6_ground 48 = .ok (.putfield 110, 3) := by decide +kernel
theorem dX6_ground_51 : decode cX6_ground 51 = .ok (.iconst 0, 1) := by decide +kernel
theorem dX6_ground_52 : decode cX6_ground 52 = .ok (.istore_n 3, 1) := by decide +kernel
theorem dX6_ground_53 : decode cX6_ground 53 = .ok (.iload_n 3, 1) := by decide +kernel
theorem dX6_ground_54 : decode cX6_ground 54 = .ok (.sipush 3904, 3) := by decide +kernel
theorem dX6_ground_57 : decode cX6_ground 57 = .ok (.if_icmp .ge 16, 3) := by decide +kernel
theorem dX6_ground_60 : decode cX6_ground 60 = .ok (.aload_n 0, 1) := by decide +kernel
theorem dX6_ground_61 : decode cX6_ground 61 = .ok (.getfield 32, 3) := by decide +kernel
theorem dX6_ground_64 : decode cX6_ground 64 = .ok (.iload_n 3, 1) := by decide +kernel
theorem dX6_ground_65 : decode cX6_ground 65 = .ok (.lconst 0, 1) := by decide +kernel
theorem dX6_ground_66 : decode cX6_ground 66 = .ok (.lastore, 1) := by decide +kernel
theorem dX6_ground_67 : decode cX6_ground 67 = .ok (.iinc 3 1, 3) := by decide +kernel
theorem dX6_ground_70 : decode cX6_ground 70 = .ok (.goto (-17), 3) := by decide +kernel
theorem dX6_ground_73 : decode cX6_ground 73 = .ok (.iconst 0, 1) := by decide +kernel
theorem dX6_ground_74 : decode cX6_ground 74 = .ok (.istore_n 3, 1) := by decide +kernel
theorem dX6_ground_75 : decode cX6_ground 75 = .ok (.iload_n 3, 1) := by decide +kernel
theorem dX6_ground_76 : decode cX6_ground 76 = .ok (.sipush 305, 3) := by decide +kernel
theorem dX6_ground_79 : decode cX6_ground 79 = .ok (.if_icmp .ge 16, 3) := by decide +kernel
theorem dX6_ground_82 : decode cX6_ground 82 = .ok (.aload_n 0, 1) := by decide +kernel
theorem dX6_ground_83 : decode cX6_ground 83 = .ok (.getfield 35, 3) := by decide +kernel
theorem dX6_ground_86 : decode cX6_ground 86 = .ok (.iload_n 3, 1) := by decide +kernel
theorem dX6_ground_87 : decode cX6_ground 87 = .ok (.lconst 0, 1) := by decide +kernel
theorem dX6_ground_88 : decode cX6_ground 88 = .ok (.lastore, 1) := by decide +kernel
theorem dX6_ground_89 : decode cX6_ground 89 = .ok (.iinc 3 1, 3) := by decide +kernel
theorem dX6_ground_92 : decode cX6_ground 92 = .ok (.goto (-17), 3) := by decide +kernel
theorem dX6_ground_95 : decode cX6_ground 95 = .ok (.iconst 0, 1) := by decide +kernel
theorem dX6_ground_96 : decode cX6_ground 96 = .ok (.istore_n 3, 1) := by decide +kernel
theorem dX6_ground_97 : decode cX6_ground 97 = .ok (.iconst 0, 1) := by decide +kernel
theorem dX6_ground_98 : decode cX6_ground 98 = .ok (.istore 4, 2) := by decide +kernel
theorem dX6_ground_100 : decode cX6_ground 100 = .ok (.iload 4, 2) := by decide +kernel
theorem dX6_ground_102 : decode cX6_ground 102 = .ok (.iload_n 2, 1) := by decide +kernel
theorem dX6_ground_103 : decode cX6_ground 103 = .ok (.if_icmp .ge 144, 3) := by decide +kernel
theorem dX6_ground_106 : decode cX6_ground 106 = .ok (.iconst 0, 1) := by decide +kernel
theorem dX6_ground_107 : decode cX6_ground 107 = .ok (.istore 5, 2) := by decide +kernel
theorem dX6_ground_109 : decode cX6_ground 109 = .ok (.iload 5, 2) := by decide +kernel
theorem dX6_ground_111 : decode cX6_ground 111 = .ok (.iload_n 1, 1) := by decide +kernel
theorem dX6_ground_112 : decode cX6_ground 112 = .ok (.if_icmp .ge 129, 3) := by decide +kernel
theorem dX6_ground_115 : decode cX6_ground 115 = .ok (.bipush 8, 2) := by decide +kernel
theorem dX6_ground_117 : decode cX6_ground 117 = .ok (.iload 4, 2) := by decide +kernel
theorem dX6_ground_119 : decode cX6_ground 119 = .ok (.imul, 1) := by decide +kernel
theorem dX6_ground_120 : decode cX6_ground 120 = .ok (.iload 5, 2) := by decide +kernel
theorem dX6_ground_122 : decode cX6_ground 122 = .ok (.iadd, 1) := by decide +kernel
theorem dX6_ground_123 : decode cX6_ground 123 = .ok (.istore 6, 2) := by decide +kernel
theorem dX6_ground_125 : decode cX6_ground 125 = .ok (.aload_n 0, 1) := by decide +kernel
theorem dX6_ground_126 : decode cX6_ground 126 = .ok (.getfield 7, 3) := by decide +kernel
theorem dX6_ground_129 : decode cX6_ground 129 = .ok (.iload 4, 2) := by decide +kernel
theorem dX6_ground_131 : decode cX6_ground 131 = .ok (.iaload, 1) := by decide +kernel
theorem dX6_ground_132 : decode cX6_ground 132 = .ok (.bipush (-9), 2) := by decide +kernel
theorem dX6_ground_134 : decode cX6_ground 134 = .ok (.if_icmp .eq 36, 3) := by decide +kernel
theorem dX6_ground_137 : decode cX6_ground 137 = .ok (.iload 5, 2) := by decide +kernel
theorem dX6_ground_139 : decode cX6_ground 139 = .ok (.aload_n 0, 1) := by decide +kernel
theorem dX6_ground_140 : decode cX6_ground 140 = .ok (.getfield 13, 3) := by decide +kernel
theorem dX6_ground_143 : decode cX6_ground 143 = .ok (.iload 4, 2) := by decide +kernel
theorem dX6_ground_145 : decode cX6_ground 145 = .ok (.iaload, 1) := by decide +kernel
theorem dX6_ground_146 : decode cX6_ground 146 = .ok (.if_icmp .ge 24, 3) := by decide +kernel
theorem dX6_ground_149 : decode cX6_ground 149 = .ok (.aload_n 0, 1) := by decide +kernel
theorem dX6_ground_150 : decode cX6_ground 150 = .ok (.getfield 16, 3) := by decide +kernel
theorem dX6_ground_153 : decode cX6_ground 153 = .ok (.iload 6, 2) := by decide +kernel
theorem dX6_ground_155 : decode cX6_ground 155 = .ok (.laload, 1) := by decide +kernel
theorem dX6_ground_156 : decode cX6_ground 156 = .ok (.lconst 0, 1) := by decide +kernel
theorem dX6_ground_157 : decode cX6_ground 157 = .ok (.ldc2_w 113, 3) := by decide +kernel
theorem dX6_ground_160 : decode cX6_ground 160 = .ok (.invokestatic 77, 3) := by decide +kernel
theorem dX6_ground_163 : decode cX6_ground 163 = .ok (.ifCond .eq 7, 3) := by decide +kernel
theorem dX6_ground_166 : decode cX6_ground 166 = .ok (.iconst 1, 1) := by decide +kernel
theorem dX6_ground_167 : decode cX6_ground 167 = .ok (.goto 4, 3) := by decide +kernel
theorem dX6_ground_170 : decode cX6_ground 170 = .ok (.iconst 0, 1) := by decide +kernel
theorem dX6_ground_171 : decode cX6_ground 171 = .ok (.istore 7, 2) := by decide +kernel
theorem dX6_ground_173 : decode cX6_ground 173 = .ok (.aload_n 0, 1) := by decide +kernel
theorem dX6_ground_174 : decode cX6_ground 174 = .ok (.getfield 23, 3) := by decide +kernel
theorem dX6_ground_177 : decode cX6_ground 177 = .ok (.iload 6, 2) := by decide +kernel
theorem dX6_ground_179 : decode cX6_ground 179 = .ok (.iload 7, 2) := by decide +kernel
theorem dX6_ground_181 : decode cX6_ground 181 = .ok (.ifCond .eq 7, 3) := by decide +kernel
theorem dX6_ground_184 : decode cX6_ground 184 = .ok (.iconst 0, 1) := by decide +kernel
theorem dX6_ground_185 : decode cX6_ground 185 = .ok (.goto 4, 3) := by decide +kernel
theorem dX6_ground_188 : decode cX6_ground 188 = .ok (.iconst 4, 1) := by decide +kernel
theorem dX6_ground_189 : decode cX6_ground 189 = .ok (.iastore, 1) := by decide +kernel
theorem dX6_ground_190 : decode cX6_ground 190 = .ok (.aload_n 0, 1) := by decide +kernel
theorem dX6_ground_191 : decode cX6_ground 191 = .ok (.getfield 26, 3) := by decide +kernel
theorem dX6_ground_194 : decode cX6_ground 194 = .ok (.iload 6, 2) := by decide +kernel
theorem dX6_ground_196 : decode cX6_ground 196 = .ok (.iconst 0, 1) := by decide +kernel
theorem dX6_ground_197 : decode cX6_ground 197 = .ok (.iastore, 1) := by decide +kernel
theorem dX6_ground_198 : decode cX6_ground 198 = .ok (.aload_n 0, 1) := by decide +kernel
theorem dX6_ground_199 : decode cX6_ground 199 = .ok (.getfield 29, 3) := by decide +kernel
theorem dX6_ground_202 : decode cX6_ground 202 = .ok (.iload 6, 2) := by decide +kernel
theorem dX6_ground_204 : decode cX6_ground 204 = .ok (.iload 7, 2) := by decide +kernel
theorem dX6_ground_206 : decode cX6_ground 206 = .ok (.ifCond .eq 14, 3) := by decide +kernel
theorem dX6_ground_209 : decode cX6_ground 209 = .ok (.aload_n 0, 1) := by decide +kernel
theorem dX6_ground_210 : decode cX6_ground 210 = .ok (.getfield 16, 3) := by decide +kernel
theorem dX6_ground_213 : decode cX6_ground 213 = .ok (.iload 6, 2) := by decide +kernel
theorem dX6_ground_215 : decode cX6_ground 215 = .ok (.laload, 1) := by decide +kernel
theorem dX6_ground_216 : decode cX6_ground 216 = .ok (.l2i, 1) := by decide +kernel
theorem dX6_ground_217 : decode cX6_ground 217 = .ok (.goto 4, 3) := by decide +kernel
theorem dX6_ground_220 : decode cX6_ground 220 = .ok (.iconst 0, 1) := by decide +kernel
theorem dX6_ground_221 : decode cX6_ground 221 = .ok (.iastore, 1) := by decide +kernel
theorem dX6_ground_222 : decode cX6_ground 222 = .ok (.iload_n 3, 1) := by decide +kernel
theorem dX6_ground_223 : decode cX6_ground 223 = .ok (.iload 7, 2) := by decide +kernel
theorem dX6_ground_225 : decode cX6_ground 225 = .ok (.ifCond .eq 7, 3) := by decide +kernel
theorem dX6_ground_228 : decode cX6_ground 228 = .ok (.iconst 0, 1) := by decide +kernel
theorem dX6_ground_229 : decode cX6_ground 229 = .ok (.goto 4, 3) := by decide +kernel
theorem dX6_ground_232 : decode cX6_ground 232 = .ok (.iconst 1, 1) := by decide +kernel
theorem dX6_ground_233 : decode cX6_ground 233 = .ok (.iadd, 1) := by decide +kernel
theorem dX6_ground_234 : decode cX6_ground 234 = .ok (.istore_n 3, 1) := by decide +kernel
theorem dX6_ground_235 : decode cX6_ground 235 = .ok (.iinc 5 1, 3) := by decide +kernel
theorem dX6_ground_238 : decode cX6_ground 238 = .ok (.goto (-129), 3) := by decide +kernel
theorem dX6_ground_241 : decode cX6_ground 241 = .ok (.iinc 4 1, 3) := by decide +kernel
theorem dX6_ground_244 : decode cX6_ground 244 = .ok (.goto (-144), 3) := by decide +kernel
theorem dX6_ground_247 : decode cX6_ground 247 = .ok (.iload_n 3, 1) := by decide +kernel
theorem dX6_ground_248 : decode cX6_ground 248 = .ok (.ireturn, 1) := by decide +kernel
theorem dX6_kind_0 : decode cX6_kind 0 = .ok (.aload_n 0, 1) := by decide +kernel
theorem dX6_kind_1 : decode cX6_kind 1 = .ok (.iload_n 1, 1) := by decide +kernel
theorem dX6_kind_2 : decode cX6_kind 2 = .ok (.iload_n 2, 1) := by decide +kernel
theorem dX6_kind_3 : decode cX6_kind 3 = .ok (.invokevirtual 115, 3) := by decide +kernel
theorem dX6_kind_6 : decode cX6_kind 6 = .ok (.ifCond .ne 5, 3) := by decide +kernel
theorem dX6_kind_9 : decode cX6_kind 9 = .ok (.iconst (-1), 1) := by decide +kernel
theorem dX6_kind_10 : decode cX6_kind 10 = .ok (.ireturn, 1) := by decide +kernel
theorem dX6_kind_11 : decode cX6_kind 11 = .ok (.iload_n 3, 1) := by decide +kernel
theorem dX6_kind_12 : decode cX6_kind 12 = .ok (.i2l, 1) := by decide +kernel
theorem dX6_kind_13 : decode cX6_kind 13 = .ok (.lconst 0, 1) := by decide +kernel
theorem dX6_kind_14 : decode cX6_kind 14 = .ok (.ldc2_w 119, 3) := by decide +kernel
theorem dX6_kind_17 : decode cX6_kind 17 = .ok (.invokestatic 77, 3) := by decide +kernel
theorem dX6_kind_20 : decode cX6_kind 20 = .ok (.ifCond .eq 20, 3) := by decide +kernel
theorem dX6_kind_23 : decode cX6_kind 23 = .ok (.iload_n 3, 1) := by decide +kernel
theorem dX6_kind_24 : decode cX6_kind 24 = .ok (.ifCond .eq 19, 3) := by decide +kernel
theorem dX6_kind_27 : decode cX6_kind 27 = .ok (.iload 4, 2) := by decide +kernel
theorem dX6_kind_29 : decode cX6_kind 29 = .ok (.i2l, 1) := by decide +kernel
theorem dX6_kind_30 : decode cX6_kind 30 = .ok (.lconst 0, 1) := by decide +kernel
theorem dX6_kind_31 : decode cX6_kind 31 = .ok (.ldc2_w 121, 3) := by decide +kernel
theorem dX6_kind_34 : decode cX6_kind 34 = .ok (.invokestatic 77, 3) := by decide +kernel
theorem dX6_kind_37 : decode cX6_kind 37 = .ok (.ifCond .ne 6, 3) := by decide +kernel
theorem dX6_kind_40 : decode cX6_kind 40 = .ok (.bipush (-2), 2) := by decide +kernel
theorem dX6_kind_42 : decode cX6_kind 42 = .ok (.ireturn, 1) := by decide +kernel
theorem dX6_kind_43 : decode cX6_kind 43 = .ok (.bipush 8, 2) := by decide +kernel
theorem dX6_kind_45 : decode cX6_kind 45 = .ok (.iload_n 2, 1) := by decide +kernel
theorem dX6_kind_46 : decode cX6_kind 46 = .ok (.imul, 1) := by decide +kernel
theorem dX6_kind_47 : decode cX6_kind 47 = .ok (.iload_n 1, 1) := by decide +kernel
theorem dX6_kind_48 : decode cX6_kind 48 = .ok (.iadd, 1) := by decide +kernel
theorem dX6_kind_49 : decode cX6_kind 49 = .ok (.istore 5, 2) := by decide +kernel
theorem dX6_kind_51 : decode cX6_kind 51 = .ok (.aload_n 0, 1) := by decide +kernel
theorem dX6_kind_52 : decode cX6_kind 52 = .ok (.getfield 23, 3) := by decide +kernel
theorem dX6_kind_55 : decode cX6_kind 55 = .ok (.iload 5, 2) := by decide +kernel
theorem dX6_kind_57 : decode cX6_kind 57 = .ok (.iaload, 1) := by decide +kernel
theorem dX6_kind_58 : decode cX6_kind 58 = .ok (.iconst 4, 1) := by decide +kernel
theorem dX6_kind_59 : decode cX6_kind 59 = .ok (.if_icmp .ne 6, 3) := by decide +kernel
theorem dX6_kind_62 : decode cX6_kind 62 = .ok (.bipush (-3), 2) := by decide +kernel
theorem dX6_kind_64 : decode cX6_kind 64 = .ok (.ireturn, 1) := by decide +kernel
theorem dX6_kind_65 : decode cX6_kind 65 = .ok (.aload_n 0, 1) := by decide +kernel
theorem dX6_kind_66 : decode cX6_kind 66 = .ok (.getfield 23, 3) := by decide +kernel
theorem dX6_kind_69 : decode cX6_kind 69 = .ok (.iload 5, 2) := by decide +kernel
theorem dX6_kind_71 : decode cX6_kind 71 = .ok (.iaload, 1) := by decide +kernel
theorem dX6_kind_72 : decode cX6_kind 72 = .ok (.istore 6, 2) := by decide +kernel
theorem dX6_kind_74 : decode cX6_kind 74 = .ok (.aload_n 0, 1) := by decide +kernel
theorem dX6_kind_75 : decode cX6_kind 75 = .ok (.getfield 23, 3) := by decide +kernel
theorem dX6_kind_78 : decode cX6_kind 78 = .ok (.iload 5, 2) := by decide +kernel
theorem dX6_kind_80 : decode cX6_kind 80 = .ok (.iload_n 3, 1) := by decide +kernel
theorem dX6_kind_81 : decode cX6_kind 81 = .ok (.iastore, 1) := by decide +kernel
theorem dX6_kind_82 : decode cX6_kind 82 = .ok (.aload_n 0, 1) := by decide +kernel
theorem dX6_kind_83 : decode cX6_kind 83 = .ok (.getfield 26, 3) := by decide +kernel
theorem dX6_kind_86 : decode cX6_kind 86 = .ok (.iload 5, 2) := by decide +kernel
theorem dX6_kind_88 : decode cX6_kind 88 = .ok (.iload_n 3, 1) := by decide +kernel
theorem dX6_kind_89 : decode cX6_kind 89 = .ok (.ifCond .ne 7, 3) := by decide +kernel
theorem dX6_kind_92 : decode cX6_kind 92 = .ok (.iconst 0, 1) := by decide +kernel
theorem dX6_kind_93 : decode cX6_kind 93 = .ok (.goto 5, 3) := by decide +kernel
theorem dX6_kind_96 : decode cX6_kind 96 = .ok (.iload 4, 2) := by decide +kernel
theorem dX6_kind_98 : decode cX6_kind 98 = .ok (.iastore, 1) := by decide +kernel
theorem dX6_kind_99 : decode cX6_kind 99 = .ok (.aload_n 0, 1) := by decide +kernel
theorem dX6_kind_100 : decode cX6_kind 100 = .ok (.iconst 0, 1) := by decide +kernel
theorem dX6_kind_101 : decode cX6_kind 101 = .ok (.putfield 110, 3) := by decide +kernel
theorem dX6_kind_104 : decode cX6_kind 104 = .ok (.iload 6, 2) := by decide +kernel
theorem dX6_kind_106 : decode cX6_kind 106 = .ok (.ireturn, 1) := by decide +kernel
theorem dX6_taken_0 : decode cX6_taken 0 = .ok (.aload_n 0, 1) := by decide +kernel
theorem dX6_taken_1 : decode cX6_taken 1 = .ok (.iload_n 1, 1) := by decide +kernel
theorem dX6_taken_2 : decode cX6_taken 2 = .ok (.iload_n 2, 1) := by decide +kernel
theorem dX6_taken_3 : decode cX6_taken 3 = .ok (.invokevirtual 115, 3) := by decide +kernel
theorem dX6_taken_6 : decode cX6_taken 6 = .ok (.ifCond .ne 5, 3) := by decide +kernel
theorem dX6_taken_9 : decode cX6_taken 9 = .ok (.iconst (-1), 1) := by decide +kernel
theorem dX6_taken_10 : decode cX6_taken 10 = .ok (.ireturn, 1) := by decide +kernel
theorem dX6_taken_11 : decode cX6_taken 11 = .ok (.iload_n 3, 1) := by decide +kernel
theorem dX6_taken_12 : decode cX6_taken 12 = .ok (.i2l, 1) := by decide +kernel
theorem dX6_taken_13 : decode cX6_taken 13 = .ok (.lconst 0, 1) := by decide +kernel
theorem dX6_taken_14 : decode cX6_taken 14 = .ok (.ldc2_w 123, 3) := by decide +kernel
theorem dX6_taken_17 : decode cX6_taken 17 = .ok (.invokestatic 77, 3) := by decide +kernel
theorem dX6_taken_20 : decode cX6_taken 20 = .ok (.ifCond .eq 14, 3) := by decide +kernel
theorem dX6_taken_23 : decode cX6_taken 23 = .ok (.iload 4, 2) := by decide +kernel
theorem dX6_taken_25 : decode cX6_taken 25 = .ok (.i2l, 1) := by decide +kernel
theorem dX6_taken_26 : decode cX6_taken 26 = .ok (.lconst 0, 1) := by decide +kernel
theorem dX6_taken_27 : decode cX6_taken 27 = .ok (.lconst 1, 1) := by decide +kernel
theorem dX6_taken_28 : decode cX6_taken 28 = .ok (.invokestatic 77, 3) := by decide +kernel
theorem dX6_taken_31 : decode cX6_taken 31 = .ok (.ifCond .ne 6, 3) := by decide +kernel
theorem dX6_taken_34 : decode cX6_taken 34 = .ok (.bipush (-2), 2) := by decide +kernel
theorem dX6_taken_36 : decode cX6_taken 36 = .ok (.ireturn, 1) := by decide +kernel
theorem dX6_taken_37 : decode cX6_taken 37 = .ok (.bipush 8, 2) := by decide +kernel
theorem dX6_taken_39 : decode cX6_taken 39 = .ok (.iload_n 2, 1) := by decide +kernel
theorem dX6_taken_40 : decode cX6_taken 40 = .ok (.imul, 1) := by decide +kernel
theorem dX6_taken_41 : decode cX6_taken 41 = .ok (.iload_n 1, 1) := by decide +kernel
theorem dX6_taken_42 : decode cX6_taken 42 = .ok (.iadd, 1) := by decide +kernel
theorem dX6_taken_43 : decode cX6_taken 43 = .ok (.istore 5, 2) := by decide +kernel
theorem dX6_taken_45 : decode cX6_taken 45 = .ok (.aload_n 0, 1) := by decide +kernel
theorem dX6_taken_46 : decode cX6_taken 46 = .ok (.getfield 23, 3) := by decide +kernel
theorem dX6_taken_49 : decode cX6_taken 49 = .ok (.iload 5, 2) := by decide +kernel
theorem dX6_taken_51 : decode cX6_taken 51 = .ok (.iaload, 1) := by decide +kernel
theorem dX6_taken_52 : decode cX6_taken 52 = .ok (.istore 6, 2) := by decide +kernel
theorem dX6_taken_54 : decode cX6_taken 54 = .ok (.iload_n 3, 1) := by decide +kernel
theorem dX6_taken_55 : decode cX6_taken 55 = .ok (.ifCond .eq 31, 3) := by decide +kernel
theorem dX6_taken_58 : decode cX6_taken 58 = .ok (.iload_n 3, 1) := by decide +kernel
theorem dX6_taken_59 : decode cX6_taken 59 = .ok (.iload 6, 2) := by decide +kernel
theorem dX6_taken_61 : decode cX6_taken 61 = .ok (.if_icmp .eq 25, 3) := by decide +kernel
theorem dX6_taken_64 : decode cX6_taken 64 = .ok (.iload_n 3, 1) := by decide +kernel
theorem dX6_taken_65 : decode cX6_taken 65 = .ok (.iconst 2, 1) := by decide +kernel
theorem dX6_taken_66 : decode cX6_taken 66 = .ok (.if_icmp .ne 9, 3) := by decide +kernel
theorem dX6_taken_69 : decode cX6_taken 69 = .ok (.iload 6, 2) := by decide +kernel
theorem dX6_taken_71 : decode cX6_taken 71 = .ok (.iconst 3, 1) := by decide +kernel
theorem dX6_taken_72 : decode cX6_taken 72 = .ok (.if_icmp .eq 14, 3) := by decide +kernel
theorem dX6_taken_75 : decode cX6_taken 75 = .ok (.iload_n 3, 1) := by decide +kernel
theorem dX6_taken_76 : decode cX6_taken 76 = .ok (.iconst 1, 1) := by decide +kernel
theorem dX6_taken_77 : decode cX6_taken 77 = .ok (.if_icmp .ne 13, 3) := by decide +kernel
theorem dX6_taken_80 : decode cX6_taken 80 = .ok (.iload 6, 2) := by decide +kernel
theorem dX6_taken_82 : decode cX6_taken 82 = .ok (.iconst 4, 1) := by decide +kernel
theorem dX6_taken_83 : decode cX6_taken 83 = .ok (.if_icmp .ne 7, 3) := by decide +kernel
theorem dX6_taken_86 : decode cX6_taken 86 = .ok (.iconst 1, 1) := by decide +kernel
theorem dX6_taken_87 : decode cX6_taken 87 = .ok (.goto 4, 3) := by decide +kernel
theorem dX6_taken_90 : decode cX6_taken 90 = .ok (.iconst 0, 1) := by decide +kernel
theorem dX6_taken_91 : decode cX6_taken 91 = .ok (.istore 7, 2) := by decide +kernel
theorem dX6_taken_93 : decode cX6_taken 93 = .ok (.iload 7, 2) := by decide +kernel
theorem dX6_taken_95 : decode cX6_taken 95 = .ok (.ifCond .ne 9, 3) := by decide +kernel
theorem dX6_taken_98 : decode cX6_taken 98 = .ok (.aload_n 0, 1) := by decide +kernel
theorem dX6_taken_99 : decode cX6_taken 99 = .ok (.iconst 3, 1) := by decide +kernel
theorem dX6_taken_100 : decode cX6_taken 100 = .ok (.invokevirtual 87, 3) := by decide +kernel
theorem dX6_taken_103 : decode cX6_taken 103 = .ok (.ireturn, 1) := by decide +kernel
theorem dX6_taken_104 : decode cX6_taken 104 = .ok (.iload 4, 2) := by decide +kernel
theorem dX6_taken_106 : decode cX6_taken 106 = .ok (.ifCond .ne 8, 3) := by decide +kernel
theorem dX6_taken_109 : decode cX6_taken 109 = .ok (.iload 6, 2) := by decide +kernel
theorem dX6_taken_111 : decode cX6_taken 111 = .ok (.goto 10, 3) := by decide +kernel
theorem dX6_taken_114 : decode cX6_taken 114 = .ok (.aload_n 0, 1) := by decide +kernel
theorem dX6_taken_115 : decode cX6_taken 115 = .ok (.getfield 26, 3) := by decide +kernel
theorem dX6_taken_118 : decode cX6_taken 118 = .ok (.iload 5, 2) := by decide +kernel
theorem dX6_taken_120 : decode cX6_taken 120 = .ok (.iaload, 1) := by decide +kernel
theorem dX6_taken_121 : decode cX6_taken 121 = .ok (.ireturn, 1) := by decide +kernel
theorem dX6_tell_0 : decode cX6_tell 0 = .ok (.iload_n 2, 1) := by decide +kernel
theorem dX6_tell_1 : decode cX6_tell 1 = .ok (.i2l, 1) := by decide +kernel
theorem dX6_tell_2 : decode cX6_tell 2 = .ok (.lconst 0, 1) := by decide +kernel
theorem dX6_tell_3 : decode cX6_tell 3 = .ok (.ldc2_w 125, 3) := by decide +kernel
theorem dX6_tell_6 : decode cX6_tell 6 = .ok (.invokestatic 77, 3) := by decide +kernel
theorem dX6_tell_9 : decode cX6_tell 9 = .ok (.ifCond .eq 15, 3) := by decide +kernel
theorem dX6_tell_12 : decode cX6_tell 12 = .ok (.iload_n 3, 1) := by decide +kernel
theorem dX6_tell_13 : decode cX6_tell 13 = .ok (.i2l, 1) := by decide +kernel
theorem dX6_tell_14 : decode cX6_tell 14 = .ok (.lconst 0, 1) := by decide +kernel
theorem dX6_tell_15 : decode cX6_tell 15 = .ok (.ldc2_w 127, 3) := by decide +kernel
theorem dX6_tell_18 : decode cX6_tell 18 = .ok (.invokestatic 77, 3) := by decide +kernel
theorem dX6_tell_21 : decode cX6_tell 21 = .ok (.ifCond .ne 6, 3) := by decide +kernel
theorem dX6_tell_24 : decode cX6_tell 24 = .ok (.bipush (-2), 2) := by decide +kernel
theorem dX6_tell_26 : decode cX6_tell 26 = .ok (.ireturn, 1) := by decide +kernel
theorem dX6_tell_27 : decode cX6_tell 27 = .ok (.iload_n 1, 1) := by decide +kernel
theorem dX6_tell_28 : decode cX6_tell 28 = .ok (.ifCond .eq 12, 3) := by decide +kernel
theorem dX6_tell_31 : decode cX6_tell 31 = .ok (.aload_n 0, 1) := by decide +kernel
theorem dX6_tell_32 : decode cX6_tell 32 = .ok (.getfield 41, 3) := by decide +kernel
theorem dX6_tell_35 : decode cX6_tell 35 = .ok (.iload_n 2, 1) := by decide +kernel
theorem dX6_tell_36 : decode cX6_tell 36 = .ok (.iaload, 1) := by decide +kernel
theorem dX6_tell_37 : decode cX6_tell 37 = .ok (.goto 9, 3) := by decide +kernel
theorem dX6_tell_40 : decode cX6_tell 40 = .ok (.aload_n 0, 1) := by decide +kernel
theorem dX6_tell_41 : decode cX6_tell 41 = .ok (.getfield 38, 3) := by decide +kernel
theorem dX6_tell_44 : decode cX6_tell 44 = .ok (.iload_n 2, 1) := by decide +kernel
theorem dX6_tell_45 : decode cX6_tell 45 = .ok (.iaload, 1) := by decide +kernel
theorem dX6_tell_46 : decode cX6_tell 46 = .ok (.istore 4, 2) := by decide +kernel
theorem dX6_tell_48 : decode cX6_tell 48 = .ok (.iload_n 1, 1) := by decide +kernel
theorem dX6_tell_49 : decode cX6_tell 49 = .ok (.ifCond .eq 13, 3) := by decide +kernel
theorem dX6_tell_52 : decode cX6_tell 52 = .ok (.aload_n 0, 1) := by decide +kernel
theorem dX6_tell_53 : decode cX6_tell 53 = .ok (.getfield 41, 3) := by decide +kernel
theorem dX6_tell_56 : decode cX6_tell 56 = .ok (.iload_n 2, 1) := by decide +kernel
theorem dX6_tell_57 : decode cX6_tell 57 = .ok (.iload_n 3, 1) := by decide +kernel
theorem dX6_tell_58 : decode cX6_tell 58 = .ok (.iastore, 1) := by decide +kernel
theorem dX6_tell_59 : decode cX6_tell 59 = .ok (.goto 10, 3) := by decide +kernel
theorem dX6_tell_62 : decode cX6_tell 62 = .ok (.aload_n 0, 1) := by decide +kernel
theorem dX6_tell_63 : decode cX6_tell 63 = .ok (.getfield 38, 3) := by decide +kernel
theorem dX6_tell_66 : decode cX6_tell 66 = .ok (.iload_n 2, 1) := by decide +kernel
theorem dX6_tell_67 : decode cX6_tell 67 = .ok (.iload_n 3, 1) := by decide +kernel
theorem dX6_tell_68 : decode cX6_tell 68 = .ok (.iastore, 1) := by decide +kernel
theorem dX6_tell_69 : decode cX6_tell 69 = .ok (.iload 4, 2) := by decide +kernel
theorem dX6_tell_71 : decode cX6_tell 71 = .ok (.ireturn, 1) := by decide +kernel
theorem dX6_rule_0 : decode cX6_rule 0 = .ok (.iload_n 1, 1) := by decide +kernel
theorem dX6_rule_1 : decode cX6_rule 1 = .ok (.i2l, 1) := by decide +kernel
theorem dX6_rule_2 : decode cX6_rule 2 = .ok (.lconst 0, 1) := by decide +kernel
theorem dX6_rule_3 : decode cX6_rule 3 = .ok (.ldc2_w 121, 3) := by decide +kernel
theorem dX6_rule_6 : decode cX6_rule 6 = .ok (.invokestatic 77, 3) := by decide +kernel
theorem dX6_rule_9 : decode cX6_rule 9 = .ok (.ifCond .eq 15, 3) := by decide +kernel
theorem dX6_rule_12 : decode cX6_rule 12 = .ok (.iload_n 2, 1) := by decide +kernel
theorem dX6_rule_13 : decode cX6_rule 13 = .ok (.i2l, 1) := by decide +kernel
theorem dX6_rule_14 : decode cX6_rule 14 = .ok (.lconst 1, 1) := by decide +kernel
theorem dX6_rule_15 : decode cX6_rule 15 = .ok (.ldc2_w 129, 3) := by decide +kernel
theorem dX6_rule_18 : decode cX6_rule 18 = .ok (.invokestatic 77, 3) := by decide +kernel
theorem dX6_rule_21 : decode cX6_rule 21 = .ok (.ifCond .ne 6, 3) := by decide +kernel
theorem dX6_rule_24 : decode cX6_rule 24 = .ok (.bipush (-2), 2) := by decide +kernel
theorem dX6_rule_26 : decode cX6_rule 26 = .ok (.ireturn, 1) := by decide +kernel
theorem dX6_rule_27 : decode cX6_rule 27 = .ok (.aload_n 0, 1) := by decide +kernel
theorem dX6_rule_28 : decode cX6_rule 28 = .ok (.getfield 44, 3) := by decide +kernel
theorem dX6_rule_31 : decode cX6_rule 31 = .ok (.istore_n 3, 1) := by decide +kernel
theorem dX6_rule_32 : decode cX6_rule 32 = .ok (.aload_n 0, 1) := by decide +kernel
theorem dX6_rule_33 : decode cX6_rule 33 = .ok (.iload_n 1, 1) := by decide +kernel
theorem dX6_rule_34 : decode cX6_rule 34 = .ok (.putfield 131, 3) := by decide +kernel
theorem dX6_rule_37 : decode cX6_rule 37 = .ok (.aload_n 0, 1) := by decide +kernel
theorem dX6_rule_38 : decode cX6_rule 38 = .ok (.iload_n 2, 1) := by decide +kernel
theorem dX6_rule_39 : decode cX6_rule 39 = .ok (.putfield 44, 3) := by decide +kernel
theorem dX6_rule_42 : decode cX6_rule 42 = .ok (.iload_n 3, 1) := by decide +kernel
theorem dX6_rule_43 : decode cX6_rule 43 = .ok (.ireturn, 1) := by decide +kernel
theorem dX6_thick_0 : decode cX6_thick 0 = .ok (.lconst 0, 1) := by decide +kernel
theorem dX6_thick_1 : decode cX6_thick 1 = .ok (.lstore_n 2, 1) := by decide +kernel
theorem dX6_thick_2 : decode cX6_thick 2 = .ok (.iconst 0, 1) := by decide +kernel
theorem dX6_thick_3 : decode cX6_thick 3 = .ok (.istore 4, 2) := by decide +kernel
theorem dX6_thick_5 : decode cX6_thick 5 = .ok (.iload 4, 2) := by decide +kernel
theorem dX6_thick_7 : decode cX6_thick 7 = .ok (.bipush 61, 2) := by decide +kernel
theorem dX6_thick_9 : decode cX6_thick 9 = .ok (.if_icmp .ge 24, 3) := by decide +kernel
theorem dX6_thick_12 : decode cX6_thick 12 = .ok (.lload_n 2, 1) := by decide +kernel
theorem dX6_thick_13 : decode cX6_thick 13 = .ok (.aload_n 0, 1) := by decide +kernel
theorem dX6_thick_14 : decode cX6_thick 14 = .ok (.getfield 32, 3) := by decide +kernel
theorem dX6_thick_17 : decode cX6_thick 17 = .ok (.bipush 61, 2) := by decide +kernel
theorem dX6_thick_19 : decode cX6_thick 19 = .ok (.iload_n 1, 1) := by decide +kernel
theorem dX6_thick_20 : decode cX6_thick 20 = .ok (.imul, 1) := by decide +kernel
theorem dX6_thick_21 : decode cX6_thick 21 = .ok (.iload 4, 2) := by decide +kernel
theorem dX6_thick_23 : decode cX6_thick 23 = .ok (.iadd, 1) := by decide +kernel
theorem dX6_thick_24 : decode cX6_thick 24 = .ok (.laload, 1) := by decide +kernel
theorem dX6_thick_25 : decode cX6_thick 25 = .ok (.ladd, 1) := by decide +kernel
theorem dX6_thick_26 : decode cX6_thick 26 = .ok (.lstore_n 2, 1) := by decide +kernel
theorem dX6_thick_27 : decode cX6_thick 27 = .ok (.iinc 4 1, 3) := by decide +kernel
theorem dX6_thick_30 : decode cX6_thick 30 = .ok (.goto (-25), 3) := by decide +kernel
theorem dX6_thick_33 : decode cX6_thick 33 = .ok (.lload_n 2, 1) := by decide +kernel
theorem dX6_thick_34 : decode cX6_thick 34 = .ok (.lreturn, 1) := by decide +kernel
theorem dX6_ice_0 : decode cX6_ice 0 = .ok (.aload_n 0, 1) := by decide +kernel
theorem dX6_ice_1 : decode cX6_ice 1 = .ok (.iload_n 1, 1) := by decide +kernel
theorem dX6_ice_2 : decode cX6_ice 2 = .ok (.iload_n 2, 1) := by decide +kernel
theorem dX6_ice_3 : decode cX6_ice 3 = .ok (.invokevirtual 115, 3) := by decide +kernel
theorem dX6_ice_6 : decode cX6_ice 6 = .ok (.ifCond .ne 7, 3) := by decide +kernel
theorem dX6_ice_9 : decode cX6_ice 9 = .ok (.ldc2_w 95, 3) := by decide +kernel
theorem dX6_ice_12 : decode cX6_ice 12 = .ok (.lreturn, 1) := by decide +kernel
theorem dX6_ice_13 : decode cX6_ice 13 = .ok (.iload_n 3, 1) := by decide +kernel
theorem dX6_ice_14 : decode cX6_ice 14 = .ok (.i2l, 1) := by decide +kernel
theorem dX6_ice_15 : decode cX6_ice 15 = .ok (.lconst 0, 1) := by decide +kernel
theorem dX6_ice_16 : decode cX6_ice 16 = .ok (.ldc2_w 129, 3) := by decide +kernel
theorem dX6_ice_19 : decode cX6_ice 19 = .ok (.invokestatic 77, 3) := by decide +kernel
theorem dX6_ice_22 : decode cX6_ice 22 = .ok (.ifCond .ne 7, 3) := by decide +kernel
theorem dX6_ice_25 : decode cX6_ice 25 = .ok (.ldc2_w 97, 3) := by decide +kernel
theorem dX6_ice_28 : decode cX6_ice 28 = .ok (.lreturn, 1) := by decide +kernel
theorem dX6_ice_29 : decode cX6_ice 29 = .ok (.bipush 8, 2) := by decide +kernel
theorem dX6_ice_31 : decode cX6_ice 31 = .ok (.iload_n 2, 1) := by decide +kernel
theorem dX6_ice_32 : decode cX6_ice 32 = .ok (.imul, 1) := by decide +kernel
theorem dX6_ice_33 : decode cX6_ice 33 = .ok (.iload_n 1, 1) := by decide +kernel
theorem dX6_ice_34 : decode cX6_ice 34 = .ok (.iadd, 1) := by decide +kernel
theorem dX6_ice_35 : decode cX6_ice 35 = .ok (.istore 4, 2) := by decide +kernel
theorem dX6_ice_37 : decode cX6_ice 37 = .ok (.aload_n 0, 1) := by decide +kernel
theorem dX6_ice_38 : decode cX6_ice 38 = .ok (.getfield 23, 3) := by decide +kernel
theorem dX6_ice_41 : decode cX6_ice 41 = .ok (.iload 4, 2) := by decide +kernel
theorem dX6_ice_43 : decode cX6_ice 43 = .ok (.iaload, 1) := by decide +kernel
theorem dX6_ice_44 : decode cX6_ice 44 = .ok (.iconst 4, 1) := by decide +kernel
theorem dX6_ice_45 : decode cX6_ice 45 = .ok (.if_icmp .eq 10, 3) := by decide +kernel
theorem dX6_ice_48 : decode cX6_ice 48 = .ok (.aload_n 0, 1) := by decide +kernel
theorem dX6_ice_49 : decode cX6_ice 49 = .ok (.getfield 107, 3) := by decide +kernel
theorem dX6_ice_52 : decode cX6_ice 52 = .ok (.ifCond .eq 7, 3) := by decide +kernel
theorem dX6_ice_55 : decode cX6_ice 55 = .ok (.ldc2_w 134, 3) := by decide +kernel
theorem dX6_ice_58 : decode cX6_ice 58 = .ok (.lreturn, 1) := by decide +kernel
theorem dX6_ice_59 : decode cX6_ice 59 = .ok (.aload_n 0, 1) := by decide +kernel
theorem dX6_ice_60 : decode cX6_ice 60 = .ok (.getfield 32, 3) := by decide +kernel
theorem dX6_ice_63 : decode cX6_ice 63 = .ok (.bipush 61, 2) := by decide +kernel
theorem dX6_ice_65 : decode cX6_ice 65 = .ok (.iload 4, 2) := by decide +kernel
theorem dX6_ice_67 : decode cX6_ice 67 = .ok (.imul, 1) := by decide +kernel
theorem dX6_ice_68 : decode cX6_ice 68 = .ok (.dup2, 1) := by decide +kernel
theorem dX6_ice_69 : decode cX6_ice 69 = .ok (.laload, 1) := by decide +kernel
theorem dX6_ice_70 : decode cX6_ice 70 = .ok (.iload_n 3, 1) := by decide +kernel
theorem dX6_ice_71 : decode cX6_ice 71 = .ok (.i2l, 1) := by decide +kernel
theorem dX6_ice_72 : decode cX6_ice 72 = .ok (.ladd, 1) := by decide +kernel
theorem dX6_ice_73 : decode cX6_ice 73 = .ok (.lastore, 1) := by decide +kernel
theorem dX6_ice_74 : decode cX6_ice 74 = .ok (.aload_n 0, 1) := by decide +kernel
theorem dX6_ice_75 : decode cX6_ice 75 = .ok (.getfield 35, 3) := by decide +kernel
theorem dX6_ice_78 : decode cX6_ice 78 = .ok (.sipush 244, 3) := by decide +kernel
theorem dX6_ice_81 : decode cX6_ice 81 = .ok (.dup2, 1) := by decide +kernel
theorem dX6_ice_82 : decode cX6_ice 82 = .ok (.laload, 1) := by decide +kernel
theorem dX6_ice_83 : decode cX6_ice 83 = .ok (.iload_n 3, 1) := by decide +kernel
theorem dX6_ice_84 : decode cX6_ice 84 = .ok (.i2l, 1) := by decide +kernel
theorem dX6_ice_85 : decode cX6_ice 85 = .ok (.ladd, 1) := by decide +kernel
theorem dX6_ice_86 : decode cX6_ice 86 = .ok (.lastore, 1) := by decide +kernel
theorem dX6_ice_87 : decode cX6_ice 87 = .ok (.aload_n 0, 1) := by decide +kernel
theorem dX6_ice_88 : decode cX6_ice 88 = .ok (.iconst 0, 1) := by decide +kernel
theorem dX6_ice_89 : decode cX6_ice 89 = .ok (.putfield 110, 3) := by decide +kernel
theorem dX6_ice_92 : decode cX6_ice 92 = .ok (.aload_n 0, 1) := by decide +kernel
theorem dX6_ice_93 : decode cX6_ice 93 = .ok (.iload 4, 2) := by decide +kernel
theorem dX6_ice_95 : decode cX6_ice 95 = .ok (.invokevirtual 136, 3) := by decide +kernel
theorem dX6_ice_98 : decode cX6_ice 98 = .ok (.lreturn, 1) := by decide +kernel
theorem dX6_keep_0 : decode cX6_keep 0 = .ok (.iconst 0, 1) := by decide +kernel
theorem dX6_keep_1 : decode cX6_keep 1 = .ok (.istore_n 1, 1) := by decide +kernel
theorem dX6_keep_2 : decode cX6_keep 2 = .ok (.iload_n 1, 1) := by decide +kernel
theorem dX6_keep_3 : decode cX6_keep 3 = .ok (.sipush 3904, 3) := by decide +kernel
theorem dX6_keep_6 : decode cX6_keep 6 = .ok (.if_icmp .ge 30, 3) := by decide +kernel
theorem dX6_keep_9 : decode cX6_keep 9 = .ok (.aload_n 0, 1) := by decide +kernel
theorem dX6_keep_10 : decode cX6_keep 10 = .ok (.getfield 48, 3) := by decide +kernel
theorem dX6_keep_13 : decode cX6_keep 13 = .ok (.sipush 3904, 3) := by decide +kernel
theorem dX6_keep_16 : decode cX6_keep 16 = .ok (.aload_n 0, 1) := by decide +kernel
theorem dX6_keep_17 : decode cX6_keep 17 = .ok (.getfield 140, 3) := by decide +kernel
theorem dX6_keep_20 : decode cX6_keep 20 = .ok (.imul, 1) := by decide +kernel
theorem dX6_keep_21 : decode cX6_keep 21 = .ok (.iload_n 1, 1) := by decide +kernel
theorem dX6_keep_22 : decode cX6_keep 22 = .ok (.iadd, 1) := by decide +kernel
theorem dX6_keep_23 : decode cX6_keep 23 = .ok (.aload_n 0, 1) := by decide +kernel
theorem dX6_keep_24 : decode cX6_keep 24 = .ok (.getfield 32, 3) := by decide +kernel
theorem dX6_keep_27 : decode cX6_keep 27 = .ok (.iload_n 1, 1) := by decide +kernel
theorem dX6_keep_28 : decode cX6_keep 28 = .ok (.laload, 1) := by decide +kernel
theorem dX6_keep_29 : decode cX6_keep 29 = .ok (.lastore, 1) := by decide +kernel
theorem dX6_keep_30 : decode cX6_keep 30 = .ok (.iinc 1 1, 3) := by decide +kernel
theorem dX6_keep_33 : decode cX6_keep 33 = .ok (.goto (-31), 3) := by decide +kernel
theorem dX6_keep_36 : decode cX6_keep 36 = .ok (.iconst 0, 1) := by decide +kernel
theorem dX6_keep_37 : decode cX6_keep 37 = .ok (.istore_n 1, 1) := by decide +kernel
theorem dX6_keep_38 : decode cX6_keep 38 = .ok (.iload_n 1, 1) := by decide +kernel
theorem dX6_keep_39 : decode cX6_keep 39 = .ok (.sipush 305, 3) := by decide +kernel
theorem dX6_keep_42 : decode cX6_keep 42 = .ok (.if_icmp .ge 30, 3) := by decide +kernel
theorem dX6_keep_45 : decode cX6_keep 45 = .ok (.aload_n 0, 1) := by decide +kernel
theorem dX6_keep_46 : decode cX6_keep 46 = .ok (.getfield 51, 3) := by decide +kernel
theorem dX6_keep_49 : decode cX6_keep 49 = .ok (.sipush 305, 3) := by decide +kernel
theorem dX6_keep_52 : decode cX6_keep 52 = .ok (.aload_n 0, 1) := by decide +kernel
theorem dX6_keep_53 : decode cX6_keep 53 = .ok (.getfield 140, 3) := by decide +kernel
theorem dX6_keep_56 : decode cX6_keep 56 = .ok (.imul, 1) := by decide +kernel
theorem dX6_keep_57 : decode cX6_keep 57 = .ok (.iload_n 1, 1) := by decide +kernel
theorem dX6_keep_58 : decode cX6_keep 58 = .ok (.iadd, 1) := by decide +kernel
theorem dX6_keep_59 : decode cX6_keep 59 = .ok (.aload_n 0, 1) := by decide +kernel
theorem dX6_keep_60 : decode cX6_keep 60 = .ok (.getfield 35, 3) := by decide +kernel
theorem dX6_keep_63 : decode cX6_keep 63 = .ok (.iload_n 1, 1) := by decide +kernel
theorem dX6_keep_64 : decode cX6_keep 64 = .ok (.laload, 1) := by decide +kernel
theorem dX6_keep_65 : decode cX6_keep 65 = .ok (.lastore, 1) := by decide +kernel
theorem dX6_keep_66 : decode cX6_keep 66 = .ok (.iinc 1 1, 3) := by decide +kernel
theorem dX6_keep_69 : decode cX6_keep 69 = .ok (.goto (-31), 3) := by decide +kernel
theorem dX6_keep_72 : decode cX6_keep 72 = .ok (.aload_n 0, 1) := by decide +kernel
theorem dX6_keep_73 : decode cX6_keep 73 = .ok (.aload_n 0, 1) := by decide +kernel
theorem dX6_keep_74 : decode cX6_keep 74 = .ok (.getfield 140, 3) := by decide +kernel
theorem dX6_keep_77 : decode cX6_keep 77 = .ok (.iconst 1, 1) := by decide +kernel
theorem dX6_keep_78 : decode cX6_keep 78 = .ok (.iadd, 1) := by decide +kernel
theorem dX6_keep_79 : decode cX6_keep 79 = .ok (.iconst 5, 1) := by decide +kernel
theorem dX6_keep_80 : decode cX6_keep 80 = .ok (.irem, 1) := by decide +kernel
theorem dX6_keep_81 : decode cX6_keep 81 = .ok (.putfield 140, 3) := by decide +kernel
theorem dX6_keep_84 : decode cX6_keep 84 = .ok (.aload_n 0, 1) := by decide +kernel
theorem dX6_keep_85 : decode cX6_keep 85 = .ok (.aload_n 0, 1) := by decide +kernel
theorem dX6_keep_86 : decode cX6_keep 86 = .ok (.getfield 110, 3) := by decide +kernel
theorem dX6_keep_89 : decode cX6_keep 89 = .ok (.iconst 5, 1) := by decide +kernel
theorem dX6_keep_90 : decode cX6_keep 90 = .ok (.if_icmp .ge 12, 3) := by decide +kernel
theorem dX6_keep_93 : decode cX6_keep 93 = .ok (.aload_n 0, 1) := by decide +kernel
theorem dX6_keep_94 : decode cX6_keep 94 = .ok (.getfield 110, 3) := by decide +kernel
theorem dX6_keep_97 : decode cX6_keep 97 = .ok (.iconst 1, 1) := by decide +kernel
theorem dX6_keep_98 : decode cX6_keep 98 = .ok (.iadd, 1) := by decide +kernel
theorem dX6_keep_99 : decode cX6_keep 99 = .ok (.goto 4, 3) := by decide +kernel
theorem dX6_keep_102 : decode cX6_keep 102 = .ok (.iconst 5, 1) := by decide +kernel
theorem dX6_keep_103 : decode cX6_keep 103 = .ok (.putfield 110, 3) := by decide +kernel
theorem dX6_keep_106 : decode cX6_keep 106 = .ok (.return_, 1) := by decide +kernel
theorem dX6_back_0 : decode cX6_back 0 = .ok (.aload_n 0, 1) := by decide +kernel
theorem dX6_back_1 : decode cX6_back 1 = .ok (.getfield 110, 3) := by decide +kernel
theorem dX6_back_4 : decode cX6_back 4 = .ok (.ifCond .ne 6, 3) := by decide +kernel
theorem dX6_back_7 : decode cX6_back 7 = .ok (.bipush (-3), 2) := by decide +kernel
theorem dX6_back_9 : decode cX6_back 9 = .ok (.ireturn, 1) := by decide +kernel
theorem dX6_back_10 : decode cX6_back 10 = .ok (.aload_n 0, 1) := by decide +kernel
theorem dX6_back_11 : decode cX6_back 11 = .ok (.dup, 1) := by decide +kernel
theorem dX6_back_12 : decode cX6_back 12 = .ok (.getfield 110, 3) := by decide +kernel
theorem dX6_back_15 : decode cX6_back 15 = .ok (.iconst 1, 1) := by decide +kernel
theorem dX6_back_16 : decode cX6_back 16 = .ok (.isub, 1) := by decide +kernel
theorem dX6_back_17 : decode cX6_back 17 = .ok (.putfield 110, 3) := by decide +kernel
theorem dX6_back_20 : decode cX6_back 20 = .ok (.aload_n 0, 1) := by decide +kernel
theorem dX6_back_21 : decode cX6_back 21 = .ok (.aload_n 0, 1) := by decide +kernel
theorem dX6_back_22 : decode cX6_back 22 = .ok (.getfield 140, 3) := by decide +kernel
theorem dX6_back_25 : decode cX6_back 25 = .ok (.iconst 4, 1) := by decide +kernel
theorem dX6_back_26 : decode cX6_back 26 = .ok (.iadd, 1) := by decide +kernel
theorem dX6_back_27 : decode cX6_back 27 = .ok (.iconst 5, 1) := by decide +kernel
theorem dX6_back_28 : decode cX6_back 28 = .ok (.irem, 1) := by decide +kernel
theorem dX6_back_29 : decode cX6_back 29 = .ok (.putfield 140, 3) := by decide +kernel
theorem dX6_back_32 : decode cX6_back 32 = .ok (.iconst 0, 1) := by decide +kernel
theorem dX6_back_33 : decode cX6_back 33 = .ok (.istore_n 1, 1) := by decide +kernel
theorem dX6_back_34 : decode cX6_back 34 = .ok (.iload_n 1, 1) := by decide +kernel
theorem dX6_back_35 : decode cX6_back 35 = .ok (.sipush 3904, 3) := by decide +kernel
theorem dX6_back_38 : decode cX6_back 38 = .ok (.if_icmp .ge 30, 3) := by decide +kernel
theorem dX6_back_41 : decode cX6_back 41 = .ok (.aload_n 0, 1) := by decide +kernel
theorem dX6_back_42 : decode cX6_back 42 = .ok (.getfield 32, 3) := by decide +kernel
theorem dX6_back_45 : decode cX6_back 45 = .ok (.iload_n 1, 1) := by decide +kernel
theorem dX6_back_46 : decode cX6_back 46 = .ok (.aload_n 0, 1) := by decide +kernel
theorem dX6_back_47 : decode cX6_back 47 = .ok (.getfield 48, 3) := by decide +kernel
theorem dX6_back_50 : decode cX6_back 50 = .ok (.sipush 3904, 3) := by decide +kernel
theorem dX6_back_53 : decode cX6_back 53 = .ok (.aload_n 0, 1) := by decide +kernel
theorem dX6_back_54 : decode cX6_back 54 = .ok (.getfield 140, 3) := by decide +kernel
theorem dX6_back_57 : decode cX6_back 57 = .ok (.imul, 1) := by decide +kernel
theorem dX6_back_58 : decode cX6_back 58 = .ok (.iload_n 1, 1) := by decide +kernel
theorem dX6_back_59 : decode cX6_back 59 = .ok (.iadd, 1) := by decide +kernel
theorem dX6_back_60 : decode cX6_back 60 = .ok (.laload, 1) := by decide +kernel
theorem dX6_back_61 : decode cX6_back 61 = .ok (.lastore, 1) := by decide +kernel
theorem dX6_back_62 : decode cX6_back 62 = .ok (.iinc 1 1, 3) := by decide +kernel
theorem dX6_back_65 : decode cX6_back 65 = .ok (.goto (-31), 3) := by decide +kernel
theorem dX6_back_68 : decode cX6_back 68 = .ok (.iconst 0, 1) := by decide +kernel
theorem dX6_back_69 : decode cX6_back 69 = .ok (.istore_n 1, 1) := by decide +kernel
theorem dX6_back_70 : decode cX6_back 70 = .ok (.iload_n 1, 1) := by decide +kernel
theorem dX6_back_71 : decode cX6_back 71 = .ok (.sipush 305, 3) := by decide +kernel
theorem dX6_back_74 : decode cX6_back 74 = .ok (.if_icmp .ge 30, 3) := by decide +kernel
theorem dX6_back_77 : decode cX6_back 77 = .ok (.aload_n 0, 1) := by decide +kernel
theorem dX6_back_78 : decode cX6_back 78 = .ok (.getfield 35, 3) := by decide +kernel
theorem dX6_back_81 : decode cX6_back 81 = .ok (.iload_n 1, 1) := by decide +kernel
theorem dX6_back_82 : decode cX6_back 82 = .ok (.aload_n 0, 1) := by decide +kernel
theorem dX6_back_83 : decode cX6_back 83 = .ok (.getfield 51, 3) := by decide +kernel
theorem dX6_back_86 : decode cX6_back 86 = .ok (.sipush 305, 3) := by decide +kernel
theorem dX6_back_89 : decode cX6_back 89 = .ok (.aload_n 0, 1) := by decide +kernel
theorem dX6_back_90 : decode cX6_back 90 = .ok (.getfield 140, 3) := by decide +kernel
theorem dX6_back_93 : decode cX6_back 93 = .ok (.imul, 1) := by decide +kernel
theorem dX6_back_94 : decode cX6_back 94 = .ok (.iload_n 1, 1) := by decide +kernel
theorem dX6_back_95 : decode cX6_back 95 = .ok (.iadd, 1) := by decide +kernel
theorem dX6_back_96 : decode cX6_back 96 = .ok (.laload, 1) := by decide +kernel
theorem dX6_back_97 : decode cX6_back 97 = .ok (.lastore, 1) := by decide +kernel
theorem dX6_back_98 : decode cX6_back 98 = .ok (.iinc 1 1, 3) := by decide +kernel
theorem dX6_back_101 : decode cX6_back 101 = .ok (.goto (-31), 3) := by decide +kernel
theorem dX6_back_104 : decode cX6_back 104 = .ok (.aload_n 0, 1) := by decide +kernel
theorem dX6_back_105 : decode cX6_back 105 = .ok (.dup, 1) := by decide +kernel
theorem dX6_back_106 : decode cX6_back 106 = .ok (.getfield 107, 3) := by decide +kernel
theorem dX6_back_109 : decode cX6_back 109 = .ok (.iconst 1, 1) := by decide +kernel
theorem dX6_back_110 : decode cX6_back 110 = .ok (.isub, 1) := by decide +kernel
theorem dX6_back_111 : decode cX6_back 111 = .ok (.putfield 107, 3) := by decide +kernel
theorem dX6_back_114 : decode cX6_back 114 = .ok (.aload_n 0, 1) := by decide +kernel
theorem dX6_back_115 : decode cX6_back 115 = .ok (.getfield 107, 3) := by decide +kernel
theorem dX6_back_118 : decode cX6_back 118 = .ok (.ireturn, 1) := by decide +kernel
theorem dX6_beside_0 : decode cX6_beside 0 = .ok (.iload_n 1, 1) := by decide +kernel
theorem dX6_beside_1 : decode cX6_beside 1 = .ok (.bipush 8, 2) := by decide +kernel
theorem dX6_beside_3 : decode cX6_beside 3 = .ok (.irem, 1) := by decide +kernel
theorem dX6_beside_4 : decode cX6_beside 4 = .ok (.iload_n 2, 1) := by decide +kernel
theorem dX6_beside_5 : decode cX6_beside 5 = .ok (.iconst 1, 1) := by decide +kernel
theorem dX6_beside_6 : decode cX6_beside 6 = .ok (.if_icmp .ne 7, 3) := by decide +kernel
theorem dX6_beside_9 : decode cX6_beside 9 = .ok (.iconst 1, 1) := by decide +kernel
theorem dX6_beside_10 : decode cX6_beside 10 = .ok (.goto 13, 3) := by decide +kernel
theorem dX6_beside_13 : decode cX6_beside 13 = .ok (.iload_n 2, 1) := by decide +kernel
theorem dX6_beside_14 : decode cX6_beside 14 = .ok (.iconst 3, 1) := by decide +kernel
theorem dX6_beside_15 : decode cX6_beside 15 = .ok (.if_icmp .ne 7, 3) := by decide +kernel
theorem dX6_beside_18 : decode cX6_beside 18 = .ok (.iconst (-1), 1) := by decide +kernel
theorem dX6_beside_19 : decode cX6_beside 19 = .ok (.goto 4, 3) := by decide +kernel
theorem dX6_beside_22 : decode cX6_beside 22 = .ok (.iconst 0, 1) := by decide +kernel
theorem dX6_beside_23 : decode cX6_beside 23 = .ok (.iadd, 1) := by decide +kernel
theorem dX6_beside_24 : decode cX6_beside 24 = .ok (.istore_n 3, 1) := by decide +kernel
theorem dX6_beside_25 : decode cX6_beside 25 = .ok (.iload_n 1, 1) := by decide +kernel
theorem dX6_beside_26 : decode cX6_beside 26 = .ok (.bipush 8, 2) := by decide +kernel
theorem dX6_beside_28 : decode cX6_beside 28 = .ok (.idiv, 1) := by decide +kernel
theorem dX6_beside_29 : decode cX6_beside 29 = .ok (.iload_n 2, 1) := by decide +kernel
theorem dX6_beside_30 : decode cX6_beside 30 = .ok (.iconst 2, 1) := by decide +kernel
theorem dX6_beside_31 : decode cX6_beside 31 = .ok (.if_icmp .ne 7, 3) := by decide +kernel
theorem dX6_beside_34 : decode cX6_beside 34 = .ok (.iconst 1, 1) := by decide +kernel
theorem dX6_beside_35 : decode cX6_beside 35 = .ok (.goto 12, 3) := by decide +kernel
theorem dX6_beside_38 : decode cX6_beside 38 = .ok (.iload_n 2, 1) := by decide +kernel
theorem dX6_beside_39 : decode cX6_beside 39 = .ok (.ifCond .ne 7, 3) := by decide +kernel
theorem dX6_beside_42 : decode cX6_beside 42 = .ok (.iconst (-1), 1) := by decide +kernel
theorem dX6_beside_43 : decode cX6_beside 43 = .ok (.goto 4, 3) := by decide +kernel
theorem dX6_beside_46 : decode cX6_beside 46 = .ok (.iconst 0, 1) := by decide +kernel
theorem dX6_beside_47 : decode cX6_beside 47 = .ok (.iadd, 1) := by decide +kernel
theorem dX6_beside_48 : decode cX6_beside 48 = .ok (.istore 4, 2) := by decide +kernel
theorem dX6_beside_50 : decode cX6_beside 50 = .ok (.aload_n 0, 1) := by decide +kernel
theorem dX6_beside_51 : decode cX6_beside 51 = .ok (.iload_n 3, 1) := by decide +kernel
theorem dX6_beside_52 : decode cX6_beside 52 = .ok (.iload 4, 2) := by decide +kernel
theorem dX6_beside_54 : decode cX6_beside 54 = .ok (.invokevirtual 115, 3) := by decide +kernel
theorem dX6_beside_57 : decode cX6_beside 57 = .ok (.ifCond .eq 13, 3) := by decide +kernel
theorem dX6_beside_60 : decode cX6_beside 60 = .ok (.bipush 8, 2) := by decide +kernel
theorem dX6_beside_62 : decode cX6_beside 62 = .ok (.iload 4, 2) := by decide +kernel
theorem dX6_beside_64 : decode cX6_beside 64 = .ok (.imul, 1) := by decide +kernel
theorem dX6_beside_65 : decode cX6_beside 65 = .ok (.iload_n 3, 1) := by decide +kernel
theorem dX6_beside_66 : decode cX6_beside 66 = .ok (.iadd, 1) := by decide +kernel
theorem dX6_beside_67 : decode cX6_beside 67 = .ok (.goto 5, 3) := by decide +kernel
theorem dX6_beside_70 : decode cX6_beside 70 = .ok (.bipush (-9), 2) := by decide +kernel
theorem dX6_beside_72 : decode cX6_beside 72 = .ok (.ireturn, 1) := by decide +kernel
theorem dX6_lesser_0 : decode cX6_lesser 0 = .ok (.lload_n 0, 1) := by decide +kernel
theorem dX6_lesser_1 : decode cX6_lesser 1 = .ok (.lload_n 2, 1) := by decide +kernel
theorem dX6_lesser_2 : decode cX6_lesser 2 = .ok (.lcmp, 1) := by decide +kernel
theorem dX6_lesser_3 : decode cX6_lesser 3 = .ok (.ifCond .ge 7, 3) := by decide +kernel
theorem dX6_lesser_6 : decode cX6_lesser 6 = .ok (.lload_n 0, 1) := by decide +kernel
theorem dX6_lesser_7 : decode cX6_lesser 7 = .ok (.goto 4, 3) := by decide +kernel
theorem dX6_lesser_10 : decode cX6_lesser 10 = .ok (.lload_n 2, 1) := by decide +kernel
theorem dX6_lesser_11 : decode cX6_lesser 11 = .ok (.lreturn, 1) := by decide +kernel
theorem dX6_given_0 : decode cX6_given 0 = .ok (.aload_n 0, 1) := by decide +kernel
theorem dX6_given_1 : decode cX6_given 1 = .ok (.iload_n 1, 1) := by decide +kernel
theorem dX6_given_2 : decode cX6_given 2 = .ok (.iload_n 2, 1) := by decide +kernel
theorem dX6_given_3 : decode cX6_given 3 = .ok (.invokevirtual 143, 3) := by decide +kernel
theorem dX6_given_6 : decode cX6_given 6 = .ok (.istore_n 3, 1) := by decide +kernel
theorem dX6_given_7 : decode cX6_given 7 = .ok (.aload_n 0, 1) := by decide +kernel
theorem dX6_given_8 : decode cX6_given 8 = .ok (.iload_n 1, 1) := by decide +kernel
theorem dX6_given_9 : decode cX6_given 9 = .ok (.invokevirtual 136, 3) := by decide +kernel
theorem dX6_given_12 : decode cX6_given 12 = .ok (.lstore 4, 2) := by decide +kernel
theorem dX6_given_14 : decode cX6_given 14 = .ok (.iload_n 3, 1) := by decide +kernel
theorem dX6_given_15 : decode cX6_given 15 = .ok (.bipush (-9), 2) := by decide +kernel
theorem dX6_given_17 : decode cX6_given 17 = .ok (.if_icmp .eq 10, 3) := by decide +kernel
theorem dX6_given_20 : decode cX6_given 20 = .ok (.lload 4, 2) := by decide +kernel
theorem dX6_given_22 : decode cX6_given 22 = .ok (.lconst 0, 1) := by decide +kernel
theorem dX6_given_23 : decode cX6_given 23 = .ok (.lcmp, 1) := by decide +kernel
theorem dX6_given_24 : decode cX6_given 24 = .ok (.ifCond .ne 5, 3) := by decide +kernel
theorem dX6_given_27 : decode cX6_given 27 = .ok (.lconst 0, 1) := by decide +kernel
theorem dX6_given_28 : decode cX6_given 28 = .ok (.lreturn, 1) := by decide +kernel
theorem dX6_given_29 : decode cX6_given 29 = .ok (.aload_n 0, 1) := by decide +kernel
theorem dX6_given_30 : decode cX6_given 30 = .ok (.getfield 23, 3) := by decide +kernel
theorem dX6_given_33 : decode cX6_given 33 = .ok (.iload_n 3, 1) := by decide +kernel
theorem dX6_given_34 : decode cX6_given 34 = .ok (.iaload, 1) := by decide +kernel
theorem dX6_given_35 : decode cX6_given 35 = .ok (.iconst 4, 1) := by decide +kernel
theorem dX6_given_36 : decode cX6_given 36 = .ok (.if_icmp .ne 8, 3) := by decide +kernel
theorem dX6_given_39 : decode cX6_given 39 = .ok (.lload 4, 2) := by decide +kernel
theorem dX6_given_41 : decode cX6_given 41 = .ok (.goto 27, 3) := by decide +kernel
theorem dX6_given_44 : decode cX6_given 44 = .ok (.aload_n 0, 1) := by decide +kernel
theorem dX6_given_45 : decode cX6_given 45 = .ok (.getfield 29, 3) := by decide +kernel
theorem dX6_given_48 : decode cX6_given 48 = .ok (.iload_n 1, 1) := by decide +kernel
theorem dX6_given_49 : decode cX6_given 49 = .ok (.iaload, 1) := by decide +kernel
theorem dX6_given_50 : decode cX6_given 50 = .ok (.i2l, 1) := by decide +kernel
theorem dX6_given_51 : decode cX6_given 51 = .ok (.lload 4, 2) := by decide +kernel
theorem dX6_given_53 : decode cX6_given 53 = .ok (.ladd, 1) := by decide +kernel
theorem dX6_given_54 : decode cX6_given 54 = .ok (.aload_n 0, 1) := by decide +kernel
theorem dX6_given_55 : decode cX6_given 55 = .ok (.getfield 29, 3) := by decide +kernel
theorem dX6_given_58 : decode cX6_given 58 = .ok (.iload_n 3, 1) := by decide +kernel
theorem dX6_given_59 : decode cX6_given 59 = .ok (.iaload, 1) := by decide +kernel
theorem dX6_given_60 : decode cX6_given 60 = .ok (.i2l, 1) := by decide +kernel
theorem dX6_given_61 : decode cX6_given 61 = .ok (.lsub, 1) := by decide +kernel
theorem dX6_given_62 : decode cX6_given 62 = .ok (.aload_n 0, 1) := by decide +kernel
theorem dX6_given_63 : decode cX6_given 63 = .ok (.iload_n 3, 1) := by decide +kernel
theorem dX6_given_64 : decode cX6_given 64 = .ok (.invokevirtual 136, 3) := by decide +kernel
theorem dX6_given_67 : decode cX6_given 67 = .ok (.lsub, 1) := by decide +kernel
theorem dX6_given_68 : decode cX6_given 68 = .ok (.lstore 6, 2) := by decide +kernel
theorem dX6_given_70 : decode cX6_given 70 = .ok (.lload 6, 2) := by decide +kernel
theorem dX6_given_72 : decode cX6_given 72 = .ok (.lconst 0, 1) := by decide +kernel
theorem dX6_given_73 : decode cX6_given 73 = .ok (.lcmp, 1) := by decide +kernel
theorem dX6_given_74 : decode cX6_given 74 = .ok (.ifCond .gt 5, 3) := by decide +kernel
theorem dX6_given_77 : decode cX6_given 77 = .ok (.lconst 0, 1) := by decide +kernel
theorem dX6_given_78 : decode cX6_given 78 = .ok (.lreturn, 1) := by decide +kernel
theorem dX6_given_79 : decode cX6_given 79 = .ok (.aload_n 0, 1) := by decide +kernel
theorem dX6_given_80 : decode cX6_given 80 = .ok (.getfield 23, 3) := by decide +kernel
theorem dX6_given_83 : decode cX6_given 83 = .ok (.iload_n 1, 1) := by decide +kernel
theorem dX6_given_84 : decode cX6_given 84 = .ok (.iaload, 1) := by decide +kernel
theorem dX6_given_85 : decode cX6_given 85 = .ok (.iconst 1, 1) := by decide +kernel
theorem dX6_given_86 : decode cX6_given 86 = .ok (.if_icmp .ne 13, 3) := by decide +kernel
theorem dX6_given_89 : decode cX6_given 89 = .ok (.aload_n 0, 1) := by decide +kernel
theorem dX6_given_90 : decode cX6_given 90 = .ok (.getfield 26, 3) := by decide +kernel
theorem dX6_given_93 : decode cX6_given 93 = .ok (.iload_n 1, 1) := by decide +kernel
theorem dX6_given_94 : decode cX6_given 94 = .ok (.iaload, 1) := by decide +kernel
theorem dX6_given_95 : decode cX6_given 95 = .ok (.i2l, 1) := by decide +kernel
theorem dX6_given_96 : decode cX6_given 96 = .ok (.goto 8, 3) := by decide +kernel
theorem dX6_given_99 : decode cX6_given 99 = .ok (.aload_n 0, 1) := by decide +kernel
theorem dX6_given_100 : decode cX6_given 100 = .ok (.getfield 131, 3) := by decide +kernel
theorem dX6_given_103 : decode cX6_given 103 = .ok (.i2l, 1) := by decide +kernel
theorem dX6_given_104 : decode cX6_given 104 = .ok (.lstore 8, 2) := by decide +kernel
theorem dX6_given_106 : decode cX6_given 106 = .ok (.lload 8, 2) := by decide +kernel
theorem dX6_given_108 : decode cX6_given 108 = .ok (.lload 6, 2) := by decide +kernel
theorem dX6_given_110 : decode cX6_given 110 = .ok (.lmul, 1) := by decide +kernel
theorem dX6_given_111 : decode cX6_given 111 = .ok (.aload_n 0, 1) := by decide +kernel
theorem dX6_given_112 : decode cX6_given 112 = .ok (.getfield 44, 3) := by decide +kernel
theorem dX6_given_115 : decode cX6_given 115 = .ok (.i2l, 1) := by decide +kernel
theorem dX6_given_116 : decode cX6_given 116 = .ok (.lload 4, 2) := by decide +kernel
theorem dX6_given_118 : decode cX6_given 118 = .ok (.invokestatic 147, 3) := by decide +kernel
theorem dX6_given_121 : decode cX6_given 121 = .ok (.lmul, 1) := by decide +kernel
theorem dX6_given_122 : decode cX6_given 122 = .ok (.ldc2_w 121, 3) := by decide +kernel
theorem dX6_given_125 : decode cX6_given 125 = .ok (.ldiv, 1) := by decide +kernel
theorem dX6_given_126 : decode cX6_given 126 = .ok (.lstore 10, 2) := by decide +kernel
theorem dX6_given_128 : decode cX6_given 128 = .ok (.lload 10, 2) := by decide +kernel
theorem dX6_given_130 : decode cX6_given 130 = .ok (.lload 6, 2) := by decide +kernel
theorem dX6_given_132 : decode cX6_given 132 = .ok (.ldc2_w 105, 3) := by decide +kernel
theorem dX6_given_135 : decode cX6_given 135 = .ok (.ldiv, 1) := by decide +kernel
theorem dX6_given_136 : decode cX6_given 136 = .ok (.lload 4, 2) := by decide +kernel
theorem dX6_given_138 : decode cX6_given 138 = .ok (.ldc2_w 105, 3) := by decide +kernel
theorem dX6_given_141 : decode cX6_given 141 = .ok (.ldiv, 1) := by decide +kernel
theorem dX6_given_142 : decode cX6_given 142 = .ok (.invokestatic 147, 3) := by decide +kernel
theorem dX6_given_145 : decode cX6_given 145 = .ok (.invokestatic 147, 3) := by decide +kernel
theorem dX6_given_148 : decode cX6_given 148 = .ok (.lreturn, 1) := by decide +kernel
theorem dX6_isIce_0 : decode cX6_isIce 0 = .ok (.aload_n 0, 1) := by decide +kernel
theorem dX6_isIce_1 : decode cX6_isIce 1 = .ok (.iload_n 1, 1) := by decide +kernel
theorem dX6_isIce_2 : decode cX6_isIce 2 = .ok (.bipush 8, 2) := by decide +kernel
theorem dX6_isIce_4 : decode cX6_isIce 4 = .ok (.irem, 1) := by decide +kernel
theorem dX6_isIce_5 : decode cX6_isIce 5 = .ok (.iload_n 1, 1) := by decide +kernel
theorem dX6_isIce_6 : decode cX6_isIce 6 = .ok (.bipush 8, 2) := by decide +kernel
theorem dX6_isIce_8 : decode cX6_isIce 8 = .ok (.idiv, 1) := by decide +kernel
theorem dX6_isIce_9 : decode cX6_isIce 9 = .ok (.invokevirtual 115, 3) := by decide +kernel
theorem dX6_isIce_12 : decode cX6_isIce 12 = .ok (.ifCond .eq 17, 3) := by decide +kernel
theorem dX6_isIce_15 : decode cX6_isIce 15 = .ok (.aload_n 0, 1) := by decide +kernel
theorem dX6_isIce_16 : decode cX6_isIce 16 = .ok (.getfield 23, 3) := by decide +kernel
theorem dX6_isIce_19 : decode cX6_isIce 19 = .ok (.iload_n 1, 1) := by decide +kernel
theorem dX6_isIce_20 : decode cX6_isIce 20 = .ok (.iaload, 1) := by decide +kernel
theorem dX6_isIce_21 : decode cX6_isIce 21 = .ok (.iconst 4, 1) := by decide +kernel
theorem dX6_isIce_22 : decode cX6_isIce 22 = .ok (.if_icmp .eq 7, 3) := by decide +kernel
theorem dX6_isIce_25 : decode cX6_isIce 25 = .ok (.iconst 1, 1) := by decide +kernel
theorem dX6_isIce_26 : decode cX6_isIce 26 = .ok (.goto 4, 3) := by decide +kernel
theorem dX6_isIce_29 : decode cX6_isIce 29 = .ok (.iconst 0, 1) := by decide +kernel
theorem dX6_isIce_30 : decode cX6_isIce 30 = .ok (.ireturn, 1) := by decide +kernel
theorem dX6_fall_0 : decode cX6_fall 0 = .ok (.iconst 0, 1) := by decide +kernel
theorem dX6_fall_1 : decode cX6_fall 1 = .ok (.istore_n 1, 1) := by decide +kernel
theorem dX6_fall_2 : decode cX6_fall 2 = .ok (.iload_n 1, 1) := by decide +kernel
theorem dX6_fall_3 : decode cX6_fall 3 = .ok (.bipush 64, 2) := by decide +kernel
theorem dX6_fall_5 : decode cX6_fall 5 = .ok (.if_icmp .ge 193, 3) := by decide +kernel
theorem dX6_fall_8 : decode cX6_fall 8 = .ok (.aload_n 0, 1) := by decide +kernel
theorem dX6_fall_9 : decode cX6_fall 9 = .ok (.iload_n 1, 1) := by decide +kernel
theorem dX6_fall_10 : decode cX6_fall 10 = .ok (.invokevirtual 151, 3) := by decide +kernel
theorem dX6_fall_13 : decode cX6_fall 13 = .ok (.ifCond .eq 179, 3) := by decide +kernel
theorem dX6_fall_16 : decode cX6_fall 16 = .ok (.aload_n 0, 1) := by decide +kernel
theorem dX6_fall_17 : decode cX6_fall 17 = .ok (.getfield 38, 3) := by decide +kernel
theorem dX6_fall_20 : decode cX6_fall 20 = .ok (.aload_n 0, 1) := by decide +kernel
theorem dX6_fall_21 : decode cX6_fall 21 = .ok (.getfield 29, 3) := by decide +kernel
theorem dX6_fall_24 : decode cX6_fall 24 = .ok (.iload_n 1, 1) := by decide +kernel
theorem dX6_fall_25 : decode cX6_fall 25 = .ok (.iaload, 1) := by decide +kernel
theorem dX6_fall_26 : decode cX6_fall 26 = .ok (.sipush 1000, 3) := by decide +kernel
theorem dX6_fall_29 : decode cX6_fall 29 = .ok (.idiv, 1) := by decide +kernel
theorem dX6_fall_30 : decode cX6_fall 30 = .ok (.iaload, 1) := by decide +kernel
theorem dX6_fall_31 : decode cX6_fall 31 = .ok (.istore_n 2, 1) := by decide +kernel
theorem dX6_fall_32 : decode cX6_fall 32 = .ok (.aload_n 0, 1) := by decide +kernel
theorem dX6_fall_33 : decode cX6_fall 33 = .ok (.getfield 32, 3) := by decide +kernel
theorem dX6_fall_36 : decode cX6_fall 36 = .ok (.bipush 61, 2) := by decide +kernel
theorem dX6_fall_38 : decode cX6_fall 38 = .ok (.iload_n 1, 1) := by decide +kernel
theorem dX6_fall_39 : decode cX6_fall 39 = .ok (.imul, 1) := by decide +kernel
theorem dX6_fall_40 : decode cX6_fall 40 = .ok (.aload_n 0, 1) := by decide +kernel
theorem dX6_fall_41 : decode cX6_fall 41 = .ok (.getfield 107, 3) := by decide +kernel
theorem dX6_fall_44 : decode cX6_fall 44 = .ok (.iadd, 1) := by decide +kernel
theorem dX6_fall_45 : decode cX6_fall 45 = .ok (.dup2, 1) := by decide +kernel
theorem dX6_fall_46 : decode cX6_fall 46 = .ok (.laload, 1) := by decide +kernel
theorem dX6_fall_47 : decode cX6_fall 47 = .ok (.iload_n 2, 1) := by decide +kernel
theorem dX6_fall_48 : decode cX6_fall 48 = .ok (.i2l, 1) := by decide +kernel
theorem dX6_fall_49 : decode cX6_fall 49 = .ok (.ladd, 1) := by decide +kernel
theorem dX6_fall_50 : decode cX6_fall 50 = .ok (.lastore, 1) := by decide +kernel
theorem dX6_fall_51 : decode cX6_fall 51 = .ok (.aload_n 0, 1) := by decide +kernel
theorem dX6_fall_52 : decode cX6_fall 52 = .ok (.getfield 35, 3) := by decide +kernel
theorem dX6_fall_55 : decode cX6_fall 55 = .ok (.sipush 244, 3) := by decide +kernel
theorem dX6_fall_58 : decode cX6_fall 58 = .ok (.aload_n 0, 1) := by decide +kernel
theorem dX6_fall_59 : decode cX6_fall 59 = .ok (.getfield 107, 3) := by decide +kernel
theorem dX6_fall_62 : decode cX6_fall 62 = .ok (.iadd, 1) := by decide +kernel
theorem dX6_fall_63 : decode cX6_fall 63 = .ok (.dup2, 1) := by decide +kernel
theorem dX6_fall_64 : decode cX6_fall 64 = .ok (.laload, 1) := by decide +kernel
theorem dX6_fall_65 : decode cX6_fall 65 = .ok (.iload_n 2, 1) := by decide +kernel
theorem dX6_fall_66 : decode cX6_fall 66 = .ok (.i2l, 1) := by decide +kernel
theorem dX6_fall_67 : decode cX6_fall 67 = .ok (.ladd, 1) := by decide +kernel
theorem dX6_fall_68 : decode cX6_fall 68 = .ok (.lastore, 1) := by decide +kernel
theorem dX6_fall_69 : decode cX6_fall 69 = .ok (.aload_n 0, 1) := by decide +kernel
theorem dX6_fall_70 : decode cX6_fall 70 = .ok (.getfield 41, 3) := by decide +kernel
theorem dX6_fall_73 : decode cX6_fall 73 = .ok (.aload_n 0, 1) := by decide +kernel
theorem dX6_fall_74 : decode cX6_fall 74 = .ok (.getfield 29, 3) := by decide +kernel
theorem dX6_fall_77 : decode cX6_fall 77 = .ok (.iload_n 1, 1) := by decide +kernel
theorem dX6_fall_78 : decode cX6_fall 78 = .ok (.iaload, 1) := by decide +kernel
theorem dX6_fall_79 : decode cX6_fall 79 = .ok (.sipush 1000, 3) := by decide +kernel
theorem dX6_fall_82 : decode cX6_fall 82 = .ok (.idiv, 1) := by decide +kernel
theorem dX6_fall_83 : decode cX6_fall 83 = .ok (.iaload, 1) := by decide +kernel
theorem dX6_fall_84 : decode cX6_fall 84 = .ok (.i2l, 1) := by decide +kernel
theorem dX6_fall_85 : decode cX6_fall 85 = .ok (.lstore_n 3, 1) := by decide +kernel
theorem dX6_fall_86 : decode cX6_fall 86 = .ok (.aload_n 0, 1) := by decide +kernel
theorem dX6_fall_87 : decode cX6_fall 87 = .ok (.getfield 23, 3) := by decide +kernel
theorem dX6_fall_90 : decode cX6_fall 90 = .ok (.iload_n 1, 1) := by decide +kernel
theorem dX6_fall_91 : decode cX6_fall 91 = .ok (.iaload, 1) := by decide +kernel
theorem dX6_fall_92 : decode cX6_fall 92 = .ok (.iconst 2, 1) := by decide +kernel
theorem dX6_fall_93 : decode cX6_fall 93 = .ok (.if_icmp .eq 13, 3) := by decide +kernel
theorem dX6_fall_96 : decode cX6_fall 96 = .ok (.aload_n 0, 1) := by decide +kernel
theorem dX6_fall_97 : decode cX6_fall 97 = .ok (.getfield 23, 3) := by decide +kernel
theorem dX6_fall_100 : decode cX6_fall 100 = .ok (.iload_n 1, 1) := by decide +kernel
theorem dX6_fall_101 : decode cX6_fall 101 = .ok (.iaload, 1) := by decide +kernel
theorem dX6_fall_102 : decode cX6_fall 102 = .ok (.iconst 3, 1) := by decide +kernel
theorem dX6_fall_103 : decode cX6_fall 103 = .ok (.if_icmp .ne 19, 3) := by decide +kernel
theorem dX6_fall_106 : decode cX6_fall 106 = .ok (.lload_n 3, 1) := by decide +kernel
theorem dX6_fall_107 : decode cX6_fall 107 = .ok (.lload_n 3, 1) := by decide +kernel
theorem dX6_fall_108 : decode cX6_fall 108 = .ok (.aload_n 0, 1) := by decide +kernel
theorem dX6_fall_109 : decode cX6_fall 109 = .ok (.getfield 26, 3) := by decide +kernel
theorem dX6_fall_112 : decode cX6_fall 112 = .ok (.iload_n 1, 1) := by decide +kernel
theorem dX6_fall_113 : decode cX6_fall 113 = .ok (.iaload, 1) := by decide +kernel
theorem dX6_fall_114 : decode cX6_fall 114 = .ok (.i2l, 1) := by decide +kernel
theorem dX6_fall_115 : decode cX6_fall 115 = .ok (.lmul, 1) := by decide +kernel
theorem dX6_fall_116 : decode cX6_fall 116 = .ok (.ldc2_w 121, 3) := by decide +kernel
theorem dX6_fall_119 : decode cX6_fall 119 = .ok (.ldiv, 1) := by decide +kernel
theorem dX6_fall_120 : decode cX6_fall 120 = .ok (.lsub, 1) := by decide +kernel
theorem dX6_fall_121 : decode cX6_fall 121 = .ok (.lstore_n 3, 1) := by decide +kernel
theorem dX6_fall_122 : decode cX6_fall 122 = .ok (.bipush 60, 2) := by decide +kernel
theorem dX6_fall_124 : decode cX6_fall 124 = .ok (.istore 5, 2) := by decide +kernel
theorem dX6_fall_126 : decode cX6_fall 126 = .ok (.iload 5, 2) := by decide +kernel
theorem dX6_fall_128 : decode cX6_fall 128 = .ok (.ifCond .lt 64, 3) := by decide +kernel
theorem dX6_fall_131 : decode cX6_fall 131 = .ok (.lload_n 3, 1) := by decide +kernel
theorem dX6_fall_132 : decode cX6_fall 132 = .ok (.aload_n 0, 1) := by decide +kernel
theorem dX6_fall_133 : decode cX6_fall 133 = .ok (.getfield 32, 3) := by decide +kernel
theorem dX6_fall_136 : decode cX6_fall 136 = .ok (.bipush 61, 2) := by decide +kernel
theorem dX6_fall_138 : decode cX6_fall 138 = .ok (.iload_n 1, 1) := by decide +kernel
theorem dX6_fall_139 : decode cX6_fall 139 = .ok (.imul, 1) := by decide +kernel
theorem dX6_fall_140 : decode cX6_fall 140 = .ok (.iload 5, 2) := by decide +kernel
theorem dX6_fall_142 : decode cX6_fall 142 = .ok (.iadd, 1) := by decide +kernel
theorem dX6_fall_143 : decode cX6_fall 143 = .ok (.laload, 1) := by decide +kernel
theorem dX6_fall_144 : decode cX6_fall 144 = .ok (.invokestatic 147, 3) := by decide +kernel
theorem dX6_fall_147 : decode cX6_fall 147 = .ok (.lstore 6, 2) := by decide +kernel
theorem dX6_fall_149 : decode cX6_fall 149 = .ok (.aload_n 0, 1) := by decide +kernel
theorem dX6_fall_150 : decode cX6_fall 150 = .ok (.getfield 32, 3) := by decide +kernel
theorem dX6_fall_153 : decode cX6_fall 153 = .ok (.bipush 61, 2) := by decide +kernel
theorem dX6_fall_155 : decode cX6_fall 155 = .ok (.iload_n 1, 1) := by decide +kernel
theorem dX6_fall_156 : decode cX6_fall 156 = .ok (.imul, 1) := by decide +kernel
theorem dX6_fall_157 : decode cX6_fall 157 = .ok (.iload 5, 2) := by decide +kernel
theorem dX6_fall_159 : decode cX6_fall 159 = .ok (.iadd, 1) := by decide +kernel
theorem dX6_fall_160 : decode cX6_fall 160 = .ok (.dup2, 1) := by decide +kernel
theorem dX6_fall_161 : decode cX6_fall 161 = .ok (.laload, 1) := by decide +kernel
theorem dX6_fall_162 : decode cX6_fall 162 = .ok (.lload 6, 2) := by decide +kernel
theorem dX6_fall_164 : decode cX6_fall 164 = .ok (.lsub, 1) := by decide +kernel
theorem dX6_fall_165 : decode cX6_fall 165 = .ok (.lastore, 1) := by decide +kernel
theorem dX6_fall_166 : decode cX6_fall 166 = .ok (.aload_n 0, 1) := by decide +kernel
theorem dX6_fall_167 : decode cX6_fall 167 = .ok (.getfield 35, 3) := by decide +kernel
theorem dX6_fall_170 : decode cX6_fall 170 = .ok (.bipush 61, 2) := by decide +kernel
theorem dX6_fall_172 : decode cX6_fall 172 = .ok (.iload 5, 2) := by decide +kernel
theorem dX6_fall_174 : decode cX6_fall 174 = .ok (.iadd, 1) := by decide +kernel
theorem dX6_fall_175 : decode cX6_fall 175 = .ok (.dup2, 1) := by decide +kernel
theorem dX6_fall_176 : decode cX6_fall 176 = .ok (.laload, 1) := by decide +kernel
theorem dX6_fall_177 : decode cX6_fall 177 = .ok (.lload 6, 2) := by decide +kernel
theorem dX6_fall_179 : decode cX6_fall 179 = .ok (.ladd, 1) := by decide +kernel
theorem dX6_fall_180 : decode cX6_fall 180 = .ok (.lastore, 1) := by decide +kernel
theorem dX6_fall_181 : decode cX6_fall 181 = .ok (.lload_n 3, 1) := by decide +kernel
theorem dX6_fall_182 : decode cX6_fall 182 = .ok (.lload 6, 2) := by decide +kernel
theorem dX6_fall_184 : decode cX6_fall 184 = .ok (.lsub, 1) := by decide +kernel
theorem dX6_fall_185 : decode cX6_fall 185 = .ok (.lstore_n 3, 1) := by decide +kernel
theorem dX6_fall_186 : decode cX6_fall 186 = .ok (.iinc 5 (-1), 3) := by decide +kernel
theorem dX6_fall_189 : decode cX6_fall 189 = .ok (.goto (-63), 3) := by decide +kernel
theorem dX6_fall_192 : decode cX6_fall 192 = .ok (.iinc 1 1, 3) := by decide +kernel
theorem dX6_fall_195 : decode cX6_fall 195 = .ok (.goto (-193), 3) := by decide +kernel
theorem dX6_fall_198 : decode cX6_fall 198 = .ok (.return_, 1) := by decide +kernel
theorem dX6_move_0 : decode cX6_move 0 = .ok (.iconst 0, 1) := by decide +kernel
theorem dX6_move_1 : decode cX6_move 1 = .ok (.istore_n 1, 1) := by decide +kernel
theorem dX6_move_2 : decode cX6_move 2 = .ok (.iload_n 1, 1) := by decide +kernel
theorem dX6_move_3 : decode cX6_move 3 = .ok (.sipush 256, 3) := by decide +kernel
theorem dX6_move_6 : decode cX6_move 6 = .ok (.if_icmp .ge 39, 3) := by decide +kernel
theorem dX6_move_9 : decode cX6_move 9 = .ok (.aload_n 0, 1) := by decide +kernel
theorem dX6_move_10 : decode cX6_move 10 = .ok (.getfield 54, 3) := by decide +kernel
theorem dX6_move_13 : decode cX6_move 13 = .ok (.iload_n 1, 1) := by decide +kernel
theorem dX6_move_14 : decode cX6_move 14 = .ok (.aload_n 0, 1) := by decide +kernel
theorem dX6_move_15 : decode cX6_move 15 = .ok (.iload_n 1, 1) := by decide +kernel
theorem dX6_move_16 : decode cX6_move 16 = .ok (.iconst 4, 1) := by decide +kernel
theorem dX6_move_17 : decode cX6_move 17 = .ok (.idiv, 1) := by decide +kernel
theorem dX6_move_18 : decode cX6_move 18 = .ok (.invokevirtual 151, 3) := by decide +kernel
theorem dX6_move_21 : decode cX6_move 21 = .ok (.ifCond .eq 16, 3) := by decide +kernel
theorem dX6_move_24 : decode cX6_move 24 = .ok (.aload_n 0, 1) := by decide +kernel
theorem dX6_move_25 : decode cX6_move 25 = .ok (.iload_n 1, 1) := by decide +kernel
theorem dX6_move_26 : decode cX6_move 26 = .ok (.iconst 4, 1) := by decide +kernel
theorem dX6_move_27 : decode cX6_move 27 = .ok (.idiv, 1) := by decide +kernel
theorem dX6_move_28 : decode cX6_move 28 = .ok (.iload_n 1, 1) := by decide +kernel
theorem dX6_move_29 : decode cX6_move 29 = .ok (.iconst 4, 1) := by decide +kernel
theorem dX6_move_30 : decode cX6_move 30 = .ok (.irem, 1) := by decide +kernel
theorem dX6_move_31 : decode cX6_move 31 = .ok (.invokevirtual 154, 3) := by decide +kernel
theorem dX6_move_34 : decode cX6_move 34 = .ok (.goto 4, 3) := by decide +kernel
theorem dX6_move_37 : decode cX6_move 37 = .ok (.lconst 0, 1) := by decide +kernel
theorem dX6_move_38 : decode cX6_move 38 = .ok (.lastore, 1) := by decide +kernel
theorem dX6_move_39 : decode cX6_move 39 = .ok (.iinc 1 1, 3) := by decide +kernel
theorem dX6_move_42 : decode cX6_move 42 = .ok (.goto (-40), 3) := by decide +kernel
theorem dX6_move_45 : decode cX6_move 45 = .ok (.iconst 0, 1) := by decide +kernel
theorem dX6_move_46 : decode cX6_move 46 = .ok (.istore_n 1, 1) := by decide +kernel
theorem dX6_move_47 : decode cX6_move 47 = .ok (.iload_n 1, 1) := by decide +kernel
theorem dX6_move_48 : decode cX6_move 48 = .ok (.sipush 3904, 3) := by decide +kernel
theorem dX6_move_51 : decode cX6_move 51 = .ok (.if_icmp .ge 21, 3) := by decide +kernel
theorem dX6_move_54 : decode cX6_move 54 = .ok (.aload_n 0, 1) := by decide +kernel
theorem dX6_move_55 : decode cX6_move 55 = .ok (.getfield 57, 3) := by decide +kernel
theorem dX6_move_58 : decode cX6_move 58 = .ok (.iload_n 1, 1) := by decide +kernel
theorem dX6_move_59 : decode cX6_move 59 = .ok (.aload_n 0, 1) := by decide +kernel
theorem dX6_move_60 : decode cX6_move 60 = .ok (.getfield 32, 3) := by decide +kernel
theorem dX6_move_63 : decode cX6_move 63 = .ok (.iload_n 1, 1) := by decide +kernel
theorem dX6_move_64 : decode cX6_move 64 = .ok (.laload, 1) := by decide +kernel
theorem dX6_move_65 : decode cX6_move 65 = .ok (.lastore, 1) := by decide +kernel
theorem dX6_move_66 : decode cX6_move 66 = .ok (.iinc 1 1, 3) := by decide +kernel
theorem dX6_move_69 : decode cX6_move 69 = .ok (.goto (-22), 3) := by decide +kernel
theorem dX6_move_72 : decode cX6_move 72 = .ok (.iconst 0, 1) := by decide +kernel
theorem dX6_move_73 : decode cX6_move 73 = .ok (.istore_n 1, 1) := by decide +kernel
theorem dX6_move_74 : decode cX6_move 74 = .ok (.iload_n 1, 1) := by decide +kernel
theorem dX6_move_75 : decode cX6_move 75 = .ok (.sipush 256, 3) := by decide +kernel
theorem dX6_move_78 : decode cX6_move 78 = .ok (.if_icmp .ge 166, 3) := by decide +kernel
theorem dX6_move_81 : decode cX6_move 81 = .ok (.iload_n 1, 1) := by decide +kernel
theorem dX6_move_82 : decode cX6_move 82 = .ok (.iconst 4, 1) := by decide +kernel
theorem dX6_move_83 : decode cX6_move 83 = .ok (.idiv, 1) := by decide +kernel
theorem dX6_move_84 : decode cX6_move 84 = .ok (.istore_n 2, 1) := by decide +kernel
theorem dX6_move_85 : decode cX6_move 85 = .ok (.aload_n 0, 1) := by decide +kernel
theorem dX6_move_86 : decode cX6_move 86 = .ok (.getfield 54, 3) := by decide +kernel
theorem dX6_move_89 : decode cX6_move 89 = .ok (.iload_n 1, 1) := by decide +kernel
theorem dX6_move_90 : decode cX6_move 90 = .ok (.laload, 1) := by decide +kernel
theorem dX6_move_91 : decode cX6_move 91 = .ok (.lstore_n 3, 1) := by decide +kernel
theorem dX6_move_92 : decode cX6_move 92 = .ok (.lload_n 3, 1) := by decide +kernel
theorem dX6_move_93 : decode cX6_move 93 = .ok (.lconst 0, 1) := by decide +kernel
theorem dX6_move_94 : decode cX6_move 94 = .ok (.lcmp, 1) := by decide +kernel
theorem dX6_move_95 : decode cX6_move 95 = .ok (.ifCond .le 14, 3) := by decide +kernel
theorem dX6_move_98 : decode cX6_move 98 = .ok (.aload_n 0, 1) := by decide +kernel
theorem dX6_move_99 : decode cX6_move 99 = .ok (.iload_n 2, 1) := by decide +kernel
theorem dX6_move_100 : decode cX6_move 100 = .ok (.iload_n 1, 1) := by decide +kernel
theorem dX6_move_101 : decode cX6_move 101 = .ok (.iconst 4, 1) := by decide +kernel
theorem dX6_move_102 : decode cX6_move 102 = .ok (.irem, 1) := by decide +kernel
theorem dX6_move_103 : decode cX6_move 103 = .ok (.invokevirtual 143, 3) := by decide +kernel
theorem dX6_move_106 : decode cX6_move 106 = .ok (.goto 5, 3) := by decide +kernel
theorem dX6_move_109 : decode cX6_move 109 = .ok (.bipush (-9), 2) := by decide +kernel
theorem dX6_move_111 : decode cX6_move 111 = .ok (.istore 5, 2) := by decide +kernel
theorem dX6_move_113 : decode cX6_move 113 = .ok (.bipush 60, 2) := by decide +kernel
theorem dX6_move_115 : decode cX6_move 115 = .ok (.istore 6, 2) := by decide +kernel
theorem dX6_move_117 : decode cX6_move 117 = .ok (.iload 6, 2) := by decide +kernel
theorem dX6_move_119 : decode cX6_move 119 = .ok (.ifCond .lt 119, 3) := by decide +kernel
theorem dX6_move_122 : decode cX6_move 122 = .ok (.lload_n 3, 1) := by decide +kernel
theorem dX6_move_123 : decode cX6_move 123 = .ok (.lconst 0, 1) := by decide +kernel
theorem dX6_move_124 : decode cX6_move 124 = .ok (.lcmp, 1) := by decide +kernel
theorem dX6_move_125 : decode cX6_move 125 = .ok (.ifCond .le 113, 3) := by decide +kernel
theorem dX6_move_128 : decode cX6_move 128 = .ok (.lload_n 3, 1) := by decide +kernel
theorem dX6_move_129 : decode cX6_move 129 = .ok (.aload_n 0, 1) := by decide +kernel
theorem dX6_move_130 : decode cX6_move 130 = .ok (.getfield 57, 3) := by decide +kernel
theorem dX6_move_133 : decode cX6_move 133 = .ok (.bipush 61, 2) := by decide +kernel
theorem dX6_move_135 : decode cX6_move 135 = .ok (.iload_n 2, 1) := by decide +kernel
theorem dX6_move_136 : decode cX6_move 136 = .ok (.imul, 1) := by decide +kernel
theorem dX6_move_137 : decode cX6_move 137 = .ok (.iload 6, 2) := by decide +kernel
theorem dX6_move_139 : decode cX6_move 139 = .ok (.iadd, 1) := by decide +kernel
theorem dX6_move_140 : decode cX6_move 140 = .ok (.laload, 1) := by decide +kernel
theorem dX6_move_141 : decode cX6_move 141 = .ok (.invokestatic 147, 3) := by decide +kernel
theorem dX6_move_144 : decode cX6_move 144 = .ok (.lstore 7, 2) := by decide +kernel
theorem dX6_move_146 : decode cX6_move 146 = .ok (.aload_n 0, 1) := by decide +kernel
theorem dX6_move_147 : decode cX6_move 147 = .ok (.getfield 57, 3) := by decide +kernel
theorem dX6_move_150 : decode cX6_move 150 = .ok (.bipush 61, 2) := by decide +kernel
theorem dX6_move_152 : decode cX6_move 152 = .ok (.iload_n 2, 1) := by decide +kernel
theorem dX6_move_153 : decode cX6_move 153 = .ok (.imul, 1) := by decide +kernel
theorem dX6_move_154 : decode cX6_move 154 = .ok (.iload 6, 2) := by decide +kernel
theorem dX6_move_156 : decode cX6_move 156 = .ok (.iadd, 1) := by decide +kernel
theorem dX6_move_157 : decode cX6_move 157 = .ok (.dup2, 1) := by decide +kernel
theorem dX6_move_158 : decode cX6_move 158 = .ok (.laload, 1) := by decide +kernel
theorem dX6_move_159 : decode cX6_move 159 = .ok (.lload 7, 2) := by decide +kernel
theorem dX6_move_161 : decode cX6_move 161 = .ok (.lsub, 1) := by decide +kernel
theorem dX6_move_162 : decode cX6_move 162 = .ok (.lastore, 1) := by decide +kernel
theorem dX6_move_163 : decode cX6_move 163 = .ok (.aload_n 0, 1) := by decide +kernel
theorem dX6_move_164 : decode cX6_move 164 = .ok (.getfield 32, 3) := by decide +kernel
theorem dX6_move_167 : decode cX6_move 167 = .ok (.bipush 61, 2) := by decide +kernel
theorem dX6_move_169 : decode cX6_move 169 = .ok (.iload_n 2, 1) := by decide +kernel
theorem dX6_move_170 : decode cX6_move 170 = .ok (.imul, 1) := by decide +kernel
theorem dX6_move_171 : decode cX6_move 171 = .ok (.iload 6, 2) := by decide +kernel
theorem dX6_move_173 : decode cX6_move 173 = .ok (.iadd, 1) := by decide +kernel
theorem dX6_move_174 : decode cX6_move 174 = .ok (.dup2, 1) := by decide +kernel
theorem dX6_move_175 : decode cX6_move 175 = .ok (.laload, 1) := by decide +kernel
theorem dX6_move_176 : decode cX6_move 176 = .ok (.lload 7, 2) := by decide +kernel
theorem dX6_move_178 : decode cX6_move 178 = .ok (.lsub, 1) := by decide +kernel
theorem dX6_move_179 : decode cX6_move 179 = .ok (.lastore, 1) := by decide +kernel
theorem dX6_move_180 : decode cX6_move 180 = .ok (.lload_n 3, 1) := by decide +kernel
theorem dX6_move_181 : decode cX6_move 181 = .ok (.lload 7, 2) := by decide +kernel
theorem dX6_move_183 : decode cX6_move 183 = .ok (.lsub, 1) := by decide +kernel
theorem dX6_move_184 : decode cX6_move 184 = .ok (.lstore_n 3, 1) := by decide +kernel
theorem dX6_move_185 : decode cX6_move 185 = .ok (.aload_n 0, 1) := by decide +kernel
theorem dX6_move_186 : decode cX6_move 186 = .ok (.getfield 23, 3) := by decide +kernel
theorem dX6_move_189 : decode cX6_move 189 = .ok (.iload 5, 2) := by decide +kernel
theorem dX6_move_191 : decode cX6_move 191 = .ok (.iaload, 1) := by decide +kernel
theorem dX6_move_192 : decode cX6_move 192 = .ok (.iconst 4, 1) := by decide +kernel
theorem dX6_move_193 : decode cX6_move 193 = .ok (.if_icmp .ne 21, 3) := by decide +kernel
theorem dX6_move_196 : decode cX6_move 196 = .ok (.aload_n 0, 1) := by decide +kernel
theorem dX6_move_197 : decode cX6_move 197 = .ok (.getfield 35, 3) := by decide +kernel
theorem dX6_move_200 : decode cX6_move 200 = .ok (.bipush 122, 2) := by decide +kernel
theorem dX6_move_202 : decode cX6_move 202 = .ok (.iload 6, 2) := by decide +kernel
theorem dX6_move_204 : decode cX6_move 204 = .ok (.iadd, 1) := by decide +kernel
theorem dX6_move_205 : decode cX6_move 205 = .ok (.dup2, 1) := by decide +kernel
theorem dX6_move_206 : decode cX6_move 206 = .ok (.laload, 1) := by decide +kernel
theorem dX6_move_207 : decode cX6_move 207 = .ok (.lload 7, 2) := by decide +kernel
theorem dX6_move_209 : decode cX6_move 209 = .ok (.ladd, 1) := by decide +kernel
theorem dX6_move_210 : decode cX6_move 210 = .ok (.lastore, 1) := by decide +kernel
theorem dX6_move_211 : decode cX6_move 211 = .ok (.goto 21, 3) := by decide +kernel
theorem dX6_move_214 : decode cX6_move 214 = .ok (.aload_n 0, 1) := by decide +kernel
theorem dX6_move_215 : decode cX6_move 215 = .ok (.getfield 32, 3) := by decide +kernel
theorem dX6_move_218 : decode cX6_move 218 = .ok (.bipush 61, 2) := by decide +kernel
theorem dX6_move_220 : decode cX6_move 220 = .ok (.iload 5, 2) := by decide +kernel
theorem dX6_move_222 : decode cX6_move 222 = .ok (.imul, 1) := by decide +kernel
theorem dX6_move_223 : decode cX6_move 223 = .ok (.iload 6, 2) := by decide +kernel
theorem dX6_move_225 : decode cX6_move 225 = .ok (.iadd, 1) := by decide +kernel
theorem dX6_move_226 : decode cX6_move 226 = .ok (.dup2, 1) := by decide +kernel
theorem dX6_move_227 : decode cX6_move 227 = .ok (.laload, 1) := by decide +kernel
theorem dX6_move_228 : decode cX6_move 228 = .ok (.lload 7, 2) := by decide +kernel
theorem dX6_move_230 : decode cX6_move 230 = .ok (.ladd, 1) := by decide +kernel
theorem dX6_move_231 : decode cX6_move 231 = .ok (.lastore, 1) := by decide +kernel
theorem dX6_move_232 : decode cX6_move 232 = .ok (.iinc 6 (-1), 3) := by decide +kernel
theorem dX6_move_235 : decode cX6_move 235 = .ok (.goto (-118), 3) := by decide +kernel
theorem dX6_move_238 : decode cX6_move 238 = .ok (.iinc 1 1, 3) := by decide +kernel
theorem dX6_move_241 : decode cX6_move 241 = .ok (.goto (-167), 3) := by decide +kernel
theorem dX6_move_244 : decode cX6_move 244 = .ok (.return_, 1) := by decide +kernel
theorem dX6_swim_0 : decode cX6_swim 0 = .ok (.iconst 0, 1) := by decide +kernel
theorem dX6_swim_1 : decode cX6_swim 1 = .ok (.istore_n 1, 1) := by decide +kernel
theorem dX6_swim_2 : decode cX6_swim 2 = .ok (.iload_n 1, 1) := by decide +kernel
theorem dX6_swim_3 : decode cX6_swim 3 = .ok (.bipush 64, 2) := by decide +kernel
theorem dX6_swim_5 : decode cX6_swim 5 = .ok (.if_icmp .ge 77, 3) := by decide +kernel
theorem dX6_swim_8 : decode cX6_swim 8 = .ok (.iconst 0, 1) := by decide +kernel
theorem dX6_swim_9 : decode cX6_swim 9 = .ok (.istore_n 2, 1) := by decide +kernel
theorem dX6_swim_10 : decode cX6_swim 10 = .ok (.iload_n 2, 1) := by decide +kernel
theorem dX6_swim_11 : decode cX6_swim 11 = .ok (.bipush 61, 2) := by decide +kernel
theorem dX6_swim_13 : decode cX6_swim 13 = .ok (.if_icmp .ge 63, 3) := by decide +kernel
theorem dX6_swim_16 : decode cX6_swim 16 = .ok (.aload_n 0, 1) := by decide +kernel
theorem dX6_swim_17 : decode cX6_swim 17 = .ok (.iload_n 1, 1) := by decide +kernel
theorem dX6_swim_18 : decode cX6_swim 18 = .ok (.invokevirtual 151, 3) := by decide +kernel
theorem dX6_swim_21 : decode cX6_swim 21 = .ok (.ifCond .eq 55, 3) := by decide +kernel
theorem dX6_swim_24 : decode cX6_swim 24 = .ok (.aload_n 0, 1) := by decide +kernel
theorem dX6_swim_25 : decode cX6_swim 25 = .ok (.getfield 23, 3) := by decide +kernel
theorem dX6_swim_28 : decode cX6_swim 28 = .ok (.iload_n 1, 1) := by decide +kernel
theorem dX6_swim_29 : decode cX6_swim 29 = .ok (.iaload, 1) := by decide +kernel
theorem dX6_swim_30 : decode cX6_swim 30 = .ok (.iconst 3, 1) := by decide +kernel
theorem dX6_swim_31 : decode cX6_swim 31 = .ok (.if_icmp .ne 45, 3) := by decide +kernel
theorem dX6_swim_34 : decode cX6_swim 34 = .ok (.aload_n 0, 1) := by decide +kernel
theorem dX6_swim_35 : decode cX6_swim 35 = .ok (.getfield 35, 3) := by decide +kernel
theorem dX6_swim_38 : decode cX6_swim 38 = .ok (.sipush 183, 3) := by decide +kernel
theorem dX6_swim_41 : decode cX6_swim 41 = .ok (.iload_n 2, 1) := by decide +kernel
theorem dX6_swim_42 : decode cX6_swim 42 = .ok (.iadd, 1) := by decide +kernel
theorem dX6_swim_43 : decode cX6_swim 43 = .ok (.dup2, 1) := by decide +kernel
theorem dX6_swim_44 : decode cX6_swim 44 = .ok (.laload, 1) := by decide +kernel
theorem dX6_swim_45 : decode cX6_swim 45 = .ok (.aload_n 0, 1) := by decide +kernel
theorem dX6_swim_46 : decode cX6_swim 46 = .ok (.getfield 32, 3) := by decide +kernel
theorem dX6_swim_49 : decode cX6_swim 49 = .ok (.bipush 61, 2) := by decide +kernel
theorem dX6_swim_51 : decode cX6_swim 51 = .ok (.iload_n 1, 1) := by decide +kernel
theorem dX6_swim_52 : decode cX6_swim 52 = .ok (.imul, 1) := by decide +kernel
theorem dX6_swim_53 : decode cX6_swim 53 = .ok (.iload_n 2, 1) := by decide +kernel
theorem dX6_swim_54 : decode cX6_swim 54 = .ok (.iadd, 1) := by decide +kernel
theorem dX6_swim_55 : decode cX6_swim 55 = .ok (.laload, 1) := by decide +kernel
theorem dX6_swim_56 : decode cX6_swim 56 = .ok (.ladd, 1) := by decide +kernel
theorem dX6_swim_57 : decode cX6_swim 57 = .ok (.lastore, 1) := by decide +kernel
theorem dX6_swim_58 : decode cX6_swim 58 = .ok (.aload_n 0, 1) := by decide +kernel
theorem dX6_swim_59 : decode cX6_swim 59 = .ok (.getfield 32, 3) := by decide +kernel
theorem dX6_swim_62 : decode cX6_swim 62 = .ok (.bipush 61, 2) := by decide +kernel
theorem dX6_swim_64 : decode cX6_swim 64 = .ok (.iload_n 1, 1) := by decide +kernel
theorem dX6_swim_65 : decode cX6_swim 65 = .ok (.imul, 1) := by decide +kernel
theorem dX6_swim_66 : decode cX6_swim 66 = .ok (.iload_n 2, 1) := by decide +kernel
theorem dX6_swim_67 : decode cX6_swim 67 = .ok (.iadd, 1) := by decide +kernel
theorem dX6_swim_68 : decode cX6_swim 68 = .ok (.lconst 0, 1) := by decide +kernel
theorem dX6_swim_69 : decode cX6_swim 69 = .ok (.lastore, 1) := by decide +kernel
theorem dX6_swim_70 : decode cX6_swim 70 = .ok (.iinc 2 1, 3) := by decide +kernel
theorem dX6_swim_73 : decode cX6_swim 73 = .ok (.goto (-63), 3) := by decide +kernel
theorem dX6_swim_76 : decode cX6_swim 76 = .ok (.iinc 1 1, 3) := by decide +kernel
theorem dX6_swim_79 : decode cX6_swim 79 = .ok (.goto (-77), 3) := by decide +kernel
theorem dX6_swim_82 : decode cX6_swim 82 = .ok (.return_, 1) := by decide +kernel
theorem dX6_oneYear_0 : decode cX6_oneYear 0 = .ok (.aload_n 0, 1) := by decide +kernel
theorem dX6_oneYear_1 : decode cX6_oneYear 1 = .ok (.invokevirtual 158, 3) := by decide +kernel
theorem dX6_oneYear_4 : decode cX6_oneYear 4 = .ok (.aload_n 0, 1) := by decide +kernel
theorem dX6_oneYear_5 : decode cX6_oneYear 5 = .ok (.dup, 1) := by decide +kernel
theorem dX6_oneYear_6 : decode cX6_oneYear 6 = .ok (.getfield 107, 3) := by decide +kernel
theorem dX6_oneYear_9 : decode cX6_oneYear 9 = .ok (.iconst 1, 1) := by decide +kernel
theorem dX6_oneYear_10 : decode cX6_oneYear 10 = .ok (.iadd, 1) := by decide +kernel
theorem dX6_oneYear_11 : decode cX6_oneYear 11 = .ok (.putfield 107, 3) := by decide +kernel
theorem dX6_oneYear_14 : decode cX6_oneYear 14 = .ok (.aload_n 0, 1) := by decide +kernel
theorem dX6_oneYear_15 : decode cX6_oneYear 15 = .ok (.invokevirtual 161, 3) := by decide +kernel
theorem dX6_oneYear_18 : decode cX6_oneYear 18 = .ok (.aload_n 0, 1) := by decide +kernel
theorem dX6_oneYear_19 : decode cX6_oneYear 19 = .ok (.invokevirtual 164, 3) := by decide +kernel
theorem dX6_oneYear_22 : decode cX6_oneYear 22 = .ok (.aload_n 0, 1) := by decide +kernel
theorem dX6_oneYear_23 : decode cX6_oneYear 23 = .ok (.invokevirtual 167, 3) := by decide +kernel
theorem dX6_oneYear_26 : decode cX6_oneYear 26 = .ok (.return_, 1) := by decide +kernel
theorem dX6_years_0 : decode cX6_years 0 = .ok (.iload_n 1, 1) := by decide +kernel
theorem dX6_years_1 : decode cX6_years 1 = .ok (.i2l, 1) := by decide +kernel
theorem dX6_years_2 : decode cX6_years 2 = .ok (.lconst 1, 1) := by decide +kernel
theorem dX6_years_3 : decode cX6_years 3 = .ok (.ldc2_w 170, 3) := by decide +kernel
theorem dX6_years_6 : decode cX6_years 6 = .ok (.invokestatic 77, 3) := by decide +kernel
theorem dX6_years_9 : decode cX6_years 9 = .ok (.ifCond .ne 6, 3) := by decide +kernel
theorem dX6_years_12 : decode cX6_years 12 = .ok (.bipush (-2), 2) := by decide +kernel
theorem dX6_years_14 : decode cX6_years 14 = .ok (.ireturn, 1) := by decide +kernel
theorem dX6_years_15 : decode cX6_years 15 = .ok (.aload_n 0, 1) := by decide +kernel
theorem dX6_years_16 : decode cX6_years 16 = .ok (.getfield 99, 3) := by decide +kernel
theorem dX6_years_19 : decode cX6_years 19 = .ok (.ifCond .ne 6, 3) := by decide +kernel
theorem dX6_years_22 : decode cX6_years 22 = .ok (.bipush (-3), 2) := by decide +kernel
theorem dX6_years_24 : decode cX6_years 24 = .ok (.ireturn, 1) := by decide +kernel
theorem dX6_years_25 : decode cX6_years 25 = .ok (.aload_n 0, 1) := by decide +kernel
theorem dX6_years_26 : decode cX6_years 26 = .ok (.getfield 107, 3) := by decide +kernel
theorem dX6_years_29 : decode cX6_years 29 = .ok (.iload_n 1, 1) := by decide +kernel
theorem dX6_years_30 : decode cX6_years 30 = .ok (.iadd, 1) := by decide +kernel
theorem dX6_years_31 : decode cX6_years 31 = .ok (.bipush 60, 2) := by decide +kernel
theorem dX6_years_33 : decode cX6_years 33 = .ok (.if_icmp .le 6, 3) := by decide +kernel
theorem dX6_years_36 : decode cX6_years 36 = .ok (.bipush (-4), 2) := by decide +kernel
theorem dX6_years_38 : decode cX6_years 38 = .ok (.ireturn, 1) := by decide +kernel
theorem dX6_years_39 : decode cX6_years 39 = .ok (.iconst 0, 1) := by decide +kernel
theorem dX6_years_40 : decode cX6_years 40 = .ok (.istore_n 2, 1) := by decide +kernel
theorem dX6_years_41 : decode cX6_years 41 = .ok (.iload_n 2, 1) := by decide +kernel
theorem dX6_years_42 : decode cX6_years 42 = .ok (.iload_n 1, 1) := by decide +kernel
theorem dX6_years_43 : decode cX6_years 43 = .ok (.if_icmp .ge 13, 3) := by decide +kernel
theorem dX6_years_46 : decode cX6_years 46 = .ok (.aload_n 0, 1) := by decide +kernel
theorem dX6_years_47 : decode cX6_years 47 = .ok (.invokevirtual 172, 3) := by decide +kernel
theorem dX6_years_50 : decode cX6_years 50 = .ok (.iinc 2 1, 3) := by decide +kernel
theorem dX6_years_53 : decode cX6_years 53 = .ok (.goto (-12), 3) := by decide +kernel
theorem dX6_years_56 : decode cX6_years 56 = .ok (.aload_n 0, 1) := by decide +kernel
theorem dX6_years_57 : decode cX6_years 57 = .ok (.getfield 107, 3) := by decide +kernel
theorem dX6_years_60 : decode cX6_years 60 = .ok (.ireturn, 1) := by decide +kernel
theorem dX6_note_0 : decode cX6_note 0 = .ok (.iconst 0, 1) := by decide +kernel
theorem dX6_note_1 : decode cX6_note 1 = .ok (.istore_n 2, 1) := by decide +kernel
theorem dX6_note_2 : decode cX6_note 2 = .ok (.iload_n 2, 1) := by decide +kernel
theorem dX6_note_3 : decode cX6_note 3 = .ok (.bipush 64, 2) := by decide +kernel
theorem dX6_note_5 : decode cX6_note 5 = .ok (.if_icmp .ge 25, 3) := by decide +kernel
theorem dX6_note_8 : decode cX6_note 8 = .ok (.aload_n 0, 1) := by decide +kernel
theorem dX6_note_9 : decode cX6_note 9 = .ok (.getfield 60, 3) := by decide +kernel
theorem dX6_note_12 : decode cX6_note 12 = .ok (.bipush 64, 2) := by decide +kernel
theorem dX6_note_14 : decode cX6_note 14 = .ok (.iload_n 1, 1) := by decide +kernel
theorem dX6_note_15 : decode cX6_note 15 = .ok (.imul, 1) := by decide +kernel
theorem dX6_note_16 : decode cX6_note 16 = .ok (.iload_n 2, 1) := by decide +kernel
theorem dX6_note_17 : decode cX6_note 17 = .ok (.iadd, 1) := by decide +kernel
theorem dX6_note_18 : decode cX6_note 18 = .ok (.aload_n 0, 1) := by decide +kernel
theorem dX6_note_19 : decode cX6_note 19 = .ok (.iload_n 2, 1) := by decide +kernel
theorem dX6_note_20 : decode cX6_note 20 = .ok (.invokevirtual 136, 3) := by decide +kernel
theorem dX6_note_23 : decode cX6_note 23 = .ok (.lastore, 1) := by decide +kernel
theorem dX6_note_24 : decode cX6_note 24 = .ok (.iinc 2 1, 3) := by decide +kernel
theorem dX6_note_27 : decode cX6_note 27 = .ok (.goto (-25), 3) := by decide +kernel
theorem dX6_note_30 : decode cX6_note 30 = .ok (.return_, 1) := by decide +kernel
theorem dX6_isLike_0 : decode cX6_isLike 0 = .ok (.iconst 1, 1) := by decide +kernel
theorem dX6_isLike_1 : decode cX6_isLike 1 = .ok (.istore_n 3, 1) := by decide +kernel
theorem dX6_isLike_2 : decode cX6_isLike 2 = .ok (.iconst 0, 1) := by decide +kernel
theorem dX6_isLike_3 : decode cX6_isLike 3 = .ok (.istore 4, 2) := by decide +kernel
theorem dX6_isLike_5 : decode cX6_isLike 5 = .ok (.iload 4, 2) := by decide +kernel
theorem dX6_isLike_7 : decode cX6_isLike 7 = .ok (.bipush 64, 2) := by decide +kernel
theorem dX6_isLike_9 : decode cX6_isLike 9 = .ok (.if_icmp .ge 64, 3) := by decide +kernel
theorem dX6_isLike_12 : decode cX6_isLike 12 = .ok (.iload_n 3, 1) := by decide +kernel
theorem dX6_isLike_13 : decode cX6_isLike 13 = .ok (.ifCond .eq 52, 3) := by decide +kernel
theorem dX6_isLike_16 : decode cX6_isLike 16 = .ok (.aload_n 0, 1) := by decide +kernel
theorem dX6_isLike_17 : decode cX6_isLike 17 = .ok (.iload 4, 2) := by decide +kernel
theorem dX6_isLike_19 : decode cX6_isLike 19 = .ok (.bipush 8, 2) := by decide +kernel
theorem dX6_isLike_21 : decode cX6_isLike 21 = .ok (.irem, 1) := by decide +kernel
theorem dX6_isLike_22 : decode cX6_isLike 22 = .ok (.iload 4, 2) := by decide +kernel
theorem dX6_isLike_24 : decode cX6_isLike 24 = .ok (.bipush 8, 2) := by decide +kernel
theorem dX6_isLike_26 : decode cX6_isLike 26 = .ok (.idiv, 1) := by decide +kernel
theorem dX6_isLike_27 : decode cX6_isLike 27 = .ok (.invokevirtual 115, 3) := by decide +kernel
theorem dX6_isLike_30 : decode cX6_isLike 30 = .ok (.ifCond .eq 31, 3) := by decide +kernel
theorem dX6_isLike_33 : decode cX6_isLike 33 = .ok (.aload_n 0, 1) := by decide +kernel
theorem dX6_isLike_34 : decode cX6_isLike 34 = .ok (.getfield 60, 3) := by decide +kernel
theorem dX6_isLike_37 : decode cX6_isLike 37 = .ok (.bipush 64, 2) := by decide +kernel
theorem dX6_isLike_39 : decode cX6_isLike 39 = .ok (.iload_n 1, 1) := by decide +kernel
theorem dX6_isLike_40 : decode cX6_isLike 40 = .ok (.imul, 1) := by decide +kernel
theorem dX6_isLike_41 : decode cX6_isLike 41 = .ok (.iload 4, 2) := by decide +kernel
theorem dX6_isLike_43 : decode cX6_isLike 43 = .ok (.iadd, 1) := by decide +kernel
theorem dX6_isLike_44 : decode cX6_isLike 44 = .ok (.laload, 1) := by decide +kernel
theorem dX6_isLike_45 : decode cX6_isLike 45 = .ok (.aload_n 0, 1) := by decide +kernel
theorem dX6_isLike_46 : decode cX6_isLike 46 = .ok (.getfield 60, 3) := by decide +kernel
theorem dX6_isLike_49 : decode cX6_isLike 49 = .ok (.bipush 64, 2) := by decide +kernel
theorem dX6_isLike_51 : decode cX6_isLike 51 = .ok (.iload_n 2, 1) := by decide +kernel
theorem dX6_isLike_52 : decode cX6_isLike 52 = .ok (.imul, 1) := by decide +kernel
theorem dX6_isLike_53 : decode cX6_isLike 53 = .ok (.iload 4, 2) := by decide +kernel
theorem dX6_isLike_55 : decode cX6_isLike 55 = .ok (.iadd, 1) := by decide +kernel
theorem dX6_isLike_56 : decode cX6_isLike 56 = .ok (.laload, 1) := by decide +kernel
theorem dX6_isLike_57 : decode cX6_isLike 57 = .ok (.lcmp, 1) := by decide +kernel
theorem dX6_isLike_58 : decode cX6_isLike 58 = .ok (.ifCond .ne 7, 3) := by decide +kernel
theorem dX6_isLike_61 : decode cX6_isLike 61 = .ok (.iconst 1, 1) := by decide +kernel
theorem dX6_isLike_62 : decode cX6_isLike 62 = .ok (.goto 4, 3) := by decide +kernel
theorem dX6_isLike_65 : decode cX6_isLike 65 = .ok (.iconst 0, 1) := by decide +kernel
theorem dX6_isLike_66 : decode cX6_isLike 66 = .ok (.istore_n 3, 1) := by decide +kernel
theorem dX6_isLike_67 : decode cX6_isLike 67 = .ok (.iinc 4 1, 3) := by decide +kernel
theorem dX6_isLike_70 : decode cX6_isLike 70 = .ok (.goto (-65), 3) := by decide +kernel
theorem dX6_isLike_73 : decode cX6_isLike 73 = .ok (.iload_n 3, 1) := by decide +kernel
theorem dX6_isLike_74 : decode cX6_isLike 74 = .ok (.ireturn, 1) := by decide +kernel
theorem dX6_steady_0 : decode cX6_steady 0 = .ok (.iload_n 1, 1) := by decide +kernel
theorem dX6_steady_1 : decode cX6_steady 1 = .ok (.i2l, 1) := by decide +kernel
theorem dX6_steady_2 : decode cX6_steady 2 = .ok (.lconst 1, 1) := by decide +kernel
theorem dX6_steady_3 : decode cX6_steady 3 = .ok (.ldc2_w 170, 3) := by decide +kernel
theorem dX6_steady_6 : decode cX6_steady 6 = .ok (.invokestatic 77, 3) := by decide +kernel
theorem dX6_steady_9 : decode cX6_steady 9 = .ok (.ifCond .ne 6, 3) := by decide +kernel
theorem dX6_steady_12 : decode cX6_steady 12 = .ok (.bipush (-2), 2) := by decide +kernel
theorem dX6_steady_14 : decode cX6_steady 14 = .ok (.ireturn, 1) := by decide +kernel
theorem dX6_steady_15 : decode cX6_steady 15 = .ok (.aload_n 0, 1) := by decide +kernel
theorem dX6_steady_16 : decode cX6_steady 16 = .ok (.getfield 99, 3) := by decide +kernel
theorem dX6_steady_19 : decode cX6_steady 19 = .ok (.ifCond .ne 6, 3) := by decide +kernel
theorem dX6_steady_22 : decode cX6_steady 22 = .ok (.bipush (-3), 2) := by decide +kernel
theorem dX6_steady_24 : decode cX6_steady 24 = .ok (.ireturn, 1) := by decide +kernel
theorem dX6_steady_25 : decode cX6_steady 25 = .ok (.aload_n 0, 1) := by decide +kernel
theorem dX6_steady_26 : decode cX6_steady 26 = .ok (.getfield 107, 3) := by decide +kernel
theorem dX6_steady_29 : decode cX6_steady 29 = .ok (.iload_n 1, 1) := by decide +kernel
theorem dX6_steady_30 : decode cX6_steady 30 = .ok (.iadd, 1) := by decide +kernel
theorem dX6_steady_31 : decode cX6_steady 31 = .ok (.bipush 60, 2) := by decide +kernel
theorem dX6_steady_33 : decode cX6_steady 33 = .ok (.if_icmp .le 6, 3) := by decide +kernel
theorem dX6_steady_36 : decode cX6_steady 36 = .ok (.bipush (-4), 2) := by decide +kernel
theorem dX6_steady_38 : decode cX6_steady 38 = .ok (.ireturn, 1) := by decide +kernel
theorem dX6_steady_39 : decode cX6_steady 39 = .ok (.aload_n 0, 1) := by decide +kernel
theorem dX6_steady_40 : decode cX6_steady 40 = .ok (.iconst 0, 1) := by decide +kernel
theorem dX6_steady_41 : decode cX6_steady 41 = .ok (.invokevirtual 175, 3) := by decide +kernel
theorem dX6_steady_44 : decode cX6_steady 44 = .ok (.iconst 1, 1) := by decide +kernel
theorem dX6_steady_45 : decode cX6_steady 45 = .ok (.istore_n 2, 1) := by decide +kernel
theorem dX6_steady_46 : decode cX6_steady 46 = .ok (.iload_n 2, 1) := by decide +kernel
theorem dX6_steady_47 : decode cX6_steady 47 = .ok (.iload_n 1, 1) := by decide +kernel
theorem dX6_steady_48 : decode cX6_steady 48 = .ok (.if_icmp .gt 45, 3) := by decide +kernel
theorem dX6_steady_51 : decode cX6_steady 51 = .ok (.aload_n 0, 1) := by decide +kernel
theorem dX6_steady_52 : decode cX6_steady 52 = .ok (.invokevirtual 172, 3) := by decide +kernel
theorem dX6_steady_55 : decode cX6_steady 55 = .ok (.aload_n 0, 1) := by decide +kernel
theorem dX6_steady_56 : decode cX6_steady 56 = .ok (.iload_n 2, 1) := by decide +kernel
theorem dX6_steady_57 : decode cX6_steady 57 = .ok (.invokevirtual 175, 3) := by decide +kernel
theorem dX6_steady_60 : decode cX6_steady 60 = .ok (.iload_n 2, 1) := by decide +kernel
theorem dX6_steady_61 : decode cX6_steady 61 = .ok (.iconst 1, 1) := by decide +kernel
theorem dX6_steady_62 : decode cX6_steady 62 = .ok (.isub, 1) := by decide +kernel
theorem dX6_steady_63 : decode cX6_steady 63 = .ok (.istore_n 3, 1) := by decide +kernel
theorem dX6_steady_64 : decode cX6_steady 64 = .ok (.iload_n 3, 1) := by decide +kernel
theorem dX6_steady_65 : decode cX6_steady 65 = .ok (.ifCond .lt 22, 3) := by decide +kernel
theorem dX6_steady_68 : decode cX6_steady 68 = .ok (.aload_n 0, 1) := by decide +kernel
theorem dX6_steady_69 : decode cX6_steady 69 = .ok (.iload_n 2, 1) := by decide +kernel
theorem dX6_steady_70 : decode cX6_steady 70 = .ok (.iload_n 3, 1) := by decide +kernel
theorem dX6_steady_71 : decode cX6_steady 71 = .ok (.invokevirtual 179, 3) := by decide +kernel
theorem dX6_steady_74 : decode cX6_steady 74 = .ok (.ifCond .eq 7, 3) := by decide +kernel
theorem dX6_steady_77 : decode cX6_steady 77 = .ok (.iload_n 2, 1) := by decide +kernel
theorem dX6_steady_78 : decode cX6_steady 78 = .ok (.iload_n 3, 1) := by decide +kernel
theorem dX6_steady_79 : decode cX6_steady 79 = .ok (.isub, 1) := by decide +kernel
theorem dX6_steady_80 : decode cX6_steady 80 = .ok (.ireturn, 1) := by decide +kernel
theorem dX6_steady_81 : decode cX6_steady 81 = .ok (.iinc 3 (-1), 3) := by decide +kernel
theorem dX6_steady_84 : decode cX6_steady 84 = .ok (.goto (-20), 3) := by decide +kernel
theorem dX6_steady_87 : decode cX6_steady 87 = .ok (.iinc 2 1, 3) := by decide +kernel
theorem dX6_steady_90 : decode cX6_steady 90 = .ok (.goto (-44), 3) := by decide +kernel
theorem dX6_steady_93 : decode cX6_steady 93 = .ok (.iconst 0, 1) := by decide +kernel
theorem dX6_steady_94 : decode cX6_steady 94 = .ok (.ireturn, 1) := by decide +kernel
theorem dX6_layerOf_0 : decode cX6_layerOf 0 = .ok (.iload_n 2, 1) := by decide +kernel
theorem dX6_layerOf_1 : decode cX6_layerOf 1 = .ok (.istore_n 3, 1) := by decide +kernel
theorem dX6_layerOf_2 : decode cX6_layerOf 2 = .ok (.bipush 60, 2) := by decide +kernel
theorem dX6_layerOf_4 : decode cX6_layerOf 4 = .ok (.istore 4, 2) := by decide +kernel
theorem dX6_layerOf_6 : decode cX6_layerOf 6 = .ok (.iload 4, 2) := by decide +kernel
theorem dX6_layerOf_8 : decode cX6_layerOf 8 = .ok (.ifCond .lt 40, 3) := by decide +kernel
theorem dX6_layerOf_11 : decode cX6_layerOf 11 = .ok (.iload_n 2, 1) := by decide +kernel
theorem dX6_layerOf_12 : decode cX6_layerOf 12 = .ok (.ifCond .lt 36, 3) := by decide +kernel
theorem dX6_layerOf_15 : decode cX6_layerOf 15 = .ok (.aload_n 0, 1) := by decide +kernel
theorem dX6_layerOf_16 : decode cX6_layerOf 16 = .ok (.getfield 32, 3) := by decide +kernel
theorem dX6_layerOf_19 : decode cX6_layerOf 19 = .ok (.bipush 61, 2) := by decide +kernel
theorem dX6_layerOf_21 : decode cX6_layerOf 21 = .ok (.iload_n 1, 1) := by decide +kernel
theorem dX6_layerOf_22 : decode cX6_layerOf 22 = .ok (.imul, 1) := by decide +kernel
theorem dX6_layerOf_23 : decode cX6_layerOf 23 = .ok (.iload 4, 2) := by decide +kernel
theorem dX6_layerOf_25 : decode cX6_layerOf 25 = .ok (.iadd, 1) := by decide +kernel
theorem dX6_layerOf_26 : decode cX6_layerOf 26 = .ok (.laload, 1) := by decide +kernel
theorem dX6_layerOf_27 : decode cX6_layerOf 27 = .ok (.lconst 0, 1) := by decide +kernel
theorem dX6_layerOf_28 : decode cX6_layerOf 28 = .ok (.lcmp, 1) := by decide +kernel
theorem dX6_layerOf_29 : decode cX6_layerOf 29 = .ok (.ifCond .le 13, 3) := by decide +kernel
theorem dX6_layerOf_32 : decode cX6_layerOf 32 = .ok (.iload_n 3, 1) := by decide +kernel
theorem dX6_layerOf_33 : decode cX6_layerOf 33 = .ok (.ifCond .ne 6, 3) := by decide +kernel
theorem dX6_layerOf_36 : decode cX6_layerOf 36 = .ok (.iload 4, 2) := by decide +kernel
theorem dX6_layerOf_38 : decode cX6_layerOf 38 = .ok (.ireturn, 1) := by decide +kernel
theorem dX6_layerOf_39 : decode cX6_layerOf 39 = .ok (.iinc 3 (-1), 3) := by decide +kernel
theorem dX6_layerOf_42 : decode cX6_layerOf 42 = .ok (.iinc 4 (-1), 3) := by decide +kernel
theorem dX6_layerOf_45 : decode cX6_layerOf 45 = .ok (.goto (-39), 3) := by decide +kernel
theorem dX6_layerOf_48 : decode cX6_layerOf 48 = .ok (.bipush (-9), 2) := by decide +kernel
theorem dX6_layerOf_50 : decode cX6_layerOf 50 = .ok (.ireturn, 1) := by decide +kernel
theorem dX6_layers_0 : decode cX6_layers 0 = .ok (.iconst 0, 1) := by decide +kernel
theorem dX6_layers_1 : decode cX6_layers 1 = .ok (.istore_n 2, 1) := by decide +kernel
theorem dX6_layers_2 : decode cX6_layers 2 = .ok (.iconst 0, 1) := by decide +kernel
theorem dX6_layers_3 : decode cX6_layers 3 = .ok (.istore_n 3, 1) := by decide +kernel
theorem dX6_layers_4 : decode cX6_layers 4 = .ok (.iload_n 3, 1) := by decide +kernel
theorem dX6_layers_5 : decode cX6_layers 5 = .ok (.bipush 61, 2) := by decide +kernel
theorem dX6_layers_7 : decode cX6_layers 7 = .ok (.if_icmp .ge 33, 3) := by decide +kernel
theorem dX6_layers_10 : decode cX6_layers 10 = .ok (.iload_n 2, 1) := by decide +kernel
theorem dX6_layers_11 : decode cX6_layers 11 = .ok (.aload_n 0, 1) := by decide +kernel
theorem dX6_layers_12 : decode cX6_layers 12 = .ok (.getfield 32, 3) := by decide +kernel
theorem dX6_layers_15 : decode cX6_layers 15 = .ok (.bipush 61, 2) := by decide +kernel
theorem dX6_layers_17 : decode cX6_layers 17 = .ok (.iload_n 1, 1) := by decide +kernel
theorem dX6_layers_18 : decode cX6_layers 18 = .ok (.imul, 1) := by decide +kernel
theorem dX6_layers_19 : decode cX6_layers 19 = .ok (.iload_n 3, 1) := by decide +kernel
theorem dX6_layers_20 : decode cX6_layers 20 = .ok (.iadd, 1) := by decide +kernel
theorem dX6_layers_21 : decode cX6_layers 21 = .ok (.laload, 1) := by decide +kernel
theorem dX6_layers_22 : decode cX6_layers 22 = .ok (.lconst 0, 1) := by decide +kernel
theorem dX6_layers_23 : decode cX6_layers 23 = .ok (.lcmp, 1) := by decide +kernel
theorem dX6_layers_24 : decode cX6_layers 24 = .ok (.ifCond .le 7, 3) := by decide +kernel
theorem dX6_layers_27 : decode cX6_layers 27 = .ok (.iconst 1, 1) := by decide +kernel
theorem dX6_layers_28 : decode cX6_layers 28 = .ok (.goto 4, 3) := by decide +kernel
theorem dX6_layers_31 : decode cX6_layers 31 = .ok (.iconst 0, 1) := by decide +kernel
theorem dX6_layers_32 : decode cX6_layers 32 = .ok (.iadd, 1) := by decide +kernel
theorem dX6_layers_33 : decode cX6_layers 33 = .ok (.istore_n 2, 1) := by decide +kernel
theorem dX6_layers_34 : decode cX6_layers 34 = .ok (.iinc 3 1, 3) := by decide +kernel
theorem dX6_layers_37 : decode cX6_layers 37 = .ok (.goto (-33), 3) := by decide +kernel
theorem dX6_layers_40 : decode cX6_layers 40 = .ok (.iload_n 2, 1) := by decide +kernel
theorem dX6_layers_41 : decode cX6_layers 41 = .ok (.ireturn, 1) := by decide +kernel
theorem dX6_cell_0 : decode cX6_cell 0 = .ok (.aload_n 0, 1) := by decide +kernel
theorem dX6_cell_1 : decode cX6_cell 1 = .ok (.iload_n 1, 1) := by decide +kernel
theorem dX6_cell_2 : decode cX6_cell 2 = .ok (.iload_n 2, 1) := by decide +kernel
theorem dX6_cell_3 : decode cX6_cell 3 = .ok (.invokevirtual 115, 3) := by decide +kernel
theorem dX6_cell_6 : decode cX6_cell 6 = .ok (.ifCond .ne 7, 3) := by decide +kernel
